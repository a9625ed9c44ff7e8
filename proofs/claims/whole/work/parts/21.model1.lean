/-! the reference's rows: whole numbers without a common factor -/
/-- what is held by the pivots alone -/
theorem gr_free {g : Gh} (h : gok g) {b : Nat → Int} (hb : ∀ x ∈ g, b x.1 = 0) {k : Nat} (hk : k < 10) : gr g b k = b k * gs g := by
  show ip 10 (gA (eb k) (gu g)) (gA b (gv g)) = _
  rw [ip_adj', ip_ext 10 (gO b (gA (eb k) (gu g))) (fun m => b k * gu g m) (gv g) (gv g) (fun m hm => ?_) (fun _ _ => rfl), ip_comm, ip_smul, ip_comm]
  · rfl
  · have h1 := g_car m b (eb k) (gu g)
    rw [hm, dt_comm, dt_eb 10 k b hk] at h1
    have h2 : gw m (eb k) (fun m => go m b (gu g)) = gw m (eb k) (fun m => 0 * E0 m + 0 * E0 m) := gw_ext _ _ _ _ fun l hl => by
      rw [go_gu g h b hb l (by omega)]
      omega
    rw [gw_lin] at h2
    show go m b (fun q => gw q (eb k) (gu g)) = _
    omega
def gpv : Gh → Nat → Nat
  | [], _ => 0
  | x :: r, i => if i = r.length then x.1 else gpv r i
theorem gpv_old {x : Nat × (Nat → Int)} {g : Gh} {i : Nat} (h : i < g.length) : gpv (x :: g) i = gpv g i := if_neg (by omega)
theorem gpv_new {x : Nat × (Nat → Int)} {g : Gh} : gpv (x :: g) g.length = x.1 := if_pos rfl
theorem gpv_mem : ∀ (g : Gh) (i : Nat), i < g.length → ∃ x ∈ g, gpv g i = x.1
  | [], i, h => absurd h (Nat.not_lt_zero i)
  | x :: r, i, h => by
    by_cases e : i = r.length
    · subst e
      exact ⟨x, List.mem_cons_self, gpv_new⟩
    · obtain ⟨y, hy, e2⟩ := gpv_mem r i (by have : i < r.length + 1 := h; omega)
      exact ⟨y, List.mem_cons_of_mem _ hy, by rw [gpv_old (by have : i < r.length + 1 := h; omega), e2]⟩
theorem mem_gpv : ∀ (g : Gh) (x : Nat × (Nat → Int)), x ∈ g → ∃ i, i < g.length ∧ gpv g i = x.1
  | y :: r, x, h => by
    rcases List.mem_cons.mp h with rfl | h
    · exact ⟨r.length, Nat.lt_succ_self _, gpv_new⟩
    · obtain ⟨i, hi, e⟩ := mem_gpv r x h
      exact ⟨i, Nat.lt_succ_of_lt hi, by rw [gpv_old hi, e]⟩
theorem gpv_lt {g : Gh} (h : gok g) {i : Nat} (hi : i < g.length) : gpv g i < 10 := by
  obtain ⟨x, hx, e⟩ := gpv_mem g i hi
  rw [e]
  exact gok_lt g h x hx
theorem gpv_inj : ∀ (g : Gh), gok g → ∀ i j, i < g.length → j < g.length → gpv g i = gpv g j → i = j
  | [], _, i, _, h, _, _ => absurd h (Nat.not_lt_zero i)
  | x :: r, h, i, j, hi, hj, e => by
    have hi' : i < r.length + 1 := hi
    have hj' : j < r.length + 1 := hj
    have notin : ∀ k, k < r.length → gpv r k ≠ x.1 := fun k hk e => by
      obtain ⟨y, hy, e2⟩ := gpv_mem r k hk
      have h1 := gr_piv r y hy x.2
      rw [← e2, e] at h1
      exact h.2.2.1 h1
    by_cases e1 : i = r.length <;> by_cases e2 : j = r.length
    · omega
    · subst e1
      rw [gpv_new, gpv_old (by omega)] at e
      exact absurd e.symm (notin j (by omega))
    · subst e2
      rw [gpv_new, gpv_old (by omega)] at e
      exact absurd e (notin i (by omega))
    · rw [gpv_old (by omega), gpv_old (by omega)] at e
      exact gpv_inj r h.1 i j (by omega) (by omega) e
theorem gr_gpv {g : Gh} {i : Nat} (hi : i < g.length) (b : Nat → Int) : gr g b (gpv g i) = 0 := by
  obtain ⟨x, hx, e⟩ := gpv_mem g i hi
  rw [e]
  exact gr_piv g x hx b
theorem tt_own {g : Gh} {i : Nat} (hi : i < g.length) : tt g (gpv g i) (gpv g i) = gs g := by
  unfold tt
  rw [if_pos rfl, gr_gpv hi]
  omega
theorem tt_other {g : Gh} (h : gok g) {i j : Nat} (hi : i < g.length) (hj : j < g.length) (hij : i ≠ j) : tt g (gpv g i) (gpv g j) = 0 := by
  unfold tt
  rw [if_neg (fun e => hij (gpv_inj g h i j hi hj e.symm)), gr_gpv hj]
  rfl
theorem tt_bdd {g : Gh} (h : gsmall g 9) {i : Nat} (hi : i < g.length) : bdd (tt g (gpv g i)) 228100000 := fun c hc => by
  by_cases e : c = gpv g i
  · rw [e, tt_own hi]; exact gs_bd h
  · unfold tt
    rw [if_neg e]
    have := gl_bd h (gpv_lt h.1 hi) c hc
    omega
/-- a row less what the pivots hold of it, up to the n-th -/
def yi (g : Gh) (a : Nat → Int) (n : Nat) (k : Nat) : Int := gs g * a k - sm n (fun j => a (gpv g j) * tt g (gpv g j) k)
theorem yi_end {g : Gh} (h : gok g) (a : Nat → Int) {k : Nat} (hk : k < 10) : yi g a g.length k = gr g a k := by
  -- what is left of a when its parts at the first n pivots are taken away
  have sub : ∀ n, n ≤ g.length → ∀ k, k < 10 → gr g (fun v => a v - sm n (fun j => a (gpv g j) * eb (gpv g j) v)) k = gr g a k - sm n (fun j => a (gpv g j) * gr g (eb (gpv g j)) k) := by
    intro n
    induction n with
    | zero =>
      intro _ k hk
      show gr g (fun v => a v - 0) k = gr g a k - 0
      rw [gr_cong g (fun v => a v - 0) a k (fun i _ => by omega)]
      omega
    | succ n ih =>
      intro hn k hk
      show gr g (fun v => a v - (sm n (fun j => a (gpv g j) * eb (gpv g j) v) + a (gpv g n) * eb (gpv g n) v)) k = gr g a k - (sm n (fun j => a (gpv g j) * gr g (eb (gpv g j)) k) + a (gpv g n) * gr g (eb (gpv g n)) k)
      rw [gr_cong g _ (fun v => 1 * (a v - sm n (fun j => a (gpv g j) * eb (gpv g j) v)) + (- a (gpv g n)) * eb (gpv g n) v) k (fun i _ => by grind), gr_vec, ih (by omega) k hk]
      grind
  have eat : ∀ n, n ≤ g.length → ∀ i, i < g.length → sm n (fun j => a (gpv g j) * eb (gpv g j) (gpv g i)) = if i < n then a (gpv g i) else 0 := by
    intro n
    induction n with
    | zero => intro _ i _; rfl
    | succ n ih =>
      intro hn i hi
      show sm n _ + a (gpv g n) * eb (gpv g n) (gpv g i) = _
      rw [ih (by omega) i hi]
      by_cases e : i = n
      · subst e
        rw [if_neg (by omega), if_pos (by omega), show eb (gpv g i) (gpv g i) = 1 from if_pos rfl]
        omega
      · have e2 : eb (gpv g n) (gpv g i) = 0 := if_neg fun q => e (gpv_inj g h i n hi (by omega) q)
        rw [e2]
        by_cases e3 : i < n
        · rw [if_pos e3, if_pos (by omega)]; omega
        · rw [if_neg e3, if_neg (by omega)]; omega
  have h1 := sub g.length (Nat.le_refl _) k hk
  rw [gr_free h (fun x hx => by
    obtain ⟨i, hi, e⟩ := mem_gpv g x hx
    show a x.1 - sm g.length (fun j => a (gpv g j) * eb (gpv g j) x.1) = 0
    rw [← e, eat g.length (Nat.le_refl _) i hi, if_pos hi]
    omega) hk] at h1
  have h2 : ∀ n, sm n (fun j => a (gpv g j) * tt g (gpv g j) k) = gs g * sm n (fun j => a (gpv g j) * eb (gpv g j) k) - sm n (fun j => a (gpv g j) * gr g (eb (gpv g j)) k) := by
    intro n
    induction n with
    | zero => show (0 : Int) = gs g * 0 - 0; omega
    | succ n ih =>
      show sm n _ + a (gpv g n) * tt g (gpv g n) k = gs g * (sm n _ + a (gpv g n) * eb (gpv g n) k) - (sm n _ + a (gpv g n) * gr g (eb (gpv g n)) k)
      rw [ih]
      unfold tt
      by_cases e : k = gpv g n
      · rw [if_pos e, show eb (gpv g n) k = 1 from if_pos e]; grind
      · rw [if_neg e, show eb (gpv g n) k = 0 from if_neg e]; grind
  unfold yi
  rw [h2]
  grind
/-- its value at a pivot that is still to come -/
theorem yi_at {g : Gh} (h : gok g) (a : Nat → Int) {n : Nat} (hn : n < g.length) : yi g a n (gpv g n) = gs g * a (gpv g n) := by
  have : ∀ m, m ≤ n → sm m (fun j => a (gpv g j) * tt g (gpv g j) (gpv g n)) = 0 := by
    intro m
    induction m with
    | zero => intro _; rfl
    | succ m ih =>
      intro hm
      show sm m _ + a (gpv g m) * tt g (gpv g m) (gpv g n) = 0
      rw [ih (by omega), tt_other h (by omega) hn (by omega)]
      omega
  unfold yi
  rw [this n (Nat.le_refl _)]
  omega
theorem yi_bdd {g : Gh} (h : gsmall g 9) {a : Nat → Int} (ha : bdd a 3) {n : Nat} (hn : n ≤ g.length) : bdd (yi g a n) 6843000000 := fun k hk => by
  have h1 := gs_bd h
  have h2 : ∀ m, m ≤ n → -(684300000 * (m : Int)) ≤ sm m (fun j => a (gpv g j) * tt g (gpv g j) k) ∧ sm m (fun j => a (gpv g j) * tt g (gpv g j) k) ≤ 684300000 * (m : Int) := by
    intro m
    induction m with
    | zero => intro _; exact ⟨by show -(684300000 * (0 : Int)) ≤ 0; omega, by show (0 : Int) ≤ 684300000 * (0 : Int); omega⟩
    | succ m ih =>
      intro hm
      have q1 := ih (by omega)
      have q2 := mulb (ha (gpv g m) (gpv_lt h.1 (by omega))) (tt_bdd h (i := m) (by omega) k hk)
      show -(684300000 * ((m + 1 : Nat) : Int)) ≤ sm m _ + a (gpv g m) * tt g (gpv g m) k ∧ sm m _ + a (gpv g m) * tt g (gpv g m) k ≤ 684300000 * ((m + 1 : Nat) : Int)
      omega
  have h3 := h2 n (Nat.le_refl _)
  have h4 := mulb h1 (ha k hk)
  have h5 := h.2.2
  unfold yi
  omega
-- the greatest common factor of a row
def gz (z : Nat → Int) : Nat → Nat
  | 0 => 0
  | n + 1 => Int.gcd (gz z n) (z n)
theorem gz_dvd (z : Nat → Int) : ∀ n k, k < n → ((gz z n : Nat) : Int) ∣ z k := by
  intro n
  induction n with
  | zero => intro k h; omega
  | succ n ih =>
    intro k h
    show ((Int.gcd (gz z n) (z n) : Nat) : Int) ∣ z k
    by_cases e : k = n
    · rw [e]; exact Int.gcd_dvd_right _ _
    · exact Int.dvd_trans (Int.gcd_dvd_left _ _) (ih k (by omega))
theorem gz_mul {z : Nat → Int} {d a : Int} : ∀ n, (∀ k, k < n → d ∣ a * z k) → d ∣ a * ((gz z n : Nat) : Int) := by
  intro n
  induction n with
  | zero => intro _; show d ∣ a * ((0 : Nat) : Int); exact ⟨0, by simp⟩
  | succ n ih =>
    intro h
    have h1 := ih fun k hk => h k (by omega)
    have h2 := h n (by omega)
    have h3 : d ∣ ((Int.gcd (a * ((gz z n : Nat) : Int)) (a * z n) : Nat) : Int) := Int.dvd_coe_gcd h1 h2
    rw [Int.gcd_mul_left] at h3
    show d ∣ a * ((Int.gcd ((gz z n : Nat) : Int) (z n) : Nat) : Int)
    rcases Int.natAbs_eq a with e | e
    · rw [e]
      have : ((a.natAbs * Int.gcd ((gz z n : Nat) : Int) (z n) : Nat) : Int) = (a.natAbs : Int) * ((Int.gcd ((gz z n : Nat) : Int) (z n) : Nat) : Int) := by omega
      rw [← this]
      exact h3
    · rw [e]
      have : ((a.natAbs * Int.gcd ((gz z n : Nat) : Int) (z n) : Nat) : Int) = (a.natAbs : Int) * ((Int.gcd ((gz z n : Nat) : Int) (z n) : Nat) : Int) := by omega
      rw [Int.neg_mul, ← this]
      exact Int.dvd_neg.mpr h3
theorem gz_z {z : Nat → Int} (h : gz z 10 = 0) : ∀ k, k < 10 → z k = 0 := fun k hk => by
  have := gz_dvd z 10 k hk
  rw [h] at this
  exact Int.zero_dvd.mp this
/-- a row over its greatest common factor -/
def lst (y : Nat → Int) (k : Nat) : Int := (y k).tdiv ((gz y 10 : Nat) : Int)
theorem lst_mul {y : Nat → Int} {k : Nat} (hk : k < 10) : ((gz y 10 : Nat) : Int) * lst y k = y k := by
  unfold lst
  exact Int.mul_tdiv_cancel' (gz_dvd y 10 k hk)
theorem lst_prim {y : Nat → Int} (h : gz y 10 ≠ 0) : gz (lst y) 10 = 1 := by
  have h1 : ((gz y 10 : Nat) : Int) * ((gz (lst y) 10 : Nat) : Int) ∣ ((1 : Int)) * ((gz y 10 : Nat) : Int) := by
    refine gz_mul (z := y) (a := 1) 10 fun k hk => ?_
    have e := lst_mul (y := y) hk
    rw [Int.one_mul, ← e]
    exact Int.mul_dvd_mul_left _ (gz_dvd (lst y) 10 k hk)
  rw [Int.one_mul] at h1
  have h2 : gz y 10 * gz (lst y) 10 ∣ gz y 10 := by
    have := Int.natAbs_dvd_natAbs.mpr h1
    rw [Int.natAbs_mul] at this
    exact this
  have h3 : gz (lst y) 10 ∣ 1 := by
    refine Nat.dvd_of_mul_dvd_mul_left (k := gz y 10) (by omega) ?_
    rw [Nat.mul_one]
    exact h2
  exact Nat.dvd_one.mp h3
/-- a row without a common factor, in proportion to another: that is a multiple -/
theorem prim_mul {x y : Nat → Int} {A B : Int} (hp : gz x 10 = 1) (hB : B ≠ 0) (h : ∀ k, k < 10 → A * x k = B * y k) : ∃ m, ∀ k, k < 10 → m * x k = y k := by
  have h1 : B ∣ A * ((gz x 10 : Nat) : Int) := gz_mul 10 fun k hk => ⟨y k, h k hk⟩
  rw [hp] at h1
  obtain ⟨m, hm⟩ := h1
  have hA : A = B * m := by
    rw [← hm]
    show A = A * 1
    omega
  refine ⟨m, fun k hk => ?_⟩
  have h2 := h k hk
  rw [hA] at h2
  refine Int.eq_of_mul_eq_mul_left hB ?_
  rw [← h2]
  grind
theorem mul_le {m x y B : Int} (h : m * x = y) (hm : m ≠ 0) (hy : -B ≤ y ∧ y ≤ B) : -B ≤ x ∧ x ≤ B := by
  have h1 : x.natAbs ≤ y.natAbs := by
    rw [← h, Int.natAbs_mul]
    have : 1 ≤ m.natAbs := by omega
    exact Nat.le_mul_of_pos_left _ this
  omega
/-- rows in proportion -/
def PP (x y : Nat → Int) : Prop := ∃ A B : Int, A ≠ 0 ∧ B ≠ 0 ∧ ∀ k, k < 10 → A * x k = B * y k
theorem PP.z {x y : Nat → Int} (h : PP x y) {k : Nat} (hk : k < 10) : x k = 0 ↔ y k = 0 := by
  obtain ⟨A, B, hA, hB, h⟩ := h
  have e := h k hk
  constructor
  · intro q
    rw [q, Int.mul_zero] at e
    rcases Int.mul_eq_zero.mp e.symm with h | h
    · exact absurd h hB
    · exact h
  · intro q
    rw [q, Int.mul_zero] at e
    rcases Int.mul_eq_zero.mp e with h | h
    · exact absurd h hA
    · exact h
theorem PP.cross {x y : Nat → Int} (h : PP x y) {p k : Nat} (hp : p < 10) (hk : k < 10) : y p * x k = x p * y k := by
  obtain ⟨A, B, hA, hB, h⟩ := h
  have e1 := h p hp
  have e2 := h k hk
  refine Int.eq_of_mul_eq_mul_left (Int.mul_ne_zero hA hB) ?_
  have : A * B * (y p * x k) = (B * y p) * (A * x k) := by grind
  rw [this, ← e1, e2]
  grind
theorem PP.mono {x y y' : Nat → Int} (h : PP x y) (e : ∀ k, k < 10 → y k = y' k) : PP x y' := by
  obtain ⟨A, B, hA, hB, h⟩ := h
  exact ⟨A, B, hA, hB, fun k hk => by rw [h k hk, e k hk]⟩
/-- how great a row in proportion can be -/
theorem PP.bdd {x y : Nat → Int} (h : PP x y) {B : Int} (hB : 3 ≤ B) (hx : bdd x 3 ∨ gz x 10 = 1) (hy : bdd y B) : bdd x B := by
  rcases hx with hx | hx
  · exact bdd_mono hx hB
  · obtain ⟨A, C, hA, hC, h⟩ := h
    obtain ⟨m, hm⟩ := prim_mul hx hC h
    intro k hk
    by_cases e : m = 0
    · -- then y is 0, and so x
      have h1 := hm k hk
      rw [e, Int.zero_mul] at h1
      have h2 := h k hk
      rw [← h1, Int.mul_zero] at h2
      rcases Int.mul_eq_zero.mp h2 with q | q
      · exact absurd q hA
      · rw [q]; omega
    · exact mul_le (hm k hk) e (hy k hk)
/-- a reduced row, as the reference holds it -/
def RowOK (g : Gh) (p : Nat) (z : Nat → Int) : Prop := 0 < z p ∧ gz z 10 = 1 ∧ ∀ k, k < 10 → gs g * z k = z p * tt g p k
theorem RowOK.bdd {g : Gh} (h : gsmall g 9) {i : Nat} (hi : i < g.length) {z : Nat → Int} (hz : RowOK g (gpv g i) z) : bdd z 228100000 := by
  have hp : PP z (tt g (gpv g i)) := ⟨gs g, z (gpv g i), gs_ne g h.1, by have := hz.1; omega, hz.2.2⟩
  exact hp.bdd (by decide) (Or.inr hz.2.1) (tt_bdd h hi)
