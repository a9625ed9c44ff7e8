abbrev gA (a : Nat → Int) (f : Ev) : Ev := fun m => gw m a f
abbrev gO (a : Nat → Int) (f : Ev) : Ev := fun m => go m a f
def eb (i : Nat) : Nat → Int := fun k => if k = i then 1 else 0
def E0 : Ev := fun l => if l.all (fun x => !x) then 1 else 0
theorem go_E0 : ∀ (l : List Bool) (a : Nat → Int), go l a E0 = 0 := by
  intro l
  induction l with
  | nil => intro a; rfl
  | cons b l ih =>
    intro a
    cases b with
    | false =>
      show go l (vt a) (fun m => E0 (false :: m)) + a 0 * E0 (true :: l) = 0
      have e : (fun m => E0 (false :: m)) = E0 := funext fun m => by simp [E0]
      rw [e, ih]
      simp [E0]
    | true =>
      show - go l (vt a) (fun m => E0 (true :: m)) = 0
      have e : (fun m => E0 (true :: m)) = (fun m => 0 * E0 m + 0 * E0 m) := funext fun m => by simp [E0]
      rw [e, go_lin]
      omega
theorem ip_zl (n : Nat) (w : Ev) (u : Ev) (h : ∀ m, m.length = n → u m = 0) : ip n u w = 0 := by
  rw [ip_ext n u (fun m => 0 * w m) w w (fun m hm => by rw [h m hm]; omega) (fun _ _ => rfl), ip_comm, ip_smul]
  omega
theorem ip_E0 : ∀ n : Nat, ip n E0 E0 = 1 := by
  intro n
  induction n with
  | zero => rfl
  | succ n ih =>
    show ip n (fun m => E0 (false :: m)) (fun m => E0 (false :: m)) + ip n (fun m => E0 (true :: m)) (fun m => E0 (true :: m)) = 1
    have e : (fun m => E0 (false :: m)) = E0 := funext fun m => by simp [E0]
    rw [e, ih, ip_zl n _ (fun m => E0 (true :: m)) (fun m _ => by simp [E0])]
    rfl
theorem dt_z : ∀ (n : Nat) (a b : Nat → Int), (∀ i, a i = 0) → dt n a b = 0 := by
  intro n
  induction n with
  | zero => intro a b h; rfl
  | succ n ih => intro a b h; show a 0 * b 0 + dt n (vt a) (vt b) = 0; rw [h 0, ih (vt a) _ (fun i => h (i + 1))]; omega
theorem dt_eb : ∀ (n c : Nat) (b : Nat → Int), c < n → dt n (eb c) b = b c := by
  intro n
  induction n with
  | zero => intro c b h; omega
  | succ n ih =>
    intro c b h
    show eb c 0 * b 0 + dt n (vt (eb c)) (vt b) = b c
    cases c with
    | zero =>
      rw [dt_z n _ _ (fun i => by simp [vt, eb])]
      simp [eb]
    | succ c =>
      have e : vt (eb (c + 1)) = eb c := funext fun i => by simp [vt, eb]
      rw [e, ih c (vt b) (by omega)]
      simp [eb, vt]
theorem dt_comm : ∀ (n : Nat) (a b : Nat → Int), dt n a b = dt n b a := by
  intro n
  induction n with
  | zero => intro a b; rfl
  | succ n ih => intro a b; show a 0 * b 0 + _ = b 0 * a 0 + _; rw [ih, Int.mul_comm]
theorem gw_cong : ∀ (l : List Bool) (a b : Nat → Int) (w : Ev), (∀ i, i < l.length → a i = b i) → gw l a w = gw l b w := by
  intro l
  induction l with
  | nil => intro a b w h; rfl
  | cons c l ih =>
    intro a b w h
    cases c with
    | false => exact ih _ _ _ fun i hi => h (i + 1) (by simp; omega)
    | true =>
      show a 0 * _ - _ = b 0 * _ - _
      rw [h 0 (by simp), ih (vt a) (vt b) _ fun i hi => h (i + 1) (by simp; omega)]
-- pivots and rows, the last one first
abbrev Gh : Type := List (Nat × (Nat → Int))
def gu : Gh → Ev
  | [] => E0
  | x :: r => gA (eb x.1) (gu r)
def gv : Gh → Ev
  | [] => E0
  | x :: r => gA x.2 (gv r)
def gs (r : Gh) : Int := ip 10 (gu r) (gv r)
def gr (r : Gh) (a : Nat → Int) (c : Nat) : Int := ip 10 (gA (eb c) (gu r)) (gA a (gv r))
def gok : Gh → Prop
  | [] => True
  | x :: r => gok r ∧ x.1 < 10 ∧ gr r x.2 x.1 ≠ 0 ∧ ∀ c, c < x.1 → gr r x.2 c = 0
theorem gs_cons (x : Nat × (Nat → Int)) (r : Gh) : gs (x :: r) = gr r x.2 x.1 := rfl
theorem gs_nil : gs [] = 1 := ip_E0 10
theorem gs_ne : ∀ (r : Gh), gok r → gs r ≠ 0
  | [], _ => by rw [gs_nil]; omega
  | _ :: _, h => h.2.2.1
theorem ip_adj' (n : Nat) (a : Nat → Int) (y x : Ev) : ip n y (gA a x) = ip n (gO a y) x := by
  rw [ip_comm, ip_adj, ip_comm]
theorem ip_anti (n : Nat) (y : Ev) (a b : Nat → Int) (w : Ev) : ip n y (gA a (gA b w)) = - ip n y (gA b (gA a w)) := by
  rw [ip_ext n y y (gA a (gA b w)) (fun m => - gA b (gA a w) m) (fun _ _ => rfl) (fun m _ => gw_anti m a b w), ip_neg]
/-- what has nothing at the pivots -/
theorem go_gu : ∀ (r : Gh), gok r → ∀ (b : Nat → Int), (∀ x ∈ r, b x.1 = 0) → ∀ l : List Bool, l.length = 10 → go l b (gu r) = 0
  | [], _, b, _, l, _ => go_E0 l b
  | x :: r, h, b, hb, l, hl => by
    have h1 := g_car l b (eb x.1) (gu r)
    rw [hl, dt_comm, dt_eb 10 x.1 b h.2.1, hb x List.mem_cons_self] at h1
    have h2 : gw l (eb x.1) (fun m => go m b (gu r)) = gw l (eb x.1) (fun m => 0 * E0 m + 0 * E0 m) := gw_ext _ _ _ _ fun m hm => by
      rw [go_gu r h.1 b (fun y hy => hb y (List.mem_cons_of_mem _ hy)) m (by omega)]
      omega
    rw [gw_lin] at h2
    show go l b (fun m => gw m (eb x.1) (gu r)) = 0
    omega
theorem gw_gu : ∀ (r : Gh) (x : Nat × (Nat → Int)), x ∈ r → ∀ l : List Bool, gw l (eb x.1) (gu r) = 0
  | y :: r, x, h, l => by
    rcases List.mem_cons.mp h with rfl | h
    · exact gw_twice _ _ _
    · show gw l (eb x.1) (fun m => gw m (eb y.1) (gu r)) = 0
      rw [gw_anti, gw_ext l (eb y.1) (fun m => gw m (eb x.1) (gu r)) (fun m => 0 * E0 m + 0 * E0 m) (fun m _ => by rw [gw_gu r x h m]; omega), gw_lin]
      omega
theorem gr_piv (r : Gh) (x : Nat × (Nat → Int)) (h : x ∈ r) (b : Nat → Int) : gr r b x.1 = 0 := ip_zl 10 _ _ fun m _ => gw_gu r x h m
/-- the rest of a vector stands for it -/
def gstar (r : Gh) : Prop := ∀ (y : Ev) (b : Nat → Int), ip 10 y (gA (gr r b) (gv r)) = gs r * ip 10 y (gA b (gv r))
theorem gstar_in {r : Gh} (h : gstar r) (y : Ev) (a b : Nat → Int) : ip 10 y (gA a (gA (gr r b) (gv r))) = gs r * ip 10 y (gA a (gA b (gv r))) := by
  rw [ip_adj' 10 a y (gA (gr r b) (gv r)), h, ← ip_adj']
theorem gstar_out {r : Gh} (h : gstar r) (y : Ev) (a b : Nat → Int) : ip 10 y (gA (gr r b) (gA a (gv r))) = gs r * ip 10 y (gA b (gA a (gv r))) := by
  rw [ip_anti, gstar_in h, ip_anti 10 y a b]
  grind
theorem g_syl {r : Gh} (ok : gok r) (h : gstar r) (x : Nat × (Nat → Int)) (hx : x.1 < 10) (b : Nat → Int) (c : Nat) (hc : c < 10) : gs r * gr (x :: r) b c = gr r b c * gr r x.2 x.1 - gr r b x.1 * gr r x.2 c := by
  have e0 : gr (x :: r) b c = ip 10 (gA (eb c) (gA (eb x.1) (gu r))) (gA b (gA x.2 (gv r))) := rfl
  generalize hy : gA (eb c) (gA (eb x.1) (gu r)) = y at e0
  have e1 := gstar_in h y b x.2
  have e2 : ip 10 y (gA (gr r b) (gA (gr r x.2) (gv r))) = gs r * ip 10 y (gA b (gA (gr r x.2) (gv r))) := by
    rw [ip_anti, gstar_in h, ip_anti 10 y (gr r x.2) b]
    grind
  have zb : ∀ l : List Bool, l.length = 10 → go l (gr r b) (gu r) = 0 := go_gu r ok _ fun z hz => gr_piv r z hz b
  have za : ∀ l : List Bool, l.length = 10 → go l (gr r x.2) (gu r) = 0 := go_gu r ok _ fun z hz => gr_piv r z hz x.2
  -- interior products of one letter more
  have one : ∀ (d : Nat → Int) (k : Nat), k < 10 → (∀ l : List Bool, l.length = 10 → go l d (gu r) = 0) → ∀ l : List Bool, l.length = 10 → go l d (gA (eb k) (gu r)) = d k * gu r l := by
    intro d k hk hz l hl
    have h1 := g_car l d (eb k) (gu r)
    rw [hl, dt_comm, dt_eb 10 k d hk] at h1
    have h2 : gw l (eb k) (fun m => go m d (gu r)) = gw l (eb k) (fun m => 0 * E0 m + 0 * E0 m) := gw_ext _ _ _ _ fun m hm => by
      rw [hz m (by omega)]
      omega
    rw [gw_lin] at h2
    show go l d (fun m => gw m (eb k) (gu r)) = d k * gu r l
    omega
  have f1 : ∀ l : List Bool, l.length = 10 → go l (gr r b) y = gr r b c * gA (eb x.1) (gu r) l - gr r b x.1 * gA (eb c) (gu r) l := by
    intro l hl
    rw [← hy]
    have h1 := g_car l (gr r b) (eb c) (gA (eb x.1) (gu r))
    rw [hl, dt_comm, dt_eb 10 c _ hc] at h1
    have h2 : gw l (eb c) (fun m => go m (gr r b) (gA (eb x.1) (gu r))) = gw l (eb c) (fun m => gr r b x.1 * gu r m + 0 * E0 m) := gw_ext _ _ _ _ fun m hm => by
      rw [one (gr r b) x.1 hx zb m (by omega)]
      omega
    rw [gw_lin] at h2
    show go l (gr r b) (fun m => gw m (eb c) (gA (eb x.1) (gu r))) = _ - gr r b x.1 * gw l (eb c) (gu r)
    omega
  have f2 : ip 10 y (gA (gr r b) (gA (gr r x.2) (gv r))) = (gr r b c * gr r x.2 x.1 - gr r b x.1 * gr r x.2 c) * gs r := by
    rw [ip_adj', ip_adj', ip_ext 10 (gO (gr r x.2) (gO (gr r b) y)) (fun m => (gr r b c * gr r x.2 x.1 - gr r b x.1 * gr r x.2 c) * gu r m) (gv r) (gv r) (fun m hm => ?_) (fun _ _ => rfl), ip_comm, ip_smul, ip_comm]
    · rfl
    · show go m (gr r x.2) (fun l => go l (gr r b) y) = _
      rw [go_ext m (gr r x.2) (fun l => go l (gr r b) y) (fun l => gr r b c * gA (eb x.1) (gu r) l + (- gr r b x.1) * gA (eb c) (gu r) l) (fun l hl => by rw [f1 l (by omega)]; grind), go_lin, one (gr r x.2) x.1 hx za m hm, one (gr r x.2) c hc za m hm]
      grind
  have hs := gs_ne r ok
  have h3 : gs r * (gs r * gr (x :: r) b c) = gs r * (gr r b c * gr r x.2 x.1 - gr r b x.1 * gr r x.2 c) := by
    rw [e0]
    grind
  exact Int.eq_of_mul_eq_mul_left hs h3
theorem gstar_all : ∀ (r : Gh), gok r → gstar r
  | [], _ => by
    intro y b
    rw [gs_nil]
    have e : ∀ c, c < 10 → gr [] b c = b c := by
      intro c hc
      show ip 10 (gA (eb c) E0) (gA b E0) = b c
      rw [ip_adj, ip_ext 10 E0 E0 (fun m => go m (eb c) (gA b E0)) (fun m => b c * E0 m) (fun _ _ => rfl) (fun m hm => ?_), ip_smul, ip_E0]
      · omega
      · have h1 := g_car m (eb c) b E0
        rw [hm, dt_eb 10 c b hc] at h1
        have h2 : gw m b (fun m => go m (eb c) E0) = gw m b (fun m => 0 * E0 m + 0 * E0 m) := gw_ext _ _ _ _ fun m hm => by
          rw [go_E0]
          omega
        rw [gw_lin] at h2
        show go m (eb c) (fun q => gw q b E0) = _
        omega
    rw [ip_ext 10 y y (gA (gr [] b) (gv [])) (gA b (gv [])) (fun _ _ => rfl) (fun m hm => gw_cong m _ _ _ fun i hi => e i (by omega))]
    omega
  | x :: r, ok => by
    have h := gstar_all r ok.1
    have hs := gs_ne r ok.1
    intro y b
    have p : ∀ m : List Bool, m.length = 10 → gs r * gw m (gr (x :: r) b) (gv (x :: r)) = gr r x.2 x.1 * gw m (gr r b) (gv (x :: r)) + (- gr r b x.1) * gw m (gr r x.2) (gv (x :: r)) := by
      intro m hm
      rw [← gw_vec]
      have q := gw_vec m (gr (x :: r) b) (gr (x :: r) b) (gv (x :: r)) (gs r) 0
      rw [gw_cong m (fun i => gs r * gr (x :: r) b i + 0 * gr (x :: r) b i) (fun i => gr r x.2 x.1 * gr r b i + (- gr r b x.1) * gr r x.2 i) (gv (x :: r)) (fun i hi => by have := g_syl ok.1 h x ok.2.1 b i (by omega); grind)] at q
      omega
    have e1 : gs r * ip 10 y (gA (gr (x :: r) b) (gv (x :: r))) = gr r x.2 x.1 * ip 10 y (gA (gr r b) (gv (x :: r))) + (- gr r b x.1) * ip 10 y (gA (gr r x.2) (gv (x :: r))) := by
      rw [← ip_lin, ← ip_smul]
      exact ip_ext 10 y y _ _ (fun _ _ => rfl) p
    have e2 : ip 10 y (gA (gr r b) (gv (x :: r))) = gs r * ip 10 y (gA b (gv (x :: r))) := gstar_out h y x.2 b
    have e3 : ip 10 y (gA (gr r x.2) (gv (x :: r))) = gs r * ip 10 y (gA x.2 (gv (x :: r))) := gstar_out h y x.2 x.2
    have e4 : ip 10 y (gA x.2 (gv (x :: r))) = - ip 10 y (gA x.2 (gv (x :: r))) := ip_anti 10 y x.2 x.2 (gv r)
    have e5 : ip 10 y (gA x.2 (gv (x :: r))) = 0 := by omega
    rw [e5] at e3
    refine Int.eq_of_mul_eq_mul_left hs ?_
    rw [e1, e2, e3, gs_cons]
    grind
/-- joining a row: what the division gives -/
theorem g_join {r : Gh} (ok : gok r) (x : Nat × (Nat → Int)) (hx : x.1 < 10) (b : Nat → Int) (c : Nat) (hc : c < 10) : gs r * gr (x :: r) b c = gr r b c * gr r x.2 x.1 - gr r b x.1 * gr r x.2 c := g_syl ok (gstar_all r ok) x hx b c hc
-- a sum over ten
def sm : Nat → (Nat → Int) → Int
  | 0, _ => 0
  | n + 1, f => sm n f + f n
theorem gr_cong (r : Gh) (a b : Nat → Int) (c : Nat) (h : ∀ i, i < 10 → a i = b i) : gr r a c = gr r b c := ip_ext 10 _ _ _ _ (fun _ _ => rfl) (fun m hm => gw_cong m a b _ fun i hi => h i (by omega))
theorem gr_vec (r : Gh) (a b : Nat → Int) (k j : Int) (c : Nat) : gr r (fun i => k * a i + j * b i) c = k * gr r a c + j * gr r b c := by
  show ip 10 _ (fun m => gw m (fun i => k * a i + j * b i) (gv r)) = k * ip 10 _ _ + j * ip 10 _ _
  rw [← ip_lin]
  exact ip_ext 10 _ _ _ _ (fun _ _ => rfl) (fun m _ => gw_vec m a b (gv r) k j)
theorem gr_sum (r : Gh) (a : Nat → Int) (c : Nat) : gr r a c = sm 10 (fun v => a v * gr r (eb v) c) := by
  have h : ∀ n, n ≤ 10 → gr r (fun i => if i < n then a i else 0) c = sm n (fun v => a v * gr r (eb v) c) := by
    intro n
    induction n with
    | zero =>
      intro _
      show _ = (0 : Int)
      rw [gr_cong r _ (fun i => 0 * a i + 0 * a i) c (fun i _ => by simp), gr_vec]
      omega
    | succ n ih =>
      intro hn
      show _ = sm n _ + a n * gr r (eb n) c
      rw [← ih (by omega), gr_cong r _ (fun i => 1 * (if i < n then a i else 0) + a n * eb n i) c (fun i _ => ?_), gr_vec]
      · omega
      · by_cases h1 : i < n
        · rw [if_pos h1, if_pos (by omega)]
          simp [eb, show ¬ i = n by omega]
        · by_cases h2 : i = n
          · subst h2
            simp [eb]
          · rw [if_neg h1, if_neg (by omega)]
            simp [eb, h2]
  rw [← h 10 (Nat.le_refl _)]
  exact gr_cong r _ _ c fun i hi => by rw [if_pos hi]
-- how great it can be
def gsm : Gh → Prop
  | [] => True
  | x :: r => gsm r ∧ dt 10 x.2 x.2 ≤ 72
theorem dt_nn : ∀ (n : Nat) (a : Nat → Int), 0 ≤ dt n a a := by
  intro n
  induction n with
  | zero => intro a; exact Int.le_refl _
  | succ n ih => intro a; exact Int.add_nonneg (sq_nn _) (ih _)
theorem gu_le : ∀ (r : Gh), gok r → ip 10 (gu r) (gu r) ≤ 1
  | [], _ => by rw [show gu [] = E0 from rfl, ip_E0]; omega
  | x :: r, h => by
    have h1 := ip_had 10 (eb x.1) (gu r)
    rw [dt_eb 10 x.1 _ h.2.1] at h1
    have h2 := gu_le r h.1
    have e : eb x.1 x.1 = 1 := if_pos rfl
    rw [e] at h1
    have : ip 10 (gu (x :: r)) (gu (x :: r)) = ip 10 (fun m => gw m (eb x.1) (gu r)) (fun m => gw m (eb x.1) (gu r)) := rfl
    omega
theorem gv_le : ∀ (r : Gh), gsm r → ip 10 (gv r) (gv r) ≤ 72 ^ r.length
  | [], _ => by rw [show gv [] = E0 from rfl, ip_E0]; decide
  | x :: r, h => by
    have h1 : ip 10 (gv (x :: r)) (gv (x :: r)) ≤ dt 10 x.2 x.2 * ip 10 (gv r) (gv r) := ip_had 10 x.2 (gv r)
    have h2 := gv_le r h.1
    have h3 := Int.mul_le_mul h.2 h2 (ip_nn 10 (gv r)) (by decide)
    rw [List.length_cons, Int.pow_succ, Int.mul_comm]
    exact Int.le_trans h1 h3
theorem gs_le (r : Gh) (ok : gok r) (h : gsm r) : gs r * gs r ≤ 72 ^ r.length := Int.le_trans (ip_cs 10 (gu r) (gv r) (gu_le r ok)) (gv_le r h)
theorem gr_le (r : Gh) (ok : gok r) (h : gsm r) (a : Nat → Int) (B : Int) (hB : dt 10 a a ≤ B) (c : Nat) (hc : c < 10) : gr r a c * gr r a c ≤ B * 72 ^ r.length := by
  have h1 : ip 10 (gA (eb c) (gu r)) (gA (eb c) (gu r)) ≤ dt 10 (eb c) (eb c) * ip 10 (gu r) (gu r) := ip_had 10 (eb c) (gu r)
  rw [dt_eb 10 c _ hc, show eb c c = 1 from if_pos rfl] at h1
  have h2 := gu_le r ok
  have h3 := ip_cs 10 (gA (eb c) (gu r)) (gA a (gv r)) (by omega)
  have h4 : ip 10 (gA a (gv r)) (gA a (gv r)) ≤ dt 10 a a * ip 10 (gv r) (gv r) := ip_had 10 a (gv r)
  have h5 := Int.mul_le_mul hB (gv_le r h) (ip_nn 10 (gv r)) (Int.le_trans (dt_nn 10 a) hB)
  exact Int.le_trans h3 (Int.le_trans h4 h5)
theorem gl_le (r : Gh) (ok : gok r) (h : gsm r) (v c : Nat) (hv : v < 10) (hc : c < 10) : gr r (eb v) c * gr r (eb v) c ≤ 72 ^ r.length := by
  have := gr_le r ok h (eb v) 1 (by rw [dt_eb 10 v _ hv]; simp [eb]) c hc
  omega
