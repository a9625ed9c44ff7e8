/-! what a world is -/
theorem isW10 {q : Nat} (h : q < 10) : f_X6_isWithin (nI q) (10 : Int32) = 1 := isW_lit (n := 10) h (by decide)
theorem isW8 {q : Nat} (h : q < 8) : f_X6_isWithin (nI q) (8 : Int32) = 1 := isW_lit (n := 8) h (by decide)
theorem lt8 {k : Nat} (h : k < 8) : nI k < (8 : Int32) := nI_lt (b := 8) h (by decide)
theorem nlt8 {k : Nat} (h : 8 ≤ k) (hk : k < 2 ^ 31) : ¬ nI k < (8 : Int32) := nI_nlt (b := 8) h hk
/-- the i-th row that joined -/
def gro : Gh → Nat → Nat → Int
  | [], _, _ => 0
  | x :: r, i, v => if i = r.length then x.2 v else gro r i v
-- whose letter, values and bounds and answers, how many letters, the rule, the limit; pivots and rows
abbrev Wd : Type := (Nat → Nat) × (Nat → Nat → Int) × (Nat → Nat) × Gh
abbrev own (w : Wd) : Nat → Nat := w.1
abbrev dat (w : Wd) : Nat → Nat → Int := w.2.1
abbrev num (w : Wd) : Nat → Nat := w.2.2.1
abbrev gh (w : Wd) : Gh := w.2.2.2
def wok (w : Wd) : Prop := (∀ k, k < 8 → own w k < num w 0) ∧ (∀ j k, j < 8 → k < 8 → own w j = own w k → j = k) ∧ (8 ≤ num w 0 ∧ num w 0 ≤ 10) ∧ num w 1 < 4 ∧ num w 2 ≤ 10 ∧
  (∀ k, k < 10 → 0 ≤ dat w 1 k ∧ dat w 1 k ≤ dat w 0 k ∧ dat w 0 k ≤ dat w 2 k ∧ dat w 2 k ≤ 99) ∧
  gok (gh w) ∧ gsm (gh w) ∧ ∀ i, i < (gh w).length → bdd (gro (gh w) i) 3 ∧ (∀ v, num w 0 ≤ v → v < 10 → gro (gh w) i v = 0) ∧ -2400 ≤ dat w 3 i ∧ dat w 3 i ≤ 2400
def nofix (g : Gh) : Prop := ∀ v, v < 10 → ¬ ∀ c, c < 10 → gr g (eb v) c = 0
/-- the class's World at o -/
def CW (o : Nat) (S : Sg) (w : Wd) : Prop := (∀ k, k < 8 → S.1 (o + 1) k = nI (own w k)) ∧ (∀ k, k < 10 → S.1 (o + 2) k = I (dat w 0 k) ∧ S.1 (o + 3) k = I (dat w 1 k) ∧ S.1 (o + 4) k = I (dat w 2 k)) ∧
  (S.1 o 4 = nI (num w 0) ∧ S.1 o 5 = nI (num w 1) ∧ S.1 o 6 = nI (num w 2) ∧ S.1 o 9 = nI (gh w).length) ∧
  (∀ i, i < (gh w).length → S.1 (o + 16) i = I (dat w 3 i) ∧ ∀ v, v < 10 → S.1 (o + 6 + i) v = I (gro (gh w) i v)) ∧ SP (o + 17) S (gh w)
theorem nodup_le : ∀ (n : Nat) (l : List Nat), l.Nodup → (∀ x ∈ l, x < n) → l.length ≤ n := by
  intro n
  induction n with
  | zero =>
    intro l _ h
    cases l with
    | nil => exact Nat.le_refl _
    | cons x l => exact absurd (h x List.mem_cons_self) (by omega)
  | succ n ih =>
    intro l hn h
    have h1 := ih (l.erase n) (hn.erase n) (fun x hx => by
      have h2 := h x (List.mem_of_mem_erase hx)
      have h3 : x ≠ n := fun e => by
        rw [e] at hx
        exact List.Nodup.not_mem_erase hn hx
      omega)
    by_cases hm : n ∈ l
    · rw [List.length_erase_of_mem hm] at h1
      omega
    · rw [List.erase_of_not_mem hm] at h1
      omega
theorem gok_lt : ∀ (g : Gh), gok g → ∀ x ∈ g, x.1 < 10
  | [], _, x, hx => by cases hx
  | y :: r, h, x, hx => by
    rcases List.mem_cons.mp hx with rfl | hx
    · exact h.2.1
    · exact gok_lt r h.1 x hx
theorem gok_nodup : ∀ (g : Gh), gok g → (g.map (fun x => x.1)).Nodup
  | [], _ => List.Pairwise.nil
  | y :: r, h => by
    rw [List.map_cons, List.nodup_cons]
    refine ⟨fun hm => ?_, gok_nodup r h.1⟩
    obtain ⟨x, hx, e⟩ := List.mem_map.mp hm
    have h1 := gr_piv r x hx y.2
    rw [e] at h1
    exact h.2.2.1 h1
theorem gok_len {g : Gh} (h : gok g) : g.length ≤ 10 := by
  have := nodup_le 10 (g.map (fun x => x.1)) (gok_nodup g h) (fun x hx => by
    obtain ⟨y, hy, e⟩ := List.mem_map.mp hx
    rw [← e]
    exact gok_lt g h y hy)
  rwa [List.length_map] at this
/-- as long as nothing is fixed there are fewer rows than letters -/
theorem len9 {g : Gh} (h : gok g) (hf : nofix g) : g.length ≤ 9 := by
  by_cases ha : ∀ c, c < 10 → ∃ x ∈ g, c = x.1
  · exact absurd (fun c hc => by
      obtain ⟨x, hx, e⟩ := ha c hc
      rw [e]
      exact gr_piv g x hx _) (hf 0 (by omega))
  · have ⟨c, hc⟩ : ∃ c, ¬ (c < 10 → ∃ x ∈ g, c = x.1) := Classical.not_forall.mp ha
    have hc10 : c < 10 := Classical.byContradiction fun q => hc fun h => absurd h q
    have hcn : ¬ ∃ x ∈ g, c = x.1 := fun q => hc fun _ => q
    have := nodup_le 10 (c :: g.map (fun x => x.1)) (by
      rw [List.nodup_cons]
      exact ⟨fun hm => by
        obtain ⟨x, hx, e⟩ := List.mem_map.mp hm
        exact hcn ⟨x, hx, e.symm⟩, gok_nodup g h⟩) (fun x hx => by
      rcases List.mem_cons.mp hx with rfl | hx
      · exact hc10
      · obtain ⟨y, hy, e⟩ := List.mem_map.mp hx
        rw [← e]
        exact gok_lt g h y hy)
    rw [List.length_cons, List.length_map] at this
    omega
theorem nofix_nil : nofix [] := fun v hv h => by
  have h1 := h v hv
  have h2 := gstar_all [] trivial E0 (eb v)
  -- gr [] b c = b c
  have h3 : gr [] (eb v) v = 1 := by
    show ip 10 (gA (eb v) E0) (gA (eb v) E0) = 1
    rw [ip_adj, ip_ext 10 E0 E0 (fun m => go m (eb v) (gA (eb v) E0)) (fun m => 1 * E0 m) (fun _ _ => rfl) (fun m hm => ?_), ip_smul, ip_E0]
    · rfl
    · have q1 := g_car m (eb v) (eb v) E0
      rw [hm, dt_eb 10 v _ hv, show eb v v = 1 from if_pos rfl] at q1
      have q2 : gw m (eb v) (fun m => go m (eb v) E0) = gw m (eb v) (fun m => 0 * E0 m + 0 * E0 m) := gw_ext _ _ _ _ fun m hm => by
        rw [go_E0]
        omega
      rw [gw_lin] at q2
      show go m (eb v) (fun q => gw q (eb v) E0) = _
      omega
  omega
/-- who is fixed by one row more -/
theorem fxd_iff {g : Gh} {q : Nat} {a : Nat → Int} (h : gok ((q, a) :: g)) {v : Nat} (hv : v < 10) : fxd g (gr g a) v ↔ ∀ c, c < 10 → gr ((q, a) :: g) (eb v) c = 0 := by
  have hs := gs_ne g h.1
  have hj : ∀ c, c < 10 → gs g * gr ((q, a) :: g) (eb v) c = gr g (eb v) c * gr g a q - gr g (eb v) q * gr g a c := fun c hc => g_join h.1 (q, a) h.2.1 (eb v) c hc
  have hrq : gr g a q ≠ 0 := h.2.2.1
  have hq : q < 10 := h.2.1
  constructor
  · intro hx c hc
    have e := hj c hc
    have e2 : gr g (eb v) c * gr g a q - gr g (eb v) q * gr g a c = 0 := by
      rcases hx with hz | ⟨p, hp, hl⟩
      · rw [hz c hc, hz q hq]; omega
      · have l1 := hl.2 c hc
        have l2 := hl.2 q hq
        have l0 := hl.1
        have e3 : (gr g (eb v) c * gr g a q - gr g (eb v) q * gr g a c) * gr g a p = 0 := by
          have : (gr g (eb v) c * gr g a q - gr g (eb v) q * gr g a c) * gr g a p = (gr g (eb v) c * gr g a p) * gr g a q - (gr g (eb v) q * gr g a p) * gr g a c := by grind
          rw [this, l1, l2]
          grind
        rcases Int.mul_eq_zero.mp e3 with e4 | e4
        · exact e4
        · exact absurd e4 l0
    rw [e2] at e
    rcases Int.mul_eq_zero.mp e with e4 | e4
    · exact absurd e4 hs
    · exact e4
  · intro hz
    have hz2 : ∀ c, c < 10 → gr g (eb v) c * gr g a q = gr g (eb v) q * gr g a c := fun c hc => by
      have e := hj c hc
      rw [hz c hc] at e
      omega
    by_cases ha : ∀ c, c < 10 → gr g (eb v) c = 0
    · exact Or.inl ha
    · refine Or.inr ?_
      -- the first place
      have ex : ∀ n, n ≤ 10 → (∃ p, fp (gr g (eb v)) p) ∨ ∀ c, c < n → gr g (eb v) c = 0 := by
        intro n
        induction n with
        | zero => intro _; exact Or.inr fun c hc => by omega
        | succ n ih =>
          intro hn
          rcases ih (by omega) with h | h
          · exact Or.inl h
          · by_cases e : gr g (eb v) n = 0
            · exact Or.inr fun c hc => by
                by_cases e2 : c = n
                · rw [e2]; exact e
                · exact h c (by omega)
            · exact Or.inl ⟨n, by omega, e, h⟩
      rcases ex 10 (Nat.le_refl _) with ⟨p, hp⟩ | h
      · have l0 := hz2 p hp.1
        have n1 : gr g (eb v) p * gr g a q ≠ 0 := Int.mul_ne_zero hp.2.1 hrq
        rw [l0] at n1
        have n2 : gr g (eb v) q ≠ 0 := fun e => n1 (by rw [e]; omega)
        have n3 : gr g a p ≠ 0 := fun e => n1 (by rw [e]; omega)
        refine ⟨p, hp, n3, fun c hc => ?_⟩
        have l1 := hz2 c hc
        refine Int.eq_of_mul_eq_mul_right hrq ?_
        have : gr g (eb v) c * gr g a p * gr g a q = (gr g (eb v) c * gr g a q) * gr g a p := by grind
        rw [this, l1]
        have : gr g a c * gr g (eb v) p * gr g a q = gr g a c * (gr g (eb v) p * gr g a q) := by grind
        rw [this, l0]
        grind
      · exact absurd h ha
-- a question's row
def ar (ow : Nat → Nat) (wt : Nat → Int) : Nat → Nat → Int
  | 0, _ => 0
  | n + 1, v => if v = ow n then wt n else ar ow wt n v
theorem ar_bdd {ow : Nat → Nat} {wt : Nat → Int} (h : ∀ p, p < 8 → -3 ≤ wt p ∧ wt p ≤ 3) : ∀ n, n ≤ 8 → ∀ v, -3 ≤ ar ow wt n v ∧ ar ow wt n v ≤ 3 := by
  intro n
  induction n with
  | zero => intro _ v; exact ⟨by show (-3 : Int) ≤ 0; omega, by show (0 : Int) ≤ 3; omega⟩
  | succ n ih =>
    intro hn v
    show -3 ≤ (if v = ow n then wt n else ar ow wt n v) ∧ (if v = ow n then wt n else ar ow wt n v) ≤ 3
    by_cases e : v = ow n
    · rw [if_pos e]; exact h n (by omega)
    · rw [if_neg e]; exact ih (by omega) v
theorem ar_z {ow : Nat → Nat} {wt : Nat → Int} {v : Nat} : ∀ n, (∀ p, p < n → v ≠ ow p) → ar ow wt n v = 0 := by
  intro n
  induction n with
  | zero => intro _; rfl
  | succ n ih =>
    intro h
    show (if v = ow n then wt n else ar ow wt n v) = 0
    rw [if_neg (h n (by omega))]
    exact ih fun p hp => h p (by omega)
theorem dt_upd : ∀ (n : Nat) (a : Nat → Int) (q : Nat) (x : Int), q < n → dt n (fun v => if v = q then x else a v) (fun v => if v = q then x else a v) = dt n a a - a q * a q + x * x := by
  intro n
  induction n with
  | zero => intro a q x h; omega
  | succ n ih =>
    intro a q x h
    cases q with
    | zero =>
      show (if 0 = 0 then x else a 0) * (if 0 = 0 then x else a 0) + dt n (vt (fun v => if v = 0 then x else a v)) (vt (fun v => if v = 0 then x else a v)) = a 0 * a 0 + dt n (vt a) (vt a) - a 0 * a 0 + x * x
      have e : vt (fun v => if v = 0 then x else a v) = vt a := funext fun i => by simp [vt]
      rw [e, if_pos rfl]
      omega
    | succ q =>
      show (if 0 = q + 1 then x else a 0) * (if 0 = q + 1 then x else a 0) + dt n (vt (fun v => if v = q + 1 then x else a v)) (vt (fun v => if v = q + 1 then x else a v)) = a 0 * a 0 + dt n (vt a) (vt a) - a (q + 1) * a (q + 1) + x * x
      have e : vt (fun v => if v = q + 1 then x else a v) = (fun v => if v = q then x else vt a v) := funext fun i => by simp [vt]
      rw [e, if_neg (by omega), ih (vt a) q x (by omega)]
      show _ + (_ - vt a q * vt a q + _) = _
      show _ + (_ - a (q + 1) * a (q + 1) + _) = _
      omega
theorem ar_dt {ow : Nat → Nat} {wt : Nat → Int} (h : ∀ p, p < 8 → -3 ≤ wt p ∧ wt p ≤ 3) (ho : ∀ p, p < 8 → ow p < 10) : ∀ n, n ≤ 8 → dt 10 (ar ow wt n) (ar ow wt n) ≤ 9 * n := by
  intro n
  induction n with
  | zero => intro _; rw [dt_z 10 (ar ow wt 0) _ (fun _ => rfl)]; decide
  | succ n ih =>
    intro hn
    have h1 := ih (by omega)
    have h2 := dt_upd 10 (ar ow wt n) (ow n) (wt n) (ho n (by omega))
    have e : ar ow wt (n + 1) = fun v => if v = ow n then wt n else ar ow wt n v := rfl
    rw [e, h2]
    have h3 := sq_nn (ar ow wt n (ow n))
    have h4 := mulb (h n (by omega)) (h n (by omega))
    omega
theorem ar_sum {ow : Nat → Nat} {wt : Nat → Int} (f : Nat → Int) (ho : ∀ p, p < 8 → ow p < 10) (inj : ∀ j k, j < 8 → k < 8 → ow j = ow k → j = k) : ∀ n, n ≤ 8 → sm 10 (fun v => ar ow wt n v * f v) = sm n (fun p => wt p * f (ow p)) := by
  have upd : ∀ m (a : Nat → Int) q (x : Int), sm m (fun v => (if v = q then x else a v) * f v) = sm m (fun v => a v * f v) + (if q < m then (x - a q) * f q else 0) := by
    intro m
    induction m with
    | zero => intro a q x; rfl
    | succ m ih =>
      intro a q x
      show sm m _ + (if m = q then x else a m) * f m = sm m _ + a m * f m + _
      rw [ih a q x]
      by_cases e : m = q
      · subst e
        rw [if_neg (by omega), if_pos rfl, if_pos (by omega)]
        grind
      · rw [if_neg e]
        by_cases e2 : q < m
        · rw [if_pos e2, if_pos (by omega)]; omega
        · rw [if_neg e2, if_neg (by omega)]; omega
  intro n
  induction n with
  | zero =>
    intro _
    have : ∀ m, sm m (fun v => ar ow wt 0 v * f v) = 0 := by
      intro m
      induction m with
      | zero => rfl
      | succ m ih => show sm m _ + ar ow wt 0 m * f m = 0; rw [ih]; show 0 + 0 * f m = 0; omega
    exact this 10
  | succ n ih =>
    intro hn
    have h1 := upd 10 (ar ow wt n) (ow n) (wt n)
    have h2 : ar ow wt n (ow n) = 0 := ar_z n fun p hp e => by
      have := inj n p (by omega) (by omega) e
      omega
    show sm 10 (fun v => (if v = ow n then wt n else ar ow wt n v) * f v) = sm n _ + wt n * f (ow n)
    rw [h1, if_pos (ho n (by omega)), ih (by omega), h2, Int.sub_zero]
abbrev qrow (w : Wd) (wt : Nat → Int) : Nat → Int := ar (own w) wt 8
def qok (wt : Nat → Int) : Prop := ∀ p, p < 8 → -3 ≤ wt p ∧ wt p ≤ 3
def szOf (wt : Nat → Int) : Nat → Nat
  | 0 => 0
  | n + 1 => if wt n = 0 then szOf wt n else szOf wt n + 1
/-- the true answer -/
def tans (w : Wd) (wt : Nat → Int) : Int := sm 8 (fun p => wt p * dat w 0 (own w p))
-- what a question meets
def zer (g : Gh) (a : Nat → Int) : Prop := ∀ c, c < 10 → gr g a c = 0
def fixes (g : Gh) (a : Nat → Int) : Prop := ∃ v, v < 10 ∧ fxd g (gr g a) v
def paired (g : Gh) (a : Nat → Int) : Prop := ∃ q, gok ((q, a) :: g) ∧ pr ((q, a) :: g)
def forb (g : Gh) (a : Nat → Int) (sz rl lm : Nat) : Prop := (rl = 1 ∧ (sz < 2 ∨ 6 < sz)) ∨ (rl = 2 ∧ paired g a) ∨ (rl = 3 ∧ lm < g.length + 1)
def Meet (g : Gh) (a : Nat → Int) (sz rl lm : Nat) (m : Int32) : Prop := (m = 0 ∧ zer g a) ∨ (m = 2 ∧ ¬ zer g a ∧ (fixes g a ∨ forb g a sz rl lm)) ∨ (m = 1 ∧ ¬ zer g a ∧ ¬ fixes g a ∧ ¬ forb g a sz rl lm)
theorem Meet_u {g : Gh} {a : Nat → Int} {sz rl lm : Nat} {m m' : Int32} (h : Meet g a sz rl lm m) (h' : Meet g a sz rl lm m') : m = m' := by
  rcases h with ⟨e, h1⟩ | ⟨e, h1, h2⟩ | ⟨e, h1, h2, h3⟩ <;> rcases h' with ⟨e', k1⟩ | ⟨e', k1, k2⟩ | ⟨e', k1, k2, k3⟩
  · rw [e, e']
  · exact absurd h1 k1
  · exact absurd h1 k1
  · exact absurd k1 h1
  · rw [e, e']
  · rcases h2 with h2 | h2
    · exact absurd h2 k2
    · exact absurd h2 k3
  · exact absurd k1 h1
  · rcases k2 with k2 | k2
    · exact absurd k2 h2
    · exact absurd k2 h3
  · rw [e, e']
