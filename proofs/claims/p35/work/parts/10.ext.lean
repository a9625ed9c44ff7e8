/-! wedge products over ten letters, as functions of lists of ten yes or no -/
abbrev Ev : Type := List Bool → Int
theorem sq_nn (x : Int) : 0 ≤ x * x := by
  rcases Int.le_total 0 x with h | h
  · exact Int.mul_nonneg h h
  · exact Int.mul_nonneg_of_nonpos_of_nonpos h h
def vt (a : Nat → Int) : Nat → Int := fun i => a (i + 1)
def gw : List Bool → (Nat → Int) → Ev → Int
  | [], _, _ => 0
  | false :: l, a, w => gw l (vt a) (fun m => w (false :: m))
  | true :: l, a, w => a 0 * w (false :: l) - gw l (vt a) (fun m => w (true :: m))
def go : List Bool → (Nat → Int) → Ev → Int
  | [], _, _ => 0
  | false :: l, a, w => go l (vt a) (fun m => w (false :: m)) + a 0 * w (true :: l)
  | true :: l, a, w => - go l (vt a) (fun m => w (true :: m))
def dt : Nat → (Nat → Int) → (Nat → Int) → Int
  | 0, _, _ => 0
  | n + 1, a, b => a 0 * b 0 + dt n (vt a) (vt b)
def ip : Nat → Ev → Ev → Int
  | 0, u, w => u [] * w []
  | n + 1, u, w => ip n (fun m => u (false :: m)) (fun m => w (false :: m)) + ip n (fun m => u (true :: m)) (fun m => w (true :: m))
theorem gw_ext : ∀ (l : List Bool) (a : Nat → Int) (f g : Ev), (∀ m, m.length = l.length → f m = g m) → gw l a f = gw l a g := by
  intro l
  induction l with
  | nil => intro a f g h; rfl
  | cons b l ih =>
    intro a f g h
    cases b with
    | false => exact ih _ _ _ fun m hm => h _ (by simp [hm])
    | true =>
      show a 0 * f (false :: l) - _ = a 0 * g (false :: l) - _
      rw [h (false :: l) (by simp), ih (vt a) (fun m => f (true :: m)) (fun m => g (true :: m)) fun m hm => h _ (by simp [hm])]
theorem go_ext : ∀ (l : List Bool) (a : Nat → Int) (f g : Ev), (∀ m, m.length = l.length → f m = g m) → go l a f = go l a g := by
  intro l
  induction l with
  | nil => intro a f g h; rfl
  | cons b l ih =>
    intro a f g h
    cases b with
    | false =>
      show _ + a 0 * f (true :: l) = _ + a 0 * g (true :: l)
      rw [h (true :: l) (by simp), ih (vt a) (fun m => f (false :: m)) (fun m => g (false :: m)) fun m hm => h _ (by simp [hm])]
    | true =>
      show - _ = - _
      rw [ih (vt a) (fun m => f (true :: m)) (fun m => g (true :: m)) fun m hm => h _ (by simp [hm])]
theorem gw_lin : ∀ (l : List Bool) (a : Nat → Int) (f g : Ev) (k j : Int), gw l a (fun m => k * f m + j * g m) = k * gw l a f + j * gw l a g := by
  intro l
  induction l with
  | nil => intro a f g k j; simp [gw]
  | cons b l ih =>
    intro a f g k j
    cases b with
    | false => exact ih _ _ _ _ _
    | true =>
      show a 0 * (k * f (false :: l) + j * g (false :: l)) - gw l (vt a) (fun m => k * f (true :: m) + j * g (true :: m)) = k * (a 0 * f (false :: l) - gw l (vt a) (fun m => f (true :: m))) + j * (a 0 * g (false :: l) - gw l (vt a) (fun m => g (true :: m)))
      rw [ih]
      grind
theorem go_lin : ∀ (l : List Bool) (a : Nat → Int) (f g : Ev) (k j : Int), go l a (fun m => k * f m + j * g m) = k * go l a f + j * go l a g := by
  intro l
  induction l with
  | nil => intro a f g k j; simp [go]
  | cons b l ih =>
    intro a f g k j
    cases b with
    | false =>
      show go l (vt a) (fun m => k * f (false :: m) + j * g (false :: m)) + a 0 * (k * f (true :: l) + j * g (true :: l)) = k * (go l (vt a) (fun m => f (false :: m)) + a 0 * f (true :: l)) + j * (go l (vt a) (fun m => g (false :: m)) + a 0 * g (true :: l))
      rw [ih]
      grind
    | true =>
      show - go l (vt a) (fun m => k * f (true :: m) + j * g (true :: m)) = k * (- go l (vt a) (fun m => f (true :: m))) + j * (- go l (vt a) (fun m => g (true :: m)))
      rw [ih]
      grind
theorem gw_vec : ∀ (l : List Bool) (a b : Nat → Int) (w : Ev) (k j : Int), gw l (fun i => k * a i + j * b i) w = k * gw l a w + j * gw l b w := by
  intro l
  induction l with
  | nil => intro a b w k j; simp [gw]
  | cons c l ih =>
    intro a b w k j
    cases c with
    | false => exact ih (vt a) (vt b) _ _ _
    | true =>
      show (k * a 0 + j * b 0) * w (false :: l) - gw l (fun i => k * vt a i + j * vt b i) (fun m => w (true :: m)) = k * (a 0 * w (false :: l) - gw l (vt a) (fun m => w (true :: m))) + j * (b 0 * w (false :: l) - gw l (vt b) (fun m => w (true :: m)))
      rw [ih]
      grind
theorem gw_sub (l : List Bool) (a : Nat → Int) (f g : Ev) (k : Int) : gw l a (fun m => k * f m - g m) = k * gw l a f - gw l a g := by
  have h := gw_lin l a f g k (-1)
  rw [gw_ext l a (fun m => k * f m - g m) (fun m => k * f m + (-1) * g m) (fun m _ => by omega), h]
  omega
theorem gw_add (l : List Bool) (a : Nat → Int) (f g : Ev) (k : Int) : gw l a (fun m => f m + k * g m) = gw l a f + k * gw l a g := by
  have h := gw_lin l a f g 1 k
  rw [gw_ext l a (fun m => f m + k * g m) (fun m => 1 * f m + k * g m) (fun m _ => by omega), h]
  omega
theorem gw_neg (l : List Bool) (a : Nat → Int) (f : Ev) : gw l a (fun m => - f m) = - gw l a f := by
  have h := gw_lin l a f f (-1) 0
  rw [gw_ext l a (fun m => - f m) (fun m => (-1) * f m + 0 * f m) (fun m _ => by omega), h]
  omega
theorem go_sub (l : List Bool) (a : Nat → Int) (f g : Ev) (k : Int) : go l a (fun m => k * f m - g m) = k * go l a f - go l a g := by
  have h := go_lin l a f g k (-1)
  rw [go_ext l a (fun m => k * f m - g m) (fun m => k * f m + (-1) * g m) (fun m _ => by omega), h]
  omega
theorem gw_anti : ∀ (l : List Bool) (a b : Nat → Int) (w : Ev), gw l a (fun m => gw m b w) = - gw l b (fun m => gw m a w) := by
  intro l
  induction l with
  | nil => intro a b w; rfl
  | cons c l ih =>
    intro a b w
    cases c with
    | false => exact ih _ _ _
    | true =>
      show a 0 * gw l (vt b) (fun m => w (false :: m)) - gw l (vt a) (fun m => b 0 * w (false :: m) - gw m (vt b) (fun q => w (true :: q))) = - (b 0 * gw l (vt a) (fun m => w (false :: m)) - gw l (vt b) (fun m => a 0 * w (false :: m) - gw m (vt a) (fun q => w (true :: q))))
      rw [gw_sub, gw_sub, ih (vt a) (vt b)]
      omega
theorem gw_twice (l : List Bool) (a : Nat → Int) (w : Ev) : gw l a (fun m => gw m a w) = 0 := by
  have := gw_anti l a a w
  omega
theorem g_car : ∀ (l : List Bool) (a b : Nat → Int) (w : Ev), go l a (fun m => gw m b w) + gw l b (fun m => go m a w) = dt l.length a b * w l := by
  intro l
  induction l with
  | nil => intro a b w; simp [go, gw, dt]
  | cons c l ih =>
    intro a b w
    cases c with
    | false =>
      show go l (vt a) (fun m => gw m (vt b) (fun q => w (false :: q))) + a 0 * (b 0 * w (false :: l) - gw l (vt b) (fun m => w (true :: m))) + gw l (vt b) (fun m => go m (vt a) (fun q => w (false :: q)) + a 0 * w (true :: m)) = (a 0 * b 0 + dt l.length (vt a) (vt b)) * w (false :: l)
      have h := ih (vt a) (vt b) (fun q => w (false :: q))
      rw [gw_add]
      grind
    | true =>
      show - go l (vt a) (fun m => b 0 * w (false :: m) - gw m (vt b) (fun q => w (true :: q))) + (b 0 * (go l (vt a) (fun m => w (false :: m)) + a 0 * w (true :: l)) - gw l (vt b) (fun m => - go m (vt a) (fun q => w (true :: q)))) = (a 0 * b 0 + dt l.length (vt a) (vt b)) * w (true :: l)
      have h := ih (vt a) (vt b) (fun q => w (true :: q))
      rw [go_sub, gw_neg]
      grind
theorem ip_ext : ∀ (n : Nat) (u u' w w' : Ev), (∀ m, m.length = n → u m = u' m) → (∀ m, m.length = n → w m = w' m) → ip n u w = ip n u' w' := by
  intro n
  induction n with
  | zero => intro u u' w w' h1 h2; show u [] * w [] = u' [] * w' []; rw [h1 [] rfl, h2 [] rfl]
  | succ n ih =>
    intro u u' w w' h1 h2
    show _ + _ = _ + _
    rw [ih _ (fun m => u' (false :: m)) _ (fun m => w' (false :: m)) (fun m hm => h1 _ (by simp [hm])) (fun m hm => h2 _ (by simp [hm])), ih _ (fun m => u' (true :: m)) _ (fun m => w' (true :: m)) (fun m hm => h1 _ (by simp [hm])) (fun m hm => h2 _ (by simp [hm]))]
theorem ip_comm : ∀ (n : Nat) (u w : Ev), ip n u w = ip n w u := by
  intro n
  induction n with
  | zero => intro u w; exact Int.mul_comm _ _
  | succ n ih => intro u w; show _ + _ = _ + _; rw [ih, ih (fun m => u (true :: m))]
theorem ip_lin : ∀ (n : Nat) (u f g : Ev) (k j : Int), ip n u (fun m => k * f m + j * g m) = k * ip n u f + j * ip n u g := by
  intro n
  induction n with
  | zero => intro u f g k j; show u [] * (k * f [] + j * g []) = k * (u [] * f []) + j * (u [] * g []); grind
  | succ n ih =>
    intro u f g k j
    show ip n _ (fun m => k * f (false :: m) + j * g (false :: m)) + ip n _ (fun m => k * f (true :: m) + j * g (true :: m)) = k * (ip n _ _ + ip n _ _) + j * (ip n _ _ + ip n _ _)
    rw [ih, ih]
    grind
theorem ip_sub (n : Nat) (u f g : Ev) (k : Int) : ip n u (fun m => k * f m - g m) = k * ip n u f - ip n u g := by
  have h := ip_lin n u f g k (-1)
  rw [ip_ext n u u (fun m => k * f m - g m) (fun m => k * f m + (-1) * g m) (fun _ _ => rfl) (fun m _ => by omega), h]
  omega
theorem ip_smul (n : Nat) (u f : Ev) (k : Int) : ip n u (fun m => k * f m) = k * ip n u f := by
  have h := ip_lin n u f f k 0
  rw [ip_ext n u u (fun m => k * f m) (fun m => k * f m + 0 * f m) (fun _ _ => rfl) (fun m _ => by omega), h]
  omega
theorem ip_neg (n : Nat) (u f : Ev) : ip n u (fun m => - f m) = - ip n u f := by
  have h := ip_smul n u f (-1)
  rw [ip_ext n u u (fun m => - f m) (fun m => (-1) * f m) (fun _ _ => rfl) (fun m _ => by omega), h]
  omega
theorem ip_adj : ∀ (n : Nat) (a : Nat → Int) (u w : Ev), ip n (fun m => gw m a u) w = ip n u (fun m => go m a w) := by
  intro n
  induction n with
  | zero => intro a u w; show 0 * w [] = u [] * 0; omega
  | succ n ih =>
    intro a u w
    show ip n (fun m => gw m (vt a) (fun q => u (false :: q))) (fun m => w (false :: m)) + ip n (fun m => a 0 * u (false :: m) - gw m (vt a) (fun q => u (true :: q))) (fun m => w (true :: m)) = ip n (fun m => u (false :: m)) (fun m => go m (vt a) (fun q => w (false :: q)) + a 0 * w (true :: m)) + ip n (fun m => u (true :: m)) (fun m => - go m (vt a) (fun q => w (true :: q)))
    rw [ih, ip_comm n (fun m => a 0 * u (false :: m) - gw m (vt a) (fun q => u (true :: q))), ip_sub, ip_comm n (fun m => w (true :: m)) (fun m => gw m (vt a) (fun q => u (true :: q))), ih, ip_neg, ip_comm n (fun m => w (true :: m))]
    have h := ip_lin n (fun m => u (false :: m)) (fun m => go m (vt a) (fun q => w (false :: q))) (fun m => w (true :: m)) 1 (a 0)
    rw [ip_ext n _ _ (fun m => go m (vt a) (fun q => w (false :: q)) + a 0 * w (true :: m)) (fun m => 1 * go m (vt a) (fun q => w (false :: q)) + a 0 * w (true :: m)) (fun _ _ => rfl) (fun m _ => by omega), h]
    omega
theorem ip_nn : ∀ (n : Nat) (w : Ev), 0 ≤ ip n w w := by
  intro n
  induction n with
  | zero => intro w; exact sq_nn _
  | succ n ih => intro w; exact Int.add_nonneg (ih _) (ih _)
/-- the length of a wedge product -/
theorem ip_had (n : Nat) (a : Nat → Int) (w : Ev) : ip n (fun m => gw m a w) (fun m => gw m a w) ≤ dt n a a * ip n w w := by
  have h1 := ip_adj n a w (fun m => gw m a w)
  have h2 : ip n w (fun m => go m a (fun q => gw q a w)) = ip n w (fun m => dt n a a * w m - gw m a (fun q => go q a w)) := ip_ext n _ _ _ _ (fun _ _ => rfl) (fun m hm => by have := g_car m a a w; rw [hm] at this; omega)
  have h3 := ip_sub n w w (fun m => gw m a (fun q => go q a w)) (dt n a a)
  have h4 : ip n w (fun m => gw m a (fun q => go q a w)) = ip n (fun m => go m a w) (fun m => go m a w) := by rw [ip_comm, ip_adj]
  have h5 := ip_nn n (fun m => go m a w)
  rw [h1, h2, h3, h4]
  omega
/-- one coordinate, by a vector of length at most 1 -/
theorem ip_cs (n : Nat) (u w : Ev) (hu : ip n u u ≤ 1) : ip n u w * ip n u w ≤ ip n w w := by
  have h0 := ip_nn n (fun m => 1 * w m + (- ip n u w) * u m)
  have h1 := ip_lin n (fun m => 1 * w m + (- ip n u w) * u m) w u 1 (- ip n u w)
  have h2 := ip_lin n w w u 1 (- ip n u w)
  have h3 := ip_lin n u w u 1 (- ip n u w)
  rw [ip_comm n (fun m => 1 * w m + (- ip n u w) * u m) w, ip_comm n (fun m => 1 * w m + (- ip n u w) * u m) u, h2, h3, ip_comm n w u] at h1
  rw [h1] at h0
  have h4 : 0 ≤ ip n u w * ip n u w := sq_nn _
  have h5 : ip n u w * ip n u w * ip n u u ≤ ip n u w * ip n u w * 1 := Int.mul_le_mul_of_nonneg_left hu h4
  grind
