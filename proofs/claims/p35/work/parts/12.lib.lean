/-! how the functions are looked at: what they come to -/
def wp {α : Type _} (x : Option α) (Q : α → Prop) : Prop := ∃ a, x = some a ∧ Q a
theorem wp_some {α : Type _} {a : α} {Q : α → Prop} (h : Q a) : wp (some a) Q := ⟨a, rfl, h⟩
theorem wp_gd {α : Type _} {c : Bool} {a : Option α} {Q : α → Prop} (hc : c = true) (h : wp a Q) : wp (gd c a) Q := by subst hc; exact h
theorem wp_lt {α β : Type _} {x : α} {f : α → Option β} {Q : β → Prop} (h : wp (f x) Q) : wp (lt x f) Q := h
theorem wp_ltq {α β : Type _} {x : α} {f : α → Option β} {Q : β → Prop} (y : α) (e : x = y) (h : wp (f y) Q) : wp (lt x f) Q := by subst e; exact h
theorem wp_bd {α β : Type _} {x : Option α} {f : α → Option β} {Q : β → Prop} (h : wp x (fun a => wp (f a) Q)) : wp (bd x f) Q := by
  obtain ⟨a, rfl, h2⟩ := h
  exact h2
theorem wp_bds {α β : Type _} {x : Option α} {f : α → Option β} {Q : β → Prop} {a : α} (e : x = some a) (h : wp (f a) Q) : wp (bd x f) Q := by subst e; exact h
theorem wp_bs {ρ σ τ : Type _} {x : Option (ρ ⊕ σ)} {f : ρ → Option τ} {g : σ → Option τ} {Q : τ → Prop} (h : wp x (fun z => (∀ a, z = .inl a → wp (f a) Q) ∧ (∀ a, z = .inr a → wp (g a) Q))) : wp (bs x f g) Q := by
  obtain ⟨z, rfl, h1, h2⟩ := h
  cases z with
  | inl a => exact h1 a rfl
  | inr a => exact h2 a rfl
theorem wp_mono {α : Type _} {x : Option α} {P Q : α → Prop} (h : wp x P) (k : ∀ a, P a → Q a) : wp x Q := by
  obtain ⟨a, e, h2⟩ := h
  exact ⟨a, e, k a h2⟩
theorem wp_bdm {α β : Type _} {x : Option α} {f : α → Option β} {P : α → Prop} {Q : β → Prop} (h : wp x P) (k : ∀ a, P a → wp (f a) Q) : wp (bd x f) Q := wp_bd (wp_mono h k)
theorem wp_bsm {ρ σ τ : Type _} {x : Option (ρ ⊕ σ)} {f : ρ → Option τ} {g : σ → Option τ} {P : ρ ⊕ σ → Prop} {Q : τ → Prop} (h : wp x P) (k1 : ∀ a, P (.inl a) → wp (f a) Q) (k2 : ∀ a, P (.inr a) → wp (g a) Q) : wp (bs x f g) Q := wp_bs (wp_mono h fun _ hz => ⟨fun a e => k1 a (e ▸ hz), fun a e => k2 a (e ▸ hz)⟩)
theorem wp_ifp {α : Type _} {c : Prop} [Decidable c] {a b : Option α} {Q : α → Prop} (hc : c) (h : wp a Q) : wp (if c then a else b) Q := by rw [if_pos hc]; exact h
theorem wp_ifn {α : Type _} {c : Prop} [Decidable c] {a b : Option α} {Q : α → Prop} (hc : ¬ c) (h : wp b Q) : wp (if c then a else b) Q := by rw [if_neg hc]; exact h
theorem wp_if {α : Type _} {c : Prop} [Decidable c] {a b : Option α} {Q : α → Prop} (h1 : c → wp a Q) (h2 : ¬ c → wp b Q) : wp (if c then a else b) Q := by
  by_cases hc : c
  · exact wp_ifp hc (h1 hc)
  · exact wp_ifn hc (h2 hc)
theorem wp_to {α : Type _} {x : Option α} {a : α} (h : wp x (fun z => z = a)) : x = some a := by
  obtain ⟨b, e, rfl⟩ := h
  exact e
/-- a loop that counts up -/
theorem up {σ α : Type _} (F : Nat → Nat → σ → Option α) (B : Nat) (P : Nat → σ → Prop) (R : α → Prop)
    (step : ∀ n k s, k < B → P k s → (∀ s', P (k + 1) s' → wp (F n (k + 1) s') R) → wp (F (n + 1) k s) R) (fin : ∀ n s, P B s → wp (F (n + 1) B s) R) :
    ∀ n k s, k ≤ B → B < k + n → P k s → wp (F n k s) R := by
  intro n
  induction n with
  | zero => intro k s h1 h2 _; omega
  | succ n ih =>
    intro k s h1 h2 h
    by_cases e : k = B
    · subst e; exact fin n s h
    · exact step n k s (by omega) h fun s' h' => ih (k + 1) s' (by omega) (by omega) h'
/-- a loop that counts down to 1 -/
theorem dn {σ α : Type _} (F : Nat → Nat → σ → Option α) (P : Nat → σ → Prop) (R : α → Prop)
    (step : ∀ n k s, P (k + 1) s → (∀ s', P k s' → wp (F n k s') R) → wp (F (n + 1) (k + 1) s) R) (fin : ∀ n s, P 0 s → wp (F (n + 1) 0 s) R) :
    ∀ n k s, k < n → P k s → wp (F n k s) R := by
  intro n
  induction n with
  | zero => intro k s h2 _; omega
  | succ n ih =>
    intro k s h2 h
    cases k with
    | zero => exact fin n s h
    | succ k => exact step n k s h fun s' h' => ih k s' (by omega) h'
-- what stays
def Fr (A : Nat → Prop) (S S' : Sg) : Prop := ∀ o, ¬ A o → S'.1 o = S.1 o ∧ S'.2 o = S.2 o
theorem Fr.rf {A : Nat → Prop} {S : Sg} : Fr A S S := fun _ _ => ⟨rfl, rfl⟩
theorem Fr.tr {A : Nat → Prop} {S S' S'' : Sg} (h : Fr A S S') (h' : Fr A S' S'') : Fr A S S'' := fun o ho => ⟨(h' o ho).1.trans (h o ho).1, (h' o ho).2.trans (h o ho).2⟩
theorem Fr.mono {A B : Nat → Prop} {S S' : Sg} (h : Fr A S S') (k : ∀ o, A o → B o) : Fr B S S' := fun o ho => h o fun q => ho (k o q)
theorem Fr.I {A : Nat → Prop} {S S' : Sg} (h : Fr A S S') {o : Nat} (ho : ¬ A o) (k : Nat) : S'.1 o k = S.1 o k := by rw [(h o ho).1]
theorem Fr.J {A : Nat → Prop} {S S' : Sg} (h : Fr A S S') {o : Nat} (ho : ¬ A o) (k : Nat) : S'.2 o k = S.2 o k := by rw [(h o ho).2]
theorem Fr.setI {A : Nat → Prop} {S : Sg} {o k : Nat} {v : Int32} (h : A o) : Fr A S (setI S o k v) := fun _ hq => setI_o fun e => hq (e ▸ h)
theorem Fr.setJ {A : Nat → Prop} {S : Sg} {o k : Nat} {v : Int64} (h : A o) : Fr A S (setJ S o k v) := fun _ hq => setJ_o fun e => hq (e ▸ h)
theorem Fr.fillI {A : Nat → Prop} {S : Sg} {o : Nat} {f : Nat → Int32} (h : A o) : Fr A S (fillI S o f) := fun _ hq => fillI_o fun e => hq (e ▸ h)
theorem Fr.fillJ {A : Nat → Prop} {S : Sg} {o : Nat} {f : Nat → Int64} (h : A o) : Fr A S (fillJ S o f) := fun _ hq => fillJ_o fun e => hq (e ▸ h)
theorem setI_s {S : Sg} {o k : Nat} {v : Int32} : (setI S o k v).1 o k = v := if_pos ⟨rfl, rfl⟩
theorem setI_n {S : Sg} {o k o' k' : Nat} {v : Int32} (h : ¬ (o' = o ∧ k' = k)) : (setI S o k v).1 o' k' = S.1 o' k' := if_neg h
theorem setJ_s {S : Sg} {o k : Nat} {v : Int64} : (setJ S o k v).2 o k = v := if_pos ⟨rfl, rfl⟩
theorem setJ_n {S : Sg} {o k o' k' : Nat} {v : Int64} (h : ¬ (o' = o ∧ k' = k)) : (setJ S o k v).2 o' k' = S.2 o' k' := if_neg h
-- places
theorem ix_n {j : Nat} (h : j < 2 ^ 31) : ix (nI j) = j := nI_clamp h
theorem inb_n {j n : Nat} (h : j < n) (hn : n < 2 ^ 31) : inb (nI j) n = true := decide_eq_true (nI_in h hn)
theorem of_nn {x : Int32} (h : 0 ≤ x) : ∃ j : Nat, j < 2 ^ 31 ∧ x = nI j := nI_of (Int32.not_lt.mpr h)
-- whole numbers in words
abbrev J (z : Int) : Int64 := Int64.ofInt z
abbrev I (z : Int) : Int32 := Int32.ofInt z
theorem J_add (a b : Int) : J a + J b = J (a + b) := (Int64.ofInt_add a b).symm
theorem J_mul (a b : Int) : J a * J b = J (a * b) := (Int64.ofInt_mul a b).symm
theorem J_sub (a b : Int) : J a - J b = J (a - b) := (Int64.ofInt_sub a b).symm
theorem J_neg (a : Int) : - J a = J (-a) := (Int64.ofInt_neg a).symm
theorem I_add (a b : Int) : I a + I b = I (a + b) := (Int32.ofInt_add a b).symm
theorem I_mul (a b : Int) : I a * I b = I (a * b) := (Int32.ofInt_mul a b).symm
theorem I_sub (a b : Int) : I a - I b = I (a - b) := (Int32.ofInt_sub a b).symm
theorem I_neg (a : Int) : - I a = I (-a) := (Int32.ofInt_neg a).symm
theorem J_toInt {z : Int} (h1 : -9223372036854775808 ≤ z) (h2 : z < 9223372036854775808) : (J z).toInt = z := by
  rw [Int64.toInt_ofInt, show Int64.size = 18446744073709551616 from rfl]
  exact Int.bmod_eq_of_le (by omega) (by omega)
theorem I_toInt {z : Int} (h1 : -2147483648 ≤ z) (h2 : z < 2147483648) : (I z).toInt = z := by
  rw [Int32.toInt_ofInt, show Int32.size = 4294967296 from rfl]
  exact Int.bmod_eq_of_le (by omega) (by omega)
theorem I_nI (n : Nat) : I (n : Int) = nI n := rfl
theorem toJ (x : Int32) : x.toInt64 = J x.toInt := by
  apply Int64.toInt_inj.mp
  have h1 := Int32.le_toInt x
  have h2 := Int32.toInt_lt x
  rw [Int32.toInt_toInt64, J_toInt (by omega) (by omega)]
theorem J_eq {a b : Int} (ha : -9223372036854775808 ≤ a ∧ a < 9223372036854775808) (hb : -9223372036854775808 ≤ b ∧ b < 9223372036854775808) : J a = J b ↔ a = b := by
  constructor
  · intro h
    have := congrArg Int64.toInt h
    rwa [J_toInt ha.1 ha.2, J_toInt hb.1 hb.2] at this
  · intro h; rw [h]
theorem J_lt {a b : Int} (ha : -9223372036854775808 ≤ a ∧ a < 9223372036854775808) (hb : -9223372036854775808 ≤ b ∧ b < 9223372036854775808) : J a < J b ↔ a < b := by
  rw [Int64.lt_iff_toInt_lt, J_toInt ha.1 ha.2, J_toInt hb.1 hb.2]
theorem I_lt {a b : Int} (ha : -2147483648 ≤ a ∧ a < 2147483648) (hb : -2147483648 ≤ b ∧ b < 2147483648) : I a < I b ↔ a < b := by
  rw [Int32.lt_iff_toInt_lt, I_toInt ha.1 ha.2, I_toInt hb.1 hb.2]
theorem I_eq {a b : Int} (ha : -2147483648 ≤ a ∧ a < 2147483648) (hb : -2147483648 ≤ b ∧ b < 2147483648) : I a = I b ↔ a = b := by
  constructor
  · intro h
    have := congrArg Int32.toInt h
    rwa [I_toInt ha.1 ha.2, I_toInt hb.1 hb.2] at this
  · intro h; rw [h]
theorem J_div {a b : Int} (ha : -9223372036854775808 < a ∧ a < 9223372036854775808) (hb : -9223372036854775808 < b ∧ b < 9223372036854775808) : J a / J b = J (a.tdiv b) := by
  apply Int64.toInt_inj.mp
  have hq : -9223372036854775808 < a.tdiv b ∧ a.tdiv b < 9223372036854775808 := by
    have h := Int.natAbs_tdiv_le_natAbs a b
    omega
  rw [Int64.toInt_div, J_toInt (by omega) (by omega), J_toInt (by omega) (by omega), J_toInt (by omega) (by omega)]
  exact Int.bmod_eq_of_le (by omega) (by omega)
theorem sq_lt {x B : Int} (hB : 0 ≤ B) (q : B < x) : B * B < x * x := by
  have h1 : B * B ≤ B * x := Int.mul_le_mul_of_nonneg_left (by omega) hB
  have h2 : B * x < x * x := Int.mul_lt_mul_of_pos_right q (by omega)
  omega
theorem sq_le {x B : Int} (hB : 0 ≤ B) (h : x * x ≤ B * B) : -B ≤ x ∧ x ≤ B := by
  constructor
  · rcases Int.lt_or_le x (-B) with q | q
    · have h2 := sq_lt hB (show B < -x by omega)
      rw [Int.neg_mul_neg] at h2
      omega
    · exact q
  · rcases Int.lt_or_le B x with q | q
    · have h2 := sq_lt hB q
      omega
    · exact q
