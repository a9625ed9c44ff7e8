/-! a sum of one alone -/
theorem gr_nil {b : Nat → Int} {c : Nat} (hc : c < 10) : gr [] b c = b c := by
  show ip 10 (gA (eb c) E0) (gA b E0) = b c
  rw [ip_adj, ip_ext 10 E0 E0 (fun m => go m (eb c) (gA b E0)) (fun m => b c * E0 m) (fun _ _ => rfl) (fun m hm => ?_), ip_smul, ip_E0]
  · omega
  · have h1 := g_car m (eb c) b E0
    rw [hm, dt_eb 10 c b hc] at h1
    have h2 : gw m b (fun m => go m (eb c) E0) = gw m b (fun m => 0 * E0 m + 0 * E0 m) := gw_ext _ _ _ _ fun m hm => by
      rw [go_E0]
      omega
    rw [gw_lin] at h2
    show go m (eb c) (fun q => gw q b E0) = _
    omega
theorem bt_isl : ∀ p, p < 8 → ∀ k, k < 8 → bt (isl 1 (nI p)) k = if k = p then 1 else 0 := by decide +kernel
theorem mis_one : ∀ p, p < 8 → f_X2_misfitOf 0 (isl 1 (nI p)) 0 = 0 := by decide +kernel
theorem isl_pow : ∀ p, p < 8 → isl 1 (nI p) = nI (2 ^ p) := by decide +kernel
theorem pow_bd : ∀ p, p < 8 → 1 ≤ 2 ^ p ∧ 2 ^ p ≤ 255 := by decide
theorem wq_0 (a b : Int32) (k : Nat) : wq 0 a b k = bt a k := by
  unfold wq
  rw [if_neg (by decide), if_pos rfl]
theorem ar_one {w : Wd} (hk : wok w) {wt : Nat → Int} {p : Nat} (hp : p < 8) (hw : ∀ k, k < 8 → wt k = if k = p then 1 else 0) (v : Nat) : ∀ n, n ≤ 8 → ar (own w) wt n v = if p < n ∧ v = own w p then 1 else 0 := by
  intro n
  induction n with
  | zero => intro _; rw [if_neg (fun q => Nat.not_lt_zero _ q.1)]; rfl
  | succ n ih =>
    intro hn
    show (if v = own w n then wt n else ar (own w) wt n v) = _
    by_cases e : v = own w n
    · rw [if_pos e, hw n (by omega)]
      by_cases e2 : n = p
      · rw [if_pos e2, if_pos ⟨by omega, by rw [← e2]; exact e⟩]
      · rw [if_neg e2, if_neg (fun q => e2 (hk.2.1 n p (by omega) hp (e.symm.trans q.2)))]
    · rw [if_neg e, ih (by omega)]
      by_cases e2 : p < n ∧ v = own w p
      · rw [if_pos e2, if_pos ⟨by omega, e2.2⟩]
      · rw [if_neg e2, if_neg (fun q => by
          by_cases u : p < n
          · exact e2 ⟨u, q.2⟩
          · have e3 : p = n := by omega
            exact e (by rw [← e3]; exact q.2))]
theorem row_one {w : Wd} (hk : wok w) {p : Nat} (hp : p < 8) : qrow w (wq 0 (isl 1 (nI p)) 0) = eb (own w p) := by
  funext v
  show ar (own w) _ 8 v = if v = own w p then 1 else 0
  rw [ar_one hk hp (fun k hk' => by rw [wq_0]; exact bt_isl p hp k hk') v 8 (Nat.le_refl _)]
  by_cases e : v = own w p
  · rw [if_pos ⟨hp, e⟩, if_pos e]
  · rw [if_neg (fun q => e q.2), if_neg e]
theorem fp_ex {f : Nat → Int} (h : ¬ ∀ c, c < 10 → f c = 0) : ∃ q, fp f q := by
  have ex : ∀ n, n ≤ 10 → (∃ p, fp f p) ∨ ∀ c, c < n → f c = 0 := by
    intro n
    induction n with
    | zero => intro _; exact Or.inr fun c hc => by omega
    | succ n ih =>
      intro hn
      rcases ih (by omega) with h | h
      · exact Or.inl h
      · by_cases e : f n = 0
        · exact Or.inr fun c hc => by
            by_cases e2 : c = n
            · rw [e2]; exact e
            · exact h c (by omega)
        · exact Or.inl ⟨n, by omega, e, h⟩
  rcases ex 10 (Nat.le_refl _) with h' | h'
  · exact h'
  · exact absurd h' h
theorem one_fx {w : Wd} (hg : wgood w) {v : Nat} (hv : v < 10) : fxd (gh w) (gr (gh w) (eb v)) v := by
  obtain ⟨q, hq⟩ := fp_ex (hg.2.1 v hv)
  exact Or.inr ⟨q, hq, hq.2.1, fun c _ => rfl⟩
theorem meet_one {w : Wd} (hg : wgood w) {p : Nat} (hp : p < 8) {m : Int32} (h : MM w 0 (isl 1 (nI p)) 0 m) : m = 2 := by
  have ho := own10 hg.1 hp
  have h' : Meet (gh w) (eb (own w p)) (szOf (wq 0 (isl 1 (nI p)) 0) 8) (num w 1) (num w 2) m := by rw [← row_one hg.1 hp]; exact h
  rcases h' with ⟨_, z⟩ | ⟨e, _⟩ | ⟨_, _, nf, _⟩
  · exact absurd z (hg.2.1 _ ho)
  · exact e
  · exact absurd ⟨own w p, ho, one_fx hg ho⟩ nf
theorem k_w1 {S : Sg} {w : Wd} {kp : Option Wd} (h : KI S w kp) {p : Nat} (hp : p < 8) : wp (f_X6_would (0 : Int32) (isl (1 : Int32) (nI p)) (0 : Int32) S) (fun z => z.1 = 2 ∧ KI z.2 w kp) :=
  wp_mono (k_would h qv0 (mis_one p hp)) fun _ hz => ⟨meet_one h.1 hp hz.1, hz.2⟩
theorem k_a1 {S : Sg} {w : Wd} {kp : Option Wd} (h : KI S w kp) {p : Nat} (hp : p < 8) : wp (f_X6_ask (0 : Int32) (isl (1 : Int32) (nI p)) (0 : Int32) S) (fun z => z.1 = 1000000005 ∧ KI z.2 w kp) := by
  refine wp_mono (k_ask h qv0 (mis_one p hp)) ?_
  rintro z ⟨m, hm, ⟨e, _⟩ | ⟨_, hz⟩ | ⟨e, _⟩⟩
  · exact absurd (e.symm.trans (meet_one h.1 hp hm)) (by decide)
  · exact hz
  · exact absurd (e.symm.trans (meet_one h.1 hp hm)) (by decide)
theorem af_spec (w : Wd) (j : Nat) : ∀ m, m ≤ 255 → ∃ c, c ≤ m ∧ (af w j m).2 = nI c ∧ ∀ a, 256 - m ≤ a → a ≤ 255 → fx w a j → 1 ≤ c ∧ ∃ x, x ≤ a ∧ (af w j m).1 = nI x := by
  intro m
  induction m with
  | zero => intro _; exact ⟨0, Nat.le_refl _, rfl, fun a h1 h2 _ => by omega⟩
  | succ m ih =>
    intro hm
    obtain ⟨c, h1, h2, h3⟩ := ih (by omega)
    have e : af w j (m + 1) = @ite _ (fx w (255 - m) j) (Classical.propDecidable _) (nI (255 - m), (af w j m).2 + 1) (af w j m) := rfl
    by_cases z : fx w (255 - m) j
    · rw [e, if_pos z]
      refine ⟨c + 1, by omega, by show (af w j m).2 + 1 = _; rw [h2, nIs], fun a a1 a2 _ => ⟨by omega, 255 - m, by omega, rfl⟩⟩
    · rw [e, if_neg z]
      refine ⟨c, by omega, h2, fun a a1 a2 hz => h3 a ?_ a2 hz⟩
      by_cases u : a = 255 - m
      · rw [u] at hz; exact absurd hz z
      · omega
/-- who is alone in a sum is fixed by it -/
theorem af_one {w : Wd} (hg : wgood w) {p : Nat} (hp : p < 8) : (∃ c, 1 ≤ c ∧ c ≤ 255 ∧ (af w (own w p) 255).2 = nI c) ∧ ∃ x, x ≤ 2 ^ p ∧ (af w (own w p) 255).1 = nI x := by
  obtain ⟨c, h1, h2, h3⟩ := af_spec w (own w p) 255 (Nat.le_refl _)
  have hb := pow_bd p hp
  have hf : fx w (2 ^ p) (own w p) := by
    show fxd (gh w) (gr (gh w) (qrow w (wq 0 (nI (2 ^ p)) 0))) (own w p)
    rw [← isl_pow p hp, row_one hg.1 hp]
    exact one_fx hg (own10 hg.1 hp)
  obtain ⟨a1, a2⟩ := h3 (2 ^ p) (by omega) hb.2 hf
  exact ⟨⟨c, a1, h1, h2⟩, a2⟩
/-! rows beyond the letters hold nothing -/
theorem mem_gro : ∀ (g : Gh) (x : Nat × (Nat → Int)), x ∈ g → ∃ i, i < g.length ∧ gro g i = x.2
  | y :: r, x, h => by
    rcases List.mem_cons.mp h with rfl | h
    · exact ⟨r.length, Nat.lt_succ_self _, gro_new⟩
    · obtain ⟨i, hi, e⟩ := mem_gro r x h
      exact ⟨i, Nat.lt_succ_of_lt hi, by rw [gro_old hi, e]⟩
theorem gr_beyond {m : Nat} : ∀ (g : Gh), gok g → (∀ x ∈ g, ∀ c, m ≤ c → c < 10 → x.2 c = 0) → ∀ (b : Nat → Int), (∀ c, m ≤ c → c < 10 → b c = 0) → ∀ c, m ≤ c → c < 10 → gr g b c = 0
  | [], _, _, b, hb, c, h1, h2 => by rw [gr_nil h2]; exact hb c h1 h2
  | x :: r, h, hx, b, hb, c, h1, h2 => by
    have ih := gr_beyond r h.1 (fun y hy => hx y (List.mem_cons_of_mem _ hy))
    have e := g_join h.1 x h.2.1 b c h2
    rw [ih b hb c h1 h2, ih x.2 (hx x List.mem_cons_self) c h1 h2] at e
    have e2 : gs r * gr (x :: r) b c = 0 := by rw [e]; omega
    rcases Int.mul_eq_zero.mp e2 with e3 | e3
    · exact absurd e3 (gs_ne r h.1)
    · exact e3
theorem pv_within {m : Nat} : ∀ (g : Gh), gok g → (∀ x ∈ g, ∀ c, m ≤ c → c < 10 → x.2 c = 0) → ∀ x ∈ g, x.1 < m
  | [], _, _, x, h => by cases h
  | y :: r, h, hx, x, hm => by
    rcases List.mem_cons.mp hm with rfl | hm
    · by_cases q : x.1 < m
      · exact q
      · exact absurd (gr_beyond r h.1 (fun y hy => hx y (List.mem_cons_of_mem _ hy)) x.2 (hx x List.mem_cons_self) x.1 (by omega) h.2.1) h.2.2.1
    · exact pv_within r h.1 (fun y hy => hx y (List.mem_cons_of_mem _ hy)) x hm
theorem w_rows {w : Wd} (hk : wok w) : ∀ x ∈ gh w, ∀ c, num w 0 ≤ c → c < 10 → x.2 c = 0 := fun x hx c h1 h2 => by
  obtain ⟨i, hi, e⟩ := mem_gro (gh w) x hx
  rw [← e]
  exact (hk.2.2.2.2.2.2.2.2 i hi).2.1 c h1 h2
theorem eb_beyond {m p : Nat} (hp : p < m) : ∀ c, m ≤ c → c < 10 → eb p c = 0 := fun c h1 _ => if_neg (by omega)
/-- fewer rows than letters -/
theorem rank_lt {w : Wd} (hg : wgood w) : (gh w).length < num w 0 := by
  have hk := hg.1
  have ok : gok (gh w) := hk.2.2.2.2.2.2.1
  have hw := w_rows hk
  have hn := hk.2.2.1
  have hlt : ∀ y ∈ (gh w).map (fun x => x.1), y < num w 0 := fun y hy => by
    obtain ⟨x, hx, e⟩ := List.mem_map.mp hy
    rw [← e]
    exact pv_within _ ok hw x hx
  by_cases ha : ∀ c, c < num w 0 → ∃ x ∈ gh w, c = x.1
  · exact absurd (fun c hc => by
      by_cases q : c < num w 0
      · obtain ⟨x, hx, e⟩ := ha c q
        rw [e]
        exact gr_piv (gh w) x hx _
      · exact gr_beyond (gh w) ok hw (eb 0) (eb_beyond (by omega)) c (by omega) hc) (hg.2.1 0 (by omega))
  · have ⟨c, hc⟩ : ∃ c, ¬ (c < num w 0 → ∃ x ∈ gh w, c = x.1) := Classical.not_forall.mp ha
    have hc1 : c < num w 0 := Classical.byContradiction fun q => hc fun h => absurd h q
    have hcn : ¬ ∃ x ∈ gh w, c = x.1 := fun q => hc fun _ => q
    have := nodup_le (num w 0) (c :: (gh w).map (fun x => x.1)) (by
      rw [List.nodup_cons]
      exact ⟨fun hm => by
        obtain ⟨x, hx, e⟩ := List.mem_map.mp hm
        exact hcn ⟨x, hx, e.symm⟩, gok_nodup _ ok⟩) (fun x hx => by
      rcases List.mem_cons.mp hx with rfl | hx
      · exact hc1
      · exact hlt x hx)
    rw [List.length_cons, List.length_map] at this
    omega
/-- ahead of its pivot a reduced row holds nothing -/
theorem gr_ahead : ∀ (g : Gh), gok g → ∀ x ∈ g, ∀ c, c < x.1 → gr g (eb x.1) c = 0
  | [], _, x, h, _, _ => by cases h
  | y :: r, h, x, hm, c, hc => by
    have c10 : c < 10 := by
      have := gok_lt (y :: r) h x hm
      omega
    have e := g_join h.1 y h.2.1 (eb x.1) c c10
    have z : gr r (eb x.1) c * gr r y.2 y.1 - gr r (eb x.1) y.1 * gr r y.2 c = 0 := by
      rcases List.mem_cons.mp hm with rfl | hm
      · have hn : ∀ u ∈ r, eb x.1 u.1 = 0 := fun u hu => if_neg fun q => by
          have h1 := gr_piv r u hu x.2
          rw [q] at h1
          exact h.2.2.1 h1
        rw [gr_free h.1 hn c10, show eb x.1 c = 0 from if_neg (by omega), h.2.2.2 c hc]
        omega
      · rw [gr_ahead r h.1 x hm c hc]
        by_cases q : y.1 < x.1
        · rw [gr_ahead r h.1 x hm y.1 q]; omega
        · rw [h.2.2.2 c (by omega)]; omega
    rw [z] at e
    rcases Int.mul_eq_zero.mp e with e3 | e3
    · exact absurd e3 (gs_ne r h.1)
    · exact e3
theorem tt_own' {g : Gh} {p : Nat} (hp : pvB g p = true) : tt g p p = gs g := by
  obtain ⟨x, hx, e⟩ := pvB_iff.mp hp
  unfold tt
  rw [if_pos rfl, e, gr_piv g x hx]
  omega
theorem tt_piv {g : Gh} {p k : Nat} (hk : pvB g k = true) (h : k ≠ p) : tt g p k = 0 := by
  obtain ⟨x, hx, e⟩ := pvB_iff.mp hk
  unfold tt
  rw [if_neg h, e, gr_piv g x hx]
  omega
theorem tt_ahead {g : Gh} (ok : gok g) {p k : Nat} (hp : pvB g p = true) (h : k < p) : tt g p k = 0 := by
  obtain ⟨x, hx, e⟩ := pvB_iff.mp hp
  unfold tt
  rw [if_neg (by omega)]
  have := gr_ahead g ok x hx k (by omega)
  rw [← e] at this
  rw [this]
  omega
theorem tt_beside {w : Wd} (hg : wgood w) {p : Nat} (hp : pvB (gh w) p = true) : p < num w 0 ∧ ∃ v, v < num w 0 ∧ p < v ∧ tt (gh w) p v ≠ 0 := by
  have ok : gok (gh w) := hg.1.2.2.2.2.2.2.1
  have hw := w_rows hg.1
  have hn := hg.1.2.2.1
  obtain ⟨x, hx, e⟩ := pvB_iff.mp hp
  have hpn : p < num w 0 := by rw [e]; exact pv_within _ ok hw x hx
  refine ⟨hpn, ?_⟩
  obtain ⟨q, h1, h2, _⟩ := fp_ex (hg.2.1 p (by omega))
  have hq : q < num w 0 := by
    by_cases u : q < num w 0
    · exact u
    · exact absurd (gr_beyond (gh w) ok hw (eb p) (eb_beyond hpn) q (by omega) h1) h2
  have hqp : q ≠ p := fun u => h2 (by rw [u]; have := gr_piv (gh w) x hx (eb p); rw [← e] at this; exact this)
  have ht : tt (gh w) p q ≠ 0 := fun u => h2 ((tt_ne hqp).mp u)
  refine ⟨q, hq, ?_, ht⟩
  by_cases u : p < q
  · exact u
  · exact absurd (tt_ahead ok hp (by omega)) ht
theorem tt_bd {w : Wd} (hg : wgood w) {p v : Nat} (hp : pvB (gh w) p = true) (hv : v < 10) : -228100000 ≤ tt (gh w) p v ∧ tt (gh w) p v ≤ 228100000 := by
  have hs := wok_sm hg.1 hg.2.1
  obtain ⟨x, hx, e⟩ := pvB_iff.mp hp
  have p10 : p < 10 := by rw [e]; exact gok_lt _ hs.1 x hx
  by_cases u : v = p
  · rw [u, tt_own' hp]; exact gs_bd hs
  · unfold tt
    rw [if_neg u]
    have := gl_bd hs p10 v hv
    omega
/-! fractions in least terms -/
theorem low_g {a b : Int} (hb : b ≠ 0) : (0 : Int) < (Int.gcd a b : Int) ∧ a.tdiv (Int.gcd a b) * (Int.gcd a b : Int) = a ∧ b.tdiv (Int.gcd a b) * (Int.gcd a b : Int) = b := by
  have h := (gcd_le_b (a := a) hb).1
  exact ⟨by omega, Int.tdiv_mul_cancel (Int.gcd_dvd_left ..), Int.tdiv_mul_cancel (Int.gcd_dvd_right ..)⟩
theorem lowN_0 {b : Int} : lowN 0 b = 0 := by
  unfold lowN
  rw [Int.zero_tdiv]
  split <;> rfl
theorem lowN_ne {a b : Int} (ha : a ≠ 0) (hb : b ≠ 0) : lowN a b ≠ 0 := by
  obtain ⟨h1, h2, h3⟩ := low_g (a := a) hb
  have : a.tdiv (Int.gcd a b) ≠ 0 := fun e => ha (by rw [← h2, e]; omega)
  unfold lowN
  split
  · omega
  · exact this
theorem lowD_pos {a b : Int} (hb : b ≠ 0) : 1 ≤ lowD a b := by
  obtain ⟨h1, h2, h3⟩ := low_g (a := a) hb
  unfold lowD
  split
  · next h =>
    by_cases u : 0 ≤ b.tdiv (Int.gcd a b)
    · have := Int.mul_nonneg u (show (0 : Int) ≤ (Int.gcd a b : Int) by omega)
      omega
    · omega
  · next h =>
    by_cases u : b.tdiv (Int.gcd a b) ≤ 0
    · have := Int.mul_nonneg (show 0 ≤ -(b.tdiv (Int.gcd a b)) by omega) (show (0 : Int) ≤ (Int.gcd a b : Int) by omega)
      rw [Int.neg_mul] at this
      omega
    · omega
theorem tdiv_bd (a : Int) (n : Nat) : (a.tdiv n).natAbs ≤ a.natAbs := by
  rw [Int.natAbs_tdiv]
  exact Nat.div_le_self _ _
theorem low_bd (a b : Int) : (lowN a b).natAbs ≤ a.natAbs ∧ (lowD a b).natAbs ≤ b.natAbs := by
  have h1 := tdiv_bd a (Int.gcd a b)
  have h2 := tdiv_bd b (Int.gcd a b)
  unfold lowN lowD
  constructor
  · split
    · rw [Int.natAbs_neg]; exact h1
    · exact h1
  · split
    · rw [Int.natAbs_neg]; exact h2
    · exact h2
theorem low_same {a : Int} (ha : a ≠ 0) : lowN a a = 1 ∧ lowD a a = 1 := by
  have h := low_eq (a := a) (b := a) (c := 1) (d := 1) ha (by omega) (by omega)
  exact ⟨h.1.trans (by decide +kernel), h.2.trans (by decide +kernel)⟩
/-- what reduced() says of a letter -/
theorem lp {w : Wd} (hg : wgood w) {p v : Nat} (hp : pvB (gh w) p = true) (hv : v < 10) : (lowP (tt (gh w) p v) (gs (gh w)) (nI 0) = (0 : Int64) ↔ tt (gh w) p v = 0) ∧ ¬ lowP (tt (gh w) p v) (gs (gh w)) (nI 1) < (1 : Int64) ∧ (v = p → lowP (tt (gh w) p v) (gs (gh w)) (nI 0) = (1 : Int64) ∧ lowP (tt (gh w) p v) (gs (gh w)) (nI 1) = (1 : Int64)) := by
  have hs := wok_sm hg.1 hg.2.1
  have g0 := gs_ne _ hs.1
  have b1 := tt_bd hg hp hv
  have b2 := gs_bd hs
  have b3 := low_bd (tt (gh w) p v) (gs (gh w))
  have e0 : lowP (tt (gh w) p v) (gs (gh w)) (nI 0) = J (lowN (tt (gh w) p v) (gs (gh w))) := if_pos (by decide)
  have e1 : lowP (tt (gh w) p v) (gs (gh w)) (nI 1) = J (lowD (tt (gh w) p v) (gs (gh w))) := if_neg (by decide)
  rw [e0, e1]
  refine ⟨?_, ?_, fun e => ?_⟩
  · rw [show (0 : Int64) = J 0 from rfl, J_eq (by omega) (by omega)]
    constructor
    · intro h
      by_cases u : tt (gh w) p v = 0
      · exact u
      · exact absurd h (lowN_ne u g0)
    · intro h; rw [h]; exact lowN_0
  · have := lowD_pos (a := tt (gh w) p v) g0
    rw [show (1 : Int64) = J 1 from rfl, J_lt (by omega) (by omega)]
    omega
  · rw [e, tt_own' hp, (low_same g0).1, (low_same g0).2]
    exact ⟨rfl, rfl⟩
/-! counting bits -/
def cnt (b : Nat → Bool) : Nat → Nat
  | 0 => 0
  | n + 1 => if b n = true then cnt b n + 1 else cnt b n
theorem cnt_ext {b b' : Nat → Bool} : ∀ n, (∀ k, k < n → b k = b' k) → cnt b n = cnt b' n
  | 0, _ => rfl
  | n + 1, h => by
    show (if b n = true then cnt b n + 1 else cnt b n) = (if b' n = true then cnt b' n + 1 else cnt b' n)
    rw [h n (by omega), cnt_ext n fun k hk => h k (by omega)]
theorem cn_cnt (g : Gh) : ∀ n, cn g n = cnt (pvB g) n
  | 0 => rfl
  | n + 1 => by
    show (if pvB g n = true then cn g n + 1 else cn g n) = (if pvB g n = true then cnt (pvB g) n + 1 else cnt (pvB g) n)
    rw [cn_cnt g n]
set_option maxRecDepth 100000 in
theorem bc_1024 : ∀ n, n < 1024 → f_J6_bitCount_0f7a4 (nI n) = nI (cnt (fun i => n.testBit i) 10) := by decide +kernel
set_option maxRecDepth 100000 in
theorem bc_sz : ∀ x, x < 256 → f_J6_bitCount_0f7a4 (nI x &&& (255 : Int32)) = nI (szOf (wq 0 (nI x) 0) 8) := by decide +kernel
theorem nI_back (x : Int32) : nI x.toBitVec.toNat = x := by
  apply Int32.toBitVec_inj.mp
  show BitVec.ofNat 32 _ = _
  rw [BitVec.ofNat_toNat, BitVec.setWidth_eq]
theorem bc_piv {g : Gh} (ok : gok g) : f_J6_bitCount_0f7a4 (pbits g) = nI g.length := by
  have hb := pbits_are g ok
  have tb : ∀ i, (pbits g).toBitVec.toNat.testBit i = true ↔ ∃ x ∈ g, i = x.1 := fun i => by
    by_cases h : i < 32
    · exact hb i h
    · constructor
      · intro q
        have q' : (pbits g).toBitVec.getLsbD i = true := q
        rw [BitVec.getLsbD_of_ge _ _ (by omega)] at q'
        cases q'
      · rintro ⟨x, hx, e⟩
        have := gok_lt g ok x hx
        omega
  have hlt : (pbits g).toBitVec.toNat < 2 ^ 10 := Nat.lt_pow_two_of_testBit _ fun i hi => by
    cases q : (pbits g).toBitVec.toNat.testBit i with
    | false => rfl
    | true =>
      obtain ⟨x, hx, e⟩ := (tb i).mp q
      have := gok_lt g ok x hx
      omega
  have h1 := bc_1024 _ hlt
  rw [nI_back] at h1
  rw [h1, ← cn_10 ok, cn_cnt]
  congr 1
  refine cnt_ext 10 fun k _ => ?_
  have a := tb k
  have b := pvB_iff (g := g) (k := k)
  cases q : (pbits g).toBitVec.toNat.testBit k <;> cases q2 : pvB g k
  · rfl
  · exact absurd (a.mpr (b.mp q2)) (by rw [q]; decide)
  · exact absurd (b.mpr (a.mp q)) (by rw [q2]; decide)
  · rfl
theorem bit_piv {g : Gh} (ok : gok g) {k : Nat} (hk : k < 32) : (isr (pbits g) (nI k) &&& 1) = 1 ↔ pvB g k = true :=
  (bits_test (pbits_are g ok) hk).trans pvB_iff.symm
/-- all sums are one of three -/
theorem ms_3 (w : Wd) (v : Nat) : ms w v = nI 0 ∨ ms w v = nI 1 ∨ ms w v = nI 2 := by
  show mt w _ = nI 0 ∨ mt w _ = nI 1 ∨ mt w _ = nI 2
  unfold mt
  by_cases h : zer (gh w) (qrow w (wq 0 (nI v) 0))
  · rw [if_pos h]; exact Or.inl rfl
  · rw [if_neg h]
    by_cases h2 : fixes (gh w) (qrow w (wq 0 (nI v) 0)) ∨ forb (gh w) (qrow w (wq 0 (nI v) 0)) (szOf (wq 0 (nI v) 0) 8) (num w 1) (num w 2)
    · rw [if_pos h2]; exact Or.inr (Or.inr rfl)
    · rw [if_neg h2]; exact Or.inr (Or.inl rfl)
theorem cm_sum (w : Wd) : ∀ n, cm w (nI 1) n + cm w (nI 2) n + cm w (nI 0) n = n
  | 0 => rfl
  | n + 1 => by
    have ih := cm_sum w n
    show (if ms w (n + 1) = nI 1 then cm w (nI 1) n + 1 else cm w (nI 1) n) + (if ms w (n + 1) = nI 2 then cm w (nI 2) n + 1 else cm w (nI 2) n) + (if ms w (n + 1) = nI 0 then cm w (nI 0) n + 1 else cm w (nI 0) n) = n + 1
    rcases ms_3 w (n + 1) with e | e | e
    · rw [e, if_neg (by decide), if_neg (by decide), if_pos rfl]; omega
    · rw [e, if_pos rfl, if_neg (by decide), if_neg (by decide)]; omega
    · rw [e, if_neg (by decide), if_pos rfl, if_neg (by decide)]; omega
/-- what has joined is spanned -/
theorem zer_join {g : Gh} {q : Nat} {a : Nat → Int} (ok : gok ((q, a) :: g)) : zer ((q, a) :: g) a := fun c hc => by
  have e := g_join ok.1 (q, a) ok.2.1 a c hc
  have e2 : gs g * gr ((q, a) :: g) a c = 0 := by
    rw [e]
    show gr g a c * gr g a q - gr g a q * gr g a c = 0
    rw [Int.mul_comm]
    omega
  rcases Int.mul_eq_zero.mp e2 with e3 | e3
  · exact absurd e3 (gs_ne g ok.1)
  · exact e3
