/-! the rows by their pivots -/
def cp (g : Gh) (n : Nat) : Nat → Nat
  | 0 => 0
  | m + 1 => if gpv g m < n then cp g n m + 1 else cp g n m
theorem cn_cons {x : Nat × (Nat → Int)} {r : Gh} (h : ¬ pvB r x.1 = true) : ∀ n, cn (x :: r) n = cn r n + (if x.1 < n then 1 else 0)
  | 0 => by rw [if_neg (by omega)]; rfl
  | n + 1 => by
    have ih := cn_cons (x := x) (r := r) h n
    have hb : pvB (x :: r) n = true ↔ (n = x.1 ∨ pvB r n = true) := by
      rw [pvB_iff, pvB_iff]
      constructor
      · rintro ⟨y, hy, e⟩
        rcases List.mem_cons.mp hy with rfl | hy
        · exact Or.inl e
        · exact Or.inr ⟨y, hy, e⟩
      · rintro (e | ⟨y, hy, e⟩)
        · exact ⟨x, List.mem_cons_self, e⟩
        · exact ⟨y, List.mem_cons_of_mem _ hy, e⟩
    show (if pvB (x :: r) n = true then cn (x :: r) n + 1 else cn (x :: r) n) = (if pvB r n = true then cn r n + 1 else cn r n) + _
    by_cases e : n = x.1
    · have e2 : ¬ pvB r n = true := by rw [e]; exact h
      rw [if_pos (hb.mpr (Or.inl e)), if_neg e2, ih, if_neg (by omega), if_pos (by omega)]
    · by_cases e2 : pvB r n = true
      · rw [if_pos (hb.mpr (Or.inr e2)), if_pos e2, ih]
        by_cases q : x.1 < n
        · rw [if_pos q, if_pos (by omega)]
        · rw [if_neg q, if_neg (by omega)]
      · rw [if_neg (fun q => (hb.mp q).elim e e2), if_neg e2, ih]
        by_cases q : x.1 < n
        · rw [if_pos q, if_pos (by omega)]
        · rw [if_neg q, if_neg (by omega)]
theorem cp_cons {x : Nat × (Nat → Int)} {r : Gh} (n : Nat) : ∀ m, m ≤ r.length → cp (x :: r) n m = cp r n m
  | 0, _ => rfl
  | m + 1, h => by
    show (if gpv (x :: r) m < n then cp (x :: r) n m + 1 else cp (x :: r) n m) = (if gpv r m < n then cp r n m + 1 else cp r n m)
    rw [gpv_old (by omega), cp_cons n m (by omega)]
theorem cp_cn : ∀ (g : Gh), gok g → ∀ n, cp g n g.length = cn g n
  | [], _, n => by
    have : ∀ n, cn [] n = 0 := fun n => by
      induction n with
      | zero => rfl
      | succ n ih => show (if pvB [] n = true then _ else _) = 0; rw [if_neg (show ¬ pvB [] n = true from fun q => by obtain ⟨y, hy, _⟩ := pvB_iff.mp q; cases hy), ih]
    rw [this]; rfl
  | x :: r, h, n => by
    have hn : ¬ pvB r x.1 = true := fun q => by
      obtain ⟨y, hy, e⟩ := pvB_iff.mp q
      have := gok_nodup (x :: r) h
      have h2 : (x.1 :: r.map (fun x => x.1)).Nodup := this
      exact (List.nodup_cons.mp h2).1 (e ▸ List.mem_map_of_mem hy)
    rw [cn_cons hn]
    show (if gpv (x :: r) r.length < n then cp (x :: r) n r.length + 1 else cp (x :: r) n r.length) = _
    rw [gpv_new, cp_cons n r.length (Nat.le_refl _), cp_cn r h.1 n]
    by_cases q : x.1 < n
    · rw [if_pos q, if_pos q]
    · rw [if_neg q, if_neg q]; omega
theorem cn_10 {g : Gh} (h : gok g) : cn g 10 = g.length := by
  rw [← cp_cn g h 10]
  have : ∀ m, m ≤ g.length → cp g 10 m = m := fun m => by
    induction m with
    | zero => intro _; rfl
    | succ m ih =>
      intro hm
      show (if gpv g m < 10 then cp g 10 m + 1 else cp g 10 m) = _
      rw [if_pos (gpv_lt h (by omega)), ih (by omega)]
  exact this _ (Nat.le_refl _)
theorem cn_ex (g : Gh) (i : Nat) : ∀ n, i < cn g n → ∃ p, p < n ∧ pvB g p = true ∧ cn g p = i
  | 0, h => absurd h (Nat.not_lt_zero _)
  | n + 1, h => by
    have h' : i < (if pvB g n = true then cn g n + 1 else cn g n) := h
    by_cases q : pvB g n = true
    · rw [if_pos q] at h'
      by_cases e : i < cn g n
      · obtain ⟨p, a, b⟩ := cn_ex g i n e; exact ⟨p, by omega, b⟩
      · exact ⟨n, by omega, q, by omega⟩
    · rw [if_neg q] at h'
      obtain ⟨p, a, b⟩ := cn_ex g i n h'; exact ⟨p, by omega, b⟩
theorem s_byPivots {S : Sg} {g : Gh} {i : Nat} (hg : gok g) (hl : g.length ≤ 10) (hR : RX 150 153 19 S g) (hi : i < g.length) : wp (f_X7_byPivots (nI i) S) (fun r => ∃ j, j < g.length ∧ r = nI j ∧ cn g (gpv g j) = i) := by
  unfold f_X7_byPivots
  refine wp_bsm (up (F := fun n k (_ : Unit) => L_X7_byPivots_2 (nI i) S n (nI k)) g.length (fun k _ => ∀ j, j < k → cn g (gpv g j) ≠ i) (fun z => (∃ j, j < g.length ∧ z = .inl (nI j) ∧ cn g (gpv g j) = i) ∨ (z = .inr () ∧ ∀ j, j < g.length → cn g (gpv g j) ≠ i)) ?_ ?_ 400 0 () (by omega) (by omega) (fun j h => by omega)) ?_ ?_
  · rintro n k _ hk hp ih
    rw [L_X7_byPivots_2, hR.1]
    refine wp_ifp (nI_lt hk (by omega)) ?_
    refine wp_bdm (up (F := fun n m (x : Int32) => L_X7_byPivots_15 (nI i) (nI k) S n x (nI m)) g.length (fun m x => x = nI (cp g (gpv g k) m)) (fun x => x = nI (cn g (gpv g k))) ?_ ?_ 400 0 0 (by omega) (by omega) rfl) ?_
    · rintro n m x hm hx ih2
      rw [L_X7_byPivots_15, hR.1]
      refine wp_ifp (nI_lt hm (by omega)) (wp_gd (inb_n (by omega) (by decide)) (wp_gd (inb_n (by omega) (by decide)) ?_))
      rw [ix_n (by omega), ix_n (by omega), (hR.2 m hm).1, (hR.2 k hk).1]
      have b1 := gpv_lt hg hm
      have b2 := gpv_lt hg hk
      show wp (L_X7_byPivots_15 (nI i) (nI k) S n (x + (if nI (gpv g m) < nI (gpv g k) then 1 else 0)) (nI m + 1)) _
      rw [nIs]
      refine ih2 _ ?_
      rw [hx]
      show _ = nI (if gpv g m < gpv g k then cp g (gpv g k) m + 1 else cp g (gpv g k) m)
      by_cases q : gpv g m < gpv g k
      · rw [if_pos (nI_lt q (by omega)), if_pos q]; exact nIs _
      · rw [if_neg (nI_nlt (by omega) (by omega)), if_neg q]; exact Int32.add_zero _
    · rintro n x hx
      rw [L_X7_byPivots_15, hR.1]
      exact wp_ifn (nI_nlt (Nat.le_refl _) (by omega)) (wp_some (by rw [hx, cp_cn g hg]))
    · rintro x rfl
      have c9 := cn_le g (gpv g k)
      have b2 := gpv_lt hg hk
      refine wp_if (fun q => ?_) (fun q => ?_)
      · exact wp_some (Or.inl ⟨k, hk, rfl, (nI_eq (by omega) (by omega)).mp q⟩)
      · show wp (L_X7_byPivots_2 (nI i) S n (nI k + 1)) _
        rw [nIs]
        refine ih () fun j hj => ?_
        by_cases e : j = k
        · rw [e]; exact fun u => q (by rw [u])
        · exact hp j (by omega)
  · rintro n _ hp
    rw [L_X7_byPivots_2, hR.1]
    exact wp_ifn (nI_nlt (Nat.le_refl _) (by omega)) (wp_some (Or.inr ⟨rfl, hp⟩))
  · rintro r hz
    rcases hz with ⟨j, a, b, c⟩ | ⟨e, _⟩
    · cases b; exact wp_some ⟨j, a, rfl, c⟩
    · cases e
  · rintro r hz
    rcases hz with ⟨j, a, b, c⟩ | ⟨_, h⟩
    · cases b
    · obtain ⟨p, _, hp, hc⟩ := cn_ex g i 10 (by rw [cn_10 hg]; exact hi)
      obtain ⟨j, hj, ej⟩ := pv_gpv hp
      exact absurd (by rw [ej]; exact hc) (h j hj)
theorem p_reduced {S : Sg} {G : Gst} (ok : GO G) (hC : CI S G) (hM : MI S G) (p q s : Int32) : Same (f_X6_reduced p q s S) (f_X7_reduced p q s) := by
  have hg := ok.1
  have hk := hg.1
  have hl := wg_l10 hg
  have hv := hk.2.2.1
  have hs := wok_sm hk hg.2.1
  have ei : f_X7_isIn s 0 (1 : Int32) = f_X6_isWithin s (2 : Int32) := isIn_w s (n := 2) (by decide)
  unfold f_X6_reduced
  rw [hC.1.2.2.1.2.2.2, has_w hC.1 hv.2]
  rcases isW_cases p (n := (gh G.1).length) (by omega) with ⟨i, hi, rfl, e⟩ | ⟨_, e⟩
  · rw [e, if_neg (by decide)]
    rcases isW_cases q (n := num G.1 0) (by omega) with ⟨v, hv', rfl, e'⟩ | ⟨_, e'⟩
    · rw [e', if_neg (by decide)]
      rcases isW_cases s (n := 2) (by decide) with ⟨l, hl2, rfl, e3⟩ | ⟨ne, e3⟩
      · have e3' : ¬ f_X6_isWithin (nI l) (2 : Int32) = 0 := by rw [show f_X6_isWithin (nI l) (2 : Int32) = 1 from e3]; decide
        rw [if_neg e3']
        obtain ⟨pp, hp10, hpv, hcn⟩ := cn_ex (gh G.1) i 10 (by rw [cn_10 hs.1]; exact hi)
        refine scr (fun r => r = lowP (tt (gh G.1) pp v) (gs (gh G.1)) (nI l)) ok hC hM ?_ (fun S' h => ?_) fun a b ha hb => hb.trans ha.symm
        · rw [s_reducedPart (os := 1 + 17) hs hC.1.2.2.2.2 (by omega) (by omega) hp10 hpv hcn]
          exact wp_bds rfl (wp_some ⟨rfl, Fr.rf⟩)
        · unfold f_X7_reduced
          refine wp_ltq 0 ((if_neg (by rw [row_w h.1 hl, e]; decide)).trans ((if_neg (by rw [in_w h.1 hk, e']; decide)).trans (if_neg (by rw [ei]; exact e3')))) (wp_ifp rfl (wp_bdm (s_builds h.1 hs (wok_rbd hk)) fun T ⟨f, hR, _⟩ => ?_))
          refine wp_bdm (s_byPivots hs.1 hl hR hi) ?_
          rintro r ⟨j, hj, rfl, hc⟩
          have ep : gpv (gh G.1) j = pp := cn_u (gpv_pv hj) hpv (hc.trans hcn.symm)
          obtain ⟨z, hz, ra⟩ := (hR.2 j hj).2
          have zb := hz.bdd hs hj
          have z1 := zb v (by omega)
          have z2 := zb pp hp10
          rw [ten, nI_mul, nI_add, show inb (nI (10 * j + v)) 110 = true from inb_n (by omega) (by decide)]
          refine wp_gd rfl (wp_gd (inb_n (by omega) (by decide)) ?_)
          rw [ix_n (j := j) (by omega), (hR.2 j hj).1, ep, nI_add]
          refine wp_gd (inb_n (by omega) (by decide)) ?_
          rw [ix_n (by omega), ix_n (by omega), ra v (by omega), ra pp hp10]
          rw [ep] at hz
          refine wp_bds (s_partM ⟨by omega, by omega⟩ ⟨by omega, by omega⟩ hz.1) (wp_some ⟨?_, f.mono ls_m lj_m⟩)
          exact lowP_eq (by have := hz.1; omega) (gs_ne _ hs.1) (by rw [Int.mul_comm, hz.2.2 v (by omega), Int.mul_comm]) (nI l)
      · rw [if_pos (show f_X6_isWithin s (2 : Int32) = 0 from e3)]
        exact refJ r2 ok hC hM fun S' h => by
          unfold f_X7_reduced
          rw [if_neg (by rw [row_w h.1 hl, e]; decide), if_neg (by rw [in_w h.1 hk, e']; decide), if_pos (ei.trans e3)]
          rfl
    · rw [e', if_pos rfl]
      exact refJ r1 ok hC hM fun S' h => by
        unfold f_X7_reduced
        rw [if_neg (by rw [row_w h.1 hl, e]; decide), if_pos (by rw [in_w h.1 hk, e'])]
        rfl
  · rw [e, if_pos rfl]
    exact refJ r1 ok hC hM fun S' h => by
      unfold f_X7_reduced
      rw [if_pos (by rw [row_w h.1 hl, e])]
      rfl
