/-! the rows by their pivots -/
def cp (g : Gh) (n : Nat) : Nat → Nat
  | 0 => 0
  | m + 1 => if gpv g m < n then cp g n m + 1 else cp g n m
theorem cn_cons {x : Nat × (Nat → Int)} {r : Gh} (h : ¬ pvB r x.1 = true) : ∀ n, cn (x :: r) n = cn r n + (if x.1 < n then 1 else 0)
  | 0 => by rw [if_neg (by omega)]; rfl
  | n + 1 => by
    have ih := cn_cons (x := x) (r := r) h n
    have hb : pvB (x :: r) n = true ↔ (n = x.1 ∨ pvB r n = true) := by
      rw [pvB_iff, pvB_iff]
      constructor
      · rintro ⟨y, hy, e⟩
        rcases List.mem_cons.mp hy with rfl | hy
        · exact Or.inl e
        · exact Or.inr ⟨y, hy, e⟩
      · rintro (e | ⟨y, hy, e⟩)
        · exact ⟨x, List.mem_cons_self, e⟩
        · exact ⟨y, List.mem_cons_of_mem _ hy, e⟩
    show (if pvB (x :: r) n = true then cn (x :: r) n + 1 else cn (x :: r) n) = (if pvB r n = true then cn r n + 1 else cn r n) + _
    by_cases e : n = x.1
    · have e2 : ¬ pvB r n = true := by rw [e]; exact h
      rw [if_pos (hb.mpr (Or.inl e)), if_neg e2, ih, if_neg (by omega), if_pos (by omega)]
    · by_cases e2 : pvB r n = true
      · rw [if_pos (hb.mpr (Or.inr e2)), if_pos e2, ih]
        by_cases q : x.1 < n
        · rw [if_pos q, if_pos (by omega)]
        · rw [if_neg q, if_neg (by omega)]
      · rw [if_neg (fun q => (hb.mp q).elim e e2), if_neg e2, ih]
        by_cases q : x.1 < n
        · rw [if_pos q, if_pos (by omega)]
        · rw [if_neg q, if_neg (by omega)]
theorem cp_cons {x : Nat × (Nat → Int)} {r : Gh} (n : Nat) : ∀ m, m ≤ r.length → cp (x :: r) n m = cp r n m
  | 0, _ => rfl
  | m + 1, h => by
    show (if gpv (x :: r) m < n then cp (x :: r) n m + 1 else cp (x :: r) n m) = (if gpv r m < n then cp r n m + 1 else cp r n m)
    rw [gpv_old (by omega), cp_cons n m (by omega)]
theorem cp_cn : ∀ (g : Gh), gok g → ∀ n, cp g n g.length = cn g n
  | [], _, n => by
    have : ∀ n, cn [] n = 0 := fun n => by
      induction n with
      | zero => rfl
      | succ n ih => show (if pvB [] n = true then _ else _) = 0; rw [if_neg (show ¬ pvB [] n = true from fun q => by obtain ⟨y, hy, _⟩ := pvB_iff.mp q; cases hy), ih]
    rw [this]; rfl
  | x :: r, h, n => by
    have hn : ¬ pvB r x.1 = true := fun q => by
      obtain ⟨y, hy, e⟩ := pvB_iff.mp q
      have := gok_nodup (x :: r) h
      have h2 : (x.1 :: r.map (fun x => x.1)).Nodup := this
      exact (List.nodup_cons.mp h2).1 (e ▸ List.mem_map_of_mem hy)
    rw [cn_cons hn]
    show (if gpv (x :: r) r.length < n then cp (x :: r) n r.length + 1 else cp (x :: r) n r.length) = _
    rw [gpv_new, cp_cons n r.length (Nat.le_refl _), cp_cn r h.1 n]
    by_cases q : x.1 < n
    · rw [if_pos q, if_pos q]
    · rw [if_neg q, if_neg q]; omega
theorem cn_10 {g : Gh} (h : gok g) : cn g 10 = g.length := by
  rw [← cp_cn g h 10]
  have : ∀ m, m ≤ g.length → cp g 10 m = m := fun m => by
    induction m with
    | zero => intro _; rfl
    | succ m ih =>
      intro hm
      show (if gpv g m < 10 then cp g 10 m + 1 else cp g 10 m) = _
      rw [if_pos (gpv_lt h (by omega)), ih (by omega)]
  exact this _ (Nat.le_refl _)
theorem cn_ex (g : Gh) (i : Nat) : ∀ n, i < cn g n → ∃ p, p < n ∧ pvB g p = true ∧ cn g p = i
  | 0, h => absurd h (Nat.not_lt_zero _)
  | n + 1, h => by
    have h' : i < (if pvB g n = true then cn g n + 1 else cn g n) := h
    by_cases q : pvB g n = true
    · rw [if_pos q] at h'
      by_cases e : i < cn g n
      · obtain ⟨p, a, b⟩ := cn_ex g i n e; exact ⟨p, by omega, b⟩
      · exact ⟨n, by omega, q, by omega⟩
    · rw [if_neg q] at h'
      obtain ⟨p, a, b⟩ := cn_ex g i n h'; exact ⟨p, by omega, b⟩
