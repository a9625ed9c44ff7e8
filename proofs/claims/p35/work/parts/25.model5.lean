theorem tt_ne {g : Gh} {p k : Nat} (h : k ≠ p) : tt g p k = 0 ↔ gr g (eb p) k = 0 := by
  unfold tt
  rw [if_neg h]
  omega
theorem pv_gpv {g : Gh} {v : Nat} (h : pvB g v = true) : ∃ i, i < g.length ∧ gpv g i = v := by
  obtain ⟨x, hx, e⟩ := pvB_iff.mp h
  obtain ⟨i, hi, e2⟩ := mem_gpv g x hx
  exact ⟨i, hi, e2.trans e.symm⟩
theorem gpv_pv {g : Gh} {i : Nat} (hi : i < g.length) : pvB g (gpv g i) = true := by
  obtain ⟨x, hx, e⟩ := gpv_mem g i hi
  exact pvB_iff.mpr ⟨x, hx, e⟩
