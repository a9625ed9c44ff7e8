theorem nm1 (k : Nat) : nI (k + 1) + (-1 : Int32) = nI k := by
  rw [← nIs, Int32.add_assoc, show (1 : Int32) + (-1) = 0 by decide, Int32.add_zero]
/-- a sum fixes p -/
def fx (w : Wd) (v p : Nat) : Prop := fxd (gh w) (gr (gh w) (qrow w (wq 0 (nI v) 0))) p
noncomputable def af (w : Wd) (p : Nat) : Nat → Int32 × Int32
  | 0 => (-9, 0)
  | m + 1 => @ite _ (fx w (255 - m) p) (Classical.propDecidable _) (nI (255 - m), (af w p m).2 + 1) (af w p m)
