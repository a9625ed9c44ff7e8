/-! the law: what holds at its entry -/
theorem hts_all {s : State} {args : Array Value} (h : ∀ w ∈ lw_tbl, w.before args s = true) : ∀ w ∈ zz_all, w.before args s = true := fun w hw => h w (List.mem_filter.mp hw).1
theorem arr_is {s : State} {cA : ClassId} {k : Class} {comp : ClassId} {t : FieldType} (h2 : s.vm.classes[cA]? = some k) (h3 : k.kind = .array comp t) : ArrOfT s cA t := fun n z => ⟨fun q hq => (by cases hq), k, h2, comp, h3⟩
theorem zz_start {s : State} {args : Array Value} (h : ∀ w ∈ lw_tbl, w.before args s = true) : ∃ G, zz_K G s := by
  have hts := hts_all h
  have hc : ∀ ci : Nat, ∃ z : ClassId × (Nat → Nat), ∀ q : vw_C, classes[ci]? = some q → u_Kn s q.1 q.2.1 q.2.2 z.1 z.2 := by
    intro ci
    match ci with
    | 0 => obtain ⟨x, y, g⟩ := u_known (n := 3) hts (cls_in 0 _ rfl) (hts _ wd_121); exact ⟨(x, y), fun q hq => by cases hq; exact g⟩
    | 1 => obtain ⟨x, y, g⟩ := u_known (n := 2) hts (cls_in 1 _ rfl) (hts _ wd_137); exact ⟨(x, y), fun q hq => by cases hq; exact g⟩
    | 2 => obtain ⟨x, y, g⟩ := u_known (n := 1) hts (cls_in 2 _ rfl) (hts _ wd_110); exact ⟨(x, y), fun q hq => by cases hq; exact g⟩
    | 3 => obtain ⟨x, y, g⟩ := u_known (n := 3) hts (cls_in 3 _ rfl) (hts _ wd_39); exact ⟨(x, y), fun q hq => by cases hq; exact g⟩
    | 4 => obtain ⟨x, y, g⟩ := u_known (n := 14) hts (cls_in 4 _ rfl) (hts _ wd_31); exact ⟨(x, y), fun q hq => by cases hq; exact g⟩
    | 5 => obtain ⟨x, y, g⟩ := u_known (n := 9) hts (cls_in 5 _ rfl) (hts _ wd_23); exact ⟨(x, y), fun q hq => by cases hq; exact g⟩
    | ci + 6 => exact ⟨(0, fun _ => 0), fun q hq => by cases hq⟩
  obtain ⟨f, hf⟩ := Classical.skolem.mp hc
  obtain ⟨c1, k1, m1, a1, a2, a3⟩ := Cond.arrayClass_spec (h _ (List.mem_of_getElem? (i := 57) (show lw_tbl[57]? = some (Cond.arrayClass .int) by decide +kernel)))
  obtain ⟨c2, k2, m2, b1, b2, b3⟩ := Cond.arrayClass_spec (h _ (List.mem_of_getElem? (i := 58) (show lw_tbl[58]? = some (Cond.arrayClass .long) by decide +kernel)))
  obtain ⟨m3, c3, k3, _, _, d3, d4, d5⟩ := arrayOverA_spec (h _ (List.mem_of_getElem? (i := 37) (show lw_tbl[37]? = some (Cond.arrayOver (.array .int)) by decide +kernel)))
  obtain ⟨m4, c4, k4, _, _, e3, e4, e5⟩ := arrayOverA_spec (h _ (List.mem_of_getElem? (i := 45) (show lw_tbl[45]? = some (Cond.arrayOver (.array .long)) by decide +kernel)))
  refine ⟨((fun ci => (f ci).1, fun ci => (f ci).2), c1, c2, c3, c4), ⟨fun ci q hq => hf ci q hq, fun k q hq => ?_⟩, fun q hq => va_Nw.of rfl (h _ ?_)⟩
  · match k, hq with
    | 0, hq => cases hq; exact ⟨arr_is a2 a3, a1⟩
    | 1, hq => cases hq; exact ⟨arr_is b2 b3, b1⟩
    | 2, hq => cases hq; exact ⟨arr_is d3 d4, d5⟩
    | 3, hq => cases hq; exact ⟨arr_is e3 e4, e5⟩
    | k + 4, hq => cases hq
  · have : ∀ q ∈ zz_nest, Cond.methodLinkNest q.1 q.2.1 q.2.2.1 q.2.2.2 ∈ lw_tbl := by decide +kernel
    exact this q hq
theorem zz_AOAs {s : State} {args : Array Value} (h : ∀ w ∈ lw_tbl, w.before args s = true) : zz_AOA .int s ∧ zz_AOA .long s := ⟨h _ (List.mem_of_getElem? (i := 37) (show lw_tbl[37]? = some (Cond.arrayOver (.array .int)) by decide +kernel)), h _ (List.mem_of_getElem? (i := 45) (show lw_tbl[45]? = some (Cond.arrayOver (.array .long)) by decide +kernel))⟩
theorem and31 (a : Int32) : ∃ j : Nat, j < 32 ∧ a &&& 31 = nI j := by
  refine ⟨(a &&& 31).toBitVec.toNat, ?_, ?_⟩
  · rw [Int32.toBitVec_and, BitVec.toNat_and]
    exact Nat.lt_of_le_of_lt Nat.and_le_right (by decide)
  · apply Int32.toBitVec_inj.mp
    show _ = BitVec.ofNat 32 _
    rw [BitVec.ofNat_toNat, BitVec.setWidth_eq]
section ZLW
variable {p : Program} {l : Launch} {e : Env} {R : Room} {s : State} {m : MethodId} {args : Array Value} {below : List Frame} {meth : Method} {c : Code} {cells slots : Nat} {Q : State → Prop} {nL : Nat} {G : zz_G} {L : Ly} {S : Sg} {pc : Nat} {lv : List (Nat × Value)} {st : List Value} {cc : ByteArray} {y : MethodName} {ret : Option FieldType} {bs Ls : Nat} {xs : Nat → Int32}
theorem x_sld (C : CX p G s m args meth c cc y nL ret) (hX : va_X bs Ls xs s s.heap) (hbl : bs < s.heap.size) {i : Int32} {j : Nat} (hi : i = nI j) (hj : j < Ls ∧ Ls ≤ 2560) (d : decode cc pc = .ok (.iaload, 1)) (kk : X p l e R s m args below meth c cells slots Q nL G L s.heap.size S (pc + 1) lv (.int (xs j) :: st)) : X p l e R s m args below meth c cells slots Q nL G L s.heap.size S pc lv (.int i :: .ref bs :: st) := by
  subst hi
  intro H locs ls h1 h2 h3
  refine va_sld C.1 C.2.1 hX hbl (show ¬ (s.heap.size ≤ bs) by omega) h2 (inb_vp (inb_n hj.1 (by omega))) d ?_
  have := kk H locs ls h1 h2 h3
  rw [show (nI j).toNatClampNeg = j from nI_clamp (by omega)]
  exact this
theorem x_slen (C : CX p G s m args meth c cc y nL ret) (hX : va_X bs Ls xs s s.heap) (hbl : bs < s.heap.size) (d : decode cc pc = .ok (.arraylength, 1)) (kk : X p l e R s m args below meth c cells slots Q nL G L s.heap.size S (pc + 1) lv (.int (Int32.ofNat Ls) :: st)) : X p l e R s m args below meth c cells slots Q nL G L s.heap.size S pc lv (.ref bs :: st) := by
  intro H locs ls h1 h2 h3
  exact va_slen C.1 C.2.1 hX hbl (show ¬ (s.heap.size ≤ bs) by omega) h2 d (kk H locs ls h1 h2 h3)
end ZLW
