-- the words that every contract carries
theorem zz_good {x : Cond} {big : List Cond} (hx : x ∈ zz_all) (hb : ∀ w ∈ zz_all, w ∈ big) : GoodIn big (x :: zz_all) := by
  intro w hw
  rcases List.mem_cons.mp hw with rfl | h
  · exact ⟨hb _ hx, good_of_word (List.mem_filter.mp hx).2⟩
  · exact ⟨hb _ h, good_of_word (List.mem_filter.mp h).2⟩
-- numbers of the classes, of the array classes of int, long, int[], long[]
abbrev zz_G : Type := va_G × ClassId × ClassId × ClassId × ClassId
def zz_tys (G : zz_G) : List (ClassId × FieldType) := [(G.2.1, .int), (G.2.2.1, .long), (G.2.2.2.1, .array .int), (G.2.2.2.2, .array .long)]
def zz_K (G : zz_G) (U : State) : Prop := va_K G.1 classes (zz_tys G) U ∧ ∀ q ∈ zz_nest, va_Nw (.methodLinkNest q.1 q.2.1 q.2.2.1 q.2.2.2) U
theorem zz_K.warm {G : zz_G} {s U : State} (hW : s.WarmedH U.vm) (h : zz_K G s) : zz_K G U := ⟨va_K.moved hW.alike h.1, fun q hq => va_Nw.warmM hW (h.2 q hq)⟩
theorem zz_K.same {G : zz_G} {s U : State} (e : s.vm = U.vm) (h : zz_K G s) : zz_K G U := ⟨va_K.moved (by rw [e]; exact Vm.Alike.refl _) h.1, fun q hq => va_Nw.same rfl e (h.2 q hq)⟩
-- memory: ints and longs by offset and place
abbrev Sg : Type := (Nat → Nat → Int32) × (Nat → Nat → Int64)
abbrev Sh : Type := Nat × Nat × List Nat
-- a layout: how many cells from the base on, and the shape at each offset
abbrev Ly : Type := Nat × (Nat → Option Sh)
def setI (S : Sg) (o k : Nat) (v : Int32) : Sg := (fun o' k' => if o' = o ∧ k' = k then v else S.1 o' k', S.2)
def setJ (S : Sg) (o k : Nat) (v : Int64) : Sg := (S.1, fun o' k' => if o' = o ∧ k' = k then v else S.2 o' k')
def fillI (S : Sg) (o : Nat) (f : Nat → Int32) : Sg := (fun o' => if o' = o then f else S.1 o', S.2)
def fillJ (S : Sg) (o : Nat) (f : Nat → Int64) : Sg := (S.1, fun o' => if o' = o then f else S.2 o')
theorem setI_o {S : Sg} {o k o' : Nat} {v : Int32} (h : o' ≠ o) : (setI S o k v).1 o' = S.1 o' ∧ (setI S o k v).2 o' = S.2 o' := by
  refine ⟨funext fun j => ?_, rfl⟩
  show (if o' = o ∧ j = k then v else S.1 o' j) = _
  rw [if_neg (fun q => h q.1)]
theorem setJ_o {S : Sg} {o k o' : Nat} {v : Int64} (h : o' ≠ o) : (setJ S o k v).1 o' = S.1 o' ∧ (setJ S o k v).2 o' = S.2 o' := by
  refine ⟨rfl, funext fun j => ?_⟩
  show (if o' = o ∧ j = k then v else S.2 o' j) = _
  rw [if_neg (fun q => h q.1)]
theorem fillI_o {S : Sg} {o o' : Nat} {f : Nat → Int32} (h : o' ≠ o) : (fillI S o f).1 o' = S.1 o' ∧ (fillI S o f).2 o' = S.2 o' := ⟨if_neg h, rfl⟩
theorem fillJ_o {S : Sg} {o o' : Nat} {f : Nat → Int64} (h : o' ≠ o) : (fillJ S o f).1 o' = S.1 o' ∧ (fillJ S o f).2 o' = S.2 o' := ⟨rfl, if_neg h⟩
-- a field by its kind: 0 an int, 1 a long, 2 null, r + 3 the object at r
def fldv (b : Nat) (S : Sg) (o k : Nat) : Nat → Value
  | 0 => .int (S.1 o k)
  | 1 => .long (S.2 o k)
  | 2 => .null
  | r + 3 => .ref (b + r)
def obV (b : Nat) (S : Sg) (o : Nat) (ks : List Nat) : Nat → Value := fun k => fldv b S o k (ks.getD k 2)
def atE (G : zz_G) (b : Nat) (S : Sg) (H : Heap) (o : Nat) : Sh → Prop
  | (0, ci, ks) => ∃ r : vw_C, classes[ci]? = some r ∧ t_OB (b + o) (G.1.1 ci) r.2.2 (G.1.2 ci) H (obV b S o ks)
  | (1, n, _) => H[b + o]? = some (arrV G.2.1 n (fun j => .int (S.1 o j)))
  | (2, n, _) => H[b + o]? = some (arrV G.2.2.1 n (fun j => .long (S.2 o j)))
  | (3, n, ks) => H[b + o]? = some (arrV G.2.2.2.1 n (fun j => .ref (b + (ks.headD 0 + j))))
  | (_, n, ks) => H[b + o]? = some (arrV G.2.2.2.2 n (fun j => .ref (b + (ks.headD 0 + j))))
def HM (G : zz_G) (L : Ly) (b : Nat) (S : Sg) (H : Heap) : Prop := H.size = b + L.1 ∧ ∀ (o : Nat) (sh : Sh), L.2 o = some sh → atE G b S H o sh
theorem atE.kept {G : zz_G} {b o : Nat} {S S' : Sg} {H H' : Heap} {sh : Sh} (h : atE G b S H o sh) (hH : H'[b + o]? = H[b + o]?) (hS : S'.1 o = S.1 o ∧ S'.2 o = S.2 o) : atE G b S' H' o sh := by
  obtain ⟨t, n, ks⟩ := sh
  have e : obV b S' o ks = obV b S o ks := by
    funext k
    unfold obV
    match ks.getD k 2 with
    | 0 => show Value.int (S'.1 o k) = Value.int (S.1 o k); rw [hS.1]
    | 1 => show Value.long (S'.2 o k) = Value.long (S.2 o k); rw [hS.2]
    | 2 => rfl
    | r + 3 => rfl
  match t, h with
  | 0, h =>
    obtain ⟨r, h1, h2⟩ := h
    refine ⟨r, h1, ?_⟩
    rw [e]
    exact h2.kept hH
  | 1, h => show _ = _; rw [hH, hS.1]; exact h
  | 2, h => show _ = _; rw [hH, hS.2]; exact h
  | 3, h => show _ = _; rw [hH]; exact h
  | t + 4, h => show _ = _; rw [hH]; exact h
theorem HM.put {G : zz_G} {L : Ly} {b o : Nat} {S S' : Sg} {H H' : Heap} {sh : Sh} (h : HM G L b S H) (hL : L.2 o = some sh) (hn : atE G b S' H' o sh) (hz : H'.size = H.size) (hH : ∀ q : Nat, q ≠ b + o → H'[q]? = H[q]?) (hS : ∀ o' : Nat, o' ≠ o → S'.1 o' = S.1 o' ∧ S'.2 o' = S.2 o') : HM G L b S' H' := by
  refine ⟨hz.trans h.1, fun o' sh' hL' => ?_⟩
  by_cases e : o' = o
  · subst e
    cases hL.symm.trans hL'
    exact hn
  · exact (h.2 o' sh' hL').kept (hH _ (by omega)) (hS o' e)
-- peeling what a function's text says
def lt {α β : Sort _} (x : α) (f : α → β) : β := f x
def lt2 {α β γ : Type _} (p : α × β) (f : α → β → γ) : γ := f p.1 p.2
def gd {α : Type _} (c : Bool) (a : Option α) : Option α := match c with
  | true => a
  | false => none
def bd {α β : Type _} (x : Option α) (f : α → Option β) : Option β := match x with
  | some a => f a
  | none => none
def bd2 {α β γ : Type _} (x : Option (α × β)) (f : α → β → Option γ) : Option γ := match x with
  | some a => f a.1 a.2
  | none => none
theorem of_lt {α β : Sort _} {x : α} {f : α → β} {y : β} (h : lt x f = y) : ∃ v, v = x ∧ f v = y := ⟨x, rfl, h⟩
theorem of_lt2 {α β γ : Type _} {p : α × β} {f : α → β → γ} {y : γ} (h : lt2 p f = y) : ∃ u v, p = (u, v) ∧ f u v = y := ⟨p.1, p.2, rfl, h⟩
theorem of_gd {α : Type _} {c : Bool} {a : Option α} {y : α} (h : gd c a = some y) : c = true ∧ a = some y := by
  cases c with
  | true => exact ⟨rfl, h⟩
  | false => cases h
theorem of_bd {α β : Type _} {x : Option α} {f : α → Option β} {y : β} (h : bd x f = some y) : ∃ v, x = some v ∧ f v = some y := by
  cases x with
  | none => cases h
  | some a => exact ⟨a, rfl, h⟩
theorem of_bd2 {α β γ : Type _} {x : Option (α × β)} {f : α → β → Option γ} {y : γ} (h : bd2 x f = some y) : ∃ u v, x = some (u, v) ∧ f u v = some y := by
  cases x with
  | none => cases h
  | some a => exact ⟨a.1, a.2, rfl, h⟩
theorem of_s1 {α : Type _} {x y : α} (h : some x = some y) : x = y := Option.some.inj h
theorem of_p {α β : Type _} {x y : α} {u v : β} (h : (x, u) = (y, v)) : x = y ∧ u = v := ⟨congrArg Prod.fst h, congrArg Prod.snd h⟩
theorem of_sp {α β : Type _} {x y : α} {u v : β} (h : some (x, u) = some (y, v)) : x = y ∧ u = v := of_p (Option.some.inj h)
def inb (i : Int32) (n : Nat) : Bool := decide (¬ (i < 0 ∨ n ≤ i.toNatClampNeg))
def nz (y : Int32) : Bool := decide (¬ y = 0)
def nzJ (y : Int64) : Bool := decide (¬ y = 0)
def isb (y : Int32) : Bool := decide (y = 0 ∨ y = 1)
def inn (y : Int32) : Bool := decide (¬ y < 0)
theorem inb_vp {i : Int32} {n : Nat} (h : inb i n = true) : vp_in i n := (of_decide_eq_true h : ¬ (i < 0 ∨ n ≤ i.toNatClampNeg))
def irem (x y : Int32) : Int32 := x - x / y * y
def jrem (x y : Int64) : Int64 := x - x / y * y
def isl (x y : Int32) : Int32 := x <<< (y &&& 31)
def isr (x y : Int32) : Int32 := x >>> (y &&& 31)
def iusr (x y : Int32) : Int32 := (x.toUInt32 >>> (y.toUInt32 &&& Int32.toUInt32 31)).toInt32
def ix (i : Int32) : Nat := i.toNatClampNeg
def cpI (S : Sg) (a : Nat) (sp : Int32) (d : Nat) (dp n : Int32) : Sg := fillI S d (va_cpy (S.1 a) (S.1 d) (ix sp) (ix dp) (ix n))
def cpJ (S : Sg) (a : Nat) (sp : Int32) (d : Nat) (dp n : Int32) : Sg := fillJ S d (va_cpy (S.2 a) (S.2 d) (ix sp) (ix dp) (ix n))
def cpok (sp dp n : Int32) (n0 n1 : Nat) : Bool := decide (¬ sp < 0 ∧ ¬ dp < 0 ∧ ¬ n < 0 ∧ ix sp + ix n ≤ n0 ∧ ix dp + ix n ≤ n1)
-- the judgement: from pc, with these locals, this stack and this memory, to the end
def CX (p : Program) (G : zz_G) (s : State) (m : MethodId) (args : Array Value) (meth : Method) (c : Code) (cc : ByteArray) (y : MethodName) (nL : Nat) (ret : Option FieldType) : Prop :=
  p.tables.exec = Jvm.exec ∧ c.code = cc ∧ c.maxLocals = nL ∧ s.vm.findClass y.cls = some m.cls ∧ (∀ w ∈ zz_all, w.before args s = true) ∧ zz_K G s ∧ meth.locks = false ∧ meth.sig.returnType = ret ∧ meth.name = y.name
def X (p : Program) (l : Launch) (e : Env) (R : Room) (s : State) (m : MethodId) (args : Array Value) (below : List Frame) (meth : Method) (c : Code) (cells slots : Nat) (Q : State → Prop) (nL : Nat) (G : zz_G) (L : Ly) (b : Nat) (S : Sg) (pc : Nat) (lv : List (Nat × Value)) (st : List Value) : Prop :=
  ∀ (H : Heap) (locs : List Loc) (ls : Array Slot), HM G L b S H → va_S (fun q => b ≤ q) s.heap H locs → lv_has ls nL lv → W p l e R s m args below meth c H locs cells slots Q (F0 m pc ls st)
def PC (G : zz_G) (L : Ly) (b : Nat) (S : Sg) (av : List Value) : Array Value → State → Prop := fun v U => v = av.toArray ∧ HM G L b S U.heap ∧ zz_K G U
def QC (G : zz_G) (L : Ly) (b : Nat) (S : Sg) (r : Option Value) (ex : Prop) : Array Value → State → Outcome → State → Prop := fun _ st o t => o = .returned r ∧ ex ∧ HM G L b S t.heap ∧ va_F (fun q => b ≤ q) st t
def rmz (f k : Nat) : Room := { frames := f, cells := 0, slots := 0, locals := k }
theorem zc_eq {x y : Int64} : lg_cmp x y = 0 ↔ x = y := by
  unfold lg_cmp
  by_cases h1 : x > y
  · rw [if_pos h1]
    exact ⟨fun h => absurd h (by decide), fun h => absurd h1 (by rw [h]; exact Int64.lt_irrefl)⟩
  · rw [if_neg h1]
    by_cases h2 : x = y
    · rw [if_pos h2]; exact ⟨fun _ => h2, fun _ => rfl⟩
    · rw [if_neg h2]; exact ⟨fun h => absurd h (by decide), fun h => absurd h h2⟩
theorem zc_ne {x y : Int64} : ¬ lg_cmp x y = 0 ↔ ¬ x = y := not_congr zc_eq
theorem zc_gt {x y : Int64} : 0 < lg_cmp x y ↔ y < x := by
  unfold lg_cmp
  by_cases h1 : x > y
  · rw [if_pos h1]; exact ⟨fun _ => h1, fun _ => by decide⟩
  · rw [if_neg h1]
    by_cases h2 : x = y
    · rw [if_pos h2]; exact ⟨fun h => absurd h (by decide), fun h => absurd h h1⟩
    · rw [if_neg h2]; exact ⟨fun h => absurd h (by decide), fun h => absurd h h1⟩
theorem zc_ge {x y : Int64} : 0 ≤ lg_cmp x y ↔ y ≤ x := lg_cmp_ge x y
theorem zc_le {x y : Int64} : lg_cmp x y ≤ 0 ↔ x ≤ y := lg_cmp_le x y
theorem zc_lt {x y : Int64} : lg_cmp x y < 0 ↔ x < y := by
  rw [← Int32.not_le, zc_ge, Int64.not_le]
theorem zc_eqn {x y : Int64} (h : ¬ lg_cmp x y = 0) : ¬ x = y := fun q => h (zc_eq.mpr q)
theorem zc_nen {x y : Int64} (h : lg_cmp x y = 0) : x = y := zc_eq.mp h
theorem zc_gtn {x y : Int64} (h : ¬ 0 < lg_cmp x y) : ¬ y < x := fun q => h (zc_gt.mpr q)
theorem zc_gen {x y : Int64} (h : ¬ 0 ≤ lg_cmp x y) : ¬ y ≤ x := fun q => h (zc_ge.mpr q)
theorem zc_len {x y : Int64} (h : ¬ lg_cmp x y ≤ 0) : ¬ x ≤ y := fun q => h (zc_le.mpr q)
theorem zc_ltn {x y : Int64} (h : ¬ lg_cmp x y < 0) : ¬ x < y := fun q => h (zc_lt.mpr q)
section ZX
variable {p : Program} {l : Launch} {e : Env} {R : Room} {s : State} {m : MethodId} {args : Array Value} {below : List Frame} {meth : Method} {c : Code} {cells slots : Nat} {Q : State → Prop} {nL : Nat} {G : zz_G} {L : Ly} {b : Nat} {S : Sg} {pc : Nat} {lv : List (Nat × Value)} {st : List Value} {cc : ByteArray} {y : MethodName} {ret : Option FieldType}
theorem x_iconst (C : CX p G s m args meth c cc y nL ret) {n : Int} {v : Int32} (d : decode cc pc = .ok (.iconst n, 1)) (ee : Int32.ofInt n = v) (k : X p l e R s m args below meth c cells slots Q nL G L b S (pc + 1) lv (.int v :: st)) : X p l e R s m args below meth c cells slots Q nL G L b S pc lv (st) := fun H locs ls h1 h2 h3 => lv_iconst C.1 C.2.1 d ee (k H locs ls h1 h2 h3)
theorem x_bipush (C : CX p G s m args meth c cc y nL ret) {n : Int} {v : Int32} (d : decode cc pc = .ok (.bipush n, 2)) (ee : (Int8.ofInt n).toInt32 = v) (k : X p l e R s m args below meth c cells slots Q nL G L b S (pc + 2) lv (.int v :: st)) : X p l e R s m args below meth c cells slots Q nL G L b S pc lv (st) := fun H locs ls h1 h2 h3 => lv_bipush C.1 C.2.1 d ee (k H locs ls h1 h2 h3)
theorem x_sipush (C : CX p G s m args meth c cc y nL ret) {n : Int} {v : Int32} (d : decode cc pc = .ok (.sipush n, 3)) (ee : (Int16.ofInt n).toInt32 = v) (k : X p l e R s m args below meth c cells slots Q nL G L b S (pc + 3) lv (.int v :: st)) : X p l e R s m args below meth c cells slots Q nL G L b S pc lv (st) := fun H locs ls h1 h2 h3 => lv_sipush C.1 C.2.1 d ee (k H locs ls h1 h2 h3)
theorem x_lconst (C : CX p G s m args meth c cc y nL ret) {n : Fin 2} {v : Int64} (d : decode cc pc = .ok (.lconst n, 1)) (ee : Int64.ofNat (n : Nat) = v) (k : X p l e R s m args below meth c cells slots Q nL G L b S (pc + 1) lv (.long v :: st)) : X p l e R s m args below meth c cells slots Q nL G L b S pc lv (st) := fun H locs ls h1 h2 h3 => lv_lconst C.1 C.2.1 d ee (k H locs ls h1 h2 h3)
theorem x_iload_n (C : CX p G s m args meth c cc y nL ret) {k : Fin 4} {x : Int32} (q : Nat) (d : decode cc pc = .ok (.iload_n k, 1)) (ee : lv[q]? = some (k.val, .int x)) (kk : X p l e R s m args below meth c cells slots Q nL G L b S (pc + 1) lv (.int x :: st)) : X p l e R s m args below meth c cells slots Q nL G L b S pc lv st := fun H locs ls h1 h2 h3 => lv_iload_n C.1 C.2.1 d rfl (lv_at h3 q ee) (kk H locs ls h1 h2 h3)
theorem x_iload (C : CX p G s m args meth c cc y nL ret) {i : Nat} {x : Int32} (q : Nat) (d : decode cc pc = .ok (.iload i, 2)) (ee : lv[q]? = some (i, .int x)) (kk : X p l e R s m args below meth c cells slots Q nL G L b S (pc + 2) lv (.int x :: st)) : X p l e R s m args below meth c cells slots Q nL G L b S pc lv st := fun H locs ls h1 h2 h3 => lv_iload C.1 C.2.1 d (lv_at h3 q ee) (kk H locs ls h1 h2 h3)
theorem x_istore_n (C : CX p G s m args meth c cc y nL ret) {k : Fin 4} {x v : Int32} (i : Nat) (lv' : List (Nat × Value)) (d : decode cc pc = .ok (.istore_n k, 1)) (hi : k.val = i) (hn : i < nL) (ev : v = x) (hl : (i, Value.int v) :: lv.filter (fun q => !(q.1 == i) && !(q.1 + 1 == i && q.2.category == 2)) = lv') (kk : X p l e R s m args below meth c cells slots Q nL G L b S (pc + 1) lv' st) : X p l e R s m args below meth c cells slots Q nL G L b S pc lv (.int x :: st) := by
  subst ev
  exact fun H locs ls h1 h2 h3 => lv_istore_n C.1 C.2.1 d hi h3 hn hl (fun ls' h => kk H locs ls' h1 h2 h)
theorem x_istore (C : CX p G s m args meth c cc y nL ret) {i : Nat} {x v : Int32} (lv' : List (Nat × Value)) (d : decode cc pc = .ok (.istore i, 2)) (hn : i < nL) (ev : v = x) (hl : (i, Value.int v) :: lv.filter (fun q => !(q.1 == i) && !(q.1 + 1 == i && q.2.category == 2)) = lv') (kk : X p l e R s m args below meth c cells slots Q nL G L b S (pc + 2) lv' st) : X p l e R s m args below meth c cells slots Q nL G L b S pc lv (.int x :: st) := by
  subst ev
  exact fun H locs ls h1 h2 h3 => lv_istore C.1 C.2.1 d h3 hn hl (fun ls' h => kk H locs ls' h1 h2 h)
theorem x_lload_n (C : CX p G s m args meth c cc y nL ret) {k : Fin 4} {x : Int64} (q : Nat) (d : decode cc pc = .ok (.lload_n k, 1)) (ee : lv[q]? = some (k.val, .long x)) (kk : X p l e R s m args below meth c cells slots Q nL G L b S (pc + 1) lv (.long x :: st)) : X p l e R s m args below meth c cells slots Q nL G L b S pc lv st := fun H locs ls h1 h2 h3 => lv_lload_n C.1 C.2.1 d rfl (lv_at h3 q ee) (kk H locs ls h1 h2 h3)
theorem x_lload (C : CX p G s m args meth c cc y nL ret) {i : Nat} {x : Int64} (q : Nat) (d : decode cc pc = .ok (.lload i, 2)) (ee : lv[q]? = some (i, .long x)) (kk : X p l e R s m args below meth c cells slots Q nL G L b S (pc + 2) lv (.long x :: st)) : X p l e R s m args below meth c cells slots Q nL G L b S pc lv st := fun H locs ls h1 h2 h3 => lv_lload C.1 C.2.1 d (lv_at h3 q ee) (kk H locs ls h1 h2 h3)
theorem x_lstore_n (C : CX p G s m args meth c cc y nL ret) {k : Fin 4} {x v : Int64} (i : Nat) (lv' : List (Nat × Value)) (d : decode cc pc = .ok (.lstore_n k, 1)) (hi : k.val = i) (hn : i + 1 < nL) (ev : v = x) (hl : (i, Value.long v) :: lv.filter (fun q => !(q.1 == i) && (!(q.1 == i + 1) && !(q.1 + 1 == i && q.2.category == 2))) = lv') (kk : X p l e R s m args below meth c cells slots Q nL G L b S (pc + 1) lv' st) : X p l e R s m args below meth c cells slots Q nL G L b S pc lv (.long x :: st) := by
  subst ev
  exact fun H locs ls h1 h2 h3 => lv_lstore_n C.1 C.2.1 d hi h3 hn hl (fun ls' h => kk H locs ls' h1 h2 h)
theorem x_lstore (C : CX p G s m args meth c cc y nL ret) {i : Nat} {x v : Int64} (lv' : List (Nat × Value)) (d : decode cc pc = .ok (.lstore i, 2)) (hn : i + 1 < nL) (ev : v = x) (hl : (i, Value.long v) :: lv.filter (fun q => !(q.1 == i) && (!(q.1 == i + 1) && !(q.1 + 1 == i && q.2.category == 2))) = lv') (kk : X p l e R s m args below meth c cells slots Q nL G L b S (pc + 2) lv' st) : X p l e R s m args below meth c cells slots Q nL G L b S pc lv (.long x :: st) := by
  subst ev
  exact fun H locs ls h1 h2 h3 => lv_lstore C.1 C.2.1 d h3 hn hl (fun ls' h => kk H locs ls' h1 h2 h)
theorem x_aload_n (C : CX p G s m args meth c cc y nL ret) {k : Fin 4} {x : Nat} (q : Nat) (d : decode cc pc = .ok (.aload_n k, 1)) (ee : lv[q]? = some (k.val, .ref x)) (kk : X p l e R s m args below meth c cells slots Q nL G L b S (pc + 1) lv (.ref x :: st)) : X p l e R s m args below meth c cells slots Q nL G L b S pc lv st := fun H locs ls h1 h2 h3 => lv_aload_n C.1 C.2.1 d rfl (lv_at h3 q ee) (kk H locs ls h1 h2 h3)
theorem x_aload (C : CX p G s m args meth c cc y nL ret) {i : Nat} {x : Nat} (q : Nat) (d : decode cc pc = .ok (.aload i, 2)) (ee : lv[q]? = some (i, .ref x)) (kk : X p l e R s m args below meth c cells slots Q nL G L b S (pc + 2) lv (.ref x :: st)) : X p l e R s m args below meth c cells slots Q nL G L b S pc lv st := fun H locs ls h1 h2 h3 => lv_aload C.1 C.2.1 d (lv_at h3 q ee) (kk H locs ls h1 h2 h3)
theorem x_astore_n (C : CX p G s m args meth c cc y nL ret) {k : Fin 4} {x v : Nat} (i : Nat) (lv' : List (Nat × Value)) (d : decode cc pc = .ok (.astore_n k, 1)) (hi : k.val = i) (hn : i < nL) (ev : v = x) (hl : (i, Value.ref v) :: lv.filter (fun q => !(q.1 == i) && !(q.1 + 1 == i && q.2.category == 2)) = lv') (kk : X p l e R s m args below meth c cells slots Q nL G L b S (pc + 1) lv' st) : X p l e R s m args below meth c cells slots Q nL G L b S pc lv (.ref x :: st) := by
  subst ev
  exact fun H locs ls h1 h2 h3 => lv_astore_n C.1 C.2.1 d hi h3 hn hl (fun ls' h => kk H locs ls' h1 h2 h)
theorem x_astore (C : CX p G s m args meth c cc y nL ret) {i : Nat} {x v : Nat} (lv' : List (Nat × Value)) (d : decode cc pc = .ok (.astore i, 2)) (hn : i < nL) (ev : v = x) (hl : (i, Value.ref v) :: lv.filter (fun q => !(q.1 == i) && !(q.1 + 1 == i && q.2.category == 2)) = lv') (kk : X p l e R s m args below meth c cells slots Q nL G L b S (pc + 2) lv' st) : X p l e R s m args below meth c cells slots Q nL G L b S pc lv (.ref x :: st) := by
  subst ev
  exact fun H locs ls h1 h2 h3 => lv_astore C.1 C.2.1 d h3 hn hl (fun ls' h => kk H locs ls' h1 h2 h)
theorem x_iinc (C : CX p G s m args meth c cc y nL ret) {i : Nat} {n : Int} {x v w : Int32} (q : Nat) (lv' : List (Nat × Value)) (d : decode cc pc = .ok (.iinc i n, 3)) (ee : lv[q]? = some (i, .int x)) (ew : Int32.ofInt n = w) (hn : i < nL) (ev : v = x + w) (hl : (i, Value.int v) :: lv.filter (fun q => !(q.1 == i) && !(q.1 + 1 == i && q.2.category == 2)) = lv') (kk : X p l e R s m args below meth c cells slots Q nL G L b S (pc + 3) lv' st) : X p l e R s m args below meth c cells slots Q nL G L b S pc lv st := by
  subst ev; subst ew
  exact fun H locs ls h1 h2 h3 => lv_iinc C.1 C.2.1 d h3 ee rfl hn hl (fun ls' h => kk H locs ls' h1 h2 h)
theorem x_iadd (C : CX p G s m args meth c cc y nL ret) {x y' : Int32} (d : decode cc pc = .ok (.iadd, 1)) (k : X p l e R s m args below meth c cells slots Q nL G L b S (pc + 1) lv (.int (x + y') :: st)) : X p l e R s m args below meth c cells slots Q nL G L b S pc lv (.int y' :: .int x :: st) := fun H locs ls h1 h2 h3 => lv_iadd C.1 C.2.1 d (k H locs ls h1 h2 h3)
theorem x_isub (C : CX p G s m args meth c cc y nL ret) {x y' : Int32} (d : decode cc pc = .ok (.isub, 1)) (k : X p l e R s m args below meth c cells slots Q nL G L b S (pc + 1) lv (.int (x - y') :: st)) : X p l e R s m args below meth c cells slots Q nL G L b S pc lv (.int y' :: .int x :: st) := fun H locs ls h1 h2 h3 => lv_isub C.1 C.2.1 d (k H locs ls h1 h2 h3)
theorem x_imul (C : CX p G s m args meth c cc y nL ret) {x y' : Int32} (d : decode cc pc = .ok (.imul, 1)) (k : X p l e R s m args below meth c cells slots Q nL G L b S (pc + 1) lv (.int (x * y') :: st)) : X p l e R s m args below meth c cells slots Q nL G L b S pc lv (.int y' :: .int x :: st) := fun H locs ls h1 h2 h3 => lv_imul C.1 C.2.1 d (k H locs ls h1 h2 h3)
theorem x_iand (C : CX p G s m args meth c cc y nL ret) {x y' : Int32} (d : decode cc pc = .ok (.iand, 1)) (k : X p l e R s m args below meth c cells slots Q nL G L b S (pc + 1) lv (.int (x &&& y') :: st)) : X p l e R s m args below meth c cells slots Q nL G L b S pc lv (.int y' :: .int x :: st) := fun H locs ls h1 h2 h3 => lv_iand C.1 C.2.1 d (k H locs ls h1 h2 h3)
theorem x_ior (C : CX p G s m args meth c cc y nL ret) {x y' : Int32} (d : decode cc pc = .ok (.ior, 1)) (k : X p l e R s m args below meth c cells slots Q nL G L b S (pc + 1) lv (.int (x ||| y') :: st)) : X p l e R s m args below meth c cells slots Q nL G L b S pc lv (.int y' :: .int x :: st) := fun H locs ls h1 h2 h3 => lv_ior C.1 C.2.1 d (k H locs ls h1 h2 h3)
theorem x_ixor (C : CX p G s m args meth c cc y nL ret) {x y' : Int32} (d : decode cc pc = .ok (.ixor, 1)) (k : X p l e R s m args below meth c cells slots Q nL G L b S (pc + 1) lv (.int (x ^^^ y') :: st)) : X p l e R s m args below meth c cells slots Q nL G L b S pc lv (.int y' :: .int x :: st) := fun H locs ls h1 h2 h3 => lv_ixor C.1 C.2.1 d (k H locs ls h1 h2 h3)
theorem x_ishl (C : CX p G s m args meth c cc y nL ret) {x y' : Int32} (d : decode cc pc = .ok (.ishl, 1)) (k : X p l e R s m args below meth c cells slots Q nL G L b S (pc + 1) lv (.int (isl x y') :: st)) : X p l e R s m args below meth c cells slots Q nL G L b S pc lv (.int y' :: .int x :: st) := fun H locs ls h1 h2 h3 => lv_ishl C.1 C.2.1 d (k H locs ls h1 h2 h3)
theorem x_ishr (C : CX p G s m args meth c cc y nL ret) {x y' : Int32} (d : decode cc pc = .ok (.ishr, 1)) (k : X p l e R s m args below meth c cells slots Q nL G L b S (pc + 1) lv (.int (isr x y') :: st)) : X p l e R s m args below meth c cells slots Q nL G L b S pc lv (.int y' :: .int x :: st) := fun H locs ls h1 h2 h3 => lv_ishr C.1 C.2.1 d (k H locs ls h1 h2 h3)
theorem x_iushr (C : CX p G s m args meth c cc y nL ret) {x y' : Int32} (d : decode cc pc = .ok (.iushr, 1)) (k : X p l e R s m args below meth c cells slots Q nL G L b S (pc + 1) lv ((.int (iusr x y')) :: st)) : X p l e R s m args below meth c cells slots Q nL G L b S pc lv (.int y' :: .int x :: st) := fun H locs ls h1 h2 h3 => lv_iushr C.1 C.2.1 d rfl (k H locs ls h1 h2 h3)
theorem x_ineg (C : CX p G s m args meth c cc y nL ret) {x : Int32} (d : decode cc pc = .ok (.ineg, 1)) (k : X p l e R s m args below meth c cells slots Q nL G L b S (pc + 1) lv (.int (-x) :: st)) : X p l e R s m args below meth c cells slots Q nL G L b S pc lv (.int x :: st) := fun H locs ls h1 h2 h3 => lv_ineg C.1 C.2.1 d (k H locs ls h1 h2 h3)
theorem x_idiv (C : CX p G s m args meth c cc y nL ret) {x y' : Int32} (d : decode cc pc = .ok (.idiv, 1)) (hz : nz y' = true) (k : X p l e R s m args below meth c cells slots Q nL G L b S (pc + 1) lv (.int (x / y') :: st)) : X p l e R s m args below meth c cells slots Q nL G L b S pc lv (.int y' :: .int x :: st) := fun H locs ls h1 h2 h3 => lv_idiv C.1 C.2.1 d (of_decide_eq_true hz) (k H locs ls h1 h2 h3)
theorem x_irem (C : CX p G s m args meth c cc y nL ret) {x y' : Int32} (d : decode cc pc = .ok (.irem, 1)) (hz : nz y' = true) (k : X p l e R s m args below meth c cells slots Q nL G L b S (pc + 1) lv (.int (irem x y') :: st)) : X p l e R s m args below meth c cells slots Q nL G L b S pc lv (.int y' :: .int x :: st) := fun H locs ls h1 h2 h3 => lv_irem C.1 C.2.1 d (of_decide_eq_true hz) (k H locs ls h1 h2 h3)
theorem x_ladd (C : CX p G s m args meth c cc y nL ret) {x y' : Int64} (d : decode cc pc = .ok (.ladd, 1)) (k : X p l e R s m args below meth c cells slots Q nL G L b S (pc + 1) lv (.long (x + y') :: st)) : X p l e R s m args below meth c cells slots Q nL G L b S pc lv (.long y' :: .long x :: st) := fun H locs ls h1 h2 h3 => lv_ladd C.1 C.2.1 d (k H locs ls h1 h2 h3)
theorem x_lsub (C : CX p G s m args meth c cc y nL ret) {x y' : Int64} (d : decode cc pc = .ok (.lsub, 1)) (k : X p l e R s m args below meth c cells slots Q nL G L b S (pc + 1) lv (.long (x - y') :: st)) : X p l e R s m args below meth c cells slots Q nL G L b S pc lv (.long y' :: .long x :: st) := fun H locs ls h1 h2 h3 => lv_lsub C.1 C.2.1 d (k H locs ls h1 h2 h3)
theorem x_lmul (C : CX p G s m args meth c cc y nL ret) {x y' : Int64} (d : decode cc pc = .ok (.lmul, 1)) (k : X p l e R s m args below meth c cells slots Q nL G L b S (pc + 1) lv (.long (x * y') :: st)) : X p l e R s m args below meth c cells slots Q nL G L b S pc lv (.long y' :: .long x :: st) := fun H locs ls h1 h2 h3 => lv_lmul C.1 C.2.1 d (k H locs ls h1 h2 h3)
theorem x_lneg (C : CX p G s m args meth c cc y nL ret) {x : Int64} (d : decode cc pc = .ok (.lneg, 1)) (k : X p l e R s m args below meth c cells slots Q nL G L b S (pc + 1) lv (.long (-x) :: st)) : X p l e R s m args below meth c cells slots Q nL G L b S pc lv (.long x :: st) := fun H locs ls h1 h2 h3 => lv_lneg C.1 C.2.1 d (k H locs ls h1 h2 h3)
theorem x_ldiv (C : CX p G s m args meth c cc y nL ret) {x y' : Int64} (d : decode cc pc = .ok (.ldiv, 1)) (hz : nzJ y' = true) (k : X p l e R s m args below meth c cells slots Q nL G L b S (pc + 1) lv (.long (x / y') :: st)) : X p l e R s m args below meth c cells slots Q nL G L b S pc lv (.long y' :: .long x :: st) := fun H locs ls h1 h2 h3 => lv_ldiv C.1 C.2.1 d (of_decide_eq_true hz) (k H locs ls h1 h2 h3)
theorem x_lrem (C : CX p G s m args meth c cc y nL ret) {x y' : Int64} (d : decode cc pc = .ok (.lrem, 1)) (hz : nzJ y' = true) (k : X p l e R s m args below meth c cells slots Q nL G L b S (pc + 1) lv (.long (jrem x y') :: st)) : X p l e R s m args below meth c cells slots Q nL G L b S pc lv (.long y' :: .long x :: st) := fun H locs ls h1 h2 h3 => lv_lrem C.1 C.2.1 d (of_decide_eq_true hz) (k H locs ls h1 h2 h3)
theorem x_i2l (C : CX p G s m args meth c cc y nL ret) {x : Int32} (d : decode cc pc = .ok (.i2l, 1)) (k : X p l e R s m args below meth c cells slots Q nL G L b S (pc + 1) lv (.long x.toInt64 :: st)) : X p l e R s m args below meth c cells slots Q nL G L b S pc lv (.int x :: st) := fun H locs ls h1 h2 h3 => lv_i2l C.1 C.2.1 d rfl (k H locs ls h1 h2 h3)
theorem x_dup (C : CX p G s m args meth c cc y nL ret) {va : Value} (d : decode cc pc = .ok (.dup, 1)) (hv : va.category = 1) (k : X p l e R s m args below meth c cells slots Q nL G L b S (pc + 1) lv (va :: va :: st)) : X p l e R s m args below meth c cells slots Q nL G L b S pc lv (va :: st) := fun H locs ls h1 h2 h3 => lv_dup C.1 C.2.1 d hv (k H locs ls h1 h2 h3)
theorem x_dup2 (C : CX p G s m args meth c cc y nL ret) {va vb : Value} (d : decode cc pc = .ok (.dup2, 1)) (hv : va.category = 1) (hw : vb.category = 1) (k : X p l e R s m args below meth c cells slots Q nL G L b S (pc + 1) lv (va :: vb :: va :: vb :: st)) : X p l e R s m args below meth c cells slots Q nL G L b S pc lv (va :: vb :: st) := fun H locs ls h1 h2 h3 => lv_dup2_11 C.1 C.2.1 d hv hw (k H locs ls h1 h2 h3)
theorem x_pop (C : CX p G s m args meth c cc y nL ret) {va : Value} (d : decode cc pc = .ok (.pop, 1)) (hv : va.category = 1) (k : X p l e R s m args below meth c cells slots Q nL G L b S (pc + 1) lv (st)) : X p l e R s m args below meth c cells slots Q nL G L b S pc lv (va :: st) := fun H locs ls h1 h2 h3 => lv_pop C.1 C.2.1 d hv (k H locs ls h1 h2 h3)
theorem x_goto (C : CX p G s m args meth c cc y nL ret) {off : Int} (tgt : Nat) (d : decode cc pc = .ok (.goto off, 3)) (ht : (pc : Int) + off = (tgt : Int)) (k : X p l e R s m args below meth c cells slots Q nL G L b S tgt lv st) : X p l e R s m args below meth c cells slots Q nL G L b S pc lv st := fun H locs ls h1 h2 h3 => lv_goto C.1 C.2.1 d ht (k H locs ls h1 h2 h3)
theorem x_if_eq (C : CX p G s m args meth c cc y nL ret) {x : Int32} {off : Int} (tgt : Nat) (d : decode cc pc = .ok (.ifCond .eq off, 3)) (ht : (pc : Int) + off = (tgt : Int)) (kt : x = 0 → X p l e R s m args below meth c cells slots Q nL G L b S tgt lv st) (kf : ¬ x = 0 → X p l e R s m args below meth c cells slots Q nL G L b S (pc + 3) lv st) : X p l e R s m args below meth c cells slots Q nL G L b S pc lv (.int x :: st) := fun H locs ls h1 h2 h3 => lv_if_eq C.1 C.2.1 d ht (fun q => kt (q) H locs ls h1 h2 h3) (fun q => kf (q) H locs ls h1 h2 h3)
theorem x_icmp_eq (C : CX p G s m args meth c cc y nL ret) {x y' : Int32} {off : Int} (tgt : Nat) (d : decode cc pc = .ok (.if_icmp .eq off, 3)) (ht : (pc : Int) + off = (tgt : Int)) (kt : x = y' → X p l e R s m args below meth c cells slots Q nL G L b S tgt lv st) (kf : ¬ x = y' → X p l e R s m args below meth c cells slots Q nL G L b S (pc + 3) lv st) : X p l e R s m args below meth c cells slots Q nL G L b S pc lv (.int y' :: .int x :: st) := fun H locs ls h1 h2 h3 => lv_icmp_eq C.1 C.2.1 d ht (fun q => kt (q) H locs ls h1 h2 h3) (fun q => kf (q) H locs ls h1 h2 h3)
theorem x_lcmp_eq (C : CX p G s m args meth c cc y nL ret) {x y' : Int64} {off : Int} (tgt : Nat) (d0 : decode cc pc = .ok (.lcmp, 1)) (d : decode cc (pc + 1) = .ok (.ifCond .eq off, 3)) (ht : (pc : Int) + 1 + off = (tgt : Int)) (kt : x = y' → X p l e R s m args below meth c cells slots Q nL G L b S tgt lv st) (kf : ¬ x = y' → X p l e R s m args below meth c cells slots Q nL G L b S (pc + 4) lv st) : X p l e R s m args below meth c cells slots Q nL G L b S pc lv (.long y' :: .long x :: st) := fun H locs ls h1 h2 h3 => W.lcmp C.1 C.2.1 d0 (lv_if_eq C.1 C.2.1 d (by rw [← ht]; rfl) (fun q => kt (zc_eq.mp q) H locs ls h1 h2 h3) (fun q => kf (zc_eqn q) H locs ls h1 h2 h3))
theorem x_if_ne (C : CX p G s m args meth c cc y nL ret) {x : Int32} {off : Int} (tgt : Nat) (d : decode cc pc = .ok (.ifCond .ne off, 3)) (ht : (pc : Int) + off = (tgt : Int)) (kt : ¬ x = 0 → X p l e R s m args below meth c cells slots Q nL G L b S tgt lv st) (kf : x = 0 → X p l e R s m args below meth c cells slots Q nL G L b S (pc + 3) lv st) : X p l e R s m args below meth c cells slots Q nL G L b S pc lv (.int x :: st) := fun H locs ls h1 h2 h3 => lv_if_ne C.1 C.2.1 d ht (fun q => kt (q) H locs ls h1 h2 h3) (fun q => kf (q) H locs ls h1 h2 h3)
theorem x_icmp_ne (C : CX p G s m args meth c cc y nL ret) {x y' : Int32} {off : Int} (tgt : Nat) (d : decode cc pc = .ok (.if_icmp .ne off, 3)) (ht : (pc : Int) + off = (tgt : Int)) (kt : ¬ x = y' → X p l e R s m args below meth c cells slots Q nL G L b S tgt lv st) (kf : x = y' → X p l e R s m args below meth c cells slots Q nL G L b S (pc + 3) lv st) : X p l e R s m args below meth c cells slots Q nL G L b S pc lv (.int y' :: .int x :: st) := fun H locs ls h1 h2 h3 => lv_icmp_ne C.1 C.2.1 d ht (fun q => kt (q) H locs ls h1 h2 h3) (fun q => kf (q) H locs ls h1 h2 h3)
theorem x_lcmp_ne (C : CX p G s m args meth c cc y nL ret) {x y' : Int64} {off : Int} (tgt : Nat) (d0 : decode cc pc = .ok (.lcmp, 1)) (d : decode cc (pc + 1) = .ok (.ifCond .ne off, 3)) (ht : (pc : Int) + 1 + off = (tgt : Int)) (kt : ¬ x = y' → X p l e R s m args below meth c cells slots Q nL G L b S tgt lv st) (kf : x = y' → X p l e R s m args below meth c cells slots Q nL G L b S (pc + 4) lv st) : X p l e R s m args below meth c cells slots Q nL G L b S pc lv (.long y' :: .long x :: st) := fun H locs ls h1 h2 h3 => W.lcmp C.1 C.2.1 d0 (lv_if_ne C.1 C.2.1 d (by rw [← ht]; rfl) (fun q => kt (fun r => q (zc_eq.mpr r)) H locs ls h1 h2 h3) (fun q => kf (zc_nen q) H locs ls h1 h2 h3))
theorem x_if_lt (C : CX p G s m args meth c cc y nL ret) {x : Int32} {off : Int} (tgt : Nat) (d : decode cc pc = .ok (.ifCond .lt off, 3)) (ht : (pc : Int) + off = (tgt : Int)) (kt : x < 0 → X p l e R s m args below meth c cells slots Q nL G L b S tgt lv st) (kf : ¬ x < 0 → X p l e R s m args below meth c cells slots Q nL G L b S (pc + 3) lv st) : X p l e R s m args below meth c cells slots Q nL G L b S pc lv (.int x :: st) := fun H locs ls h1 h2 h3 => lv_if_lt C.1 C.2.1 d ht (fun q => kt (q) H locs ls h1 h2 h3) (fun q => kf (q) H locs ls h1 h2 h3)
theorem x_icmp_lt (C : CX p G s m args meth c cc y nL ret) {x y' : Int32} {off : Int} (tgt : Nat) (d : decode cc pc = .ok (.if_icmp .lt off, 3)) (ht : (pc : Int) + off = (tgt : Int)) (kt : x < y' → X p l e R s m args below meth c cells slots Q nL G L b S tgt lv st) (kf : ¬ x < y' → X p l e R s m args below meth c cells slots Q nL G L b S (pc + 3) lv st) : X p l e R s m args below meth c cells slots Q nL G L b S pc lv (.int y' :: .int x :: st) := fun H locs ls h1 h2 h3 => lv_icmp_lt C.1 C.2.1 d ht (fun q => kt (q) H locs ls h1 h2 h3) (fun q => kf (q) H locs ls h1 h2 h3)
theorem x_lcmp_lt (C : CX p G s m args meth c cc y nL ret) {x y' : Int64} {off : Int} (tgt : Nat) (d0 : decode cc pc = .ok (.lcmp, 1)) (d : decode cc (pc + 1) = .ok (.ifCond .lt off, 3)) (ht : (pc : Int) + 1 + off = (tgt : Int)) (kt : x < y' → X p l e R s m args below meth c cells slots Q nL G L b S tgt lv st) (kf : ¬ x < y' → X p l e R s m args below meth c cells slots Q nL G L b S (pc + 4) lv st) : X p l e R s m args below meth c cells slots Q nL G L b S pc lv (.long y' :: .long x :: st) := fun H locs ls h1 h2 h3 => W.lcmp C.1 C.2.1 d0 (lv_if_lt C.1 C.2.1 d (by rw [← ht]; rfl) (fun q => kt (zc_lt.mp q) H locs ls h1 h2 h3) (fun q => kf (zc_ltn q) H locs ls h1 h2 h3))
theorem x_if_ge (C : CX p G s m args meth c cc y nL ret) {x : Int32} {off : Int} (tgt : Nat) (d : decode cc pc = .ok (.ifCond .ge off, 3)) (ht : (pc : Int) + off = (tgt : Int)) (kt : ¬ x < 0 → X p l e R s m args below meth c cells slots Q nL G L b S tgt lv st) (kf : x < 0 → X p l e R s m args below meth c cells slots Q nL G L b S (pc + 3) lv st) : X p l e R s m args below meth c cells slots Q nL G L b S pc lv (.int x :: st) := fun H locs ls h1 h2 h3 => lv_if_ge C.1 C.2.1 d ht (fun q => kt (Int32.not_lt.mpr q) H locs ls h1 h2 h3) (fun q => kf (Int32.not_le.mp q) H locs ls h1 h2 h3)
theorem x_icmp_ge (C : CX p G s m args meth c cc y nL ret) {x y' : Int32} {off : Int} (tgt : Nat) (d : decode cc pc = .ok (.if_icmp .ge off, 3)) (ht : (pc : Int) + off = (tgt : Int)) (kt : ¬ x < y' → X p l e R s m args below meth c cells slots Q nL G L b S tgt lv st) (kf : x < y' → X p l e R s m args below meth c cells slots Q nL G L b S (pc + 3) lv st) : X p l e R s m args below meth c cells slots Q nL G L b S pc lv (.int y' :: .int x :: st) := fun H locs ls h1 h2 h3 => lv_icmp_ge C.1 C.2.1 d ht (fun q => kt (Int32.not_lt.mpr q) H locs ls h1 h2 h3) (fun q => kf (Int32.not_le.mp q) H locs ls h1 h2 h3)
theorem x_lcmp_ge (C : CX p G s m args meth c cc y nL ret) {x y' : Int64} {off : Int} (tgt : Nat) (d0 : decode cc pc = .ok (.lcmp, 1)) (d : decode cc (pc + 1) = .ok (.ifCond .ge off, 3)) (ht : (pc : Int) + 1 + off = (tgt : Int)) (kt : ¬ x < y' → X p l e R s m args below meth c cells slots Q nL G L b S tgt lv st) (kf : x < y' → X p l e R s m args below meth c cells slots Q nL G L b S (pc + 4) lv st) : X p l e R s m args below meth c cells slots Q nL G L b S pc lv (.long y' :: .long x :: st) := fun H locs ls h1 h2 h3 => W.lcmp C.1 C.2.1 d0 (lv_if_ge C.1 C.2.1 d (by rw [← ht]; rfl) (fun q => kt (Int64.not_lt.mpr (zc_ge.mp q)) H locs ls h1 h2 h3) (fun q => kf (Int64.not_le.mp (zc_gen q)) H locs ls h1 h2 h3))
theorem x_if_gt (C : CX p G s m args meth c cc y nL ret) {x : Int32} {off : Int} (tgt : Nat) (d : decode cc pc = .ok (.ifCond .gt off, 3)) (ht : (pc : Int) + off = (tgt : Int)) (kt : 0 < x → X p l e R s m args below meth c cells slots Q nL G L b S tgt lv st) (kf : ¬ 0 < x → X p l e R s m args below meth c cells slots Q nL G L b S (pc + 3) lv st) : X p l e R s m args below meth c cells slots Q nL G L b S pc lv (.int x :: st) := fun H locs ls h1 h2 h3 => lv_if_gt C.1 C.2.1 d ht (fun q => kt (q) H locs ls h1 h2 h3) (fun q => kf (q) H locs ls h1 h2 h3)
theorem x_icmp_gt (C : CX p G s m args meth c cc y nL ret) {x y' : Int32} {off : Int} (tgt : Nat) (d : decode cc pc = .ok (.if_icmp .gt off, 3)) (ht : (pc : Int) + off = (tgt : Int)) (kt : y' < x → X p l e R s m args below meth c cells slots Q nL G L b S tgt lv st) (kf : ¬ y' < x → X p l e R s m args below meth c cells slots Q nL G L b S (pc + 3) lv st) : X p l e R s m args below meth c cells slots Q nL G L b S pc lv (.int y' :: .int x :: st) := fun H locs ls h1 h2 h3 => lv_icmp_gt C.1 C.2.1 d ht (fun q => kt (q) H locs ls h1 h2 h3) (fun q => kf (q) H locs ls h1 h2 h3)
theorem x_lcmp_gt (C : CX p G s m args meth c cc y nL ret) {x y' : Int64} {off : Int} (tgt : Nat) (d0 : decode cc pc = .ok (.lcmp, 1)) (d : decode cc (pc + 1) = .ok (.ifCond .gt off, 3)) (ht : (pc : Int) + 1 + off = (tgt : Int)) (kt : y' < x → X p l e R s m args below meth c cells slots Q nL G L b S tgt lv st) (kf : ¬ y' < x → X p l e R s m args below meth c cells slots Q nL G L b S (pc + 4) lv st) : X p l e R s m args below meth c cells slots Q nL G L b S pc lv (.long y' :: .long x :: st) := fun H locs ls h1 h2 h3 => W.lcmp C.1 C.2.1 d0 (lv_if_gt C.1 C.2.1 d (by rw [← ht]; rfl) (fun q => kt (zc_gt.mp q) H locs ls h1 h2 h3) (fun q => kf (zc_gtn q) H locs ls h1 h2 h3))
theorem x_if_le (C : CX p G s m args meth c cc y nL ret) {x : Int32} {off : Int} (tgt : Nat) (d : decode cc pc = .ok (.ifCond .le off, 3)) (ht : (pc : Int) + off = (tgt : Int)) (kt : ¬ 0 < x → X p l e R s m args below meth c cells slots Q nL G L b S tgt lv st) (kf : 0 < x → X p l e R s m args below meth c cells slots Q nL G L b S (pc + 3) lv st) : X p l e R s m args below meth c cells slots Q nL G L b S pc lv (.int x :: st) := fun H locs ls h1 h2 h3 => lv_if_le C.1 C.2.1 d ht (fun q => kt (Int32.not_lt.mpr q) H locs ls h1 h2 h3) (fun q => kf (Int32.not_le.mp q) H locs ls h1 h2 h3)
theorem x_icmp_le (C : CX p G s m args meth c cc y nL ret) {x y' : Int32} {off : Int} (tgt : Nat) (d : decode cc pc = .ok (.if_icmp .le off, 3)) (ht : (pc : Int) + off = (tgt : Int)) (kt : ¬ y' < x → X p l e R s m args below meth c cells slots Q nL G L b S tgt lv st) (kf : y' < x → X p l e R s m args below meth c cells slots Q nL G L b S (pc + 3) lv st) : X p l e R s m args below meth c cells slots Q nL G L b S pc lv (.int y' :: .int x :: st) := fun H locs ls h1 h2 h3 => lv_icmp_le C.1 C.2.1 d ht (fun q => kt (Int32.not_lt.mpr q) H locs ls h1 h2 h3) (fun q => kf (Int32.not_le.mp q) H locs ls h1 h2 h3)
theorem x_lcmp_le (C : CX p G s m args meth c cc y nL ret) {x y' : Int64} {off : Int} (tgt : Nat) (d0 : decode cc pc = .ok (.lcmp, 1)) (d : decode cc (pc + 1) = .ok (.ifCond .le off, 3)) (ht : (pc : Int) + 1 + off = (tgt : Int)) (kt : ¬ y' < x → X p l e R s m args below meth c cells slots Q nL G L b S tgt lv st) (kf : y' < x → X p l e R s m args below meth c cells slots Q nL G L b S (pc + 4) lv st) : X p l e R s m args below meth c cells slots Q nL G L b S pc lv (.long y' :: .long x :: st) := fun H locs ls h1 h2 h3 => W.lcmp C.1 C.2.1 d0 (lv_if_le C.1 C.2.1 d (by rw [← ht]; rfl) (fun q => kt (Int64.not_lt.mpr (zc_le.mp q)) H locs ls h1 h2 h3) (fun q => kf (Int64.not_le.mp (zc_len q)) H locs ls h1 h2 h3))
theorem x_sub (ks : List Nat) {lv' : List (Nat × Value)} (ee : lv_pick lv ks = lv') (k : X p l e R s m args below meth c cells slots Q nL G L b S pc lv' st) : X p l e R s m args below meth c cells slots Q nL G L b S pc lv st := fun H locs ls h1 h2 h3 => k H locs ls h1 h2 (lv_sub h3 ks ee)
theorem x_ldc (C : CX p G s m args meth c cc y nL ret) {index : Nat} {v : Int32} (w : Jvm.Cond.constant y.cls index v ∈ zz_all) (d : decode cc pc = .ok (.ldc index, 2)) (k : X p l e R s m args below meth c cells slots Q nL G L b S (pc + 2) lv (.int v :: st)) : X p l e R s m args below meth c cells slots Q nL G L b S pc lv st := fun H locs ls h1 h2 h3 => lv_ldc C.1 C.2.1 C.2.2.2.1 (C.2.2.2.2.1 _ w) d (k H locs ls h1 h2 h3)
theorem x_ldcw (C : CX p G s m args meth c cc y nL ret) {index : Nat} {v : Int32} (w : Jvm.Cond.constant y.cls index v ∈ zz_all) (d : decode cc pc = .ok (.ldc_w index, 3)) (k : X p l e R s m args below meth c cells slots Q nL G L b S (pc + 3) lv (.int v :: st)) : X p l e R s m args below meth c cells slots Q nL G L b S pc lv st := fun H locs ls h1 h2 h3 => lv_ldcw C.1 C.2.1 C.2.2.2.1 (C.2.2.2.2.1 _ w) d (k H locs ls h1 h2 h3)
theorem x_ldc2 (C : CX p G s m args meth c cc y nL ret) {index : Nat} {v : Int64} (w : Jvm.Cond.constantLong y.cls index v ∈ zz_all) (d : decode cc pc = .ok (.ldc2_w index, 3)) (k : X p l e R s m args below meth c cells slots Q nL G L b S (pc + 3) lv (.long v :: st)) : X p l e R s m args below meth c cells slots Q nL G L b S pc lv st := fun H locs ls h1 h2 h3 => lv_ldc2 C.1 C.2.1 C.2.2.2.1 (C.2.2.2.2.1 _ w) d (k H locs ls h1 h2 h3)
-- fields
theorem x_getv (C : CX p G s m args meth c cc y nL ret) {o ci k N index : Nat} {T : u_T} {D n t : String} {ks : List Nat} {fin : Bool} (hL : L.2 o = some (0, ci, ks)) (hc : classes[ci]? = some (D, T, N)) (hk : k < N) (hT : T k = (D, n, t, fin)) (w : Cond.fieldLink y.cls index D n t ∈ zz_all) (d : decode cc pc = .ok (.getfield index, 3)) {v : Value} (hv : obV b S o ks k = v)
    (kk : X p l e R s m args below meth c cells slots Q nL G L b S (pc + 3) lv (v :: st)) : X p l e R s m args below meth c cells slots Q nL G L b S pc lv (.ref (b + o) :: st) := by
  intro H locs ls h1 h2 h3
  obtain ⟨r, g1, cell, q1, q2, q3, q4⟩ := h1.2 o _ hL
  have hr : r = (D, T, N) := Option.some.inj (g1.symm.trans hc)
  subst hr
  obtain ⟨hx, hb, hml, hown, hts, hK, -⟩ := C
  obtain ⟨hS, hfc, kC, hkC, hkind⟩ := hK.1.1 ci _ hc
  obtain ⟨cf, kf, fi, f, hi, hsl⟩ := hS k hk
  have hfac := u_facts hfc hkC (u_lays hts (cls_in ci _ hc) hk) hi
  rw [show (D, T, N).2.1 = T from rfl, hT] at hi
  refine W.getf hx hb hown (hts _ w) hi hfac.1 q1 (by rw [q3]; exact fun h => by cases h) (v := v) ?_ rfl rfl d (kk H locs ls h1 h2 h3)
  rw [hsl, q4 k hk, hv]
theorem x_geti (C : CX p G s m args meth c cc y nL ret) {o ci k N index : Nat} {T : u_T} {D n t : String} {ks : List Nat} {fin : Bool} (hL : L.2 o = some (0, ci, ks)) (hc : classes[ci]? = some (D, T, N)) (hT : T k = (D, n, t, fin)) (w : Cond.fieldLink y.cls index D n t ∈ zz_all) (d : decode cc pc = .ok (.getfield index, 3)) (hk : k < N ∧ ks.getD k 2 = 0)
    (kk : X p l e R s m args below meth c cells slots Q nL G L b S (pc + 3) lv (.int (S.1 o k) :: st)) : X p l e R s m args below meth c cells slots Q nL G L b S pc lv (.ref (b + o) :: st) :=
  x_getv C hL hc hk.1 hT w d (v := .int (S.1 o k)) (by unfold obV; rw [hk.2]; rfl) kk
theorem x_getj (C : CX p G s m args meth c cc y nL ret) {o ci k N index : Nat} {T : u_T} {D n t : String} {ks : List Nat} {fin : Bool} (hL : L.2 o = some (0, ci, ks)) (hc : classes[ci]? = some (D, T, N)) (hT : T k = (D, n, t, fin)) (w : Cond.fieldLink y.cls index D n t ∈ zz_all) (d : decode cc pc = .ok (.getfield index, 3)) (hk : k < N ∧ ks.getD k 2 = 1)
    (kk : X p l e R s m args below meth c cells slots Q nL G L b S (pc + 3) lv (.long (S.2 o k) :: st)) : X p l e R s m args below meth c cells slots Q nL G L b S pc lv (.ref (b + o) :: st) :=
  x_getv C hL hc hk.1 hT w d (v := .long (S.2 o k)) (by unfold obV; rw [hk.2]; rfl) kk
theorem x_getr (C : CX p G s m args meth c cc y nL ret) {o ci k N index : Nat} {T : u_T} {D n t : String} {ks : List Nat} {fin : Bool} (r : Nat) (hL : L.2 o = some (0, ci, ks)) (hc : classes[ci]? = some (D, T, N)) (hT : T k = (D, n, t, fin)) (w : Cond.fieldLink y.cls index D n t ∈ zz_all) (d : decode cc pc = .ok (.getfield index, 3)) (hk : k < N) (hr : ks.getD k 2 = r + 3)
    (kk : X p l e R s m args below meth c cells slots Q nL G L b S (pc + 3) lv (.ref (b + r) :: st)) : X p l e R s m args below meth c cells slots Q nL G L b S pc lv (.ref (b + o) :: st) :=
  x_getv C hL hc hk hT w d (v := .ref (b + r)) (by unfold obV; rw [hr]; rfl) kk
theorem zz_apart {ci : Nat} {D : String} {T : u_T} {N : Nat} (hts : ∀ w ∈ zz_all, w.before args s = true) (hK : zz_K G s) (hc : classes[ci]? = some (D, T, N)) : ∀ x y, x < N → y < N → x ≠ y → (G.1.2 ci) x ≠ (G.1.2 ci) y := by
  refine va_apart (own := "") hts (cls_in ci _ hc) (fun k => (parseFieldDescriptor (T k).2.2.1).getD .int) (fun k hk => ?_) (fun a ha b hb h => (cls_nm ci _ hc a ha b hb).1 h) hK.1 hc
  have := (cls_nm ci _ hc k hk k hk).2
  cases h : parseFieldDescriptor (T k).2.2.1 with
  | none => rw [show (D, T, N).2.1 = T from rfl] at this; rw [h] at this; cases this
  | some x => rfl
theorem x_putv (C : CX p G s m args meth c cc y nL ret) {o ci k N index : Nat} {T : u_T} {D n t : String} {ks : List Nat} {ty : FieldType} {v : Value} {S' : Sg} (hL : L.2 o = some (0, ci, ks)) (hc : classes[ci]? = some (D, T, N)) (hk : k < N) (hT : T k = (D, n, t, false)) (w : Cond.fieldLink y.cls index D n t ∈ zz_all) (d : decode cc pc = .ok (.putfield index, 3)) (hd : parseFieldDescriptor t = some ty) (hn : narrow ty v = v) (hf : fits ty v = true)
    (hv : ∀ j, obV b S' o ks j = if j = k then v else obV b S o ks j) (ho : ∀ o', o' ≠ o → S'.1 o' = S.1 o' ∧ S'.2 o' = S.2 o')
    (kk : X p l e R s m args below meth c cells slots Q nL G L b S' (pc + 3) lv st) : X p l e R s m args below meth c cells slots Q nL G L b S pc lv (v :: .ref (b + o) :: st) := by
  intro H locs ls h1 h2 h3
  obtain ⟨r, g1, cell, q1, q2, q3, q4⟩ := h1.2 o _ hL
  have hr : r = (D, T, N) := Option.some.inj (g1.symm.trans hc)
  subst hr
  have hap := zz_apart C.2.2.2.2.1 C.2.2.2.2.2.1 hc
  obtain ⟨hx, hb, hml, hown, hts, hK, -⟩ := C
  obtain ⟨hS, hfc, kC, hkC, hkind⟩ := hK.1.1 ci _ hc
  obtain ⟨cf, kf, fi, f, hi, hsl⟩ := hS k hk
  have hlay := hts _ (cls_in ci _ hc _ (u_in_lay hk))
  unfold u_lay at hlay
  rw [show (D, T, N).2.1 = T from rfl, hT, if_neg (show ¬ (false = true) by decide)] at hlay
  have hst := (u_facts hfc hkC (u_lays hts (cls_in ci _ hc) hk) hi).1
  rw [show (D, T, N).2.1 = T from rfl, hT] at hi
  have h6 := u_store hfc hkC hkind hlay hi hd hn hf
  refine W.putK hx hb (f := f) ⟨hown, hts _ w, ⟨_, _, _, hi⟩, hst⟩ (by rw [q2]; exact h6) q1 q3 (by rw [hsl]; exact k2_hasslot (q4 k hk)) rfl rfl d fun H' e1 e2 e3 => ?_
  rw [hsl] at e1 ⊢
  refine kk H' _ ls (h1.put hL ⟨_, hc, t_OB.to (V := updV (obV b S o ks) k v) ⟨_, e1, q2, q3, t_set q4 hap hk v⟩ (fun j _ => ?_)⟩ e2 e3 ho) (h2.put e2 e3 (Nat.le_add_right b o)) h3
  rw [hv j]
  rfl
theorem x_puti (C : CX p G s m args meth c cc y nL ret) {o ci k N index : Nat} {T : u_T} {D n : String} {ks : List Nat} {v : Int32} {S' : Sg} (hL : L.2 o = some (0, ci, ks)) (hc : classes[ci]? = some (D, T, N)) (hT : T k = (D, n, "I", false)) (w : Cond.fieldLink y.cls index D n "I" ∈ zz_all) (d : decode cc pc = .ok (.putfield index, 3)) (hk : k < N ∧ ks.getD k 2 = 0) (hS' : S' = setI S o k v)
    (kk : X p l e R s m args below meth c cells slots Q nL G L b S' (pc + 3) lv st) : X p l e R s m args below meth c cells slots Q nL G L b S pc lv (.int v :: .ref (b + o) :: st) := by
  subst hS'
  refine x_putv C hL hc hk.1 hT w d (ty := .int) (by decide +kernel) rfl rfl (fun j => ?_) (fun o' h => setI_o h) kk
  by_cases e : j = k
  · rw [if_pos e, e]
    unfold obV
    rw [hk.2]
    show Value.int (if o = o ∧ k = k then v else _) = _
    rw [if_pos ⟨rfl, rfl⟩]
  · rw [if_neg e]
    unfold obV
    match ks.getD j 2 with
    | 0 => show Value.int (if o = o ∧ j = k then v else _) = _; rw [if_neg (fun q => e q.2)]; rfl
    | 1 => rfl
    | 2 => rfl
    | r + 3 => rfl
theorem x_putz (C : CX p G s m args meth c cc y nL ret) {o ci k N index : Nat} {T : u_T} {D n : String} {ks : List Nat} {v : Int32} {S' : Sg} (hL : L.2 o = some (0, ci, ks)) (hc : classes[ci]? = some (D, T, N)) (hT : T k = (D, n, "Z", false)) (w : Cond.fieldLink y.cls index D n "Z" ∈ zz_all) (d : decode cc pc = .ok (.putfield index, 3)) (hk : k < N ∧ ks.getD k 2 = 0) (hb : isb v = true) (hS' : S' = setI S o k v)
    (kk : X p l e R s m args below meth c cells slots Q nL G L b S' (pc + 3) lv st) : X p l e R s m args below meth c cells slots Q nL G L b S pc lv (.int v :: .ref (b + o) :: st) := by
  subst hS'
  have hv : v = 0 ∨ v = 1 := of_decide_eq_true hb
  refine x_putv C hL hc hk.1 hT w d (ty := .boolean) (by decide +kernel) (by rcases hv with rfl | rfl <;> rfl) (by rcases hv with rfl | rfl <;> rfl) (fun j => ?_) (fun o' h => setI_o h) kk
  by_cases e : j = k
  · rw [if_pos e, e]
    unfold obV
    rw [hk.2]
    show Value.int (if o = o ∧ k = k then v else _) = _
    rw [if_pos ⟨rfl, rfl⟩]
  · rw [if_neg e]
    unfold obV
    match ks.getD j 2 with
    | 0 => show Value.int (if o = o ∧ j = k then v else _) = _; rw [if_neg (fun q => e q.2)]; rfl
    | 1 => rfl
    | 2 => rfl
    | r + 3 => rfl
theorem x_putj (C : CX p G s m args meth c cc y nL ret) {o ci k N index : Nat} {T : u_T} {D n : String} {ks : List Nat} {v : Int64} {S' : Sg} (hL : L.2 o = some (0, ci, ks)) (hc : classes[ci]? = some (D, T, N)) (hT : T k = (D, n, "J", false)) (w : Cond.fieldLink y.cls index D n "J" ∈ zz_all) (d : decode cc pc = .ok (.putfield index, 3)) (hk : k < N ∧ ks.getD k 2 = 1) (hS' : S' = setJ S o k v)
    (kk : X p l e R s m args below meth c cells slots Q nL G L b S' (pc + 3) lv st) : X p l e R s m args below meth c cells slots Q nL G L b S pc lv (.long v :: .ref (b + o) :: st) := by
  subst hS'
  refine x_putv C hL hc hk.1 hT w d (ty := .long) (by decide +kernel) rfl rfl (fun j => ?_) (fun o' h => setJ_o h) kk
  by_cases e : j = k
  · rw [if_pos e, e]
    unfold obV
    rw [hk.2]
    show Value.long (if o = o ∧ k = k then v else _) = _
    rw [if_pos ⟨rfl, rfl⟩]
  · rw [if_neg e]
    unfold obV
    match ks.getD j 2 with
    | 0 => rfl
    | 1 => show Value.long (if o = o ∧ j = k then v else _) = _; rw [if_neg (fun q => e q.2)]; rfl
    | 2 => rfl
    | r + 3 => rfl
-- arrays
theorem zz_ai (C : CX p G s m args meth c cc y nL ret) : ArrOfT s G.2.1 .int := (C.2.2.2.2.2.1.1.2 0 _ rfl).1
theorem zz_aj (C : CX p G s m args meth c cc y nL ret) : ArrOfT s G.2.2.1 .long := (C.2.2.2.2.2.1.1.2 1 _ rfl).1
theorem zz_aii (C : CX p G s m args meth c cc y nL ret) : ArrOfT s G.2.2.2.1 (.array .int) := (C.2.2.2.2.2.1.1.2 2 _ rfl).1
theorem zz_ajj (C : CX p G s m args meth c cc y nL ret) : ArrOfT s G.2.2.2.2 (.array .long) := (C.2.2.2.2.2.1.1.2 3 _ rfl).1
theorem x_iaload (C : CX p G s m args meth c cc y nL ret) {o n : Nat} {ks : List Nat} {i : Int32} (hL : L.2 o = some (1, n, ks)) (hin : inb i n = true) (d : decode cc pc = .ok (.iaload, 1))
    (kk : X p l e R s m args below meth c cells slots Q nL G L b S (pc + 1) lv (.int (S.1 o (ix i)) :: st)) : X p l e R s m args below meth c cells slots Q nL G L b S pc lv (.int i :: .ref (b + o) :: st) := by
  intro H locs ls h1 h2 h3
  have hin := inb_vp hin
  have hlt : i.toNatClampNeg < n := Nat.not_le.mp fun q => hin (Or.inr q)
  exact W.iald (v := .int (S.1 o (ix i))) C.1 C.2.1 (h1.2 o _ hL) (zz_ai C n (fun j => .int (S.1 o j))) (fun q => by cases q) (by show ¬ (i < 0 ∨ (arrV _ _ _).slots.size ≤ _); rw [arrV_size]; exact hin) (by show (arrV _ _ _).slots[_]? = _; rw [arrV_read _ _ hlt]; rfl) rfl rfl d (kk H locs ls h1 h2 h3)
theorem x_laload (C : CX p G s m args meth c cc y nL ret) {o n : Nat} {ks : List Nat} {i : Int32} (hL : L.2 o = some (2, n, ks)) (hin : inb i n = true) (d : decode cc pc = .ok (.laload, 1))
    (kk : X p l e R s m args below meth c cells slots Q nL G L b S (pc + 1) lv (.long (S.2 o (ix i)) :: st)) : X p l e R s m args below meth c cells slots Q nL G L b S pc lv (.int i :: .ref (b + o) :: st) := by
  intro H locs ls h1 h2 h3
  have hin := inb_vp hin
  have hlt : i.toNatClampNeg < n := Nat.not_le.mp fun q => hin (Or.inr q)
  exact W.lald (v := .long (S.2 o (ix i))) C.1 C.2.1 (h1.2 o _ hL) (zz_aj C n (fun j => .long (S.2 o j))) (fun q => by cases q) (by show ¬ (i < 0 ∨ (arrV _ _ _).slots.size ≤ _); rw [arrV_size]; exact hin) (by show (arrV _ _ _).slots[_]? = _; rw [arrV_read _ _ hlt]; rfl) rfl rfl d (kk H locs ls h1 h2 h3)
theorem x_aaloadI (C : CX p G s m args meth c cc y nL ret) {o n f : Nat} {i : Int32} (hL : L.2 o = some (3, n, [f])) (hin : inb i n = true) (d : decode cc pc = .ok (.aaload, 1))
    (kk : X p l e R s m args below meth c cells slots Q nL G L b S (pc + 1) lv (.ref (b + (f + ix i)) :: st)) : X p l e R s m args below meth c cells slots Q nL G L b S pc lv (.int i :: .ref (b + o) :: st) := by
  intro H locs ls h1 h2 h3
  have hin := inb_vp hin
  have hlt : i.toNatClampNeg < n := Nat.not_le.mp fun q => hin (Or.inr q)
  exact W.aald (v := .ref (b + (f + ix i))) (ty := .array .int) C.1 C.2.1 (h1.2 o _ hL) (zz_aii C n (fun j => .ref (b + (f + j)))) rfl (fun q => by cases q) (by show ¬ (i < 0 ∨ (arrV _ _ _).slots.size ≤ _); rw [arrV_size]; exact hin) (by show (arrV _ _ _).slots[_]? = _; rw [arrV_read _ _ hlt]; rfl) rfl rfl d (kk H locs ls h1 h2 h3)
theorem x_aaloadJ (C : CX p G s m args meth c cc y nL ret) {o n f : Nat} {i : Int32} (hL : L.2 o = some (4, n, [f])) (hin : inb i n = true) (d : decode cc pc = .ok (.aaload, 1))
    (kk : X p l e R s m args below meth c cells slots Q nL G L b S (pc + 1) lv (.ref (b + (f + ix i)) :: st)) : X p l e R s m args below meth c cells slots Q nL G L b S pc lv (.int i :: .ref (b + o) :: st) := by
  intro H locs ls h1 h2 h3
  have hin := inb_vp hin
  have hlt : i.toNatClampNeg < n := Nat.not_le.mp fun q => hin (Or.inr q)
  exact W.aald (v := .ref (b + (f + ix i))) (ty := .array .long) C.1 C.2.1 (h1.2 o _ hL) (zz_ajj C n (fun j => .ref (b + (f + j)))) rfl (fun q => by cases q) (by show ¬ (i < 0 ∨ (arrV _ _ _).slots.size ≤ _); rw [arrV_size]; exact hin) (by show (arrV _ _ _).slots[_]? = _; rw [arrV_read _ _ hlt]; rfl) rfl rfl d (kk H locs ls h1 h2 h3)
theorem x_alenI (C : CX p G s m args meth c cc y nL ret) {o n : Nat} {ks : List Nat} {v : Int32} (hL : L.2 o = some (1, n, ks)) (hv : Int32.ofNat n = v) (d : decode cc pc = .ok (.arraylength, 1))
    (kk : X p l e R s m args below meth c cells slots Q nL G L b S (pc + 1) lv (.int v :: st)) : X p l e R s m args below meth c cells slots Q nL G L b S pc lv (.ref (b + o) :: st) := by
  intro H locs ls h1 h2 h3
  subst hv
  exact W.alen (n := Int32.ofNat n) C.1 C.2.1 (h1.2 o _ hL) (zz_ai C n (fun j => .int (S.1 o j))) (by rw [arrV_size] <;> rfl) rfl rfl d (kk H locs ls h1 h2 h3)
theorem x_iastore (C : CX p G s m args meth c cc y nL ret) {o n : Nat} {ks : List Nat} {i v : Int32} {S' : Sg} (hL : L.2 o = some (1, n, ks)) (hin : inb i n = true) (hS' : S' = setI S o (ix i) v) (d : decode cc pc = .ok (.iastore, 1))
    (kk : X p l e R s m args below meth c cells slots Q nL G L b S' (pc + 1) lv st) : X p l e R s m args below meth c cells slots Q nL G L b S pc lv (.int v :: .int i :: .ref (b + o) :: st) := by
  subst hS'
  intro H locs ls h1 h2 h3
  have hin := inb_vp hin
  refine W.iast C.1 C.2.1 (h1.2 o _ hL) (zz_ai C n (fun j => .int (S.1 o j))) (fun q => by cases q) (by show ¬ (i < 0 ∨ (arrV _ _ _).slots.size ≤ _); rw [arrV_size]; exact hin) rfl rfl d fun H1 e z oq => ?_
  refine kk H1 _ ls (h1.put hL ?_ z oq (fun o' h => setI_o h)) (h2.put z oq (Nat.le_add_right b o)) h3
  show H1[b + o]? = some (arrV _ _ _)
  rw [e, arrV_store]
  congr 2
  funext q
  show (if q = i.toNatClampNeg then Value.int v else .int (S.1 o q)) = .int (if o = o ∧ q = ix i then v else S.1 o q)
  by_cases hq : q = i.toNatClampNeg
  · rw [if_pos hq, if_pos ⟨rfl, hq⟩]
  · rw [if_neg hq, if_neg (fun z => hq z.2)]
theorem x_lastore (C : CX p G s m args meth c cc y nL ret) {o n : Nat} {ks : List Nat} {i : Int32} {v : Int64} {S' : Sg} (hL : L.2 o = some (2, n, ks)) (hin : inb i n = true) (hS' : S' = setJ S o (ix i) v) (d : decode cc pc = .ok (.lastore, 1))
    (kk : X p l e R s m args below meth c cells slots Q nL G L b S' (pc + 1) lv st) : X p l e R s m args below meth c cells slots Q nL G L b S pc lv (.long v :: .int i :: .ref (b + o) :: st) := by
  subst hS'
  intro H locs ls h1 h2 h3
  have hin := inb_vp hin
  refine W.last C.1 C.2.1 (h1.2 o _ hL) (zz_aj C n (fun j => .long (S.2 o j))) (fun q => by cases q) (by show ¬ (i < 0 ∨ (arrV _ _ _).slots.size ≤ _); rw [arrV_size]; exact hin) rfl rfl d fun H1 e z oq => ?_
  refine kk H1 _ ls (h1.put hL ?_ z oq (fun o' h => setJ_o h)) (h2.put z oq (Nat.le_add_right b o)) h3
  show H1[b + o]? = some (arrV _ _ _)
  rw [e, arrV_store]
  congr 2
  funext q
  show (if q = i.toNatClampNeg then Value.long v else .long (S.2 o q)) = .long (if o = o ∧ q = ix i then v else S.2 o q)
  by_cases hq : q = i.toNatClampNeg
  · rw [if_pos hq, if_pos ⟨rfl, hq⟩]
  · rw [if_neg hq, if_neg (fun z => hq z.2)]
-- returns
theorem zz_end (C : CX p G s m args meth c cc y nL ret) {H : Heap} {locs : List Loc} {r : Option Value} {ex : Prop} (he : ex) (h1 : HM G L b S H) (h2 : va_S (fun q => b ≤ q) s.heap H locs) : ∀ t : State, t.heap = H → s.WarmedH t.vm → QC G L b S r ex args s (.returned r) t := fun t ht hW => ⟨rfl, he, by rw [ht]; exact h1, by show s.heap.size ≤ t.heap.size; rw [ht]; exact h2.1, fun q hq hA => by rw [ht]; exact h2.2.1 q hq hA⟩
theorem x_ireturn (C : CX p G s m args meth c cc y nL (some .int)) {S' : Sg} {v r : Int32} (d : decode cc pc = .ok (.ireturn, 1)) (hv : v = r) (hS : S = S') : X p l e R s m args below meth c cells slots (MQ below (QC G L b S' (some (.int r)) True) args s cells slots (fun q => b ≤ q)) nL G L b S pc lv [.int v] := by
  subst hv; subst hS
  intro H locs ls h1 h2 h3
  exact W.iret C.1 C.2.1 C.2.2.2.2.2.2.2.1 (zz_end C trivial h1 h2) h2.2.2 d C.2.2.2.2.2.2.1
theorem x_zreturn (C : CX p G s m args meth c cc y nL (some .boolean)) {S' : Sg} {v r : Int32} (hb : v = 0 ∨ v = 1) (d : decode cc pc = .ok (.ireturn, 1)) (hv : v = r) (hS : S = S') : X p l e R s m args below meth c cells slots (MQ below (QC G L b S' (some (.int r)) (r = 0 ∨ r = 1)) args s cells slots (fun q => b ≤ q)) nL G L b S pc lv [.int v] := by
  subst hv; subst hS
  intro H locs ls h1 h2 h3
  exact W.zret C.1 C.2.1 C.2.2.2.2.2.2.2.1 (by rcases hb with rfl | rfl <;> rfl) (zz_end C hb h1 h2) h2.2.2 d C.2.2.2.2.2.2.1
theorem x_lreturn (C : CX p G s m args meth c cc y nL (some .long)) {S' : Sg} {v r : Int64} (d : decode cc pc = .ok (.lreturn, 1)) (hv : v = r) (hS : S = S') : X p l e R s m args below meth c cells slots (MQ below (QC G L b S' (some (.long r)) True) args s cells slots (fun q => b ≤ q)) nL G L b S pc lv [.long v] := by
  subst hv; subst hS
  intro H locs ls h1 h2 h3
  exact W.lret C.1 C.2.1 C.2.2.2.2.2.2.2.1 (zz_end C trivial h1 h2) h2.2.2 d C.2.2.2.2.2.2.1
theorem x_vreturn (C : CX p G s m args meth c cc y nL none) {S' : Sg} (d : decode cc pc = .ok (.return_, 1)) (hS : S = S') : X p l e R s m args below meth c cells slots (MQ below (QC G L b S' none True) args s cells slots (fun q => b ≤ q)) nL G L b S pc lv [] := by
  subst hS
  intro H locs ls h1 h2 h3
  exact W.vret C.1 C.2.1 C.2.2.2.2.2.2.2.1 (zz_end C trivial h1 h2) h2.2.2 d C.2.2.2.2.2.2.1
end ZX
