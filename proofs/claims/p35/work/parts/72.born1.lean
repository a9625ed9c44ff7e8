/-! new objects: the memory grows -/
def zz_AOA (t : FieldType) (U : State) : Prop := (Cond.arrayOver (.array t)).before #[] U = true
theorem zz_AOA.moved {t : FieldType} {u U : State} (hvm : u.vm.Alike U.vm) (h : zz_AOA t u) : zz_AOA t U := by
  obtain ⟨comp, c, k, h1, h2, h3, h4, h5⟩ := arrayOverA_spec h
  obtain ⟨k', hk', he⟩ := hvm.2.2 _ _ h3
  have hi : (U.vm.classes.findIdx? fun (x : Class) => match x.kind with | .array component _ => component == comp | _ => false) = some c := by
    have h9 := va_idx_bare U.vm comp
    rw [hvm.bare_eq] at h9
    exact h9.symm.trans ((va_idx_bare u.vm comp).trans h2)
  have hkind : k'.kind = .array comp (.array t) := by rw [he]; exact h4
  have f1 : U.vm.findClass (FieldType.array t).toString = some comp := by rw [hvm.findClass]; exact h1
  have f2 : U.vm.findClass ("[" ++ (FieldType.array t).toString) = some c := by rw [hvm.findClass]; exact h5
  unfold zz_AOA Cond.before Cond.holds
  simp only [Cond.value]
  rw [f1, Option.bind_some]
  refine (congrArg (fun o : Option Nat => (o.bind (fun c => (U.vm.classes[c]?).map fun (k : Class) => match k.kind with | .array _ ty => decide (ty = FieldType.array t) && decide (U.vm.findClass ("[" ++ (FieldType.array t).toString) = some c) | _ => false) == some true)) hi).trans ?_
  simp [hk', hkind, f2]
/-- a layout: what lay there, and behind it these -/
def lay0 (L0 : Ly) (ly : List Sh) : Ly := (L0.1 + ly.length, fun o => if o < L0.1 then L0.2 o else ly[o - L0.1]?)
theorem lay_at {L0 : Ly} {ly : List Sh} {i : Nat} : (lay0 L0 ly).2 (L0.1 + i) = ly[i]? := by
  show (if L0.1 + i < L0.1 then _ else ly[L0.1 + i - L0.1]?) = _
  rw [if_neg (by omega), Nat.add_sub_cancel_left]
theorem lay_lay {L0 : Ly} {l1 l2 : List Sh} : lay0 (lay0 L0 l1) l2 = lay0 L0 (l1 ++ l2) := by
  refine Prod.ext ?_ (funext fun o => ?_)
  · show L0.1 + l1.length + l2.length = L0.1 + (l1 ++ l2).length
    rw [List.length_append]; omega
  · show (if o < L0.1 + l1.length then (if o < L0.1 then L0.2 o else l1[o - L0.1]?) else l2[o - (L0.1 + l1.length)]?) = if o < L0.1 then L0.2 o else (l1 ++ l2)[o - L0.1]?
    by_cases h1 : o < L0.1
    · rw [if_pos (by omega), if_pos h1, if_pos h1]
    · rw [if_neg h1, if_neg h1]
      by_cases h2 : o < L0.1 + l1.length
      · rw [if_pos h2, List.getElem?_append_left (by omega)]
      · rw [if_neg h2, List.getElem?_append_right (by omega)]
        rw [show o - L0.1 - l1.length = o - (L0.1 + l1.length) by omega]
theorem HM.more {G : zz_G} {L0 : Ly} {l1 l2 : List Sh} {b : Nat} {S : Sg} {H H' : Heap} (h : HM G (lay0 L0 l1) b S H) (hz : H'.size = H.size + l2.length) (ho : ∀ q : Nat, q < H.size → H'[q]? = H[q]?) (hn : ∀ i sh, l2[i]? = some sh → atE G b S H' (L0.1 + l1.length + i) sh) : HM G (lay0 L0 (l1 ++ l2)) b S H' := by
  rw [← lay_lay]
  have hs : H.size = b + (L0.1 + l1.length) := h.1
  refine ⟨?_, fun o sh hL => ?_⟩
  · show H'.size = b + (L0.1 + l1.length + l2.length)
    omega
  · have hL' : (if o < L0.1 + l1.length then (lay0 L0 l1).2 o else l2[o - (L0.1 + l1.length)]?) = some sh := hL
    by_cases q : o < L0.1 + l1.length
    · rw [if_pos q] at hL'
      exact (h.2 o sh hL').kept (ho _ (by omega)) ⟨rfl, rfl⟩
    · rw [if_neg q] at hL'
      have := hn _ sh hL'
      rw [show L0.1 + l1.length + (o - (L0.1 + l1.length)) = o by omega] at this
      exact this
theorem HM.upd {G : zz_G} {L0 : Ly} {ly : List Sh} {b i : Nat} {S : Sg} {H H' : Heap} {sh' : Sh} (h : HM G (lay0 L0 ly) b S H) (hi : i < ly.length) (hz : H'.size = H.size) (ho : ∀ q : Nat, q ≠ b + (L0.1 + i) → H'[q]? = H[q]?) (hn : atE G b S H' (L0.1 + i) sh') : HM G (lay0 L0 (ly.set i sh')) b S H' := by
  refine ⟨?_, fun o sh hL => ?_⟩
  · show H'.size = b + (L0.1 + (ly.set i sh').length)
    rw [List.length_set, hz]; exact h.1
  · have hL' : (if o < L0.1 then L0.2 o else (ly.set i sh')[o - L0.1]?) = some sh := hL
    by_cases e : o = L0.1 + i
    · subst e
      rw [if_neg (by omega), Nat.add_sub_cancel_left, List.getElem?_set_self hi] at hL'
      cases hL'
      exact hn
    · refine (h.2 o sh ?_).kept (ho _ (by omega)) ⟨rfl, rfl⟩
      show (if o < L0.1 then L0.2 o else ly[o - L0.1]?) = some sh
      by_cases q : o < L0.1
      · rw [if_pos q] at hL' ⊢; exact hL'
      · rw [if_neg q] at hL' ⊢
        rw [List.getElem?_set_ne (by omega)] at hL'
        exact hL'
def zr : Nat → Int32 := fun _ => 0
def zrJ : Nat → Int64 := fun _ => 0
def zv : Nat → Value
  | 0 => .int 0
  | 1 => .long 0
  | _ => .null
theorem va_Sm {H0 H H' : Heap} {A : Nat → Prop} {locs : List Loc} (h : va_S A H0 H locs) (hz : H.size ≤ H'.size) (ho : ∀ q : Nat, q < H.size → H'[q]? = H[q]?) : va_S A H0 H' locs := ⟨Nat.le_trans h.1 hz, fun x h1 h2 => (ho x (Nat.lt_of_lt_of_le h1 h.1)).trans (h.2.1 x h1 h2), h.2.2⟩
theorem wd_ai : Cond.arrayClass .int ∈ zz_all := zz_in 57 (by decide +kernel) (by decide +kernel)
theorem wd_aj : Cond.arrayClass .long ∈ zz_all := zz_in 58 (by decide +kernel) (by decide +kernel)
section ZB
variable {p : Program} {l : Launch} {e : Env} {R : Room} {s : State} {m : MethodId} {args : Array Value} {below : List Frame} {meth : Method} {c : Code} {cells slots : Nat} {Q : State → Prop} {nL : Nat} {G : zz_G} {L0 : Ly} {ly : List Sh} {b : Nat} {S : Sg} {pc : Nat} {lv : List (Nat × Value)} {st : List Value} {cc : ByteArray} {y : MethodName} {ret : Option FieldType}
theorem x_newI (C : CX p G s m args meth c cc y nL ret) {n : Int32} {N : Nat} (hn : ¬ n < 0 ∧ n.toNatClampNeg = N ∧ N * componentBytes .int ≤ 536870912) (hr : cells + 1 ≤ R.cells ∧ slots + N ≤ R.slots) (hz : S.1 (L0.1 + ly.length) = zr) (d : decode cc pc = .ok (.newarray .int, 2))
    (kk : X p l e R s m args below meth c (cells + 1) (slots + N) Q nL G (lay0 L0 (ly ++ [(1, N, [])])) b S (pc + 2) lv (.ref (b + (L0.1 + ly.length)) :: st)) : X p l e R s m args below meth c cells slots Q nL G (lay0 L0 ly) b S pc lv (.int n :: st) := by
  intro H locs ls h1 h2 h3
  refine va_newaK C.1 C.2.1 (atype := .int) (C.2.2.2.2.1 _ wd_ai) (g := F0 m pc ls (.int n :: st)) rfl d rfl hn.1 hn.2.1 hn.2.2 hr.1 hr.2 h1.1 (fun H' cA e1 z1 o1 _ hf => ?_)
  have hcA : cA = G.2.1 := by
    have h9 : s.vm.findClass ("[" ++ FieldType.int.toString) = some G.2.1 := (C.2.2.2.2.2.1.1.2 0 _ rfl).2
    exact Option.some.inj (hf.symm.trans h9)
  subst hcA
  have hsz : H.size = b + (lay0 L0 ly).1 := h1.1
  refine kk H' locs ls (h1.more (by rw [z1, hsz]; rfl) (fun q hq => o1 q (by rw [← hsz]; exact hq)) (fun i sh hi => ?_)) (va_Sm h2 (by rw [z1, hsz]; omega) (fun q hq => o1 q (by rw [← hsz]; exact hq))) h3
  match i, hi with
  | 0, hi =>
    cases hi
    show H'[b + (L0.1 + ly.length)]? = some (arrV G.2.1 N (fun j => .int (S.1 (L0.1 + ly.length) j)))
    rw [hz]
    exact e1
theorem x_newJ (C : CX p G s m args meth c cc y nL ret) {n : Int32} {N : Nat} (hn : ¬ n < 0 ∧ n.toNatClampNeg = N ∧ N * componentBytes .long ≤ 536870912) (hr : cells + 1 ≤ R.cells ∧ slots + N ≤ R.slots) (hz : S.2 (L0.1 + ly.length) = zrJ) (d : decode cc pc = .ok (.newarray .long, 2))
    (kk : X p l e R s m args below meth c (cells + 1) (slots + N) Q nL G (lay0 L0 (ly ++ [(2, N, [])])) b S (pc + 2) lv (.ref (b + (L0.1 + ly.length)) :: st)) : X p l e R s m args below meth c cells slots Q nL G (lay0 L0 ly) b S pc lv (.int n :: st) := by
  intro H locs ls h1 h2 h3
  refine va_newaK C.1 C.2.1 (atype := .long) (C.2.2.2.2.1 _ wd_aj) (g := F0 m pc ls (.int n :: st)) rfl d rfl hn.1 hn.2.1 hn.2.2 hr.1 hr.2 h1.1 (fun H' cA e1 z1 o1 _ hf => ?_)
  have hcA : cA = G.2.2.1 := by
    have h9 : s.vm.findClass ("[" ++ FieldType.long.toString) = some G.2.2.1 := (C.2.2.2.2.2.1.1.2 1 _ rfl).2
    exact Option.some.inj (hf.symm.trans h9)
  subst hcA
  have hsz : H.size = b + (lay0 L0 ly).1 := h1.1
  refine kk H' locs ls (h1.more (by rw [z1, hsz]; rfl) (fun q hq => o1 q (by rw [← hsz]; exact hq)) (fun i sh hi => ?_)) (va_Sm h2 (by rw [z1, hsz]; omega) (fun q hq => o1 q (by rw [← hsz]; exact hq))) h3
  match i, hi with
  | 0, hi =>
    cases hi
    show H'[b + (L0.1 + ly.length)]? = some (arrV G.2.2.1 N (fun j => .long (S.2 (L0.1 + ly.length) j)))
    rw [hz]
    exact e1
theorem x_new (C : CX p G s m args meth c cc y nL ret) {ci N index : Nat} {D : String} {T : u_T} (ks : List Nat) (hc : classes[ci]? = some (D, T, N)) (w : Cond.classLink y.cls index D ∈ zz_all ∧ Cond.instantiable D N ∈ zz_all ∧ Cond.initialized D ∈ zz_all) (hks : ∀ k, k < N → defaultValue ((parseFieldDescriptor (T k).2.2.1).getD .int) = zv (ks.getD k 2) ∧ ks.getD k 2 < 3) (hr : cells + 1 ≤ R.cells ∧ slots + N ≤ R.slots) (hz : S.1 (L0.1 + ly.length) = zr ∧ S.2 (L0.1 + ly.length) = zrJ) (d : decode cc pc = .ok (.new index, 3))
    (kk : X p l e R s m args below meth c (cells + 1) (slots + N) Q nL G (lay0 L0 (ly ++ [(0, ci, ks)])) b S (pc + 3) lv (.ref (b + (L0.1 + ly.length)) :: st)) : X p l e R s m args below meth c cells slots Q nL G (lay0 L0 ly) b S pc lv st := by
  intro H locs ls h1 h2 h3
  have hts := C.2.2.2.2.1
  have hKn := C.2.2.2.2.2.1.1.1 ci _ hc
  refine W.newcK C.1 C.2.1 C.2.2.2.1 (hts _ w.1) (hts _ w.2.1) (hts _ w.2.2) rfl d hr.1 hr.2 hKn.2.1 h1.1 (fun H' kC hkC e1 z1 o1 => ?_)
  have hsz : H.size = b + (lay0 L0 ly).1 := h1.1
  refine kk H' locs ls (h1.more (by rw [z1, hsz]; rfl) (fun q hq => o1 q (by rw [← hsz]; exact hq)) (fun i sh hi => ?_)) (va_Sm h2 (by rw [z1, hsz]; omega) (fun q hq => o1 q (by rw [← hsz]; exact hq))) h3
  match i, hi with
  | 0, hi =>
    cases hi
    refine ⟨_, hc, (u_born (fun k => (parseFieldDescriptor (T k).2.2.1).getD .int) hts (cls_in ci _ hc) hKn hkC e1 (fun k hk => ?_)).to (fun k hk => ?_)⟩
    · have := (cls_nm ci _ hc k hk k hk).2
      rw [show (D, T, N).2.1 = T from rfl] at this ⊢
      cases h9 : parseFieldDescriptor (T k).2.2.1 with
      | none => rw [h9] at this; cases this
      | some x => rfl
    · obtain ⟨a1, a2⟩ := hks k hk
      show defaultValue ((parseFieldDescriptor (T k).2.2.1).getD .int) = fldv b S (L0.1 + ly.length + 0) k (ks.getD k 2)
      rw [a1]
      generalize ks.getD k 2 = x at a2
      match x, a2 with
      | 0, _ => show Value.int 0 = Value.int (S.1 (L0.1 + ly.length) k); rw [hz.1]; rfl
      | 1, _ => show Value.long 0 = Value.long (S.2 (L0.1 + ly.length) k); rw [hz.2]; rfl
      | 2, _ => rfl
/-- a final field is given its reference -/
theorem x_putf (C : CX p G s m args meth c cc y nL ret) {i r ci k N index : Nat} {T : u_T} {D n t : String} {ks : List Nat} {ty : FieldType} (hl : ly[i]? = some (0, ci, ks)) (hc : classes[ci]? = some (D, T, N)) (hk : k < N ∧ k < ks.length) (hT : T k = (D, n, t, true)) (w : Cond.fieldLink y.cls index D n t ∈ zz_all) (hy : D = y.cls ∧ y.name = "<init>") (d : decode cc pc = .ok (.putfield index, 3)) (hd : parseFieldDescriptor t = some ty) (hf : ∀ q : Nat, narrow ty (.ref q) = .ref q ∧ fits ty (.ref q) = true)
    (kk : X p l e R s m args below meth c cells slots Q nL G (lay0 L0 (ly.set i (0, ci, ks.set k (r + 3)))) b S (pc + 3) lv st) : X p l e R s m args below meth c cells slots Q nL G (lay0 L0 ly) b S pc lv (.ref (b + r) :: .ref (b + (L0.1 + i)) :: st) := by
  intro H locs ls h1 h2 h3
  obtain ⟨r9, g1, cell, q1, q2, q3, q4⟩ := h1.2 (L0.1 + i) _ (lay_at.trans hl)
  have hr : r9 = (D, T, N) := Option.some.inj (g1.symm.trans hc)
  subst hr
  have hap := zz_apart C.2.2.2.2.1 C.2.2.2.2.2.1 hc
  obtain ⟨hx, hb, hml, hown, hts, hK, _, _, hnm⟩ := C
  obtain ⟨hS, hfc, kC, hkC, hkind⟩ := hK.1.1 ci _ hc
  obtain ⟨cf, kf, fi, f, hi, hsl⟩ := hS k hk.1
  have hlay := hts _ (cls_in ci _ hc _ (u_in_lay hk.1))
  unfold u_lay at hlay
  rw [show (D, T, N).2.1 = T from rfl, hT, if_pos rfl] at hlay
  have hst := (u_facts hfc hkC (u_lays hts (cls_in ci _ hc) hk.1) hi).1
  rw [show (D, T, N).2.1 = T from rfl, hT] at hi
  have hcf : m.cls = cf := by
    obtain ⟨_, _, c', _, _, _, -, -, hf', -, -, -, hown2, -⟩ := Cond.laysFinal_spec hlay
    have e1 : c' = cf := by have := hi.symm.trans hf'; simp at this; exact this.1.symm
    have e2 : (D, n, t, true).1 = y.cls := hy.1
    rw [e2] at hown2
    rw [← e1]; exact Option.some.inj (hown.symm.trans hown2)
  have h6 := u_fits hfc hkC hkind (Or.inr hlay) hi hd (hf (b + r)).1 (hf (b + r)).2
  refine W.putFinK hx hb hown (hts _ w) hi hst hcf (hnm.trans hy.2) (by rw [q2]; exact h6) q1 q3 (by rw [hsl]; exact k2_hasslot (q4 k hk.1)) rfl rfl d fun H' e1 e2 e3 => ?_
  rw [hsl] at e1 ⊢
  have hil : i < ly.length := (List.getElem?_eq_some_iff.mp hl).1
  refine kk H' _ ls (h1.upd hil e2 e3 ⟨_, hc, t_OB.to (V := updV (obV b S (L0.1 + i) ks) k (.ref (b + r))) ⟨_, e1, q2, q3, t_set q4 hap hk.1 (.ref (b + r))⟩ (fun j _ => ?_)⟩) (h2.put e2 e3 (Nat.le_add_right b _)) h3
  show (if j = k then _ else obV b S (L0.1 + i) ks j) = fldv b S (L0.1 + i) j ((ks.set k (r + 3)).getD j 2)
  by_cases ej : j = k
  · subst ej
    rw [if_pos rfl, List.getD_eq_getElem?_getD, List.getElem?_set_self hk.2]
    rfl
  · rw [if_neg ej, List.getD_eq_getElem?_getD, List.getElem?_set_ne (fun q => ej q.symm), ← List.getD_eq_getElem?_getD]
    rfl
theorem x_objI (C : CX p G s m args meth c cc y nL ret) {x idx : Nat} {L : Ly} (w : Cond.methodLink y.cls idx objectInit ∈ zz_all) (hr : 1 ≤ R.frames ∧ 8 + (st.map fun v => v.category).sum + 12 ≤ R.locals) (d : decode cc pc = .ok (.invokespecial idx, 3)) (kk : X p l e R s m args below meth c cells slots Q nL G L b S (pc + 3) lv st) : X p l e R s m args below meth c cells slots Q nL G L b S pc lv (.ref x :: st) := by
  intro H locs ls h1 h2 h3
  exact W.objInit C.1 C.2.1 C.2.2.2.1 (C.2.2.2.2.1 _ w) (C.2.2.2.2.1 _ wd_28) (C.2.2.2.2.1 _ wd_29) rfl (by rw [C.2.2.1]; exact h3.1) rfl d hr.1 (by show 2 * 0 + _ + 12 ≤ _; omega) (kk H locs ls h1 h2 h3)
end ZB
