theorem arrV_c {c N : Nat} {f g : Nat → Value} (h : ∀ j, j < N → f j = g j) : arrV c N f = arrV c N g := by
  unfold arrV
  congr 1
  exact congrArg Array.ofFn (funext fun j => h j.val j.isLt)
theorem z_outer (c N h0 : Nat) : ∀ i : Nat, Jvm.Free.Multi.outerC c N h0 i = arrV c N (fun j => if j < i then .ref (h0 + 1 + j) else .null)
  | 0 => by
    show ({ cls := c, slots := Array.replicate N .null, vm := .none } : Cell) = _
    rw [arrV_new]
    exact arrV_c fun j _ => (if_neg (Nat.not_lt_zero j)).symm
  | i + 1 => by
    show (Jvm.Free.Multi.outerC c N h0 i).setSlot i (.ref (h0 + 1 + i)) = _
    rw [z_outer c N h0 i, arrV_store]
    refine arrV_c fun j _ => ?_
    show (if j = i then _ else if j < i then _ else _) = _
    by_cases e : j = i
    · subst e
      rw [if_pos rfl, if_pos (Nat.lt_succ_self j)]
    · rw [if_neg e]
      by_cases h : j < i
      · rw [if_pos h, if_pos (by omega)]
      · rw [if_neg h, if_neg (by omega)]
section ZM
variable {p : Program} {l : Launch} {e : Env} {R : Room} {s : State} {m : MethodId} {args : Array Value} {below : List Frame} {meth : Method} {c : Code} {cells slots : Nat} {Q : State → Prop} {nL : Nat} {G : zz_G} {L0 : Ly} {ly : List Sh} {b : Nat} {S : Sg} {pc : Nat} {lv : List (Nat × Value)} {st : List Value} {cc : ByteArray} {y : MethodName} {ret : Option FieldType}
theorem x_mnaI (C : CX p G s m args meth c cc y nL ret) (hA : zz_AOA .int s) {index N K : Nat} {n k : Int32} (w : Cond.classLink y.cls index "[[I" ∈ zz_all) (hn : ¬ n < 0 ∧ n.toNatClampNeg = N ∧ N * 4 ≤ 536870912) (hk : ¬ k < 0 ∧ k.toNatClampNeg = K ∧ K * componentBytes .int ≤ 536870912 ∧ K ≤ 536870912) (hr : cells + (1 + N) ≤ R.cells ∧ slots + (N + N * K) ≤ R.slots) (hz : ∀ j, j < N → S.1 (L0.1 + ly.length + 1 + j) = zr) (d : decode cc pc = .ok (.multianewarray index 2, 4))
    (kk : X p l e R s m args below meth c (cells + 1 + N) (slots + N + N * K) Q nL G (lay0 L0 (ly ++ (3, N, [L0.1 + ly.length + 1]) :: List.replicate N (1, K, []))) b S (pc + 4) lv (.ref (b + (L0.1 + ly.length)) :: st)) : X p l e R s m args below meth c cells slots Q nL G (lay0 L0 ly) b S pc lv (.int k :: .int n :: st) := by
  obtain ⟨hn1, rfl, hn3⟩ := hn
  obtain ⟨hk1, rfl, hk3, hk4⟩ := hk
  intro H locs ls h1 h2 h3 T hT Xs
  have e1 : "[" ++ (FieldType.array FieldType.int).toString = "[[I" := by decide +kernel
  obtain ⟨vm₁, cA, comp, -, fA, fC, hO, -, X', step⟩ := Xs.multianewarray2F C.1 C.2.2.2.1 (by rw [e1]; exact C.2.2.2.2.1 _ w) (hover := hA) (ty := .int) (C.2.2.2.2.1 _ wd_ai) (g := F0 m pc ls (.int k :: .int n :: st)) rfl (by rw [C.2.1]; exact d) rfl hn1 hk1 hn3 hk3 hk4 rfl rfl hr.1 hr.2
  have eA : cA = G.2.2.2.1 := by
    have h9 : s.vm.findClass ("[" ++ (FieldType.array FieldType.int).toString) = some G.2.2.2.1 := (C.2.2.2.2.2.1.1.2 2 _ rfl).2
    exact Option.some.inj (fA.symm.trans h9)
  have eC : comp = G.2.1 := by
    have h9 : s.vm.findClass ("[" ++ FieldType.int.toString) = some G.2.1 := (C.2.2.2.2.2.1.1.2 0 _ rfl).2
    exact Option.some.inj (fC.symm.trans h9)
  subst eA eC
  generalize hF : Jvm.Free.Multi.fill (T.setVm vm₁) G.2.2.2.1 G.2.1 n.toNatClampNeg k.toNatClampNeg (defaultValue .int) n.toNatClampNeg = F at X' step
  have hTh : (T.setVm vm₁).heap = H := hT
  obtain ⟨f1, f2, -, -⟩ := Jvm.Free.Multi.fill_facts (T.setVm vm₁) G.2.2.2.1 G.2.1 n.toNatClampNeg k.toNatClampNeg (defaultValue .int) n.toNatClampNeg
  rw [hF, hTh] at f1 f2
  have hsz : H.size = b + (L0.1 + ly.length) := h1.1
  have hold : ∀ x : Nat, x < H.size → F.heap[x]? = H[x]? := fun x hx => by
    have := Jvm.Free.Multi.fill_old (T.setVm vm₁) G.2.2.2.1 G.2.1 n.toNatClampNeg k.toNatClampNeg (defaultValue .int) (a := x) (by rw [hTh]; exact hx) n.toNatClampNeg
    rw [hF, hTh] at this
    exact this
  have hrow : ∀ j : Nat, j < n.toNatClampNeg → F.heap[H.size + 1 + j]? = some (arrV G.2.1 k.toNatClampNeg (fun _ => .int 0)) := fun j hj => by
    have := Jvm.Free.Multi.fill_inner (T.setVm vm₁) G.2.2.2.1 G.2.1 n.toNatClampNeg k.toNatClampNeg (defaultValue .int) n.toNatClampNeg j hj
    rw [hF, hTh] at this
    rw [this]
    exact congrArg some (arrV_new _ _ _)
  rw [z_outer] at f2
  have hM : HM G (lay0 L0 (ly ++ (3, n.toNatClampNeg, [L0.1 + ly.length + 1]) :: List.replicate n.toNatClampNeg (1, k.toNatClampNeg, []))) b S F.heap := by
    refine h1.more (by rw [f1]; show _ = H.size + (List.replicate n.toNatClampNeg ((1, k.toNatClampNeg, []) : Sh)).length.succ; rw [List.length_replicate]; omega) hold (fun i sh hi => ?_)
    match i, hi with
    | 0, hi =>
      cases hi
      show F.heap[b + (L0.1 + ly.length + 0)]? = some (arrV G.2.2.2.1 n.toNatClampNeg (fun j => .ref (b + (L0.1 + ly.length + 1 + j))))
      rw [Nat.add_zero, ← hsz, f2]
      refine congrArg some (arrV_c fun j hj => ?_)
      rw [if_pos hj, hsz]
      show Value.ref (b + (L0.1 + ly.length) + 1 + j) = Value.ref (b + (L0.1 + ly.length + 1 + j))
      rw [show b + (L0.1 + ly.length) + 1 + j = b + (L0.1 + ly.length + 1 + j) by omega]
    | i + 1, hi =>
      have hi' : (List.replicate n.toNatClampNeg ((1, k.toNatClampNeg, []) : Sh))[i]? = some sh := hi
      rw [List.getElem?_replicate] at hi'
      by_cases q : i < n.toNatClampNeg
      · rw [if_pos q] at hi'
        cases hi'
        show F.heap[b + (L0.1 + ly.length + (i + 1))]? = some (arrV G.2.1 k.toNatClampNeg (fun j => .int (S.1 (L0.1 + ly.length + (i + 1)) j)))
        rw [show L0.1 + ly.length + (i + 1) = L0.1 + ly.length + 1 + i by omega, hz i q, show b + (L0.1 + ly.length + 1 + i) = H.size + 1 + i by omega]
        exact hrow i q
      · rw [if_neg q] at hi'; cases hi'
  obtain ⟨t, a1, b1⟩ := kk F.heap locs ls hM (va_Sm h2 (by rw [f1]; omega) hold) h3 F rfl X'
  refine ⟨t, step t ?_, b1⟩
  have e : T.heap.size = b + (L0.1 + ly.length) := by rw [hT]; exact hsz
  rw [e]
  exact a1
theorem x_mnaJ (C : CX p G s m args meth c cc y nL ret) (hA : zz_AOA .long s) {index N K : Nat} {n k : Int32} (w : Cond.classLink y.cls index "[[J" ∈ zz_all) (hn : ¬ n < 0 ∧ n.toNatClampNeg = N ∧ N * 4 ≤ 536870912) (hk : ¬ k < 0 ∧ k.toNatClampNeg = K ∧ K * componentBytes .long ≤ 536870912 ∧ K ≤ 536870912) (hr : cells + (1 + N) ≤ R.cells ∧ slots + (N + N * K) ≤ R.slots) (hz : ∀ j, j < N → S.2 (L0.1 + ly.length + 1 + j) = zrJ) (d : decode cc pc = .ok (.multianewarray index 2, 4))
    (kk : X p l e R s m args below meth c (cells + 1 + N) (slots + N + N * K) Q nL G (lay0 L0 (ly ++ (4, N, [L0.1 + ly.length + 1]) :: List.replicate N (2, K, []))) b S (pc + 4) lv (.ref (b + (L0.1 + ly.length)) :: st)) : X p l e R s m args below meth c cells slots Q nL G (lay0 L0 ly) b S pc lv (.int k :: .int n :: st) := by
  obtain ⟨hn1, rfl, hn3⟩ := hn
  obtain ⟨hk1, rfl, hk3, hk4⟩ := hk
  intro H locs ls h1 h2 h3 T hT Xs
  have e1 : "[" ++ (FieldType.array FieldType.long).toString = "[[J" := by decide +kernel
  obtain ⟨vm₁, cA, comp, -, fA, fC, hO, -, X', step⟩ := Xs.multianewarray2F C.1 C.2.2.2.1 (by rw [e1]; exact C.2.2.2.2.1 _ w) (hover := hA) (ty := .long) (C.2.2.2.2.1 _ wd_aj) (g := F0 m pc ls (.int k :: .int n :: st)) rfl (by rw [C.2.1]; exact d) rfl hn1 hk1 hn3 hk3 hk4 rfl rfl hr.1 hr.2
  have eA : cA = G.2.2.2.2 := by
    have h9 : s.vm.findClass ("[" ++ (FieldType.array FieldType.long).toString) = some G.2.2.2.2 := (C.2.2.2.2.2.1.1.2 3 _ rfl).2
    exact Option.some.inj (fA.symm.trans h9)
  have eC : comp = G.2.2.1 := by
    have h9 : s.vm.findClass ("[" ++ FieldType.long.toString) = some G.2.2.1 := (C.2.2.2.2.2.1.1.2 1 _ rfl).2
    exact Option.some.inj (fC.symm.trans h9)
  subst eA eC
  generalize hF : Jvm.Free.Multi.fill (T.setVm vm₁) G.2.2.2.2 G.2.2.1 n.toNatClampNeg k.toNatClampNeg (defaultValue .long) n.toNatClampNeg = F at X' step
  have hTh : (T.setVm vm₁).heap = H := hT
  obtain ⟨f1, f2, -, -⟩ := Jvm.Free.Multi.fill_facts (T.setVm vm₁) G.2.2.2.2 G.2.2.1 n.toNatClampNeg k.toNatClampNeg (defaultValue .long) n.toNatClampNeg
  rw [hF, hTh] at f1 f2
  have hsz : H.size = b + (L0.1 + ly.length) := h1.1
  have hold : ∀ x : Nat, x < H.size → F.heap[x]? = H[x]? := fun x hx => by
    have := Jvm.Free.Multi.fill_old (T.setVm vm₁) G.2.2.2.2 G.2.2.1 n.toNatClampNeg k.toNatClampNeg (defaultValue .long) (a := x) (by rw [hTh]; exact hx) n.toNatClampNeg
    rw [hF, hTh] at this
    exact this
  have hrow : ∀ j : Nat, j < n.toNatClampNeg → F.heap[H.size + 1 + j]? = some (arrV G.2.2.1 k.toNatClampNeg (fun _ => .long 0)) := fun j hj => by
    have := Jvm.Free.Multi.fill_inner (T.setVm vm₁) G.2.2.2.2 G.2.2.1 n.toNatClampNeg k.toNatClampNeg (defaultValue .long) n.toNatClampNeg j hj
    rw [hF, hTh] at this
    rw [this]
    exact congrArg some (arrV_new _ _ _)
  rw [z_outer] at f2
  have hM : HM G (lay0 L0 (ly ++ (4, n.toNatClampNeg, [L0.1 + ly.length + 1]) :: List.replicate n.toNatClampNeg (2, k.toNatClampNeg, []))) b S F.heap := by
    refine h1.more (by rw [f1]; show _ = H.size + (List.replicate n.toNatClampNeg ((2, k.toNatClampNeg, []) : Sh)).length.succ; rw [List.length_replicate]; omega) hold (fun i sh hi => ?_)
    match i, hi with
    | 0, hi =>
      cases hi
      show F.heap[b + (L0.1 + ly.length + 0)]? = some (arrV G.2.2.2.2 n.toNatClampNeg (fun j => .ref (b + (L0.1 + ly.length + 1 + j))))
      rw [Nat.add_zero, ← hsz, f2]
      refine congrArg some (arrV_c fun j hj => ?_)
      rw [if_pos hj, hsz]
      show Value.ref (b + (L0.1 + ly.length) + 1 + j) = Value.ref (b + (L0.1 + ly.length + 1 + j))
      rw [show b + (L0.1 + ly.length) + 1 + j = b + (L0.1 + ly.length + 1 + j) by omega]
    | i + 1, hi =>
      have hi' : (List.replicate n.toNatClampNeg ((2, k.toNatClampNeg, []) : Sh))[i]? = some sh := hi
      rw [List.getElem?_replicate] at hi'
      by_cases q : i < n.toNatClampNeg
      · rw [if_pos q] at hi'
        cases hi'
        show F.heap[b + (L0.1 + ly.length + (i + 1))]? = some (arrV G.2.2.1 k.toNatClampNeg (fun j => .long (S.2 (L0.1 + ly.length + (i + 1)) j)))
        rw [show L0.1 + ly.length + (i + 1) = L0.1 + ly.length + 1 + i by omega, hz i q, show b + (L0.1 + ly.length + 1 + i) = H.size + 1 + i by omega]
        exact hrow i q
      · rw [if_neg q] at hi'; cases hi'
  obtain ⟨t, a1, b1⟩ := kk F.heap locs ls hM (va_Sm h2 (by rw [f1]; omega) hold) h3 F rfl X'
  refine ⟨t, step t ?_, b1⟩
  have e : T.heap.size = b + (L0.1 + ly.length) := by rw [hT]; exact hsz
  rw [e]
  exact a1
/-- as PC, with what is asked for arrays of arrays -/
def PN (G : zz_G) (L : Ly) (b : Nat) (S : Sg) (av : List Value) : Array Value → State → Prop := fun v U => PC G L b S av v U ∧ zz_AOA .int U ∧ zz_AOA .long U
theorem PN.blind {L : Ly} {av : List Value} : FrameBlind (PN G L b S av) := fun a U g mk q => ⟨PC.blind a U g mk q.1, zz_AOA.moved (u := U) (U := U.calling g mk a) (Vm.Alike.refl U.vm) q.2.1, zz_AOA.moved (u := U) (U := U.calling g mk a) (Vm.Alike.refl U.vm) q.2.2⟩
theorem x_callI (C : CX p G s m args meth c cc y nL ret) (hA : zz_AOA .int s ∧ zz_AOA .long s) {y2 : MethodName} {c2 : ByteArray} {rm : Room} {o k n2 idx mc ms : Nat} {L L' : Ly} {S' : Sg} (As rest : List Value) (hM : Met l y2 (Cond.code y2 c2 n2 none :: zz_all) rm (PN G L b S (.ref (b + o) :: As)) (QC G L' b S' none True) mc ms (fun q => b ≤ q))
    (w : zz_cw y.cls idx y2 c2 n2 none k) (ws : y2.name = "<init>" ∧ Cond.instanceMethod y2 ∈ zz_all) (hr : zz_fit R rm mc ms n2) (hc : cells + mc ≤ R.cells ∧ slots + ms ≤ R.slots) (hst : st = As.reverse ++ .ref (b + o) :: rest) (hk : As.length = k ∧ (rest.map fun v => v.category).sum ≤ 8) (d : decode cc pc = .ok (.invokespecial idx, 3))
    (kk : X p l e R s m args below meth c (cells + mc) (slots + ms) Q nL G L' b S' (pc + 3) lv rest) : X p l e R s m args below meth c cells slots Q nL G L b S pc lv st := by
  subst hst
  intro H locs ls h1 h2 h3
  exact zz_back (va_runI (As := As) (rest := rest) (zz_fix C) hM ⟨zz_callB C w hr, ws.1, C.2.2.2.2.1 _ ws.2⟩ ⟨PN.blind, fun U hU hW => ⟨⟨rfl, by rw [hU]; exact h1, C.2.2.2.2.2.1.warm hW⟩, hA.1.moved hW.alike, hA.2.moved hW.alike⟩⟩ rfl hk.1 h3.1 rfl (lv_room hk.2) d hc) h2 h3 (fun _ => kk)
theorem x_callIN (C : CX p G s m args meth c cc y nL ret) (hA : zz_AOA .int s ∧ zz_AOA .long s) {y2 : MethodName} {c2 : ByteArray} {rm : Room} {o k n2 idx mc ms : Nat} {L L' : Ly} {S' : Sg} {host : String} (As rest : List Value) (hM : Met l y2 (Cond.code y2 c2 n2 none :: zz_all) rm (PN G L b S (.ref (b + o) :: As)) (QC G L' b S' none True) mc ms (fun q => b ≤ q))
    (w : zz_cn y.cls idx y2 c2 n2 none k host) (ws : y2.name = "<init>" ∧ Cond.instanceMethod y2 ∈ zz_all) (hr : zz_fit R rm mc ms n2) (hc : cells + mc ≤ R.cells ∧ slots + ms ≤ R.slots) (hst : st = As.reverse ++ .ref (b + o) :: rest) (hk : As.length = k ∧ (rest.map fun v => v.category).sum ≤ 8) (d : decode cc pc = .ok (.invokespecial idx, 3))
    (kk : X p l e R s m args below meth c (cells + mc) (slots + ms) Q nL G L' b S' (pc + 3) lv rest) : X p l e R s m args below meth c cells slots Q nL G L b S pc lv st := by
  subst hst
  intro H locs ls h1 h2 h3
  exact zz_back (va_runIN (As := As) (rest := rest) (zz_fix C) hM ⟨zz_callN C w hr, ws.1, C.2.2.2.2.1 _ ws.2⟩ ⟨PN.blind, fun U hU hW => ⟨⟨rfl, by rw [hU]; exact h1, C.2.2.2.2.2.1.warm hW⟩, hA.1.moved hW.alike, hA.2.moved hW.alike⟩⟩ rfl hk.1 h3.1 rfl (lv_room hk.2) d hc) h2 h3 (fun _ => kk)
theorem x_metN {nL : Nat} {rm : Room} {L : Ly} {Qc : Array Value → State → Outcome → State → Prop} {mc ms : Nat} (av : List Value) (hy : plainFor y = true) (hn : (lg_sl av).length ≤ nL)
    (body : ∀ (p : Program) (e : Env) (s : State) (m : MethodId) (args : Array Value) (below : List Frame) (meth : Method) (c : Code), CX p G s m args meth c cc y nL ret → zz_AOA .int s ∧ zz_AOA .long s → X p l e rm s m args below meth c 0 0 (MQ below Qc args s mc ms (fun q => b ≤ q)) nL G L b S 0 (lv_args 0 av) []) :
    Met l y (Cond.code y cc nL ret :: zz_all) rm (PN G L b S av) Qc mc ms (fun q => b ≤ q) := by
  refine Met.ofWF (cc := cc) (maxL := nL) (ret := ret) hy rfl ?_
  intro p e s m args below meth c s₁ B hml hv
  obtain ⟨⟨rfl, hM, hK⟩, hA⟩ := hv
  have hts := atoms_spec (ws := Cond.code y cc nL ret :: zz_all) B.pre
  have hCX : CX p G s m av.toArray meth c cc y nL ret := ⟨B.exec, B.bytes, hml, findClass_of_methodNamed B.named, fun w hw => hts w (List.mem_cons_of_mem _ hw), hK, B.notSynchronized, B.returns, (name_of_methodNamed B.named B.method).1⟩
  rw [lg_entry_eq]
  exact body p e s m av.toArray below meth c hCX hA s.heap [] _ hM va_S.rf (lv_entry av hn)
end ZM
