-- a method's contract out of a walk of its body
theorem x_met {l : Launch} {y : MethodName} {cc : ByteArray} {nL : Nat} {ret : Option FieldType} {rm : Room} {G : zz_G} {L : Ly} {b : Nat} {S : Sg} {Qc : Array Value → State → Outcome → State → Prop} {mc ms : Nat} (av : List Value) (hy : plainName y.cls = true) (hn : (lg_sl av).length ≤ nL)
    (body : ∀ (p : Program) (e : Env) (s : State) (m : MethodId) (args : Array Value) (below : List Frame) (meth : Method) (c : Code), CX p G s m args meth c cc y nL ret → X p l e rm s m args below meth c 0 0 (MQ below Qc args s mc ms (fun q => b ≤ q)) nL G L b S 0 (lv_args 0 av) []) :
    Met l y (Cond.code y cc nL ret :: zz_all) rm (PC G L b S av) Qc mc ms (fun q => b ≤ q) := by
  refine Met.ofW (cc := cc) (maxL := nL) (ret := ret) hy rfl ?_
  intro p e s m args below meth c s₁ B hml hv
  obtain ⟨rfl, hM, hK⟩ := hv
  have hts := atoms_spec (ws := Cond.code y cc nL ret :: zz_all) B.pre
  have hCX : CX p G s m av.toArray meth c cc y nL ret := ⟨B.exec, B.bytes, hml, findClass_of_methodNamed B.named, fun w hw => hts w (List.mem_cons_of_mem _ hw), hK, B.notSynchronized, B.returns, (name_of_methodNamed B.named B.method).1⟩
  rw [lg_entry_eq]
  exact body p e s m av.toArray below meth c hCX s.heap [] _ hM va_S.rf (lv_entry av hn)
theorem PC.blind {G : zz_G} {L : Ly} {b : Nat} {S : Sg} {av : List Value} : FrameBlind (PC G L b S av) := fun a U g mk q => ⟨q.1, q.2.1, q.2.2.same rfl⟩
/-- what a call's row asks of the words -/
def zz_cw (own : String) (idx : Nat) (y : MethodName) (cc : ByteArray) (nL : Nat) (ret : Option FieldType) (n : Nat) : Prop :=
  Cond.methodLink own idx y ∈ zz_all ∧ Cond.code y cc nL ret ∈ zz_all ∧ Cond.initialized y.cls ∈ zz_all ∧ (y.cls ≠ "java/lang/invoke/MethodHandle" ∧ y.cls ≠ "java/lang/invoke/VarHandle") ∧ (parseMethodDescriptor y.desc).map (fun d => d.parameters.length) = some n
def zz_cn (own : String) (idx : Nat) (y : MethodName) (cc : ByteArray) (nL : Nat) (ret : Option FieldType) (n : Nat) (host : String) : Prop :=
  (own, idx, y, host) ∈ zz_nest ∧ Cond.code y cc nL ret ∈ zz_all ∧ Cond.initialized y.cls ∈ zz_all ∧ (y.cls ≠ "java/lang/invoke/MethodHandle" ∧ y.cls ≠ "java/lang/invoke/VarHandle") ∧ (parseMethodDescriptor y.desc).map (fun d => d.parameters.length) = some n
def zz_fit (R rm : Room) (mc ms nL : Nat) : Prop := rm.cells = mc ∧ rm.slots = ms ∧ rm.frames + 1 ≤ R.frames ∧ 8 + (nL + 11) + rm.locals ≤ R.locals
section ZC
variable {p : Program} {l : Launch} {e : Env} {R : Room} {s : State} {m : MethodId} {args : Array Value} {below : List Frame} {meth : Method} {c : Code} {cells slots : Nat} {Q : State → Prop} {nL : Nat} {G : zz_G} {L : Ly} {b : Nat} {S : Sg} {pc : Nat} {lv : List (Nat × Value)} {st : List Value} {cc : ByteArray} {y : MethodName} {ret : Option FieldType}
variable {H : Heap} {locs : List Loc}
theorem zz_len {y2 : MethodName} {n : Nat} (h : (parseMethodDescriptor y2.desc).map (fun d => d.parameters.length) = some n) : ∀ sig, parseMethodDescriptor y2.desc = some sig → n = sig.parameters.length := by
  intro sig hs
  rw [hs] at h
  exact (Option.some.inj h).symm
theorem zz_callB (C : CX p G s m args meth c cc y nL ret) {idx n2 k mc ms : Nat} {y2 : MethodName} {c2 : ByteArray} {r2 : Option FieldType} {rm : Room} (w : zz_cw y.cls idx y2 c2 n2 r2 k) (hr : zz_fit R rm mc ms n2) : CallB R s args y.cls idx y2 c2 n2 r2 (Cond.code y2 c2 n2 r2 :: zz_all) rm mc ms k := by
  obtain ⟨w1, w2, w3, w4, w5⟩ := w
  obtain ⟨r1, r2', r3, r4⟩ := hr
  have ht := C.2.2.2.2.1
  exact ⟨r1, r2', r3, r4, pay_in ht (zz_good w2 (fun _ h => h)), List.mem_cons_self, ht _ w2, ht _ w3, w4, zz_len w5, ht _ w1⟩
theorem zz_callN (C : CX p G s m args meth c cc y nL ret) {idx n2 k mc ms : Nat} {y2 : MethodName} {c2 : ByteArray} {r2 : Option FieldType} {rm : Room} {host : String} (w : zz_cn y.cls idx y2 c2 n2 r2 k host) (hr : zz_fit R rm mc ms n2) : va_CN R s args y.cls idx y2 host c2 n2 r2 (Cond.code y2 c2 n2 r2 :: zz_all) rm mc ms k := by
  obtain ⟨w1, w2, w3, w4, w5⟩ := w
  obtain ⟨r1, r2', r3, r4⟩ := hr
  have ht := C.2.2.2.2.1
  exact ⟨⟨r1, r2', r3, r4, pay_in ht (zz_good w2 (fun _ h => h)), List.mem_cons_self⟩, ht _ w2, ht _ w3, w4, zz_len w5, va_Nw.use rfl (C.2.2.2.2.2.1.2 _ w1)⟩
theorem zz_fix (C : CX p G s m args meth c cc y nL ret) : CallFix p m c cc nL s args zz_all y.cls := ⟨C.1, C.2.1, C.2.2.1, C.2.2.2.1, C.2.2.2.2.1⟩
/-- what goes on behind a call -/
theorem zz_back {mc ms : Nat} {L' : Ly} {S' : Sg} {v : Option Value} {ex : Prop} {a : Array Value} {ls : Array Slot} {st0 rest : List Value} (hr : va_Run p l e R s m args below meth c H locs cells slots mc ms (F0 m pc ls st0) rest (QC G L' b S' v ex a) (fun q => b ≤ q)) (h2 : va_S (fun q => b ≤ q) s.heap H locs) (h3 : lv_has ls nL lv)
    (kk : ex → X p l e R s m args below meth c (cells + mc) (slots + ms) Q nL G L' b S' (pc + 3) lv (v.toList ++ rest)) : W p l e R s m args below meth c H locs cells slots Q (F0 m pc ls st0) := by
  intro T hT Y
  obtain ⟨v', st₀, t, T', Ls, h0, Y', hL, e1, e2, ⟨hv, hex, hM, hz, hk⟩, stp⟩ := hr T hT Y
  have hv := Outcome.returned.inj hv
  subst hv
  rw [h0] at hz hk
  obtain ⟨t2, a1, b1⟩ := kk hex T'.heap (locs ++ Ls) ls (by rw [e1]; exact hM) ⟨Nat.le_trans h2.1 (by rw [e1]; exact hz), fun q g1 g2 => by rw [e1, hk q (Nat.lt_of_lt_of_le g1 h2.1) g2]; exact h2.2.1 q g1 g2, fun q hq => by
      rcases List.mem_append.mp hq with h | h
      · exact h2.2.2 q h
      · exact hL q h⟩ h3 T' rfl Y'
  exact ⟨t2, stp t2 a1, b1⟩
theorem x_callV (C : CX p G s m args meth c cc y nL ret) {y2 : MethodName} {c2 : ByteArray} {r2 : Option FieldType} {rm : Room} {o k n2 idx mc ms : Nat} {L' : Ly} {S' : Sg} {v : Option Value} {ex : Prop} {sh : Sh} {q : vw_C} (As rest : List Value) (hM : Met l y2 (Cond.code y2 c2 n2 r2 :: zz_all) rm (PC G L b S (.ref (b + o) :: As)) (QC G L' b S' v ex) mc ms (fun q => b ≤ q))
    (w : zz_cw y.cls idx y2 c2 n2 r2 k) (ws : Cond.instanceMethod y2 ∈ zz_all ∧ Cond.selects y2.cls y2 y2 ∈ zz_all) (hr : zz_fit R rm mc ms n2) (hc : cells + mc ≤ R.cells ∧ slots + ms ≤ R.slots) (hL : L.2 o = some sh) (hq : sh.1 = 0 ∧ classes[sh.2.1]? = some q ∧ q.1 = y2.cls) (hst : st = As.reverse ++ .ref (b + o) :: rest) (hk : As.length = k ∧ (rest.map fun v => v.category).sum ≤ 8) (d : decode cc pc = .ok (.invokevirtual idx, 3))
    (kk : ex → X p l e R s m args below meth c (cells + mc) (slots + ms) Q nL G L' b S' (pc + 3) lv (v.toList ++ rest)) : X p l e R s m args below meth c cells slots Q nL G L b S pc lv st := by
  subst hst
  intro H locs ls h1 h2 h3
  refine zz_back (va_runV (C := y2.cls) (As := As) (rest := rest) (zz_fix C) hM ⟨zz_callB C w hr, C.2.2.2.2.1 _ ws.1, C.2.2.2.2.1 _ ws.2⟩ ⟨PC.blind, ?_, fun U hU hW => ⟨rfl, by rw [hU]; exact h1, C.2.2.2.2.2.1.warm hW⟩⟩ rfl hk.1 h3.1 rfl (lv_room hk.2) d hc) h2 h3 kk
  obtain ⟨t, ci, ks⟩ := sh
  obtain ⟨rfl, hc1, hc2⟩ := hq
  obtain ⟨r, g1, cell, q1, q2, q3, -⟩ := h1.2 o _ hL
  cases g1.symm.trans hc1
  exact ⟨cell, q1, by rw [q3]; rfl, by rw [q2, ← hc2]; exact (C.2.2.2.2.2.1.1.1 ci _ hc1).2.1⟩
theorem x_callS (C : CX p G s m args meth c cc y nL ret) {y2 : MethodName} {c2 : ByteArray} {r2 : Option FieldType} {rm : Room} {k n2 idx : Nat} {S' : Sg} {v : Option Value} {ex : Prop} (As rest : List Value) (hM : Met l y2 (Cond.code y2 c2 n2 r2 :: zz_all) rm (PC G L b S As) (QC G L b S' v ex) 0 0 (fun q => b ≤ q))
    (w : zz_cw y.cls idx y2 c2 n2 r2 k) (ws : Cond.static y2 ∈ zz_all) (hr : zz_fit R rm 0 0 n2) (hc : cells + 0 ≤ R.cells ∧ slots + 0 ≤ R.slots) (hst : st = As.reverse ++ rest) (hk : As.length = k ∧ (rest.map fun v => v.category).sum ≤ 8) (d : decode cc pc = .ok (.invokestatic idx, 3))
    (kk : ex → X p l e R s m args below meth c (cells + 0) (slots + 0) Q nL G L b S' (pc + 3) lv (v.toList ++ rest)) : X p l e R s m args below meth c cells slots Q nL G L b S pc lv st := by
  subst hst
  intro H locs ls h1 h2 h3
  exact zz_back (va_runS (As := As) (rest := rest) (zz_fix C) hM ⟨zz_callB C w hr, C.2.2.2.2.1 _ ws⟩ ⟨PC.blind, fun U hU hW => ⟨rfl, by rw [hU]; exact h1, C.2.2.2.2.2.1.warm hW⟩⟩ rfl hk.1 h3.1 rfl (lv_room hk.2) d hc) h2 h3 kk
theorem x_callSN (C : CX p G s m args meth c cc y nL ret) {y2 : MethodName} {c2 : ByteArray} {r2 : Option FieldType} {rm : Room} {k n2 idx : Nat} {S' : Sg} {v : Option Value} {ex : Prop} {host : String} (As rest : List Value) (hM : Met l y2 (Cond.code y2 c2 n2 r2 :: zz_all) rm (PC G L b S As) (QC G L b S' v ex) 0 0 (fun q => b ≤ q))
    (w : zz_cn y.cls idx y2 c2 n2 r2 k host) (ws : Cond.static y2 ∈ zz_all) (hr : zz_fit R rm 0 0 n2) (hc : cells + 0 ≤ R.cells ∧ slots + 0 ≤ R.slots) (hst : st = As.reverse ++ rest) (hk : As.length = k ∧ (rest.map fun v => v.category).sum ≤ 8) (d : decode cc pc = .ok (.invokestatic idx, 3))
    (kk : ex → X p l e R s m args below meth c (cells + 0) (slots + 0) Q nL G L b S' (pc + 3) lv (v.toList ++ rest)) : X p l e R s m args below meth c cells slots Q nL G L b S pc lv st := by
  subst hst
  intro H locs ls h1 h2 h3
  exact zz_back (va_runSN (As := As) (rest := rest) (zz_fix C) hM ⟨zz_callN C w hr, C.2.2.2.2.1 _ ws, trivial⟩ ⟨PC.blind, fun U hU hW => ⟨rfl, by rw [hU]; exact h1, C.2.2.2.2.2.1.warm hW⟩⟩ rfl hk.1 h3.1 rfl (lv_room hk.2) d hc) h2 h3 kk
theorem zz_nn (z : Int32) (hz : ¬ z < 0) : z.toInt = (z.toNatClampNeg : Int) := by
  have hz0 : (0 : Int) ≤ z.toInt := by
    have := Int32.not_lt.mp hz
    simpa using Int32.le_iff_toInt_le.mp this
  show z.toInt = ((z.toInt.toNat : Nat) : Int)
  omega
def zz_sysw (own : String) (idx : Nat) : Prop := Cond.methodLink own idx arraycopyName ∈ zz_all ∧ Cond.native arraycopyName ∈ zz_all ∧ Cond.static arraycopyName ∈ zz_all ∧ Cond.initialized "java/lang/System" ∈ zz_all
theorem x_acpI (C : CX p G s m args meth c cc y nL ret) {a dd n0 n1 idx : Nat} {sp dp n : Int32} {k0 k1 : List Nat} {S' : Sg} (w : zz_sysw y.cls idx) (hL0 : L.2 a = some (1, n0, k0)) (hL1 : L.2 dd = some (1, n1, k1)) (ok : cpok sp dp n n0 n1 = true) (hS' : S' = cpI S a sp dd dp n) (hR : 1 ≤ R.frames ∧ 26 ≤ R.locals) (hk : (st.map fun v => v.category).sum ≤ 8) (d : decode cc pc = .ok (.invokestatic idx, 3))
    (kk : X p l e R s m args below meth c cells slots Q nL G L b S' (pc + 3) lv st) : X p l e R s m args below meth c cells slots Q nL G L b S pc lv (.int n :: .int dp :: .ref (b + dd) :: .int sp :: .ref (b + a) :: st) := by
  subst hS'
  obtain ⟨o1, o2, o3, o4, o5⟩ := of_decide_eq_true ok
  intro H locs ls h1 h2 h3 T hT Y
  have hx := C.1
  have hb := C.2.1
  have hts := C.2.2.2.2.1
  have hc0 := h1.2 a _ hL0
  have hc1 := h1.2 dd _ hL1
  obtain ⟨-, k0, hk0, cm0, hkk0⟩ := zz_ai C n0 (fun j => .int (S.1 a j))
  obtain ⟨-, k1, hk1, cm1, hkk1⟩ := zz_ai C n1 (fun j => .int (S.1 dd j))
  obtain ⟨vm', Y', step⟩ := Y.arraycopy hx C.2.2.2.1 (hts _ w.1) (hts _ w.2.1) (hts _ w.2.2.1) (hts _ w.2.2.2) (src := b + a) (dst := b + dd) (srcPos := sp) (destPos := dp) (n := n) (by rw [hT]; exact hc0) (by rw [hT]; exact hc1)
    (fun _ h => by cases h) (fun _ h => by cases h) (fun h => by cases h) (fun h => by cases h) hk0 hk1 hkk0 hkk1 (by decide) o1 o2 o3
    (by rw [zz_nn sp o1, zz_nn n o3, arrV_size]; unfold ix at o4; omega)
    (by rw [zz_nn dp o2, zz_nn n o3, arrV_size]; unfold ix at o5; omega)
    (fun vm₁ _ i hi => by
      have e : (arrV G.2.1 n0 (fun j => Value.int (S.1 a j))).slots.getD (sp.toNatClampNeg + i) .null = .int (S.1 a (sp.toNatClampNeg + i)) := by
        rw [Array.getD_eq_getD_getElem?, arrV_read _ _ (by unfold ix at o4; omega)]
        rfl
      refine ⟨?_, ?_⟩
      · rw [e]; rfl
      · rw [e]
        exact trivial)
    (g := F0 m pc ls (.int n :: .int dp :: .ref (b + dd) :: .int sp :: .ref (b + a) :: st)) rfl (by rw [C.2.2.1]; exact h3.1) (rest := st) rfl (by rw [hb]; exact d) hR.1 (by show 2 * 0 + _ + (7 + 11) ≤ _; omega)
  have e1 : copied (arrV G.2.1 n0 (fun j => Value.int (S.1 a j))) (arrV G.2.1 n1 (fun j => Value.int (S.1 dd j))) sp dp n = arrV G.2.1 n1 (fun j => Value.int (va_cpy (S.1 a) (S.1 dd) (ix sp) (ix dp) (ix n) j)) := va_copied (fun z => Value.int z) G.2.1 G.2.1 (S.1 a) (S.1 dd) o4
  rw [e1] at Y' step
  have hl : b + dd < H.size := (Array.getElem?_eq_some_iff.mp hc1).1
  have hheap : ((T.setVm vm').setCell (b + dd) (arrV G.2.1 n1 (fun j => Value.int (va_cpy (S.1 a) (S.1 dd) (ix sp) (ix dp) (ix n) j)))).heap = H.setIfInBounds (b + dd) (arrV G.2.1 n1 (fun j => Value.int (va_cpy (S.1 a) (S.1 dd) (ix sp) (ix dp) (ix n) j))) := by rw [← hT]; rfl
  have oq : ∀ q : Nat, q ≠ b + dd → (H.setIfInBounds (b + dd) (arrV G.2.1 n1 (fun j => Value.int (va_cpy (S.1 a) (S.1 dd) (ix sp) (ix dp) (ix n) j))))[q]? = H[q]? := fun q hq => by simp [Array.getElem?_setIfInBounds, Ne.symm hq]
  obtain ⟨t, a1, b1⟩ := kk _ _ ls (h1.put (S' := cpI S a sp dd dp n) hL1 (by
      show (H.setIfInBounds (b + dd) _)[b + dd]? = some (arrV G.2.1 n1 (fun j => Value.int ((if dd = dd then va_cpy (S.1 a) (S.1 dd) (ix sp) (ix dp) (ix n) else S.1 dd) j)))
      rw [if_pos rfl]
      simp [Array.getElem?_setIfInBounds, hl]) (by simp) oq (fun o' h => fillI_o h)) ⟨by simp; exact h2.1, fun q g1 g2 => by
      rw [oq q (fun e => g2 (by rw [e]; exact Nat.le_add_right b dd))]
      exact h2.2.1 q g1 g2, fun q hq => by
      rcases List.mem_append.mp hq with h | h
      · exact h2.2.2 q h
      · obtain ⟨z, -, hz⟩ := List.mem_map.mp h
        rw [← hz]
        exact Nat.le_add_right b dd⟩ h3 _ hheap Y'
  exact ⟨t, step t a1, b1⟩
theorem x_acpJ (C : CX p G s m args meth c cc y nL ret) {a dd n0 n1 idx : Nat} {sp dp n : Int32} {k0 k1 : List Nat} {S' : Sg} (w : zz_sysw y.cls idx) (hL0 : L.2 a = some (2, n0, k0)) (hL1 : L.2 dd = some (2, n1, k1)) (ok : cpok sp dp n n0 n1 = true) (hS' : S' = cpJ S a sp dd dp n) (hR : 1 ≤ R.frames ∧ 26 ≤ R.locals) (hk : (st.map fun v => v.category).sum ≤ 8) (d : decode cc pc = .ok (.invokestatic idx, 3))
    (kk : X p l e R s m args below meth c cells slots Q nL G L b S' (pc + 3) lv st) : X p l e R s m args below meth c cells slots Q nL G L b S pc lv (.int n :: .int dp :: .ref (b + dd) :: .int sp :: .ref (b + a) :: st) := by
  subst hS'
  obtain ⟨o1, o2, o3, o4, o5⟩ := of_decide_eq_true ok
  intro H locs ls h1 h2 h3 T hT Y
  have hx := C.1
  have hb := C.2.1
  have hts := C.2.2.2.2.1
  have hc0 := h1.2 a _ hL0
  have hc1 := h1.2 dd _ hL1
  obtain ⟨-, k0, hk0, cm0, hkk0⟩ := zz_aj C n0 (fun j => .long (S.2 a j))
  obtain ⟨-, k1, hk1, cm1, hkk1⟩ := zz_aj C n1 (fun j => .long (S.2 dd j))
  obtain ⟨vm', Y', step⟩ := Y.arraycopy hx C.2.2.2.1 (hts _ w.1) (hts _ w.2.1) (hts _ w.2.2.1) (hts _ w.2.2.2) (src := b + a) (dst := b + dd) (srcPos := sp) (destPos := dp) (n := n) (by rw [hT]; exact hc0) (by rw [hT]; exact hc1)
    (fun _ h => by cases h) (fun _ h => by cases h) (fun h => by cases h) (fun h => by cases h) hk0 hk1 hkk0 hkk1 (by decide) o1 o2 o3
    (by rw [zz_nn sp o1, zz_nn n o3, arrV_size]; unfold ix at o4; omega)
    (by rw [zz_nn dp o2, zz_nn n o3, arrV_size]; unfold ix at o5; omega)
    (fun vm₁ _ i hi => by
      have e : (arrV G.2.2.1 n0 (fun j => Value.long (S.2 a j))).slots.getD (sp.toNatClampNeg + i) .null = .long (S.2 a (sp.toNatClampNeg + i)) := by
        rw [Array.getD_eq_getD_getElem?, arrV_read _ _ (by unfold ix at o4; omega)]
        rfl
      refine ⟨?_, ?_⟩
      · rw [e]; rfl
      · rw [e]
        exact trivial)
    (g := F0 m pc ls (.int n :: .int dp :: .ref (b + dd) :: .int sp :: .ref (b + a) :: st)) rfl (by rw [C.2.2.1]; exact h3.1) (rest := st) rfl (by rw [hb]; exact d) hR.1 (by show 2 * 0 + _ + (7 + 11) ≤ _; omega)
  have e1 : copied (arrV G.2.2.1 n0 (fun j => Value.long (S.2 a j))) (arrV G.2.2.1 n1 (fun j => Value.long (S.2 dd j))) sp dp n = arrV G.2.2.1 n1 (fun j => Value.long (va_cpy (S.2 a) (S.2 dd) (ix sp) (ix dp) (ix n) j)) := va_copied (fun z => Value.long z) G.2.2.1 G.2.2.1 (S.2 a) (S.2 dd) o4
  rw [e1] at Y' step
  have hl : b + dd < H.size := (Array.getElem?_eq_some_iff.mp hc1).1
  have hheap : ((T.setVm vm').setCell (b + dd) (arrV G.2.2.1 n1 (fun j => Value.long (va_cpy (S.2 a) (S.2 dd) (ix sp) (ix dp) (ix n) j)))).heap = H.setIfInBounds (b + dd) (arrV G.2.2.1 n1 (fun j => Value.long (va_cpy (S.2 a) (S.2 dd) (ix sp) (ix dp) (ix n) j))) := by rw [← hT]; rfl
  have oq : ∀ q : Nat, q ≠ b + dd → (H.setIfInBounds (b + dd) (arrV G.2.2.1 n1 (fun j => Value.long (va_cpy (S.2 a) (S.2 dd) (ix sp) (ix dp) (ix n) j))))[q]? = H[q]? := fun q hq => by simp [Array.getElem?_setIfInBounds, Ne.symm hq]
  obtain ⟨t, a1, b1⟩ := kk _ _ ls (h1.put (S' := cpJ S a sp dd dp n) hL1 (by
      show (H.setIfInBounds (b + dd) _)[b + dd]? = some (arrV G.2.2.1 n1 (fun j => Value.long ((if dd = dd then va_cpy (S.2 a) (S.2 dd) (ix sp) (ix dp) (ix n) else S.2 dd) j)))
      rw [if_pos rfl]
      simp [Array.getElem?_setIfInBounds, hl]) (by simp) oq (fun o' h => fillJ_o h)) ⟨by simp; exact h2.1, fun q g1 g2 => by
      rw [oq q (fun e => g2 (by rw [e]; exact Nat.le_add_right b dd))]
      exact h2.2.1 q g1 g2, fun q hq => by
      rcases List.mem_append.mp hq with h | h
      · exact h2.2.2 q h
      · obtain ⟨z, -, hz⟩ := List.mem_map.mp h
        rw [← hz]
        exact Nat.le_add_right b dd⟩ h3 _ hheap Y'
  exact ⟨t, step t a1, b1⟩
end ZC
theorem of_ifp {c : Prop} [Decidable c] {α : Sort _} {t e y : α} (hc : c) (h : (if c then t else e) = y) : t = y := by rw [if_pos hc] at h; exact h
theorem of_ifn {c : Prop} [Decidable c] {α : Sort _} {t e y : α} (hc : ¬ c) (h : (if c then t else e) = y) : e = y := by rw [if_neg hc] at h; exact h
theorem of_none {α : Type _} {y : α} {P : Prop} (h : (none : Option α) = some y) : P := by cases h
def bs {ρ σ τ : Type _} (x : Option (ρ ⊕ σ)) (f : ρ → Option τ) (g : σ → Option τ) : Option τ := match x with
  | some (.inl a) => f a
  | some (.inr a) => g a
  | none => none
theorem of_bs {ρ σ τ : Type _} {x : Option (ρ ⊕ σ)} {f : ρ → Option τ} {g : σ → Option τ} {y : τ} (h : bs x f g = some y) : ∃ z, x = some z ∧ (∀ a, z = .inl a → f a = some y) ∧ (∀ a, z = .inr a → g a = some y) := by
  match x, h with
  | some (.inl a), h => exact ⟨.inl a, rfl, fun b e => (Sum.inl.inj e) ▸ h, fun b e => (nomatch e)⟩
  | some (.inr a), h => exact ⟨.inr a, rfl, fun b e => (nomatch e), fun b e => (Sum.inr.inj e) ▸ h⟩
  | none, h => cases h
theorem of_s2 {α β : Type _} {x y : α} {u v : β} (h : some (x, u) = some (y, v)) : x = y ∧ u = v := of_sp h
theorem if01 {c : Prop} [Decidable c] {a b : Int32} (ha : a = 0 ∨ a = 1) (hb : b = 0 ∨ b = 1) : (if c then a else b) = 0 ∨ (if c then a else b) = 1 := by
  by_cases h : c
  · rw [if_pos h]; exact ha
  · rw [if_neg h]; exact hb
theorem of_isb {v : Int32} (h : isb v = true) : v = 0 ∨ v = 1 := of_decide_eq_true h
theorem inb_lt {i : Int32} {n : Nat} (h : inb i n = true) : ix i < n := Nat.not_le.mp fun q => inb_vp h (Or.inr q)
section ZL
variable {p : Program} {l : Launch} {e : Env} {R : Room} {s : State} {m : MethodId} {args : Array Value} {below : List Frame} {meth : Method} {c : Code} {cells slots : Nat} {Q : State → Prop} {nL : Nat} {G : zz_G} {L : Ly} {b : Nat} {S : Sg} {pc : Nat} {lv : List (Nat × Value)} {st : List Value} {cc : ByteArray} {y : MethodName} {ret : Option FieldType}
/-- a lookup switch: the target that is taken, as a chain of comparisons says it -/
theorem x_look (C : CX p G s m args meth c cc y nL ret) {dflt : Int} {ps : Array (Int × Int)} {len : Nat} {x : Int32} {off : Int} (tgt : Nat) (d : decode cc pc = .ok (.lookupswitch dflt ps, len)) (hp : (ps.toList.zip (ps.toList.drop 1)).all (fun (a, next) => a.1 < next.1) = true) (ho : Op.lookupswitch.offset ps.toList dflt x.toInt = off) (ht : (pc : Int) + off = (tgt : Int)) (k : X p l e R s m args below meth c cells slots Q nL G L b S tgt lv st) : X p l e R s m args below meth c cells slots Q nL G L b S pc lv (.int x :: st) := fun H locs ls h1 h2 h3 => lv_lookup C.1 C.2.1 d hp ho ht (k H locs ls h1 h2 h3)
theorem x_tabIn (C : CX p G s m args meth c cc y nL ret) {dflt lo hi : Int} {offs : Array Int} {len : Nat} {x v : Int32} {off : Int} (tgt : Nat) (d : decode cc pc = .ok (.tableswitch dflt lo hi offs, len)) (hx : x = v) (h1 : ¬ v.toInt < lo) (h2 : ¬ hi < v.toInt) (ho : offs[(v.toInt - lo).toNat]? = some off) (ht : (pc : Int) + off = (tgt : Int)) (k : X p l e R s m args below meth c cells slots Q nL G L b S tgt lv st) : X p l e R s m args below meth c cells slots Q nL G L b S pc lv (.int x :: st) := by
  subst hx
  exact fun H locs ls q1 q2 q3 => lv_tableIn C.1 C.2.1 d h1 h2 ho ht (k H locs ls q1 q2 q3)
theorem x_tabOut (C : CX p G s m args meth c cc y nL ret) {dflt lo hi : Int} {offs : Array Int} {len : Nat} {x : Int32} (tgt : Nat) (d : decode cc pc = .ok (.tableswitch dflt lo hi offs, len)) (h : x.toInt < lo ∨ hi < x.toInt) (ht : (pc : Int) + dflt = (tgt : Int)) (k : X p l e R s m args below meth c cells slots Q nL G L b S tgt lv st) : X p l e R s m args below meth c cells slots Q nL G L b S pc lv (.int x :: st) := fun H locs ls q1 q2 q3 => lv_tableOut C.1 C.2.1 d h ht (k H locs ls q1 q2 q3)
theorem x_callV0 (C : CX p G s m args meth c cc y nL ret) {y2 : MethodName} {c2 : ByteArray} {r2 : Option FieldType} {rm : Room} {o k n2 idx : Nat} {S' : Sg} {v : Option Value} {ex : Prop} {sh : Sh} {q : vw_C} (As rest : List Value) (hM : Met l y2 (Cond.code y2 c2 n2 r2 :: zz_all) rm (PC G L b S (.ref (b + o) :: As)) (QC G L b S' v ex) 0 0 (fun q => b ≤ q))
    (w : zz_cw y.cls idx y2 c2 n2 r2 k) (ws : Cond.instanceMethod y2 ∈ zz_all ∧ Cond.selects y2.cls y2 y2 ∈ zz_all) (hr : zz_fit R rm 0 0 n2) (hc : cells ≤ R.cells ∧ slots ≤ R.slots) (hL : L.2 o = some sh) (hq : sh.1 = 0 ∧ classes[sh.2.1]? = some q ∧ q.1 = y2.cls) (hst : st = As.reverse ++ .ref (b + o) :: rest) (hk : As.length = k ∧ (rest.map fun v => v.category).sum ≤ 8) (d : decode cc pc = .ok (.invokevirtual idx, 3))
    (kk : ex → X p l e R s m args below meth c cells slots Q nL G L b S' (pc + 3) lv (v.toList ++ rest)) : X p l e R s m args below meth c cells slots Q nL G L b S pc lv st :=
  x_callV C As rest hM w ws hr hc hL hq hst hk d kk
theorem x_callS0 (C : CX p G s m args meth c cc y nL ret) {y2 : MethodName} {c2 : ByteArray} {r2 : Option FieldType} {rm : Room} {k n2 idx : Nat} {S' : Sg} {v : Option Value} {ex : Prop} (As rest : List Value) (hM : Met l y2 (Cond.code y2 c2 n2 r2 :: zz_all) rm (PC G L b S As) (QC G L b S' v ex) 0 0 (fun q => b ≤ q))
    (w : zz_cw y.cls idx y2 c2 n2 r2 k) (ws : Cond.static y2 ∈ zz_all) (hr : zz_fit R rm 0 0 n2) (hc : cells ≤ R.cells ∧ slots ≤ R.slots) (hst : st = As.reverse ++ rest) (hk : As.length = k ∧ (rest.map fun v => v.category).sum ≤ 8) (d : decode cc pc = .ok (.invokestatic idx, 3))
    (kk : ex → X p l e R s m args below meth c cells slots Q nL G L b S' (pc + 3) lv (v.toList ++ rest)) : X p l e R s m args below meth c cells slots Q nL G L b S pc lv st :=
  x_callS C As rest hM w ws hr hc hst hk d kk
theorem x_callSN0 (C : CX p G s m args meth c cc y nL ret) {y2 : MethodName} {c2 : ByteArray} {r2 : Option FieldType} {rm : Room} {k n2 idx : Nat} {S' : Sg} {v : Option Value} {ex : Prop} {host : String} (As rest : List Value) (hM : Met l y2 (Cond.code y2 c2 n2 r2 :: zz_all) rm (PC G L b S As) (QC G L b S' v ex) 0 0 (fun q => b ≤ q))
    (w : zz_cn y.cls idx y2 c2 n2 r2 k host) (ws : Cond.static y2 ∈ zz_all) (hr : zz_fit R rm 0 0 n2) (hc : cells ≤ R.cells ∧ slots ≤ R.slots) (hst : st = As.reverse ++ rest) (hk : As.length = k ∧ (rest.map fun v => v.category).sum ≤ 8) (d : decode cc pc = .ok (.invokestatic idx, 3))
    (kk : ex → X p l e R s m args below meth c cells slots Q nL G L b S' (pc + 3) lv (v.toList ++ rest)) : X p l e R s m args below meth c cells slots Q nL G L b S pc lv st :=
  x_callSN C As rest hM w ws hr hc hst hk d kk
theorem x_callV1 (C : CX p G s m args meth c cc y nL ret) {y2 : MethodName} {c2 : ByteArray} {r2 : Option FieldType} {rm : Room} {o k n2 idx : Nat} {S' : Sg} {v : Value} {ex : Prop} {sh : Sh} {q : vw_C} (As rest : List Value) (hM : Met l y2 (Cond.code y2 c2 n2 r2 :: zz_all) rm (PC G L b S (.ref (b + o) :: As)) (QC G L b S' (some v) ex) 0 0 (fun q => b ≤ q))
    (w : zz_cw y.cls idx y2 c2 n2 r2 k) (ws : Cond.instanceMethod y2 ∈ zz_all ∧ Cond.selects y2.cls y2 y2 ∈ zz_all) (hr : zz_fit R rm 0 0 n2) (hc : cells ≤ R.cells ∧ slots ≤ R.slots) (hL : L.2 o = some sh) (hq : sh.1 = 0 ∧ classes[sh.2.1]? = some q ∧ q.1 = y2.cls) (hst : st = As.reverse ++ .ref (b + o) :: rest) (hk : As.length = k ∧ (rest.map fun v => v.category).sum ≤ 8) (d : decode cc pc = .ok (.invokevirtual idx, 3))
    (kk : ex → X p l e R s m args below meth c cells slots Q nL G L b S' (pc + 3) lv (v :: rest)) : X p l e R s m args below meth c cells slots Q nL G L b S pc lv st := x_callV0 C As rest hM w ws hr hc hL hq hst hk d kk
theorem x_callV_ (C : CX p G s m args meth c cc y nL ret) {y2 : MethodName} {c2 : ByteArray} {r2 : Option FieldType} {rm : Room} {o k n2 idx : Nat} {S' : Sg}  {ex : Prop} {sh : Sh} {q : vw_C} (As rest : List Value) (hM : Met l y2 (Cond.code y2 c2 n2 r2 :: zz_all) rm (PC G L b S (.ref (b + o) :: As)) (QC G L b S' none ex) 0 0 (fun q => b ≤ q))
    (w : zz_cw y.cls idx y2 c2 n2 r2 k) (ws : Cond.instanceMethod y2 ∈ zz_all ∧ Cond.selects y2.cls y2 y2 ∈ zz_all) (hr : zz_fit R rm 0 0 n2) (hc : cells ≤ R.cells ∧ slots ≤ R.slots) (hL : L.2 o = some sh) (hq : sh.1 = 0 ∧ classes[sh.2.1]? = some q ∧ q.1 = y2.cls) (hst : st = As.reverse ++ .ref (b + o) :: rest) (hk : As.length = k ∧ (rest.map fun v => v.category).sum ≤ 8) (d : decode cc pc = .ok (.invokevirtual idx, 3))
    (kk : ex → X p l e R s m args below meth c cells slots Q nL G L b S' (pc + 3) lv (rest)) : X p l e R s m args below meth c cells slots Q nL G L b S pc lv st := x_callV0 C As rest hM w ws hr hc hL hq hst hk d kk
theorem x_callS1 (C : CX p G s m args meth c cc y nL ret) {y2 : MethodName} {c2 : ByteArray} {r2 : Option FieldType} {rm : Room} {k n2 idx : Nat} {S' : Sg} {v : Value} {ex : Prop} (As rest : List Value) (hM : Met l y2 (Cond.code y2 c2 n2 r2 :: zz_all) rm (PC G L b S As) (QC G L b S' (some v) ex) 0 0 (fun q => b ≤ q))
    (w : zz_cw y.cls idx y2 c2 n2 r2 k) (ws : Cond.static y2 ∈ zz_all) (hr : zz_fit R rm 0 0 n2) (hc : cells ≤ R.cells ∧ slots ≤ R.slots) (hst : st = As.reverse ++ rest) (hk : As.length = k ∧ (rest.map fun v => v.category).sum ≤ 8) (d : decode cc pc = .ok (.invokestatic idx, 3))
    (kk : ex → X p l e R s m args below meth c cells slots Q nL G L b S' (pc + 3) lv (v :: rest)) : X p l e R s m args below meth c cells slots Q nL G L b S pc lv st := x_callS0 C As rest hM w ws hr hc hst hk d kk
theorem x_callS_ (C : CX p G s m args meth c cc y nL ret) {y2 : MethodName} {c2 : ByteArray} {r2 : Option FieldType} {rm : Room} {k n2 idx : Nat} {S' : Sg}  {ex : Prop} (As rest : List Value) (hM : Met l y2 (Cond.code y2 c2 n2 r2 :: zz_all) rm (PC G L b S As) (QC G L b S' none ex) 0 0 (fun q => b ≤ q))
    (w : zz_cw y.cls idx y2 c2 n2 r2 k) (ws : Cond.static y2 ∈ zz_all) (hr : zz_fit R rm 0 0 n2) (hc : cells ≤ R.cells ∧ slots ≤ R.slots) (hst : st = As.reverse ++ rest) (hk : As.length = k ∧ (rest.map fun v => v.category).sum ≤ 8) (d : decode cc pc = .ok (.invokestatic idx, 3))
    (kk : ex → X p l e R s m args below meth c cells slots Q nL G L b S' (pc + 3) lv (rest)) : X p l e R s m args below meth c cells slots Q nL G L b S pc lv st := x_callS0 C As rest hM w ws hr hc hst hk d kk
theorem x_callSN1 (C : CX p G s m args meth c cc y nL ret) {y2 : MethodName} {c2 : ByteArray} {r2 : Option FieldType} {rm : Room} {k n2 idx : Nat} {S' : Sg} {v : Value} {ex : Prop} {host : String} (As rest : List Value) (hM : Met l y2 (Cond.code y2 c2 n2 r2 :: zz_all) rm (PC G L b S As) (QC G L b S' (some v) ex) 0 0 (fun q => b ≤ q))
    (w : zz_cn y.cls idx y2 c2 n2 r2 k host) (ws : Cond.static y2 ∈ zz_all) (hr : zz_fit R rm 0 0 n2) (hc : cells ≤ R.cells ∧ slots ≤ R.slots) (hst : st = As.reverse ++ rest) (hk : As.length = k ∧ (rest.map fun v => v.category).sum ≤ 8) (d : decode cc pc = .ok (.invokestatic idx, 3))
    (kk : ex → X p l e R s m args below meth c cells slots Q nL G L b S' (pc + 3) lv (v :: rest)) : X p l e R s m args below meth c cells slots Q nL G L b S pc lv st := x_callSN0 C As rest hM w ws hr hc hst hk d kk
theorem x_callSN_ (C : CX p G s m args meth c cc y nL ret) {y2 : MethodName} {c2 : ByteArray} {r2 : Option FieldType} {rm : Room} {k n2 idx : Nat} {S' : Sg}  {ex : Prop} {host : String} (As rest : List Value) (hM : Met l y2 (Cond.code y2 c2 n2 r2 :: zz_all) rm (PC G L b S As) (QC G L b S' none ex) 0 0 (fun q => b ≤ q))
    (w : zz_cn y.cls idx y2 c2 n2 r2 k host) (ws : Cond.static y2 ∈ zz_all) (hr : zz_fit R rm 0 0 n2) (hc : cells ≤ R.cells ∧ slots ≤ R.slots) (hst : st = As.reverse ++ rest) (hk : As.length = k ∧ (rest.map fun v => v.category).sum ≤ 8) (d : decode cc pc = .ok (.invokestatic idx, 3))
    (kk : ex → X p l e R s m args below meth c cells slots Q nL G L b S' (pc + 3) lv (rest)) : X p l e R s m args below meth c cells slots Q nL G L b S pc lv st := x_callSN0 C As rest hM w ws hr hc hst hk d kk
theorem x_eq {lv' : List (Nat × Value)} {st' : List Value} (k : X p l e R s m args below meth c cells slots Q nL G L b S pc lv' st') (h1 : lv = lv') (h2 : st = st') : X p l e R s m args below meth c cells slots Q nL G L b S pc lv st := by
  subst h1; subst h2; exact k
end ZL
abbrev RQ (G : zz_G) (L : Ly) (b : Nat) (Sf : Sg) (below : List Frame) (args : Array Value) (s : State) (r : Option Value) (ex : Prop) : State → Prop := MQ below (QC G L b Sf r ex) args s 0 0 (fun q => b ≤ q)
theorem isb_of {v : Int32} (h : v = 0 ∨ v = 1) : isb v = true := decide_eq_true h
def u2 {α β τ : Type _} (f : α → β → τ) (t : α × β) : τ := f t.1 t.2
def u3 {α β γ τ : Type _} (f : α → β → γ → τ) (t : α × β × γ) : τ := f t.1 t.2.1 t.2.2
def u4 {α β γ δ τ : Type _} (f : α → β → γ → δ → τ) (t : α × β × γ × δ) : τ := f t.1 t.2.1 t.2.2.1 t.2.2.2
def u5 {α β γ δ ε τ : Type _} (f : α → β → γ → δ → ε → τ) (t : α × β × γ × δ × ε) : τ := f t.1 t.2.1 t.2.2.1 t.2.2.2.1 t.2.2.2.2
theorem of_u2 {α β τ : Type _} {f : α → β → τ} {a : α} {b : β} {y : τ} (h : u2 f (a, b) = y) : f a b = y := h
theorem of_u3 {α β γ τ : Type _} {f : α → β → γ → τ} {a : α} {b : β} {c : γ} {y : τ} (h : u3 f (a, b, c) = y) : f a b c = y := h
theorem of_u4 {α β γ δ τ : Type _} {f : α → β → γ → δ → τ} {a : α} {b : β} {c : γ} {d : δ} {y : τ} (h : u4 f (a, b, c, d) = y) : f a b c d = y := h
theorem of_u5 {α β γ δ ε τ : Type _} {f : α → β → γ → δ → ε → τ} {a : α} {b : β} {c : γ} {d : δ} {e : ε} {y : τ} (h : u5 f (a, b, c, d, e) = y) : f a b c d e = y := h
theorem of_J1 {α τ : Type _} {J f : α → τ} (e : J = f) {a : α} {y : τ} (h : J a = y) : f a = y := e ▸ h
theorem of_J2 {α β τ : Type _} {J f : α → β → τ} (e : J = f) {a : α} {b : β} {y : τ} (h : J a b = y) : f a b = y := e ▸ h
theorem of_J3 {α β γ τ : Type _} {J f : α → β → γ → τ} (e : J = f) {a : α} {b : β} {c : γ} {y : τ} (h : J a b c = y) : f a b c = y := e ▸ h
theorem of_J4 {α β γ δ τ : Type _} {J f : α → β → γ → δ → τ} (e : J = f) {a : α} {b : β} {c : γ} {d : δ} {y : τ} (h : J a b c d = y) : f a b c d = y := e ▸ h
/-- as Met.ofW, for a method of a class whose name is not plain, but which nothing runs in its bytecode's place -/
theorem Met.ofWF {l : Launch} {y : MethodName} {ws ws' : List Cond} {rm : Room} {Pc : Array Value → State → Prop} {Qc : Array Value → State → Outcome → State → Prop} {mc ms : Nat} {free : Addr → Prop} {cc : ByteArray} {maxL : Nat} {ret : Option FieldType}
    (hy : plainFor y = true) (hw : ws = Cond.code y cc maxL ret :: ws')
    (body : ∀ p e s m args below meth c s₁, BodyLoose p l y (headSpec ws rm) cc maxL ret e s m args below meth c s₁ → c.maxLocals = maxL → Pc args s →
      W p l e (headSpec ws rm).room s m args below meth c s.heap [] 0 0 (MQ below Qc args s mc ms free) (entryFrame m args maxL)) : Met l y ws rm Pc Qc mc ms free := by
  refine MetFree.of_bodySF (code := cc) (maxLocals := maxL) (ret := ret) hy ?_ ?_
  · intro args s m h hn
    obtain ⟨meth, c, h1, h2, h3, h4, h5, h6, -, -⟩ := Cond.code_spec hn (atoms_spec (ws := ws) h _ (by rw [hw]; exact List.mem_cons_self))
    exact ⟨meth, c, h1, h2, h3, h4, h5, h6⟩
  · intro p e s m args below meth c s₁ B hml hP _
    have hh0 : s₁.heap = s.heap := by rw [B.state]; rfl
    obtain ⟨t, a1, o, b1, b2, b3⟩ := body p e s m args below meth c s₁ B hml hP s₁ hh0 (Stand.of_body B)
    exact ⟨t, o, a1, b1, b2, ⟨b3.1, b3.2⟩⟩
theorem x_metF {l : Launch} {y : MethodName} {cc : ByteArray} {nL : Nat} {ret : Option FieldType} {rm : Room} {G : zz_G} {L : Ly} {b : Nat} {S : Sg} {Qc : Array Value → State → Outcome → State → Prop} {mc ms : Nat} (av : List Value) (hy : plainFor y = true) (hn : (lg_sl av).length ≤ nL)
    (body : ∀ (p : Program) (e : Env) (s : State) (m : MethodId) (args : Array Value) (below : List Frame) (meth : Method) (c : Code), CX p G s m args meth c cc y nL ret → X p l e rm s m args below meth c 0 0 (MQ below Qc args s mc ms (fun q => b ≤ q)) nL G L b S 0 (lv_args 0 av) []) :
    Met l y (Cond.code y cc nL ret :: zz_all) rm (PC G L b S av) Qc mc ms (fun q => b ≤ q) := by
  refine Met.ofWF (cc := cc) (maxL := nL) (ret := ret) hy rfl ?_
  intro p e s m args below meth c s₁ B hml hv
  obtain ⟨rfl, hM, hK⟩ := hv
  have hts := atoms_spec (ws := Cond.code y cc nL ret :: zz_all) B.pre
  have hCX : CX p G s m av.toArray meth c cc y nL ret := ⟨B.exec, B.bytes, hml, findClass_of_methodNamed B.named, fun w hw => hts w (List.mem_cons_of_mem _ hw), hK, B.notSynchronized, B.returns, (name_of_methodNamed B.named B.method).1⟩
  rw [lg_entry_eq]
  exact body p e s m av.toArray below meth c hCX s.heap [] _ hM va_S.rf (lv_entry av hn)
