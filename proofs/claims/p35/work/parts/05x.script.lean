/-! the law's script lies where it lay -/
def SX (bs Ls : Nat) (xs : Nat → Int32) (b : Nat) (s : State) : Prop := va_X bs Ls xs s s.heap ∧ bs < s.heap.size ∧ bs < b
theorem SX.same {bs Ls : Nat} {xs : Nat → Int32} {b : Nat} {s U : State} (e : s.vm = U.vm) (eh : s.heap = U.heap) (h : SX bs Ls xs b s) : SX bs Ls xs b U := by
  obtain ⟨h1, h2, h3⟩ := h
  rw [eh] at h1 h2
  exact ⟨va_X.moved (by rw [e]; exact Vm.Alike.refl _) h1, h2, h3⟩
theorem SX.go {bs Ls : Nat} {xs : Nat → Int32} {b : Nat} {s U : State} {H : Heap} {locs : List Loc} (h : SX bs Ls xs b s) (h2 : va_S (fun q => b ≤ q) s.heap H locs) (hU : U.heap = H) (hW : s.WarmedH U.vm) : SX bs Ls xs b U := by
  obtain ⟨h1, g2, h3⟩ := h
  subst hU
  exact ⟨va_X.moved hW.alike (va_X.kept h1 (h2.2.1 bs g2 (show ¬ (b ≤ bs) by omega))), Nat.lt_of_lt_of_le g2 h2.1, h3⟩
def PS (G : zz_G) (L : Ly) (b : Nat) (S : Sg) (bs Ls : Nat) (xs : Nat → Int32) (av : List Value) : Array Value → State → Prop := fun v U => v = av.toArray ∧ HM G L b S U.heap ∧ zz_K G U ∧ SX bs Ls xs b U
theorem PS.blind {G : zz_G} {L : Ly} {b : Nat} {S : Sg} {bs Ls : Nat} {xs : Nat → Int32} {av : List Value} : FrameBlind (PS G L b S bs Ls xs av) := fun a U g mk q => ⟨q.1, q.2.1, q.2.2.1.same rfl, q.2.2.2.same rfl rfl⟩
theorem x_metS {l : Launch} {y : MethodName} {cc : ByteArray} {nL : Nat} {ret : Option FieldType} {rm : Room} {G : zz_G} {L : Ly} {b : Nat} {S : Sg} {bs Ls : Nat} {xs : Nat → Int32} {Qc : Array Value → State → Outcome → State → Prop} {mc ms : Nat} (av : List Value) (hy : plainName y.cls = true) (hn : (lg_sl av).length ≤ nL)
    (body : ∀ (p : Program) (e : Env) (s : State) (m : MethodId) (args : Array Value) (below : List Frame) (meth : Method) (c : Code), CX p G s m args meth c cc y nL ret → SX bs Ls xs b s → X p l e rm s m args below meth c 0 0 (MQ below Qc args s mc ms (fun q => b ≤ q)) nL G L b S 0 (lv_args 0 av) []) :
    Met l y (Cond.code y cc nL ret :: zz_all) rm (PS G L b S bs Ls xs av) Qc mc ms (fun q => b ≤ q) := by
  refine Met.ofW (cc := cc) (maxL := nL) (ret := ret) hy rfl ?_
  intro p e s m args below meth c s₁ B hml hv
  obtain ⟨rfl, hM, hK, hX⟩ := hv
  have hts := atoms_spec (ws := Cond.code y cc nL ret :: zz_all) B.pre
  have hCX : CX p G s m av.toArray meth c cc y nL ret := ⟨B.exec, B.bytes, hml, findClass_of_methodNamed B.named, fun w hw => hts w (List.mem_cons_of_mem _ hw), hK, B.notSynchronized, B.returns, (name_of_methodNamed B.named B.method).1⟩
  rw [lg_entry_eq]
  exact body p e s m av.toArray below meth c hCX hX s.heap [] _ hM va_S.rf (lv_entry av hn)
section ZSC
variable {p : Program} {l : Launch} {e : Env} {R : Room} {s : State} {m : MethodId} {args : Array Value} {below : List Frame} {meth : Method} {c : Code} {cells slots : Nat} {Q : State → Prop} {nL : Nat} {G : zz_G} {L : Ly} {b : Nat} {S : Sg} {pc : Nat} {lv : List (Nat × Value)} {st : List Value} {cc : ByteArray} {y : MethodName} {ret : Option FieldType} {bs Ls : Nat} {xs : Nat → Int32}
theorem x_scl (C : CX p G s m args meth c cc y nL ret) (hX : SX bs Ls xs b s) {i : Int32} (g : inb i Ls = true) (d : decode cc pc = .ok (.iaload, 1)) (kk : X p l e R s m args below meth c cells slots Q nL G L b S (pc + 1) lv (.int (xs (ix i)) :: st)) : X p l e R s m args below meth c cells slots Q nL G L b S pc lv (.int i :: .ref bs :: st) := by
  intro H locs ls h1 h2 h3
  have h9 := hX.2.2
  exact va_sld C.1 C.2.1 hX.1 hX.2.1 (show ¬ (b ≤ bs) by omega) h2 (inb_vp g) d (kk H locs ls h1 h2 h3)
theorem x_scn (C : CX p G s m args meth c cc y nL ret) (hX : SX bs Ls xs b s) (d : decode cc pc = .ok (.arraylength, 1)) (kk : X p l e R s m args below meth c cells slots Q nL G L b S (pc + 1) lv (.int (Int32.ofNat Ls) :: st)) : X p l e R s m args below meth c cells slots Q nL G L b S pc lv (.ref bs :: st) := by
  intro H locs ls h1 h2 h3
  have h9 := hX.2.2
  exact va_slen C.1 C.2.1 hX.1 hX.2.1 (show ¬ (b ≤ bs) by omega) h2 d (kk H locs ls h1 h2 h3)
theorem x_callSX0 (C : CX p G s m args meth c cc y nL ret) (hX : SX bs Ls xs b s) {y2 : MethodName} {c2 : ByteArray} {r2 : Option FieldType} {rm : Room} {k n2 idx : Nat} {S' : Sg} {v : Option Value} {ex : Prop} (As rest : List Value) (hM : Met l y2 (Cond.code y2 c2 n2 r2 :: zz_all) rm (PS G L b S bs Ls xs As) (QC G L b S' v ex) 0 0 (fun q => b ≤ q))
    (w : zz_cw y.cls idx y2 c2 n2 r2 k) (ws : Cond.static y2 ∈ zz_all) (hr : zz_fit R rm 0 0 n2) (hc : cells ≤ R.cells ∧ slots ≤ R.slots) (hst : st = As.reverse ++ rest) (hk : As.length = k ∧ (rest.map fun v => v.category).sum ≤ 8) (d : decode cc pc = .ok (.invokestatic idx, 3))
    (kk : ex → X p l e R s m args below meth c (cells + 0) (slots + 0) Q nL G L b S' (pc + 3) lv (v.toList ++ rest)) : X p l e R s m args below meth c cells slots Q nL G L b S pc lv st := by
  subst hst
  intro H locs ls h1 h2 h3
  exact zz_back (va_runS (As := As) (rest := rest) (zz_fix C) hM ⟨zz_callB C w hr, C.2.2.2.2.1 _ ws⟩ ⟨PS.blind, fun U hU hW => ⟨rfl, by rw [hU]; exact h1, C.2.2.2.2.2.1.warm hW, hX.go h2 hU hW⟩⟩ rfl hk.1 h3.1 rfl (lv_room hk.2) d hc) h2 h3 kk
theorem x_callSX1 (C : CX p G s m args meth c cc y nL ret) (hX : SX bs Ls xs b s) {y2 : MethodName} {c2 : ByteArray} {r2 : Option FieldType} {rm : Room} {k n2 idx : Nat} {S' : Sg} {v : Value} {ex : Prop} (As rest : List Value) (hM : Met l y2 (Cond.code y2 c2 n2 r2 :: zz_all) rm (PS G L b S bs Ls xs As) (QC G L b S' (some v) ex) 0 0 (fun q => b ≤ q))
    (w : zz_cw y.cls idx y2 c2 n2 r2 k) (ws : Cond.static y2 ∈ zz_all) (hr : zz_fit R rm 0 0 n2) (hc : cells ≤ R.cells ∧ slots ≤ R.slots) (hst : st = As.reverse ++ rest) (hk : As.length = k ∧ (rest.map fun v => v.category).sum ≤ 8) (d : decode cc pc = .ok (.invokestatic idx, 3))
    (kk : ex → X p l e R s m args below meth c cells slots Q nL G L b S' (pc + 3) lv (v :: rest)) : X p l e R s m args below meth c cells slots Q nL G L b S pc lv st := x_callSX0 C hX As rest hM w ws hr hc hst hk d kk
theorem x_callSX_ (C : CX p G s m args meth c cc y nL ret) (hX : SX bs Ls xs b s) {y2 : MethodName} {c2 : ByteArray} {r2 : Option FieldType} {rm : Room} {k n2 idx : Nat} {S' : Sg}  {ex : Prop} (As rest : List Value) (hM : Met l y2 (Cond.code y2 c2 n2 r2 :: zz_all) rm (PS G L b S bs Ls xs As) (QC G L b S' none ex) 0 0 (fun q => b ≤ q))
    (w : zz_cw y.cls idx y2 c2 n2 r2 k) (ws : Cond.static y2 ∈ zz_all) (hr : zz_fit R rm 0 0 n2) (hc : cells ≤ R.cells ∧ slots ≤ R.slots) (hst : st = As.reverse ++ rest) (hk : As.length = k ∧ (rest.map fun v => v.category).sum ≤ 8) (d : decode cc pc = .ok (.invokestatic idx, 3))
    (kk : ex → X p l e R s m args below meth c cells slots Q nL G L b S' (pc + 3) lv (rest)) : X p l e R s m args below meth c cells slots Q nL G L b S pc lv st := x_callSX0 C hX As rest hM w ws hr hc hst hk d kk
theorem x_lawret {rf v : Int32} (hE : ∀ (pc : Nat) (S : Sg), decode cL_law pc = .ok (.ireturn, 1) → X p l e room_1 s m args below meth c cells slots Q 16 G L b S pc [] [.int rf]) (d : decode cL_law pc = .ok (.ireturn, 1)) (e1 : v = rf) : X p l e room_1 s m args below meth c cells slots Q 16 G L b S pc lv [.int v] := by
  subst e1
  exact x_sub [] rfl (hE pc S d)
end ZSC
