section ZLE
variable {p : Program} {l : Launch} {e : Env} {s : State} {m : MethodId} {below : List Frame} {meth : Method} {c : Code} {Q : State → Prop} {bs Ls : Nat} {xs : Nat → Int32}
set_option maxRecDepth 100000 in
set_option maxHeartbeats 4000000 in
/-- the law, from its entry to its last instruction -/
theorem law_walk (hx : p.tables.exec = Jvm.exec) (hb : c.code = code) (hml : c.maxLocals = 16) (hown : s.vm.findClass RL = some m.cls) (hts : ∀ w ∈ lw_tbl, w.before #[Value.ref bs] s = true) (hX : va_X bs Ls xs s s.heap) (hbl : bs < s.heap.size) (hlocks : meth.locks = false) (hL : Ls ≤ 260)
    (hret : ∀ (pc : Nat) (H : Heap) (ls : Array Slot), decode code pc = .ok (.ireturn, 1) → W p l e room_1 s m #[Value.ref bs] below meth c H [] 600000 7302250 Q (F0 m pc ls [.int 1])) : W p l e room_1 s m #[Value.ref bs] below meth c s.heap [] 0 0 Q (entryFrame m ([Value.ref bs] : List Value).toArray 16) := by
  obtain ⟨G, hK⟩ := zz_start hts
  have hA := zz_AOAs hts
  have C : CX p G s m #[Value.ref bs] meth c cL_law ⟨RL, meth.name, ""⟩ 16 meth.sig.returnType := ⟨hx, hb, hml, hown, hts_all hts, hK, hlocks, rfl, rfl⟩
  obtain ⟨⟨rf, Sf⟩, hf, e1⟩ := law_ok (ba := bs) (xs := xs) hL SF_k
  have e1 : rf = 1 := e1
  subst e1
  have start : X p l e room_1 s m #[Value.ref bs] below meth c 0 0 Q 16 G (lay0 L00 []) s.heap.size S00 0 [(0, .ref bs)] [] := by
    refine x_new (pc := 0) C (ci := 5) [2, 2, 2, 0, 2, 2, 2, 2, 2] rfl ⟨wd_22, wd_23, wd_13⟩ (by decide +kernel) ⟨Nat.le_of_ble_eq_true rfl, Nat.le_of_ble_eq_true rfl⟩ ⟨rfl, rfl⟩ dL_law_0 ?_
    refine x_dup (pc := 3) C dL_law_3 rfl ?_
    refine x_ly (ly' := [(0, 5, [2, 2, 2, 0, 2, 2, 2, 2, 2])]) rfl ?_
    refine x_callI (pc := 4) C hA (S' := gS 0 S00) (o := 0 + 0) [] _ (c_X6_init (L0 := L00) S00 (fun i _ _ => ⟨rfl, rfl⟩)) cw_L_62 ⟨rfl, wd_25⟩ ⟨rfl, rfl, Nat.le_of_ble_eq_true rfl, Nat.le_of_ble_eq_true rfl⟩ ⟨Nat.le_of_ble_eq_true rfl, Nat.le_of_ble_eq_true rfl⟩ rfl ⟨rfl, Nat.le_of_ble_eq_true rfl⟩ dL_law_4 ?_
    refine x_astore_n (pc := 7) C (v := s.heap.size + 0) 1 [(1, .ref (s.heap.size + 0)), (0, .ref bs)] dL_law_7 rfl (Nat.le_of_ble_eq_true rfl) rfl rfl ?_
    exact w_law C bs Ls xs 1 ⟨hX, hbl, hbl⟩ LF_gu ⟨Nat.le_of_ble_eq_true rfl, Nat.le_of_ble_eq_true rfl⟩ (fun pc S d H locs ls h1 h2 h3 => va_forget h2.2.2 (W.widen (k := 600000) (n := 7302250) (Nat.le_of_ble_eq_true rfl) (Nat.le_of_ble_eq_true rfl) (hret pc H ls d))) SF Sf hf
  have hM : HM G (lay0 L00 []) s.heap.size S00 s.heap := ⟨rfl, fun o sh hL => by
    have h9 : ([] : List Sh)[o - 0]? = some sh := by
      have h8 : (if o < 0 then none else ([] : List Sh)[o - 0]?) = some sh := hL
      rw [if_neg (Nat.not_lt_zero o)] at h8
      exact h8
    cases h9⟩
  have hl := lv_entry ([.ref bs]) (n := 16) (Nat.le_of_ble_eq_true rfl)
  rw [lg_entry_eq]
  exact start s.heap [] _ hM va_S.rf hl
end ZLE
