section ZLE
variable {p : Program} {l : Launch} {e : Env} {s : State} {m : MethodId} {below : List Frame} {meth : Method} {c : Code} {Q : State → Prop} {bs Ls : Nat} {xs : Nat → Int32}
set_option maxRecDepth 100000 in
set_option maxHeartbeats 4000000 in
/-- the law, from its entry to its last instruction -/
theorem law_walk (hx : p.tables.exec = Jvm.exec) (hb : c.code = code) (hml : c.maxLocals = 4) (hown : s.vm.findClass RL = some m.cls) (hts : ∀ w ∈ lw_tbl, w.before #[Value.ref bs] s = true) (hX : va_X bs Ls xs s s.heap) (hbl : bs < s.heap.size) (hlocks : meth.locks = false) (hL : Ls ≤ 2560)
    (hret : ∀ (H : Heap) (ls : Array Slot), W p l e room_1 s m #[Value.ref bs] below meth c H [] 600000 7302250 Q (F0 m 1083 ls [.int 1])) : W p l e room_1 s m #[Value.ref bs] below meth c s.heap [] 0 0 Q (entryFrame m ([Value.ref bs] : List Value).toArray 4) := by
  obtain ⟨G, hK⟩ := zz_start hts
  have hA := zz_AOAs hts
  have C : CX p G s m #[Value.ref bs] meth c cL_law ⟨RL, meth.name, ""⟩ 4 meth.sig.returnType := ⟨hx, hb, hml, hown, hts_all hts, hK, hlocks, rfl, rfl⟩
  have hE : ∀ S, X p l e room_1 s m #[Value.ref bs] below meth c 166 3128 Q 4 G LF s.heap.size S 1083 [] [.int 1] := fun S H locs ls h1 h2 h3 => va_forget h2.2.2 (W.widen (k := 600000) (n := 7302250) (Nat.le_of_ble_eq_true rfl) (Nat.le_of_ble_eq_true rfl) (hret H ls))
  have start : X p l e room_1 s m #[Value.ref bs] below meth c 0 0 Q 4 G (lay0 L00 []) s.heap.size S00 0 [(0, .ref bs)] [] := by
    refine x_new (pc := 0) C (ci := 5) [2, 2, 2, 0, 2, 2, 2, 2, 2] rfl ⟨wd_90, wd_91, wd_79⟩ (by decide +kernel) ⟨Nat.le_of_ble_eq_true rfl, Nat.le_of_ble_eq_true rfl⟩ ⟨rfl, rfl⟩ dL_law_0 ?_
    refine x_dup (pc := 3) C dL_law_3 rfl ?_
    refine x_ly (ly' := [(0, 5, [2, 2, 2, 0, 2, 2, 2, 2, 2])]) rfl ?_
    refine x_callI (pc := 4) C hA (S' := gS 0 S00) (o := 0 + 0) [] _ (c_X6_init (L0 := L00) S00 (fun i _ _ => ⟨rfl, rfl⟩)) cw_L_9 ⟨rfl, wd_93⟩ ⟨rfl, rfl, Nat.le_of_ble_eq_true rfl, Nat.le_of_ble_eq_true rfl⟩ ⟨Nat.le_of_ble_eq_true rfl, Nat.le_of_ble_eq_true rfl⟩ rfl ⟨rfl, Nat.le_of_ble_eq_true rfl⟩ dL_law_4 ?_
    refine x_astore_n (pc := 7) C (v := s.heap.size + 0) 1 [(1, .ref (s.heap.size + 0)), (0, .ref bs)] dL_law_7 rfl (Nat.le_of_ble_eq_true rfl) rfl rfl ?_
    have z140 : ∀ i, (gS 0 S00).1 (140 + i) = zr ∧ (gS 0 S00).2 (140 + i) = zrJ := fun i => by
      obtain ⟨a1, a2⟩ := gS_o (o := 0) (o' := 140 + i) (S := S00) (by omega)
      exact ⟨a1, a2⟩
    have e140 : (0 : Nat) + (gl 0).length = 140 := by rw [gl_len]
    refine x_new (pc := 8) C (ci := 6) [2, 2, 2, 2, 2, 2, 2, 0, 0, 0, 0, 2, 0, 2, 2, 2, 2, 2, 0, 0, 2, 0, 0, 0, 2, 2, 2, 2, 0, 0, 0, 0, 2, 2, 2, 2, 2, 2, 2, 0, 0] rfl ⟨wd_722, wd_723, wd_85⟩ (by decide +kernel) ⟨Nat.le_of_ble_eq_true rfl, Nat.le_of_ble_eq_true rfl⟩ (by rw [e140]; exact z140 0) dL_law_8 ?_
    refine x_dup (pc := 11) C dL_law_11 rfl ?_
    refine x_L lay_lay.symm ?_
    have eL : (lay0 L00 (gl 0)).1 = 140 := e140
    refine x_callI (pc := 12) C hA (S' := mS (lay0 L00 (gl 0)).1 (gS 0 S00)) (o := (lay0 L00 (gl 0)).1 + 0) [] _ (c_X7_init (L0 := lay0 L00 (gl 0)) (gS 0 S00) (fun i _ _ => by rw [eL]; exact z140 i)) cw_L_12 ⟨rfl, wd_725⟩ ⟨rfl, rfl, Nat.le_of_ble_eq_true rfl, Nat.le_of_ble_eq_true rfl⟩ ⟨Nat.le_of_ble_eq_true rfl, Nat.le_of_ble_eq_true rfl⟩ rfl ⟨rfl, Nat.le_of_ble_eq_true rfl⟩ dL_law_12 ?_
    refine x_astore_n (pc := 15) C (v := s.heap.size + 140) 2 [(2, .ref (s.heap.size + 140)), (1, .ref (s.heap.size + 0)), (0, .ref bs)] dL_law_15 rfl (Nat.le_of_ble_eq_true rfl) (by show s.heap.size + 140 = s.heap.size + (0 + (gl 0).length); rw [e140]) rfl ?_
    refine x_iconst (pc := 16) C (v := (0 : Int32)) dL_law_16 rfl ?_
    refine x_istore_n (pc := 17) C 3 [(3, .int (nI 0)), (2, .ref (s.heap.size + 140)), (1, .ref (s.heap.size + 0)), (0, .ref bs)] dL_law_17 rfl (Nat.le_of_ble_eq_true rfl) rfl rfl ?_
    rw [eL]
    exact law_loop C hX hbl hL LF_gu LF_mo ⟨Nat.le_of_ble_eq_true rfl, Nat.le_of_ble_eq_true rfl⟩ hE 513 0 SF (by omega) (by omega) SF_inv
  have hM : HM G (lay0 L00 []) s.heap.size S00 s.heap := ⟨rfl, fun o sh hL => by
    have h9 : ([] : List Sh)[o - 0]? = some sh := by
      have h8 : (if o < 0 then none else ([] : List Sh)[o - 0]?) = some sh := hL
      rw [if_neg (Nat.not_lt_zero o)] at h8
      exact h8
    cases h9⟩
  have hl := lv_entry ([.ref bs]) (n := 4) (Nat.le_of_ble_eq_true rfl)
  rw [lg_entry_eq]
  exact start s.heap [] _ hM va_S.rf hl
end ZLE
