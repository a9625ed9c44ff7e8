/-- the first n places filled -/
def lpI (o : Nat) (f : Nat → Int32) (n : Nat) (S : Sg) : Sg := (fun o' k => if o' = o ∧ k < n then f k else S.1 o' k, S.2)
theorem lpI_0 {o : Nat} {f : Nat → Int32} {S : Sg} : lpI o f 0 S = S := Prod.ext (funext fun o' => funext fun k => if_neg (fun q => Nat.not_lt_zero k q.2)) rfl
theorem lpI_s {o n : Nat} {f : Nat → Int32} {S : Sg} : lpI o f (n + 1) S = setI (lpI o f n S) o n (f n) := by
  refine Prod.ext (funext fun o' => funext fun k => ?_) rfl
  show (if o' = o ∧ k < n + 1 then f k else S.1 o' k) = if o' = o ∧ k = n then f n else if o' = o ∧ k < n then f k else S.1 o' k
  by_cases h1 : o' = o
  · by_cases h2 : k = n
    · rw [if_pos ⟨h1, by omega⟩, if_pos ⟨h1, h2⟩, h2]
    · by_cases h3 : k < n
      · rw [if_pos ⟨h1, by omega⟩, if_neg (by omega), if_pos ⟨h1, h3⟩]
      · rw [if_neg (by omega), if_neg (by omega), if_neg (by omega)]
  · rw [if_neg (fun q => h1 q.1), if_neg (fun q => h1 q.1), if_neg (fun q => h1 q.1)]
theorem lpI_o {o o' n : Nat} {f : Nat → Int32} {S : Sg} (h : o' ≠ o) : (lpI o f n S).1 o' = S.1 o' ∧ (lpI o f n S).2 o' = S.2 o' := ⟨funext fun _ => if_neg (fun q => h q.1), rfl⟩
/-- the first n rows of a space begun at o have 1 at their own place -/
def dgS (o n : Nat) (S : Sg) : Sg := (S.1, fun o' k => if k < n ∧ o' = o + 2 + k then 1 else S.2 o' k)
theorem dgS_0 {o : Nat} {S : Sg} : dgS o 0 S = S := Prod.ext rfl (funext fun o' => funext fun k => if_neg (t := (1 : Int64)) (fun q : k < 0 ∧ o' = o + 2 + k => Nat.not_lt_zero k q.1))
theorem dgS_s {o n : Nat} {S : Sg} : dgS o (n + 1) S = setJ (dgS o n S) (o + 2 + n) n 1 := by
  refine Prod.ext rfl (funext fun o' => funext fun k => ?_)
  show (if k < n + 1 ∧ o' = o + 2 + k then (1 : Int64) else S.2 o' k) = if o' = o + 2 + n ∧ k = n then 1 else if k < n ∧ o' = o + 2 + k then 1 else S.2 o' k
  by_cases h1 : k = n
  · subst h1
    by_cases h2 : o' = o + 2 + k
    · rw [if_pos ⟨by omega, h2⟩, if_pos ⟨h2, rfl⟩]
    · rw [if_neg (fun q => h2 q.2), if_neg (fun q => h2 q.1), if_neg (by omega)]
  · by_cases h2 : k < n ∧ o' = o + 2 + k
    · rw [if_pos ⟨by omega, h2.2⟩, if_neg (fun q => h1 q.2), if_pos h2]
    · rw [if_neg (by omega), if_neg (fun q => h1 q.2), if_neg h2]
theorem dgS_o {o o' n : Nat} {S : Sg} (h : o' < o + 2 ∨ o + 2 + n ≤ o') : (dgS o n S).1 o' = S.1 o' ∧ (dgS o n S).2 o' = S.2 o' := ⟨rfl, funext fun k => if_neg (by omega)⟩
abbrev spS (o : Nat) (S : Sg) : Sg := dgS o 10 (setJ S o 1 1)
theorem spS_o {o o' : Nat} {S : Sg} (h : o' < o ∨ o + 12 ≤ o') : (spS o S).1 o' = S.1 o' ∧ (spS o S).2 o' = S.2 o' := by
  obtain ⟨a, b⟩ := dgS_o (o := o) (o' := o') (n := 10) (S := setJ S o 1 1) (by omega)
  obtain ⟨c, d⟩ := setJ_o (S := S) (o := o) (k := 1) (o' := o') (v := 1) (by omega)
  exact ⟨a.trans c, b.trans d⟩
section ZF
variable {p : Program} {l : Launch} {e : Env} {R : Room} {s : State} {m : MethodId} {args : Array Value} {below : List Frame} {meth : Method} {c : Code} {cells slots : Nat} {Q : State → Prop} {nL : Nat} {G : zz_G} {L L' : Ly} {L0 : Ly} {ly ly' : List Sh} {b : Nat} {S : Sg} {pc : Nat} {lv : List (Nat × Value)} {st : List Value} {cc : ByteArray} {y : MethodName} {ret : Option FieldType}
theorem x_ly (h : ly = ly') (k : X p l e R s m args below meth c cells slots Q nL G (lay0 L0 ly') b S pc lv st) : X p l e R s m args below meth c cells slots Q nL G (lay0 L0 ly) b S pc lv st := by subst h; exact k
theorem x_L (h : L = L') (k : X p l e R s m args below meth c cells slots Q nL G L' b S pc lv st) : X p l e R s m args below meth c cells slots Q nL G L b S pc lv st := by subst h; exact k
/-- for (int v = 0; v < B; v++) a[v] = v; -/
theorem x_fillA (C : CX p G s m args meth c cc y nL ret) {o oa na ci kf N idx B pcE : Nat} {D nm t : String} {T : u_T} {ks : List Nat} {fin : Bool} {B' off off2 : Int} (pc0 : Nat) (hO : L.2 o = some (0, ci, ks)) (hA : L.2 oa = some (1, na, [])) (hB : B ≤ na ∧ na < 1000) (hc : classes[ci]? = some (D, T, N)) (hT : T kf = (D, nm, t, fin)) (w : Cond.fieldLink y.cls idx D nm t ∈ zz_all) (hk : kf < N ∧ 1 < nL) (hr : ks.getD kf 2 = oa + 3)
    (d0 : decode cc pc0 = .ok (.iload_n 1, 1)) (d1 : decode cc (pc0 + 1) = .ok (.bipush B', 2)) (eB : (Int8.ofInt B').toInt32 = nI B) (d2 : decode cc (pc0 + 1 + 2) = .ok (.if_icmp .ge off, 3)) (h2 : ((pc0 + 1 + 2 : Nat) : Int) + off = (pcE : Int)) (d3 : decode cc (pc0 + 1 + 2 + 3) = .ok (.aload_n 0, 1)) (d4 : decode cc (pc0 + 1 + 2 + 3 + 1) = .ok (.getfield idx, 3)) (d5 : decode cc (pc0 + 1 + 2 + 3 + 1 + 3) = .ok (.iload_n 1, 1)) (d6 : decode cc (pc0 + 1 + 2 + 3 + 1 + 3 + 1) = .ok (.iload_n 1, 1)) (d7 : decode cc (pc0 + 1 + 2 + 3 + 1 + 3 + 1 + 1) = .ok (.iastore, 1)) (d8 : decode cc (pc0 + 1 + 2 + 3 + 1 + 3 + 1 + 1 + 1) = .ok (.iinc 1 1, 3)) (d9 : decode cc (pc0 + 1 + 2 + 3 + 1 + 3 + 1 + 1 + 1 + 3) = .ok (.goto off2, 3)) (h9 : ((pc0 + 1 + 2 + 3 + 1 + 3 + 1 + 1 + 1 + 3 : Nat) : Int) + off2 = (pc0 : Int))
    (kk : X p l e R s m args below meth c cells slots Q nL G L b (lpI oa nI B S) pcE [(1, .int (nI B)), (0, .ref (b + o))] []) : X p l e R s m args below meth c cells slots Q nL G L b S pc0 [(1, .int 0), (0, .ref (b + o))] [] := by
  have go : ∀ n k, k + n = B → X p l e R s m args below meth c cells slots Q nL G L b (lpI oa nI k S) pc0 [(1, .int (nI k)), (0, .ref (b + o))] [] := by
    intro n
    induction n with
    | zero =>
      intro k hk'
      have : k = B := by omega
      subst this
      refine x_iload_n C 0 d0 rfl (x_bipush C d1 eB (x_icmp_ge C pcE d2 h2 (fun _ => kk) (fun q => absurd q (nI_nlt (Nat.le_refl _) (by omega)))))
    | succ n ih =>
      intro k hk'
      refine x_iload_n C 0 d0 rfl (x_bipush C d1 eB (x_icmp_ge C pcE d2 h2 (fun q => absurd (nI_lt (by omega) (by omega)) q) (fun _ => ?_)))
      refine x_aload_n C 1 d3 rfl (x_getr C oa hO hc hT w d4 hk.1 hr (x_iload_n C 0 d5 rfl (x_iload_n C 0 d6 rfl ?_)))
      refine x_iastore C hA (inb_n (by omega) (by omega)) (S' := lpI oa nI (k + 1) S) (by rw [ix_n (by omega), lpI_s]) d7 ?_
      refine x_iinc C (w := (1 : Int32)) 0 [(1, .int (nI (k + 1))), (0, .ref (b + o))] d8 rfl rfl hk.2 (nIs k).symm rfl ?_
      exact x_goto C pc0 d9 h9 (ih (k + 1) (by omega))
  have := go B 0 (Nat.zero_add B)
  rw [lpI_0] at this
  exact this
/-- for (int v = 0; v < B; v++) a[v] = 99; -/
theorem x_fillB (C : CX p G s m args meth c cc y nL ret) {o oa na ci kf N idx B pcE : Nat} {D nm t : String} {T : u_T} {ks : List Nat} {fin : Bool} {B' off off2 : Int} (pc0 : Nat) (hO : L.2 o = some (0, ci, ks)) (hA : L.2 oa = some (1, na, [])) (hB : B ≤ na ∧ na < 1000) (hc : classes[ci]? = some (D, T, N)) (hT : T kf = (D, nm, t, fin)) (w : Cond.fieldLink y.cls idx D nm t ∈ zz_all) (hk : kf < N ∧ 1 < nL) (hr : ks.getD kf 2 = oa + 3)
    (d0 : decode cc pc0 = .ok (.iload_n 1, 1)) (d1 : decode cc (pc0 + 1) = .ok (.bipush B', 2)) (eB : (Int8.ofInt B').toInt32 = nI B) (d2 : decode cc (pc0 + 1 + 2) = .ok (.if_icmp .ge off, 3)) (h2 : ((pc0 + 1 + 2 : Nat) : Int) + off = (pcE : Int)) (d3 : decode cc (pc0 + 1 + 2 + 3) = .ok (.aload_n 0, 1)) (d4 : decode cc (pc0 + 1 + 2 + 3 + 1) = .ok (.getfield idx, 3)) (d5 : decode cc (pc0 + 1 + 2 + 3 + 1 + 3) = .ok (.iload_n 1, 1)) (d6 : decode cc (pc0 + 1 + 2 + 3 + 1 + 3 + 1) = .ok (.bipush 99, 2)) (d7 : decode cc (pc0 + 1 + 2 + 3 + 1 + 3 + 1 + 2) = .ok (.iastore, 1)) (d8 : decode cc (pc0 + 1 + 2 + 3 + 1 + 3 + 1 + 2 + 1) = .ok (.iinc 1 1, 3)) (d9 : decode cc (pc0 + 1 + 2 + 3 + 1 + 3 + 1 + 2 + 1 + 3) = .ok (.goto off2, 3)) (h9 : ((pc0 + 1 + 2 + 3 + 1 + 3 + 1 + 2 + 1 + 3 : Nat) : Int) + off2 = (pc0 : Int))
    (kk : X p l e R s m args below meth c cells slots Q nL G L b (lpI oa (fun _ => 99) B S) pcE [(1, .int (nI B)), (0, .ref (b + o))] []) : X p l e R s m args below meth c cells slots Q nL G L b S pc0 [(1, .int 0), (0, .ref (b + o))] [] := by
  have go : ∀ n k, k + n = B → X p l e R s m args below meth c cells slots Q nL G L b (lpI oa (fun _ => 99) k S) pc0 [(1, .int (nI k)), (0, .ref (b + o))] [] := by
    intro n
    induction n with
    | zero =>
      intro k hk'
      have : k = B := by omega
      subst this
      refine x_iload_n C 0 d0 rfl (x_bipush C d1 eB (x_icmp_ge C pcE d2 h2 (fun _ => kk) (fun q => absurd q (nI_nlt (Nat.le_refl _) (by omega)))))
    | succ n ih =>
      intro k hk'
      refine x_iload_n C 0 d0 rfl (x_bipush C d1 eB (x_icmp_ge C pcE d2 h2 (fun q => absurd (nI_lt (by omega) (by omega)) q) (fun _ => ?_)))
      refine x_aload_n C 1 d3 rfl (x_getr C oa hO hc hT w d4 hk.1 hr (x_iload_n C 0 d5 rfl (x_bipush C (v := (99 : Int32)) d6 rfl ?_)))
      refine x_iastore C hA (inb_n (by omega) (by omega)) (S' := lpI oa (fun _ => 99) (k + 1) S) (by rw [ix_n (by omega), lpI_s]) d7 ?_
      refine x_iinc C (w := (1 : Int32)) 0 [(1, .int (nI (k + 1))), (0, .ref (b + o))] d8 rfl rfl hk.2 (nIs k).symm rfl ?_
      exact x_goto C pc0 d9 h9 (ih (k + 1) (by omega))
  have := go B 0 (Nat.zero_add B)
  rw [lpI_0] at this
  exact this
/-- the rows of a space -/
theorem x_fillS (C : CX p G s m args meth c cX4_init yX4_init 2 ret) {o : Nat} (hO : isSp L o)
    (kk : X p l e R s m args below meth c cells slots Q 2 G L b (dgS o 10 S) 44 [(1, .int (nI 10)), (0, .ref (b + o))] []) : X p l e R s m args below meth c cells slots Q 2 G L b S 23 [(1, .int 0), (0, .ref (b + o))] [] := by
  have go : ∀ n k, k + n = 10 → X p l e R s m args below meth c cells slots Q 2 G L b (dgS o k S) 23 [(1, .int (nI k)), (0, .ref (b + o))] [] := by
    intro n
    induction n with
    | zero =>
      intro k hk'
      have : k = 10 := by omega
      subst this
      exact x_iload_n (pc := 23) C 0 dX4_init_23 rfl (x_bipush (pc := 24) C (v := (10 : Int32)) dX4_init_24 rfl (x_icmp_ge (pc := 26) C 44 dX4_init_26 rfl (fun _ => kk) (fun q => absurd q (nI_nlt (b := 10) (Nat.le_refl _) (by omega)))))
    | succ n ih =>
      intro k hk'
      refine x_iload_n (pc := 23) C 0 dX4_init_23 rfl (x_bipush (pc := 24) C (v := (10 : Int32)) dX4_init_24 rfl (x_icmp_ge (pc := 26) C 44 dX4_init_26 rfl (fun q => absurd (nI_lt (b := 10) (by omega) (by omega)) q) (fun _ => ?_)))
      refine x_aload_n (pc := 29) C 1 dX4_init_29 rfl (x_getr (pc := 30) C (k := 0) (o + 1) hO.1 rfl rfl wd_46 dX4_init_30 (Nat.le_of_ble_eq_true rfl) rfl (x_iload_n (pc := 33) C 0 dX4_init_33 rfl ?_))
      refine x_aaloadJ (pc := 34) C hO.2.1 (inb_n (by omega) (by decide)) dX4_init_34 ?_
      refine x_iload_n (pc := 35) C 0 dX4_init_35 rfl (x_lconst (pc := 36) C (v := (1 : Int64)) dX4_init_36 rfl ?_)
      refine x_lastore (pc := 37) C (S' := dgS o (k + 1) S) (by rw [ix_n (by omega)]; exact hO.2.2 k (by omega)) (inb_n (by omega) (by decide)) (by rw [ix_n (by omega), dgS_s]) dX4_init_37 ?_
      refine x_iinc (pc := 38) C (w := (1 : Int32)) 0 [(1, .int (nI (k + 1))), (0, .ref (b + o))] dX4_init_38 rfl rfl (Nat.le_of_ble_eq_true rfl) (nIs k).symm rfl ?_
      exact x_goto (pc := 41) C 23 dX4_init_41 rfl (ih (k + 1) (by omega))
  have := go 10 0 rfl
  rw [dgS_0] at this
  exact this
end ZF
