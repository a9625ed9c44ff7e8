set_option maxRecDepth 100000 in
set_option maxHeartbeats 4000000 in
theorem l_X7_clears_54 {p : Program} {l : Launch} {e : Env} {s : State} {m : MethodId} {args : Array Value} {below : List Frame} {meth : Method} {c : Code} {G : zz_G} {L : Ly} {b : Nat} {Q : State → Prop} (C : CX p G s m args meth c cX7_clears yX7_clears 12 none) (a0 : Nat) (n0 : Nat) (a2 : Nat) (n2 : Nat) (h0 : L.2 a0 = some (2, n0, [])) (h2 : L.2 a2 = some (2, n2, [])) (v1 : Int32) (v3 : Int32) (v7 : Int64) (v9 : Int64) : ∀ (n : Nat) (v11 : Int32) (S : Sg) {z}, L_X7_clears_54 a0 n0 a2 n2 v1 v3 v7 v9 n v11 S = some z → (∀ (S_o : Sg), z = S_o → X p l e (rmz 3 74) s m args below meth c 0 0 Q 12 G L b S_o 92 [(0, .ref (b + a0)), (1, .int v1)] []) → X p l e (rmz 3 74) s m args below meth c 0 0 Q 12 G L b S 54 [(0, .ref (b + a0)), (1, .int v1), (2, .ref (b + a2)), (3, .int v3), (7, .long v7), (9, .long v9), (11, .int v11)] [] := by
  intro n
  induction n with
  | zero =>
    intro v11 S z h
    exact of_none h
  | succ n ih =>
    intro v11 S z h hx
    rw [L_X7_clears_54] at h
    refine x_iload (pc := 54) C 6 dX7_clears_54 rfl ?_
    refine x_bipush (pc := 56) C (v := (10 : Int32)) dX7_clears_56 rfl ?_
    refine x_icmp_ge (pc := 58) C 92 dX7_clears_58 rfl (fun c_1 => ?_) (fun c_1 => ?_)
    · replace h := of_ifn c_1 h
      exact x_sub [0, 1] rfl (hx _ (of_s1 h).symm)
    · replace h := of_ifp c_1 h
      refine x_aload_n (pc := 61) C 0 dX7_clears_61 rfl ?_
      refine x_iload_n (pc := 62) C 1 dX7_clears_62 rfl ?_
      refine x_iload (pc := 63) C 6 dX7_clears_63 rfl ?_
      refine x_iadd (pc := 65) C dX7_clears_65 ?_
      refine x_aload_n (pc := 66) C 0 dX7_clears_66 rfl ?_
      refine x_iload_n (pc := 67) C 1 dX7_clears_67 rfl ?_
      refine x_iload (pc := 68) C 6 dX7_clears_68 rfl ?_
      refine x_iadd (pc := 70) C dX7_clears_70 ?_
      obtain ⟨g_1, h⟩ := of_gd h
      refine x_laload (pc := 71) C h0 g_1 dX7_clears_71 ?_
      refine x_lload (pc := 72) C 4 dX7_clears_72 rfl ?_
      refine x_lmul (pc := 74) C dX7_clears_74 ?_
      refine x_aload_n (pc := 75) C 2 dX7_clears_75 rfl ?_
      refine x_iload_n (pc := 76) C 3 dX7_clears_76 rfl ?_
      refine x_iload (pc := 77) C 6 dX7_clears_77 rfl ?_
      refine x_iadd (pc := 79) C dX7_clears_79 ?_
      obtain ⟨g_2, h⟩ := of_gd h
      refine x_laload (pc := 80) C h2 g_2 dX7_clears_80 ?_
      refine x_lload (pc := 81) C 5 dX7_clears_81 rfl ?_
      refine x_lmul (pc := 83) C dX7_clears_83 ?_
      refine x_lsub (pc := 84) C dX7_clears_84 ?_
      obtain ⟨S_1, eS_1, h⟩ := of_lt h
      refine x_lastore (pc := 85) C h0 g_1 eS_1 dX7_clears_85 ?_
      obtain ⟨v11_1, ev11_1, h⟩ := of_lt h
      refine x_iinc (pc := 86) C (w := (1 : Int32)) 6 [(11, .int v11_1), (0, .ref (b + a0)), (1, .int v1), (2, .ref (b + a2)), (3, .int v3), (7, .long v7), (9, .long v9)] dX7_clears_86 rfl rfl (Nat.le_of_ble_eq_true rfl) ev11_1 rfl ?_
      refine x_goto (pc := 89) C 54 dX7_clears_89 rfl ?_
      exact x_sub [1, 2, 3, 4, 5, 6, 0] rfl (ih _ _ h hx)
set_option maxRecDepth 100000 in
set_option maxHeartbeats 4000000 in
theorem c_X7_clears {l : Launch} {G : zz_G} {L : Ly} {b : Nat} (a0 : Nat) (n0 : Nat) (p1 : Int32) (a2 : Nat) (n2 : Nat) (p3 : Int32) (p4 : Int32) (h0 : L.2 a0 = some (2, n0, [])) (h2 : L.2 a2 = some (2, n2, [])) (S : Sg) (Sf : Sg) (h : f_X7_clears a0 n0 p1 a2 n2 p3 p4 S = some Sf) : Met l yX7_clears (Cond.code yX7_clears cX7_clears 12 none :: zz_all) (rmz 3 74) (PC G L b S [.ref (b + a0), .int p1, .ref (b + a2), .int p3, .int p4]) (QC G L b Sf none True) 0 0 (fun q => b ≤ q) := by
  refine x_met [.ref (b + a0), .int p1, .ref (b + a2), .int p3, .int p4] (by decide +kernel) (Nat.le_of_ble_eq_true rfl) fun p e s m args below meth c C => ?_
  unfold f_X7_clears at h
  refine x_aload_n (pc := 0) C 0 dX7_clears_0 rfl ?_
  refine x_iload_n (pc := 1) C 1 dX7_clears_1 rfl ?_
  refine x_iload (pc := 2) C 4 dX7_clears_2 rfl ?_
  refine x_iadd (pc := 4) C dX7_clears_4 ?_
  obtain ⟨g_1, h⟩ := of_gd h
  refine x_laload (pc := 5) C h0 g_1 dX7_clears_5 ?_
  refine x_lconst (pc := 6) C (v := (0 : Int64)) dX7_clears_6 rfl ?_
  refine x_lcmp_ne (pc := 7) C 12 dX7_clears_7 dX7_clears_8 rfl (fun c_1 => ?_) (fun c_1 => ?_)
  · replace h := of_ifn c_1 h
    refine x_aload_n (pc := 12) C 0 dX7_clears_12 rfl ?_
    refine x_iload_n (pc := 13) C 1 dX7_clears_13 rfl ?_
    refine x_iload (pc := 14) C 4 dX7_clears_14 rfl ?_
    refine x_iadd (pc := 16) C dX7_clears_16 ?_
    refine x_laload (pc := 17) C h0 g_1 dX7_clears_17 ?_
    refine x_aload_n (pc := 18) C 2 dX7_clears_18 rfl ?_
    refine x_iload_n (pc := 19) C 3 dX7_clears_19 rfl ?_
    refine x_iload (pc := 20) C 4 dX7_clears_20 rfl ?_
    refine x_iadd (pc := 22) C dX7_clears_22 ?_
    obtain ⟨g_2, h⟩ := of_gd h
    refine x_laload (pc := 23) C h2 g_2 dX7_clears_23 ?_
    obtain ⟨r_1, hc_1, h⟩ := of_bd h
    refine x_callS1 (pc := 24) C [.long (S.2 a0 (ix (p1 + p4))), .long (S.2 a2 (ix (p3 + p4)))] [] (c_X7_divisor (b := b) (S.2 a0 (ix (p1 + p4))) (S.2 a2 (ix (p3 + p4))) S _ hc_1) cw_X7_118 vs_X7_divisor ⟨rfl, rfl, Nat.le_of_ble_eq_true rfl, Nat.le_of_ble_eq_true rfl⟩ ⟨Nat.le_refl _, Nat.le_refl _⟩ rfl ⟨rfl, Nat.le_of_ble_eq_true rfl⟩ dX7_clears_24 (fun hx_1 => ?_)
    refine x_lstore (pc := 27) C [(5, .long r_1), (0, .ref (b + a0)), (1, .int p1), (2, .ref (b + a2)), (3, .int p3), (4, .int p4)] dX7_clears_27 (Nat.le_of_ble_eq_true rfl) rfl rfl ?_
    refine x_aload_n (pc := 29) C 3 dX7_clears_29 rfl ?_
    refine x_iload_n (pc := 30) C 4 dX7_clears_30 rfl ?_
    refine x_iload (pc := 31) C 5 dX7_clears_31 rfl ?_
    refine x_iadd (pc := 33) C dX7_clears_33 ?_
    refine x_laload (pc := 34) C h2 g_2 dX7_clears_34 ?_
    refine x_lload (pc := 35) C 0 dX7_clears_35 rfl ?_
    obtain ⟨g_3, h⟩ := of_gd h
    refine x_ldiv (pc := 37) C dX7_clears_37 g_3 ?_
    obtain ⟨v7_1, ev7_1, h⟩ := of_lt h
    refine x_lstore (pc := 38) C [(7, .long v7_1), (5, .long r_1), (0, .ref (b + a0)), (1, .int p1), (2, .ref (b + a2)), (3, .int p3), (4, .int p4)] dX7_clears_38 (Nat.le_of_ble_eq_true rfl) ev7_1 rfl ?_
    refine x_aload_n (pc := 40) C 2 dX7_clears_40 rfl ?_
    refine x_iload_n (pc := 41) C 3 dX7_clears_41 rfl ?_
    refine x_iload (pc := 42) C 6 dX7_clears_42 rfl ?_
    refine x_iadd (pc := 44) C dX7_clears_44 ?_
    refine x_laload (pc := 45) C h0 g_1 dX7_clears_45 ?_
    refine x_lload (pc := 46) C 1 dX7_clears_46 rfl ?_
    refine x_ldiv (pc := 48) C dX7_clears_48 g_3 ?_
    obtain ⟨v9_1, ev9_1, h⟩ := of_lt h
    refine x_lstore (pc := 49) C [(9, .long v9_1), (7, .long v7_1), (5, .long r_1), (0, .ref (b + a0)), (1, .int p1), (2, .ref (b + a2)), (3, .int p3), (4, .int p4)] dX7_clears_49 (Nat.le_of_ble_eq_true rfl) ev9_1 rfl ?_
    refine x_iconst (pc := 51) C (v := (0 : Int32)) dX7_clears_51 rfl ?_
    refine x_istore (pc := 52) C [(11, .int (0 : Int32)), (9, .long v9_1), (7, .long v7_1), (5, .long r_1), (0, .ref (b + a0)), (1, .int p1), (2, .ref (b + a2)), (3, .int p3), (4, .int p4)] dX7_clears_52 (Nat.le_of_ble_eq_true rfl) rfl rfl ?_
    refine x_sub [4, 5, 6, 7, 2, 1, 0] rfl ?_
    obtain ⟨z_hz_1, hz_1, h⟩ := of_bd h
    refine l_X7_clears_54 C a0 n0 a2 n2 h0 h2 p1 p3 v7_1 v9_1 400 _ _ hz_1 (fun S_1 ez => ?_)
    subst z_hz_1
    refine x_aload_n (pc := 92) C 0 dX7_clears_92 rfl ?_
    refine x_iload_n (pc := 93) C 1 dX7_clears_93 rfl ?_
    obtain ⟨S_2, hc_2, h⟩ := of_bd h
    refine x_callS_ (pc := 94) C [.ref (b + a0), .int p1] [] (c_X7_makesLeast (b := b) a0 n0 p1 h0 S_1 _ hc_2) cw_X7_122 vs_X7_makesLeast ⟨rfl, rfl, Nat.le_of_ble_eq_true rfl, Nat.le_of_ble_eq_true rfl⟩ ⟨Nat.le_refl _, Nat.le_refl _⟩ rfl ⟨rfl, Nat.le_of_ble_eq_true rfl⟩ dX7_clears_94 (fun hx_2 => ?_)
    exact x_vreturn (pc := 97) C dX7_clears_97 (of_s1 h)
  · replace h := of_ifp c_1 h
    exact x_vreturn (pc := 11) C dX7_clears_11 (of_s1 h)
set_option maxRecDepth 100000 in
set_option maxHeartbeats 4000000 in
theorem l_X7_firstOfOne_2 {p : Program} {l : Launch} {e : Env} {s : State} {m : MethodId} {args : Array Value} {below : List Frame} {meth : Method} {c : Code} {G : zz_G} {L : Ly} {b : Nat} (C : CX p G s m args meth c cX7_firstOfOne yX7_firstOfOne 2 (some .int)) (hO : isMo L) (S : Sg) (rf : Int32) : ∀ (n : Nat) (v1 : Int32) {z}, L_X7_firstOfOne_2 S n v1 = some z → (∀ q, z = .inl q → q = rf) → (z = .inr () → X p l e (rmz 0 0) s m args below meth c 0 0 (RQ G L b S below args s (some (.int rf)) True) 2 G L b S 27 [] []) → X p l e (rmz 0 0) s m args below meth c 0 0 (RQ G L b S below args s (some (.int rf)) True) 2 G L b S 2 [(0, .ref (b + 140)), (1, .int v1)] [] := by
  intro n
  induction n with
  | zero =>
    intro v1 z h
    exact of_none h
  | succ n ih =>
    intro v1 z h hr hx
    rw [L_X7_firstOfOne_2] at h
    refine x_iload_n (pc := 2) C 1 dX7_firstOfOne_2 rfl ?_
    refine x_bipush (pc := 3) C (v := (10 : Int32)) dX7_firstOfOne_3 rfl ?_
    refine x_icmp_ge (pc := 5) C 27 dX7_firstOfOne_5 rfl (fun c_1 => ?_) (fun c_1 => ?_)
    · replace h := of_ifn c_1 h
      exact x_sub [] rfl (hx (of_s1 h).symm)
    · replace h := of_ifp c_1 h
      refine x_aload_n (pc := 8) C 0 dX7_firstOfOne_8 rfl ?_
      refine x_getr (pc := 9) C (k := 15) 151 hO.1 rfl rfl wd_743 dX7_firstOfOne_9 (Nat.le_of_ble_eq_true rfl) rfl ?_
      refine x_iload_n (pc := 12) C 1 dX7_firstOfOne_12 rfl ?_
      obtain ⟨g_1, h⟩ := of_gd h
      refine x_laload (pc := 13) C hO.2.2.2.2.2.2.2.2.2.2.2.1 g_1 dX7_firstOfOne_13 ?_
      refine x_lconst (pc := 14) C (v := (0 : Int64)) dX7_firstOfOne_14 rfl ?_
      refine x_lcmp_eq (pc := 15) C 21 dX7_firstOfOne_15 dX7_firstOfOne_16 rfl (fun c_2 => ?_) (fun c_2 => ?_)
      · replace h := of_ifp c_2 h
        obtain ⟨v1_1, ev1_1, h⟩ := of_lt h
        refine x_iinc (pc := 21) C (w := (1 : Int32)) 1 [(1, .int v1_1), (0, .ref (b + 140))] dX7_firstOfOne_21 rfl rfl (Nat.le_of_ble_eq_true rfl) ev1_1 rfl ?_
        refine x_goto (pc := 24) C 2 dX7_firstOfOne_24 rfl ?_
        exact x_sub [1, 0] rfl (ih _ h hr hx)
      · replace h := of_ifn c_2 h
        refine x_iload_n (pc := 19) C 1 dX7_firstOfOne_19 rfl ?_
        have hq := hr _ (of_s1 h).symm
        exact x_ireturn (pc := 20) C dX7_firstOfOne_20 hq rfl
set_option maxRecDepth 100000 in
set_option maxHeartbeats 4000000 in
theorem c_X7_firstOfOne {l : Launch} {G : zz_G} {L : Ly} {b : Nat} (hO : isMo L) (S : Sg) (rf : Int32) (h : f_X7_firstOfOne S = some rf) : Met l yX7_firstOfOne (Cond.code yX7_firstOfOne cX7_firstOfOne 2 (some .int) :: zz_all) (rmz 0 0) (PC G L b S [.ref (b + 140)]) (QC G L b S (some (.int rf)) True) 0 0 (fun q => b ≤ q) := by
  refine x_met [.ref (b + 140)] (by decide +kernel) (Nat.le_of_ble_eq_true rfl) fun p e s m args below meth c C => ?_
  unfold f_X7_firstOfOne at h
  refine x_iconst (pc := 0) C (v := (0 : Int32)) dX7_firstOfOne_0 rfl ?_
  refine x_istore_n (pc := 1) C 1 [(1, .int (0 : Int32)), (0, .ref (b + 140))] dX7_firstOfOne_1 rfl (Nat.le_of_ble_eq_true rfl) rfl rfl ?_
  refine x_sub [1, 0] rfl ?_
  obtain ⟨z_hz_1, hz_1, hl, hrr⟩ := of_bs h
  refine l_X7_firstOfOne_2 C hO S rf 400 _ hz_1 (fun q ez => of_s1 (hl _ ez)) (fun ez => ?_)
  replace h := hrr _ ez
  clear hl hrr
  refine x_bipush (pc := 27) C (v := (-9 : Int32)) dX7_firstOfOne_27 rfl ?_
  exact x_ireturn (pc := 29) C dX7_firstOfOne_29 (of_s1 h) rfl
set_option maxRecDepth 100000 in
set_option maxHeartbeats 4000000 in
theorem l_X7_reduces_2 {p : Program} {l : Launch} {e : Env} {s : State} {m : MethodId} {args : Array Value} {below : List Frame} {meth : Method} {c : Code} {G : zz_G} {L : Ly} {b : Nat} {Q : State → Prop} (C : CX p G s m args meth c cX7_reduces yX7_reduces 4 none) (a1 : Nat) (n1 : Nat) (hO : isMo L) (h1 : L.2 a1 = some (1, n1, [])) (v2 : Int32) : ∀ (n : Nat) (v3 : Int32) (S : Sg) {z}, L_X7_reduces_2 a1 n1 v2 n v3 S = some z → (∀ (S_o : Sg), z = S_o → X p l e (rmz 4 105) s m args below meth c 0 0 Q 4 G L b S_o 26 [(0, .ref (b + 140))] []) → X p l e (rmz 4 105) s m args below meth c 0 0 Q 4 G L b S 2 [(0, .ref (b + 140)), (1, .ref (b + a1)), (2, .int v2), (3, .int v3)] [] := by
  intro n
  induction n with
  | zero =>
    intro v3 S z h
    exact of_none h
  | succ n ih =>
    intro v3 S z h hx
    rw [L_X7_reduces_2] at h
    refine x_iload_n (pc := 2) C 3 dX7_reduces_2 rfl ?_
    refine x_bipush (pc := 3) C (v := (10 : Int32)) dX7_reduces_3 rfl ?_
    refine x_icmp_ge (pc := 5) C 26 dX7_reduces_5 rfl (fun c_1 => ?_) (fun c_1 => ?_)
    · replace h := of_ifn c_1 h
      exact x_sub [0] rfl (hx _ (of_s1 h).symm)
    · replace h := of_ifp c_1 h
      refine x_aload_n (pc := 8) C 0 dX7_reduces_8 rfl ?_
      refine x_getr (pc := 9) C (k := 15) 151 hO.1 rfl rfl wd_743 dX7_reduces_9 (Nat.le_of_ble_eq_true rfl) rfl ?_
      refine x_iload_n (pc := 12) C 3 dX7_reduces_12 rfl ?_
      refine x_aload_n (pc := 13) C 1 dX7_reduces_13 rfl ?_
      refine x_iload_n (pc := 14) C 2 dX7_reduces_14 rfl ?_
      refine x_iload_n (pc := 15) C 3 dX7_reduces_15 rfl ?_
      refine x_iadd (pc := 16) C dX7_reduces_16 ?_
      obtain ⟨g_1, h⟩ := of_gd h
      refine x_iaload (pc := 17) C h1 g_1 dX7_reduces_17 ?_
      refine x_i2l (pc := 18) C dX7_reduces_18 ?_
      obtain ⟨g_2, h⟩ := of_gd h
      obtain ⟨S_1, eS_1, h⟩ := of_lt h
      refine x_lastore (pc := 19) C hO.2.2.2.2.2.2.2.2.2.2.2.1 g_2 eS_1 dX7_reduces_19 ?_
      obtain ⟨v3_1, ev3_1, h⟩ := of_lt h
      refine x_iinc (pc := 20) C (w := (1 : Int32)) 3 [(3, .int v3_1), (0, .ref (b + 140)), (1, .ref (b + a1)), (2, .int v2)] dX7_reduces_20 rfl rfl (Nat.le_of_ble_eq_true rfl) ev3_1 rfl ?_
      refine x_goto (pc := 23) C 2 dX7_reduces_23 rfl ?_
      exact x_sub [1, 2, 3, 0] rfl (ih _ _ h hx)
set_option maxRecDepth 100000 in
set_option maxHeartbeats 4000000 in
theorem l_X7_reduces_28 {p : Program} {l : Launch} {e : Env} {s : State} {m : MethodId} {args : Array Value} {below : List Frame} {meth : Method} {c : Code} {G : zz_G} {L : Ly} {b : Nat} {Q : State → Prop} (C : CX p G s m args meth c cX7_reduces yX7_reduces 4 none) (a1 : Nat) (n1 : Nat) (hO : isMo L) (h1 : L.2 a1 = some (1, n1, [])) : ∀ (n : Nat) (v3 : Int32) (S : Sg) {z}, L_X7_reduces_28 a1 n1 n v3 S = some z → (∀ (S_o : Sg), z = S_o → X p l e (rmz 4 105) s m args below meth c 0 0 Q 4 G L b S_o 64 [] []) → X p l e (rmz 4 105) s m args below meth c 0 0 Q 4 G L b S 28 [(0, .ref (b + 140)), (3, .int v3)] [] := by
  intro n
  induction n with
  | zero =>
    intro v3 S z h
    exact of_none h
  | succ n ih =>
    intro v3 S z h hx
    rw [L_X7_reduces_28] at h
    refine x_iload_n (pc := 28) C 1 dX7_reduces_28 rfl ?_
    refine x_aload_n (pc := 29) C 0 dX7_reduces_29 rfl ?_
    refine x_geti (pc := 30) C (k := 19) hO.1 rfl rfl wd_747 dX7_reduces_30 ⟨Nat.le_of_ble_eq_true rfl, rfl⟩ ?_
    refine x_icmp_ge (pc := 33) C 64 dX7_reduces_33 rfl (fun c_1 => ?_) (fun c_1 => ?_)
    · replace h := of_ifn c_1 h
      exact x_sub [] rfl (hx _ (of_s1 h).symm)
    · replace h := of_ifp c_1 h
      refine x_aload_n (pc := 36) C 0 dX7_reduces_36 rfl ?_
      refine x_getr (pc := 37) C (k := 15) 151 hO.1 rfl rfl wd_743 dX7_reduces_37 (Nat.le_of_ble_eq_true rfl) rfl ?_
      refine x_iconst (pc := 40) C (v := (0 : Int32)) dX7_reduces_40 rfl ?_
      refine x_aload_n (pc := 41) C 0 dX7_reduces_41 rfl ?_
      refine x_getr (pc := 42) C (k := 14) 150 hO.1 rfl rfl wd_742 dX7_reduces_42 (Nat.le_of_ble_eq_true rfl) rfl ?_
      refine x_bipush (pc := 45) C (v := (10 : Int32)) dX7_reduces_45 rfl ?_
      refine x_iload_n (pc := 47) C 1 dX7_reduces_47 rfl ?_
      refine x_imul (pc := 48) C dX7_reduces_48 ?_
      refine x_aload_n (pc := 49) C 0 dX7_reduces_49 rfl ?_
      refine x_getr (pc := 50) C (k := 17) 153 hO.1 rfl rfl wd_745 dX7_reduces_50 (Nat.le_of_ble_eq_true rfl) rfl ?_
      refine x_iload_n (pc := 53) C 1 dX7_reduces_53 rfl ?_
      obtain ⟨g_1, h⟩ := of_gd h
      refine x_iaload (pc := 54) C hO.2.2.2.2.2.2.2.2.2.2.2.2.2.1 g_1 dX7_reduces_54 ?_
      obtain ⟨S_1, hc_1, h⟩ := of_bd h
      refine x_callS_ (pc := 55) C [.ref (b + 151), .int (0 : Int32), .ref (b + 150), .int ((10 : Int32) * v3), .int (S.1 153 (ix v3))] [] (c_X7_clears (b := b) 151 10 (0 : Int32) 150 110 ((10 : Int32) * v3) (S.1 153 (ix v3)) hO.2.2.2.2.2.2.2.2.2.2.2.1 hO.2.2.2.2.2.2.2.2.2.2.1 S _ hc_1) cw_X7_132 vs_X7_clears ⟨rfl, rfl, Nat.le_of_ble_eq_true rfl, Nat.le_of_ble_eq_true rfl⟩ ⟨Nat.le_refl _, Nat.le_refl _⟩ rfl ⟨rfl, Nat.le_of_ble_eq_true rfl⟩ dX7_reduces_55 (fun hx_1 => ?_)
      obtain ⟨v3_1, ev3_1, h⟩ := of_lt h
      refine x_iinc (pc := 58) C (w := (1 : Int32)) 1 [(3, .int v3_1), (0, .ref (b + 140))] dX7_reduces_58 rfl rfl (Nat.le_of_ble_eq_true rfl) ev3_1 rfl ?_
      refine x_goto (pc := 61) C 28 dX7_reduces_61 rfl ?_
      exact x_sub [1, 0] rfl (ih _ _ h hx)
set_option maxRecDepth 100000 in
set_option maxHeartbeats 4000000 in
theorem c_X7_reduces {l : Launch} {G : zz_G} {L : Ly} {b : Nat} (a1 : Nat) (n1 : Nat) (p2 : Int32) (hO : isMo L) (h1 : L.2 a1 = some (1, n1, [])) (S : Sg) (Sf : Sg) (h : f_X7_reduces a1 n1 p2 S = some Sf) : Met l yX7_reduces (Cond.code yX7_reduces cX7_reduces 4 none :: zz_all) (rmz 4 105) (PC G L b S [.ref (b + 140), .ref (b + a1), .int p2]) (QC G L b Sf none True) 0 0 (fun q => b ≤ q) := by
  refine x_met [.ref (b + 140), .ref (b + a1), .int p2] (by decide +kernel) (Nat.le_of_ble_eq_true rfl) fun p e s m args below meth c C => ?_
  unfold f_X7_reduces at h
  refine x_iconst (pc := 0) C (v := (0 : Int32)) dX7_reduces_0 rfl ?_
  refine x_istore_n (pc := 1) C 3 [(3, .int (0 : Int32)), (0, .ref (b + 140)), (1, .ref (b + a1)), (2, .int p2)] dX7_reduces_1 rfl (Nat.le_of_ble_eq_true rfl) rfl rfl ?_
  refine x_sub [1, 2, 3, 0] rfl ?_
  obtain ⟨z_hz_2, hz_2, h⟩ := of_bd h
  refine l_X7_reduces_2 C a1 n1 hO h1 p2 400 _ _ hz_2 (fun S_1 ez => ?_)
  subst z_hz_2
  refine x_iconst (pc := 26) C (v := (0 : Int32)) dX7_reduces_26 rfl ?_
  refine x_istore_n (pc := 27) C 3 [(3, .int (0 : Int32)), (0, .ref (b + 140))] dX7_reduces_27 rfl (Nat.le_of_ble_eq_true rfl) rfl rfl ?_
  refine x_sub [1, 0] rfl ?_
  obtain ⟨z_hz_1, hz_1, h⟩ := of_bd h
  refine l_X7_reduces_28 C a1 n1 hO h1 400 _ _ hz_1 (fun S_2 ez => ?_)
  subst z_hz_1
  exact x_vreturn (pc := 64) C dX7_reduces_64 (of_s1 h)
set_option maxRecDepth 100000 in
set_option maxHeartbeats 4000000 in
theorem l_X7_adds_39 {p : Program} {l : Launch} {e : Env} {s : State} {m : MethodId} {args : Array Value} {below : List Frame} {meth : Method} {c : Code} {G : zz_G} {L : Ly} {b : Nat} {Q : State → Prop} (C : CX p G s m args meth c cX7_adds yX7_adds 7 none) (a1 : Nat) (n1 : Nat) (hO : isMo L) (h1 : L.2 a1 = some (1, n1, [])) (v3 : Int32) (v4 : Int64) : ∀ (n : Nat) (v6 : Int32) (S : Sg) {z}, L_X7_adds_39 a1 n1 v3 v4 n v6 S = some z → (∀ (S_o : Sg), z = S_o → X p l e (rmz 5 128) s m args below meth c 0 0 Q 7 G L b S_o 64 [(0, .ref (b + 140)), (3, .int v3)] []) → X p l e (rmz 5 128) s m args below meth c 0 0 Q 7 G L b S 39 [(0, .ref (b + 140)), (3, .int v3), (4, .long v4), (6, .int v6)] [] := by
  intro n
  induction n with
  | zero =>
    intro v6 S z h
    exact of_none h
  | succ n ih =>
    intro v6 S z h hx
    rw [L_X7_adds_39] at h
    refine x_iload (pc := 39) C 3 dX7_adds_39 rfl ?_
    refine x_bipush (pc := 41) C (v := (10 : Int32)) dX7_adds_41 rfl ?_
    refine x_icmp_ge (pc := 43) C 64 dX7_adds_43 rfl (fun c_1 => ?_) (fun c_1 => ?_)
    · replace h := of_ifn c_1 h
      exact x_sub [0, 1] rfl (hx _ (of_s1 h).symm)
    · replace h := of_ifp c_1 h
      refine x_aload_n (pc := 46) C 0 dX7_adds_46 rfl ?_
      refine x_getr (pc := 47) C (k := 15) 151 hO.1 rfl rfl wd_743 dX7_adds_47 (Nat.le_of_ble_eq_true rfl) rfl ?_
      refine x_iload (pc := 50) C 3 dX7_adds_50 rfl ?_
      refine x_dup2 (pc := 52) C dX7_adds_52 rfl rfl ?_
      obtain ⟨g_1, h⟩ := of_gd h
      refine x_laload (pc := 53) C hO.2.2.2.2.2.2.2.2.2.2.2.1 g_1 dX7_adds_53 ?_
      refine x_lload (pc := 54) C 2 dX7_adds_54 rfl ?_
      refine x_lmul (pc := 56) C dX7_adds_56 ?_
      obtain ⟨S_1, eS_1, h⟩ := of_lt h
      refine x_lastore (pc := 57) C hO.2.2.2.2.2.2.2.2.2.2.2.1 g_1 eS_1 dX7_adds_57 ?_
      obtain ⟨v6_1, ev6_1, h⟩ := of_lt h
      refine x_iinc (pc := 58) C (w := (1 : Int32)) 3 [(6, .int v6_1), (0, .ref (b + 140)), (3, .int v3), (4, .long v4)] dX7_adds_58 rfl rfl (Nat.le_of_ble_eq_true rfl) ev6_1 rfl ?_
      refine x_goto (pc := 61) C 39 dX7_adds_61 rfl ?_
      exact x_sub [1, 2, 3, 0] rfl (ih _ _ h hx)
set_option maxRecDepth 100000 in
set_option maxHeartbeats 4000000 in
theorem l_X7_adds_75 {p : Program} {l : Launch} {e : Env} {s : State} {m : MethodId} {args : Array Value} {below : List Frame} {meth : Method} {c : Code} {G : zz_G} {L : Ly} {b : Nat} {Q : State → Prop} (C : CX p G s m args meth c cX7_adds yX7_adds 7 none) (a1 : Nat) (n1 : Nat) (hO : isMo L) (h1 : L.2 a1 = some (1, n1, [])) (v3 : Int32) : ∀ (n : Nat) (v6 : Int32) (S : Sg) {z}, L_X7_adds_75 a1 n1 v3 n v6 S = some z → (∀ (S_o : Sg), z = S_o → X p l e (rmz 5 128) s m args below meth c 0 0 Q 7 G L b S_o 108 [(0, .ref (b + 140)), (3, .int v3)] []) → X p l e (rmz 5 128) s m args below meth c 0 0 Q 7 G L b S 75 [(0, .ref (b + 140)), (3, .int v3), (6, .int v6)] [] := by
  intro n
  induction n with
  | zero =>
    intro v6 S z h
    exact of_none h
  | succ n ih =>
    intro v6 S z h hx
    rw [L_X7_adds_75] at h
    refine x_iload (pc := 75) C 2 dX7_adds_75 rfl ?_
    refine x_aload_n (pc := 77) C 0 dX7_adds_77 rfl ?_
    refine x_geti (pc := 78) C (k := 19) hO.1 rfl rfl wd_747 dX7_adds_78 ⟨Nat.le_of_ble_eq_true rfl, rfl⟩ ?_
    refine x_icmp_ge (pc := 81) C 108 dX7_adds_81 rfl (fun c_1 => ?_) (fun c_1 => ?_)
    · replace h := of_ifn c_1 h
      exact x_sub [0, 1] rfl (hx _ (of_s1 h).symm)
    · replace h := of_ifp c_1 h
      refine x_aload_n (pc := 84) C 0 dX7_adds_84 rfl ?_
      refine x_getr (pc := 85) C (k := 14) 150 hO.1 rfl rfl wd_742 dX7_adds_85 (Nat.le_of_ble_eq_true rfl) rfl ?_
      refine x_bipush (pc := 88) C (v := (10 : Int32)) dX7_adds_88 rfl ?_
      refine x_iload (pc := 90) C 2 dX7_adds_90 rfl ?_
      refine x_imul (pc := 92) C dX7_adds_92 ?_
      refine x_aload_n (pc := 93) C 0 dX7_adds_93 rfl ?_
      refine x_getr (pc := 94) C (k := 15) 151 hO.1 rfl rfl wd_743 dX7_adds_94 (Nat.le_of_ble_eq_true rfl) rfl ?_
      refine x_iconst (pc := 97) C (v := (0 : Int32)) dX7_adds_97 rfl ?_
      refine x_iload_n (pc := 98) C 1 dX7_adds_98 rfl ?_
      obtain ⟨S_1, hc_1, h⟩ := of_bd h
      refine x_callS_ (pc := 99) C [.ref (b + 150), .int ((10 : Int32) * v6), .ref (b + 151), .int (0 : Int32), .int v3] [] (c_X7_clears (b := b) 150 110 ((10 : Int32) * v6) 151 10 (0 : Int32) v3 hO.2.2.2.2.2.2.2.2.2.2.1 hO.2.2.2.2.2.2.2.2.2.2.2.1 S _ hc_1) cw_X7_132 vs_X7_clears ⟨rfl, rfl, Nat.le_of_ble_eq_true rfl, Nat.le_of_ble_eq_true rfl⟩ ⟨Nat.le_refl _, Nat.le_refl _⟩ rfl ⟨rfl, Nat.le_of_ble_eq_true rfl⟩ dX7_adds_99 (fun hx_1 => ?_)
      obtain ⟨v6_1, ev6_1, h⟩ := of_lt h
      refine x_iinc (pc := 102) C (w := (1 : Int32)) 2 [(6, .int v6_1), (0, .ref (b + 140)), (3, .int v3)] dX7_adds_102 rfl rfl (Nat.le_of_ble_eq_true rfl) ev6_1 rfl ?_
      refine x_goto (pc := 105) C 75 dX7_adds_105 rfl ?_
      exact x_sub [1, 2, 0] rfl (ih _ _ h hx)
set_option maxRecDepth 100000 in
set_option maxHeartbeats 4000000 in
theorem l_X7_adds_111 {p : Program} {l : Launch} {e : Env} {s : State} {m : MethodId} {args : Array Value} {below : List Frame} {meth : Method} {c : Code} {G : zz_G} {L : Ly} {b : Nat} {Q : State → Prop} (C : CX p G s m args meth c cX7_adds yX7_adds 7 none) (a1 : Nat) (n1 : Nat) (hO : isMo L) (h1 : L.2 a1 = some (1, n1, [])) (v3 : Int32) : ∀ (n : Nat) (v6 : Int32) (S : Sg) {z}, L_X7_adds_111 a1 n1 v3 n v6 S = some z → (∀ (S_o : Sg), z = S_o → X p l e (rmz 5 128) s m args below meth c 0 0 Q 7 G L b S_o 146 [(0, .ref (b + 140)), (3, .int v3)] []) → X p l e (rmz 5 128) s m args below meth c 0 0 Q 7 G L b S 111 [(0, .ref (b + 140)), (3, .int v3), (6, .int v6)] [] := by
  intro n
  induction n with
  | zero =>
    intro v6 S z h
    exact of_none h
  | succ n ih =>
    intro v6 S z h hx
    rw [L_X7_adds_111] at h
    refine x_iload (pc := 111) C 2 dX7_adds_111 rfl ?_
    refine x_bipush (pc := 113) C (v := (10 : Int32)) dX7_adds_113 rfl ?_
    refine x_icmp_ge (pc := 115) C 146 dX7_adds_115 rfl (fun c_1 => ?_) (fun c_1 => ?_)
    · replace h := of_ifn c_1 h
      exact x_sub [0, 1] rfl (hx _ (of_s1 h).symm)
    · replace h := of_ifp c_1 h
      refine x_aload_n (pc := 118) C 0 dX7_adds_118 rfl ?_
      refine x_getr (pc := 119) C (k := 14) 150 hO.1 rfl rfl wd_742 dX7_adds_119 (Nat.le_of_ble_eq_true rfl) rfl ?_
      refine x_bipush (pc := 122) C (v := (10 : Int32)) dX7_adds_122 rfl ?_
      refine x_aload_n (pc := 124) C 0 dX7_adds_124 rfl ?_
      refine x_geti (pc := 125) C (k := 19) hO.1 rfl rfl wd_747 dX7_adds_125 ⟨Nat.le_of_ble_eq_true rfl, rfl⟩ ?_
      refine x_imul (pc := 128) C dX7_adds_128 ?_
      refine x_iload (pc := 129) C 2 dX7_adds_129 rfl ?_
      refine x_iadd (pc := 131) C dX7_adds_131 ?_
      refine x_aload_n (pc := 132) C 0 dX7_adds_132 rfl ?_
      refine x_getr (pc := 133) C (k := 15) 151 hO.1 rfl rfl wd_743 dX7_adds_133 (Nat.le_of_ble_eq_true rfl) rfl ?_
      refine x_iload (pc := 136) C 2 dX7_adds_136 rfl ?_
      obtain ⟨g_1, h⟩ := of_gd h
      refine x_laload (pc := 138) C hO.2.2.2.2.2.2.2.2.2.2.2.1 g_1 dX7_adds_138 ?_
      obtain ⟨g_2, h⟩ := of_gd h
      obtain ⟨S_1, eS_1, h⟩ := of_lt h
      refine x_lastore (pc := 139) C hO.2.2.2.2.2.2.2.2.2.2.1 g_2 eS_1 dX7_adds_139 ?_
      obtain ⟨v6_1, ev6_1, h⟩ := of_lt h
      refine x_iinc (pc := 140) C (w := (1 : Int32)) 2 [(6, .int v6_1), (0, .ref (b + 140)), (3, .int v3)] dX7_adds_140 rfl rfl (Nat.le_of_ble_eq_true rfl) ev6_1 rfl ?_
      refine x_goto (pc := 143) C 111 dX7_adds_143 rfl ?_
      exact x_sub [1, 2, 0] rfl (ih _ _ h hx)
set_option maxRecDepth 100000 in
set_option maxHeartbeats 4000000 in
theorem c_X7_adds {l : Launch} {G : zz_G} {L : Ly} {b : Nat} (a1 : Nat) (n1 : Nat) (p2 : Int32) (hO : isMo L) (h1 : L.2 a1 = some (1, n1, [])) (S : Sg) (Sf : Sg) (h : f_X7_adds a1 n1 p2 S = some Sf) : Met l yX7_adds (Cond.code yX7_adds cX7_adds 7 none :: zz_all) (rmz 5 128) (PC G L b S [.ref (b + 140), .ref (b + a1), .int p2]) (QC G L b Sf none True) 0 0 (fun q => b ≤ q) := by
  refine x_met [.ref (b + 140), .ref (b + a1), .int p2] (by decide +kernel) (Nat.le_of_ble_eq_true rfl) fun p e s m args below meth c C => ?_
  unfold f_X7_adds at h
  refine x_aload_n (pc := 0) C 0 dX7_adds_0 rfl ?_
  refine x_aload_n (pc := 1) C 1 dX7_adds_1 rfl ?_
  refine x_iload_n (pc := 2) C 2 dX7_adds_2 rfl ?_
  obtain ⟨S_1, hc_1, h⟩ := of_bd h
  refine x_callV_ (pc := 3) C (o := 140) [.ref (b + a1), .int p2] [] (c_X7_reduces (b := b) a1 n1 p2 hO h1 S _ hc_1) cw_X7_136 vi_X7_reduces ⟨rfl, rfl, Nat.le_of_ble_eq_true rfl, Nat.le_of_ble_eq_true rfl⟩ ⟨Nat.le_refl _, Nat.le_refl _⟩ hO.1 ⟨rfl, rfl, rfl⟩ rfl ⟨rfl, Nat.le_of_ble_eq_true rfl⟩ dX7_adds_3 (fun hx_1 => ?_)
  refine x_aload_n (pc := 6) C 0 dX7_adds_6 rfl ?_
  obtain ⟨r_1, hc_2, h⟩ := of_bd h
  refine x_callV1 (pc := 7) C (o := 140) [] [] (c_X7_firstOfOne (b := b) hO S_1 _ hc_2) cw_X7_140 vi_X7_firstOfOne ⟨rfl, rfl, Nat.le_of_ble_eq_true rfl, Nat.le_of_ble_eq_true rfl⟩ ⟨Nat.le_refl _, Nat.le_refl _⟩ hO.1 ⟨rfl, rfl, rfl⟩ rfl ⟨rfl, Nat.le_of_ble_eq_true rfl⟩ dX7_adds_7 (fun hx_2 => ?_)
  refine x_istore_n (pc := 10) C 3 [(3, .int r_1), (0, .ref (b + 140)), (1, .ref (b + a1)), (2, .int p2)] dX7_adds_10 rfl (Nat.le_of_ble_eq_true rfl) rfl rfl ?_
  refine x_iload_n (pc := 11) C 0 dX7_adds_11 rfl ?_
  refine x_if_ge (pc := 12) C 16 dX7_adds_12 rfl (fun c_1 => ?_) (fun c_1 => ?_)
  · replace h := of_ifn c_1 h
    refine x_aload_n (pc := 16) C 1 dX7_adds_16 rfl ?_
    refine x_getr (pc := 17) C (k := 15) 151 hO.1 rfl rfl wd_743 dX7_adds_17 (Nat.le_of_ble_eq_true rfl) rfl ?_
    refine x_iload_n (pc := 20) C 0 dX7_adds_20 rfl ?_
    obtain ⟨g_1, h⟩ := of_gd h
    refine x_laload (pc := 21) C hO.2.2.2.2.2.2.2.2.2.2.2.1 g_1 dX7_adds_21 ?_
    refine x_lconst (pc := 22) C (v := (0 : Int64)) dX7_adds_22 rfl ?_
    obtain ⟨x_1, ex_1, h⟩ := of_lt h
    have kd_1 : X p l e (rmz 5 128) s m args below meth c 0 0 (RQ G L b Sf below args s none True) 7 G L b S_1 34 [(0, .ref (b + 140)), (3, .int r_1)] [.long x_1] := by
      refine x_lstore (pc := 34) C [(4, .long x_1), (0, .ref (b + 140)), (3, .int r_1)] dX7_adds_34 (Nat.le_of_ble_eq_true rfl) rfl rfl ?_
      refine x_iconst (pc := 36) C (v := (0 : Int32)) dX7_adds_36 rfl ?_
      refine x_istore (pc := 37) C [(6, .int (0 : Int32)), (4, .long x_1), (0, .ref (b + 140)), (3, .int r_1)] dX7_adds_37 (Nat.le_of_ble_eq_true rfl) rfl rfl ?_
      refine x_sub [2, 3, 1, 0] rfl ?_
      obtain ⟨z_hz_3, hz_3, h⟩ := of_bd h
      refine l_X7_adds_39 C a1 n1 hO h1 r_1 x_1 400 _ _ hz_3 (fun S_2 ez => ?_)
      subst z_hz_3
      refine x_aload_n (pc := 64) C 0 dX7_adds_64 rfl ?_
      refine x_getr (pc := 65) C (k := 15) 151 hO.1 rfl rfl wd_743 dX7_adds_65 (Nat.le_of_ble_eq_true rfl) rfl ?_
      refine x_iconst (pc := 68) C (v := (0 : Int32)) dX7_adds_68 rfl ?_
      obtain ⟨S_3, hc_3, h⟩ := of_bd h
      refine x_callS_ (pc := 69) C [.ref (b + 151), .int (0 : Int32)] [] (c_X7_makesLeast (b := b) 151 10 (0 : Int32) hO.2.2.2.2.2.2.2.2.2.2.2.1 S_2 _ hc_3) cw_X7_122 vs_X7_makesLeast ⟨rfl, rfl, Nat.le_of_ble_eq_true rfl, Nat.le_of_ble_eq_true rfl⟩ ⟨Nat.le_refl _, Nat.le_refl _⟩ rfl ⟨rfl, Nat.le_of_ble_eq_true rfl⟩ dX7_adds_69 (fun hx_3 => ?_)
      refine x_iconst (pc := 72) C (v := (0 : Int32)) dX7_adds_72 rfl ?_
      refine x_istore (pc := 73) C [(6, .int (0 : Int32)), (0, .ref (b + 140)), (3, .int r_1)] dX7_adds_73 (Nat.le_of_ble_eq_true rfl) rfl rfl ?_
      refine x_sub [1, 2, 0] rfl ?_
      obtain ⟨z_hz_2, hz_2, h⟩ := of_bd h
      refine l_X7_adds_75 C a1 n1 hO h1 r_1 400 _ _ hz_2 (fun S_4 ez => ?_)
      subst z_hz_2
      refine x_iconst (pc := 108) C (v := (0 : Int32)) dX7_adds_108 rfl ?_
      refine x_istore (pc := 109) C [(6, .int (0 : Int32)), (0, .ref (b + 140)), (3, .int r_1)] dX7_adds_109 (Nat.le_of_ble_eq_true rfl) rfl rfl ?_
      refine x_sub [1, 2, 0] rfl ?_
      obtain ⟨z_hz_1, hz_1, h⟩ := of_bd h
      refine l_X7_adds_111 C a1 n1 hO h1 r_1 400 _ _ hz_1 (fun S_5 ez => ?_)
      subst z_hz_1
      refine x_aload_n (pc := 146) C 0 dX7_adds_146 rfl ?_
      refine x_getr (pc := 147) C (k := 17) 153 hO.1 rfl rfl wd_745 dX7_adds_147 (Nat.le_of_ble_eq_true rfl) rfl ?_
      refine x_aload_n (pc := 150) C 0 dX7_adds_150 rfl ?_
      refine x_geti (pc := 151) C (k := 19) hO.1 rfl rfl wd_747 dX7_adds_151 ⟨Nat.le_of_ble_eq_true rfl, rfl⟩ ?_
      refine x_iload_n (pc := 154) C 1 dX7_adds_154 rfl ?_
      obtain ⟨g_2, h⟩ := of_gd h
      obtain ⟨S_6, eS_6, h⟩ := of_lt h
      refine x_iastore (pc := 155) C hO.2.2.2.2.2.2.2.2.2.2.2.2.2.1 g_2 eS_6 dX7_adds_155 ?_
      refine x_aload_n (pc := 156) C 0 dX7_adds_156 rfl ?_
      refine x_dup (pc := 157) C dX7_adds_157 rfl ?_
      refine x_geti (pc := 158) C (k := 19) hO.1 rfl rfl wd_747 dX7_adds_158 ⟨Nat.le_of_ble_eq_true rfl, rfl⟩ ?_
      refine x_iconst (pc := 161) C (v := (1 : Int32)) dX7_adds_161 rfl ?_
      refine x_iadd (pc := 162) C dX7_adds_162 ?_
      obtain ⟨S_7, eS_7, h⟩ := of_lt h
      refine x_puti (pc := 163) C (k := 19) hO.1 rfl rfl wd_747 dX7_adds_163 ⟨Nat.le_of_ble_eq_true rfl, rfl⟩ eS_7 ?_
      exact x_vreturn (pc := 166) C dX7_adds_166 (of_s1 h)
    refine x_lcmp_ge (pc := 23) C 33 dX7_adds_23 dX7_adds_24 rfl (fun c_2 => ?_) (fun c_2 => ?_)
    · refine x_lconst (pc := 33) C (v := (1 : Int64)) dX7_adds_33 rfl ?_
      refine x_sub [1, 0] rfl ?_
      rw [show x_1 = (1 : Int64) from (ex_1.trans (if_neg c_2))] at kd_1
      exact kd_1
    · refine x_ldc2 (pc := 27) C wd_1006 dX7_adds_27 ?_
      refine x_goto (pc := 30) C 34 dX7_adds_30 rfl ?_
      refine x_sub [1, 0] rfl ?_
      rw [show x_1 = (-1 : Int64) from (ex_1.trans (if_pos c_2))] at kd_1
      exact kd_1
  · replace h := of_ifp c_1 h
    exact x_vreturn (pc := 15) C dX7_adds_15 (of_s1 h)
set_option maxRecDepth 100000 in
set_option maxHeartbeats 4000000 in
theorem l_X7_allValues_4 {p : Program} {l : Launch} {e : Env} {s : State} {m : MethodId} {args : Array Value} {below : List Frame} {meth : Method} {c : Code} {G : zz_G} {L : Ly} {b : Nat} {Q : State → Prop} (C : CX p G s m args meth c cX7_allValues yX7_allValues 3 (some .int)) (hO : isMo L) (S : Sg) : ∀ (n : Nat) (v1 : Int32) (v2 : Int32) {z}, L_X7_allValues_4 S n v1 v2 = some z → (∀ (v1_o : Int32), z = v1_o → X p l e (rmz 0 0) s m args below meth c 0 0 Q 3 G L b S 30 [(1, .int v1_o)] []) → X p l e (rmz 0 0) s m args below meth c 0 0 Q 3 G L b S 4 [(0, .ref (b + 140)), (1, .int v1), (2, .int v2)] [] := by
  intro n
  induction n with
  | zero =>
    intro v1 v2 z h
    exact of_none h
  | succ n ih =>
    intro v1 v2 z h hx
    rw [L_X7_allValues_4] at h
    refine x_iload_n (pc := 4) C 2 dX7_allValues_4 rfl ?_
    refine x_bipush (pc := 5) C (v := (8 : Int32)) dX7_allValues_5 rfl ?_
    refine x_icmp_ge (pc := 7) C 30 dX7_allValues_7 rfl (fun c_1 => ?_) (fun c_1 => ?_)
    · replace h := of_ifn c_1 h
      exact x_sub [1] rfl (hx _ (of_s1 h).symm)
    · replace h := of_ifp c_1 h
      refine x_iload_n (pc := 10) C 1 dX7_allValues_10 rfl ?_
      refine x_aload_n (pc := 11) C 0 dX7_allValues_11 rfl ?_
      refine x_getr (pc := 12) C (k := 1) 142 hO.1 rfl rfl wd_729 dX7_allValues_12 (Nat.le_of_ble_eq_true rfl) rfl ?_
      refine x_aload_n (pc := 15) C 0 dX7_allValues_15 rfl ?_
      refine x_getr (pc := 16) C (k := 4) 145 hO.1 rfl rfl wd_732 dX7_allValues_16 (Nat.le_of_ble_eq_true rfl) rfl ?_
      refine x_iload_n (pc := 19) C 2 dX7_allValues_19 rfl ?_
      obtain ⟨g_1, h⟩ := of_gd h
      refine x_iaload (pc := 20) C hO.2.2.2.2.2.1 g_1 dX7_allValues_20 ?_
      obtain ⟨g_2, h⟩ := of_gd h
      refine x_iaload (pc := 21) C hO.2.2.1 g_2 dX7_allValues_21 ?_
      refine x_iadd (pc := 22) C dX7_allValues_22 ?_
      obtain ⟨v1_1, ev1_1, h⟩ := of_lt h
      refine x_istore_n (pc := 23) C 1 [(1, .int v1_1), (0, .ref (b + 140)), (2, .int v2)] dX7_allValues_23 rfl (Nat.le_of_ble_eq_true rfl) ev1_1 rfl ?_
      obtain ⟨v2_1, ev2_1, h⟩ := of_lt h
      refine x_iinc (pc := 24) C (w := (1 : Int32)) 2 [(2, .int v2_1), (1, .int v1_1), (0, .ref (b + 140))] dX7_allValues_24 rfl rfl (Nat.le_of_ble_eq_true rfl) ev2_1 rfl ?_
      refine x_goto (pc := 27) C 4 dX7_allValues_27 rfl ?_
      exact x_sub [2, 1, 0] rfl (ih _ _ h hx)
set_option maxRecDepth 100000 in
set_option maxHeartbeats 4000000 in
theorem c_X7_allValues {l : Launch} {G : zz_G} {L : Ly} {b : Nat} (hO : isMo L) (S : Sg) (rf : Int32) (h : f_X7_allValues S = some rf) : Met l yX7_allValues (Cond.code yX7_allValues cX7_allValues 3 (some .int) :: zz_all) (rmz 0 0) (PC G L b S [.ref (b + 140)]) (QC G L b S (some (.int rf)) True) 0 0 (fun q => b ≤ q) := by
  refine x_met [.ref (b + 140)] (by decide +kernel) (Nat.le_of_ble_eq_true rfl) fun p e s m args below meth c C => ?_
  unfold f_X7_allValues at h
  refine x_iconst (pc := 0) C (v := (0 : Int32)) dX7_allValues_0 rfl ?_
  refine x_istore_n (pc := 1) C 1 [(1, .int (0 : Int32)), (0, .ref (b + 140))] dX7_allValues_1 rfl (Nat.le_of_ble_eq_true rfl) rfl rfl ?_
  refine x_iconst (pc := 2) C (v := (0 : Int32)) dX7_allValues_2 rfl ?_
  refine x_istore_n (pc := 3) C 2 [(2, .int (0 : Int32)), (1, .int (0 : Int32)), (0, .ref (b + 140))] dX7_allValues_3 rfl (Nat.le_of_ble_eq_true rfl) rfl rfl ?_
  refine x_sub [2, 1, 0] rfl ?_
  obtain ⟨z_hz_1, hz_1, h⟩ := of_bd h
  refine l_X7_allValues_4 C hO S 400 _ _ hz_1 (fun v1_1 ez => ?_)
  subst z_hz_1
  refine x_iload_n (pc := 30) C 0 dX7_allValues_30 rfl ?_
  exact x_ireturn (pc := 31) C dX7_allValues_31 (of_s1 h) rfl
set_option maxRecDepth 100000 in
set_option maxHeartbeats 4000000 in
theorem c_X7_isIn {l : Launch} {G : zz_G} {L : Ly} {b : Nat} (p0 : Int32) (p1 : Int32) (p2 : Int32) (S : Sg) : Met l yX7_isIn (Cond.code yX7_isIn cX7_isIn 3 (some .boolean) :: zz_all) (rmz 0 0) (PC G L b S [.int p0, .int p1, .int p2]) (QC G L b S (some (.int (f_X7_isIn p0 p1 p2))) (f_X7_isIn p0 p1 p2 = 0 ∨ f_X7_isIn p0 p1 p2 = 1)) 0 0 (fun q => b ≤ q) := by
  refine x_met [.int p0, .int p1, .int p2] (by decide +kernel) (Nat.le_of_ble_eq_true rfl) fun p e s m args below meth c C => ?_
  generalize h : f_X7_isIn p0 p1 p2 = rf
  unfold f_X7_isIn at h
  refine x_iload_n (pc := 0) C 0 dX7_isIn_0 rfl ?_
  refine x_iload_n (pc := 1) C 1 dX7_isIn_1 rfl ?_
  obtain ⟨x_1, ex_1, h⟩ := of_lt h
  have kd_1 : X p l e (rmz 0 0) s m args below meth c 0 0 (RQ G L b S below args s (some (.int rf)) (rf = 0 ∨ rf = 1)) 3 G L b S 15 [] [.int x_1] := by
    exact x_zreturn (pc := 15) C (ex_1 ▸ (if01 (by decide) (if01 (by decide) (by decide)))) dX7_isIn_15 h rfl
  refine x_icmp_lt (pc := 2) C 14 dX7_isIn_2 rfl (fun c_1 => ?_) (fun c_1 => ?_)
  · refine x_iconst (pc := 14) C (v := (0 : Int32)) dX7_isIn_14 rfl ?_
    refine x_sub [] rfl ?_
    rw [show x_1 = (0 : Int32) from (ex_1.trans (if_pos c_1))] at kd_1
    exact kd_1
  · refine x_iload_n (pc := 5) C 0 dX7_isIn_5 rfl ?_
    refine x_iload_n (pc := 6) C 2 dX7_isIn_6 rfl ?_
    refine x_icmp_gt (pc := 7) C 14 dX7_isIn_7 rfl (fun c_2 => ?_) (fun c_2 => ?_)
    · refine x_iconst (pc := 14) C (v := (0 : Int32)) dX7_isIn_14 rfl ?_
      refine x_sub [] rfl ?_
      rw [show x_1 = (0 : Int32) from ((ex_1.trans (if_neg c_1)).trans (if_pos c_2))] at kd_1
      exact kd_1
    · refine x_iconst (pc := 10) C (v := (1 : Int32)) dX7_isIn_10 rfl ?_
      refine x_goto (pc := 11) C 15 dX7_isIn_11 rfl ?_
      refine x_sub [] rfl ?_
      rw [show x_1 = (1 : Int32) from ((ex_1.trans (if_neg c_1)).trans (if_neg c_2))] at kd_1
      exact kd_1
set_option maxRecDepth 100000 in
set_option maxHeartbeats 4000000 in
theorem c_X7_isRow {l : Launch} {G : zz_G} {L : Ly} {b : Nat} (p1 : Int32) (hO : isMo L) (S : Sg) : Met l yX7_isRow (Cond.code yX7_isRow cX7_isRow 2 (some .boolean) :: zz_all) (rmz 1 22) (PC G L b S [.ref (b + 140), .int p1]) (QC G L b S (some (.int (f_X7_isRow p1 S))) (f_X7_isRow p1 S = 0 ∨ f_X7_isRow p1 S = 1)) 0 0 (fun q => b ≤ q) := by
  refine x_met [.ref (b + 140), .int p1] (by decide +kernel) (Nat.le_of_ble_eq_true rfl) fun p e s m args below meth c C => ?_
  generalize h : f_X7_isRow p1 S = rf
  unfold f_X7_isRow at h
  refine x_iload_n (pc := 0) C 1 dX7_isRow_0 rfl ?_
  refine x_iconst (pc := 1) C (v := (0 : Int32)) dX7_isRow_1 rfl ?_
  refine x_aload_n (pc := 2) C 0 dX7_isRow_2 rfl ?_
  refine x_geti (pc := 3) C (k := 8) hO.1 rfl rfl wd_736 dX7_isRow_3 ⟨Nat.le_of_ble_eq_true rfl, rfl⟩ ?_
  refine x_iconst (pc := 6) C (v := (1 : Int32)) dX7_isRow_6 rfl ?_
  refine x_isub (pc := 7) C dX7_isRow_7 ?_
  refine x_callS1 (pc := 8) C [.int p1, .int (0 : Int32), .int ((S.1 140 8) - (1 : Int32))] [] (c_X7_isIn (b := b) p1 (0 : Int32) ((S.1 140 8) - (1 : Int32)) S) cw_X7_96 vs_X7_isIn ⟨rfl, rfl, Nat.le_of_ble_eq_true rfl, Nat.le_of_ble_eq_true rfl⟩ ⟨Nat.le_refl _, Nat.le_refl _⟩ rfl ⟨rfl, Nat.le_of_ble_eq_true rfl⟩ dX7_isRow_8 (fun hx_1 => ?_)
  exact x_zreturn (pc := 11) C hx_1 dX7_isRow_11 h rfl
set_option maxRecDepth 100000 in
set_option maxHeartbeats 4000000 in
theorem c_X7_lowestOf {l : Launch} {G : zz_G} {L : Ly} {b : Nat} (p1 : Int32) (hO : isMo L) (S : Sg) (rf : Int64) (Sf : Sg) (h : f_X7_lowestOf p1 S = some (rf, Sf)) : Met l yX7_lowestOf (Cond.code yX7_lowestOf cX7_lowestOf 2 (some .long) :: zz_all) (rmz 0 0) (PC G L b S [.ref (b + 140), .int p1]) (QC G L b Sf (some (.long rf)) True) 0 0 (fun q => b ≤ q) := by
  refine x_met [.ref (b + 140), .int p1] (by decide +kernel) (Nat.le_of_ble_eq_true rfl) fun p e s m args below meth c C => ?_
  unfold f_X7_lowestOf at h
  refine x_aload_n (pc := 0) C 0 dX7_lowestOf_0 rfl ?_
  refine x_getr (pc := 1) C (k := 0) 141 hO.1 rfl rfl wd_728 dX7_lowestOf_1 (Nat.le_of_ble_eq_true rfl) rfl ?_
  refine x_iload_n (pc := 4) C 1 dX7_lowestOf_4 rfl ?_
  refine x_ineg (pc := 5) C dX7_lowestOf_5 ?_
  refine x_dup2 (pc := 6) C dX7_lowestOf_6 rfl rfl ?_
  obtain ⟨g_1, h⟩ := of_gd h
  refine x_iaload (pc := 7) C hO.2.1 g_1 dX7_lowestOf_7 ?_
  refine x_iconst (pc := 8) C (v := (1 : Int32)) dX7_lowestOf_8 rfl ?_
  refine x_iadd (pc := 9) C dX7_lowestOf_9 ?_
  obtain ⟨S_1, eS_1, h⟩ := of_lt h
  refine x_iastore (pc := 10) C hO.2.1 g_1 eS_1 dX7_lowestOf_10 ?_
  refine x_ldc2 (pc := 11) C wd_1119 dX7_lowestOf_11 ?_
  refine x_iload_n (pc := 14) C 1 dX7_lowestOf_14 rfl ?_
  refine x_i2l (pc := 15) C dX7_lowestOf_15 ?_
  refine x_lsub (pc := 16) C dX7_lowestOf_16 ?_
  exact x_lreturn (pc := 17) C dX7_lowestOf_17 (of_sp h).1 (of_sp h).2
set_option maxRecDepth 100000 in
set_option maxHeartbeats 4000000 in
theorem c_X7_answer {l : Launch} {G : zz_G} {L : Ly} {b : Nat} (p1 : Int32) (hO : isMo L) (S : Sg) (rf : Int64) (Sf : Sg) (h : f_X7_answer p1 S = some (rf, Sf)) : Met l yX7_answer (Cond.code yX7_answer cX7_answer 2 (some .long) :: zz_all) (rmz 2 43) (PC G L b S [.ref (b + 140), .int p1]) (QC G L b Sf (some (.long rf)) True) 0 0 (fun q => b ≤ q) := by
  refine x_met [.ref (b + 140), .int p1] (by decide +kernel) (Nat.le_of_ble_eq_true rfl) fun p e s m args below meth c C => ?_
  unfold f_X7_answer at h
  refine x_aload_n (pc := 0) C 0 dX7_answer_0 rfl ?_
  refine x_iload_n (pc := 1) C 1 dX7_answer_1 rfl ?_
  refine x_callV1 (pc := 2) C (o := 140) [.int p1] [] (c_X7_isRow (b := b) p1 hO S) cw_X7_306 vi_X7_isRow ⟨rfl, rfl, Nat.le_of_ble_eq_true rfl, Nat.le_of_ble_eq_true rfl⟩ ⟨Nat.le_refl _, Nat.le_refl _⟩ hO.1 ⟨rfl, rfl, rfl⟩ rfl ⟨rfl, Nat.le_of_ble_eq_true rfl⟩ dX7_answer_2 (fun hx_1 => ?_)
  refine x_if_eq (pc := 5) C 18 dX7_answer_5 rfl (fun c_1 => ?_) (fun c_1 => ?_)
  · replace h := of_ifp c_1 h
    refine x_aload_n (pc := 18) C 0 dX7_answer_18 rfl ?_
    refine x_iconst (pc := 19) C (v := (-1 : Int32)) dX7_answer_19 rfl ?_
    obtain ⟨⟨r_1, S_1⟩, hc_1, h⟩ := of_bd h
    replace h := of_u2 h
    refine x_callV1 (pc := 20) C (o := 140) [.int (-1 : Int32)] [] (c_X7_lowestOf (b := b) (-1 : Int32) hO S _ _ hc_1) cw_X7_309 vi_X7_lowestOf ⟨rfl, rfl, Nat.le_of_ble_eq_true rfl, Nat.le_of_ble_eq_true rfl⟩ ⟨Nat.le_refl _, Nat.le_refl _⟩ hO.1 ⟨rfl, rfl, rfl⟩ rfl ⟨rfl, Nat.le_of_ble_eq_true rfl⟩ dX7_answer_20 (fun hx_2 => ?_)
    exact x_lreturn (pc := 23) C dX7_answer_23 (of_sp h).1 (of_sp h).2
  · replace h := of_ifn c_1 h
    refine x_aload_n (pc := 8) C 0 dX7_answer_8 rfl ?_
    refine x_getr (pc := 9) C (k := 6) 147 hO.1 rfl rfl wd_734 dX7_answer_9 (Nat.le_of_ble_eq_true rfl) rfl ?_
    refine x_iload_n (pc := 12) C 1 dX7_answer_12 rfl ?_
    obtain ⟨g_1, h⟩ := of_gd h
    refine x_iaload (pc := 13) C hO.2.2.2.2.2.2.2.1 g_1 dX7_answer_13 ?_
    refine x_i2l (pc := 14) C dX7_answer_14 ?_
    refine x_goto (pc := 15) C 23 dX7_answer_15 rfl ?_
    exact x_lreturn (pc := 23) C dX7_answer_23 (of_sp h).1 (of_sp h).2
set_option maxRecDepth 100000 in
set_option maxHeartbeats 4000000 in
theorem l_X7_answerBy_5 {p : Program} {l : Launch} {e : Env} {s : State} {m : MethodId} {args : Array Value} {below : List Frame} {meth : Method} {c : Code} {G : zz_G} {L : Ly} {b : Nat} {Q : State → Prop} (C : CX p G s m args meth c cX7_answerBy yX7_answerBy 5 (some .int)) (hO : isMo L) (v1 : Int32) (v2 : Int32) (S : Sg) : ∀ (n : Nat) (v3 : Int32) (v4 : Int32) {z}, L_X7_answerBy_5 v1 v2 S n v3 v4 = some z → (∀ (v3_o : Int32), z = v3_o → X p l e (rmz 0 0) s m args below meth c 0 0 Q 5 G L b S 57 [(3, .int v3_o)] []) → X p l e (rmz 0 0) s m args below meth c 0 0 Q 5 G L b S 5 [(0, .ref (b + 140)), (1, .int v1), (2, .int v2), (3, .int v3), (4, .int v4)] [] := by
  intro n
  induction n with
  | zero =>
    intro v3 v4 z h
    exact of_none h
  | succ n ih =>
    intro v3 v4 z h hx
    rw [L_X7_answerBy_5] at h
    refine x_iload (pc := 5) C 4 dX7_answerBy_5 rfl ?_
    refine x_bipush (pc := 7) C (v := (10 : Int32)) dX7_answerBy_7 rfl ?_
    refine x_icmp_ge (pc := 9) C 57 dX7_answerBy_9 rfl (fun c_1 => ?_) (fun c_1 => ?_)
    · replace h := of_ifn c_1 h
      exact x_sub [3] rfl (hx _ (of_s1 h).symm)
    · replace h := of_ifp c_1 h
      refine x_iload_n (pc := 12) C 3 dX7_answerBy_12 rfl ?_
      refine x_aload_n (pc := 13) C 0 dX7_answerBy_13 rfl ?_
      refine x_getr (pc := 14) C (k := 5) 146 hO.1 rfl rfl wd_733 dX7_answerBy_14 (Nat.le_of_ble_eq_true rfl) rfl ?_
      refine x_bipush (pc := 17) C (v := (10 : Int32)) dX7_answerBy_17 rfl ?_
      refine x_iload_n (pc := 19) C 1 dX7_answerBy_19 rfl ?_
      refine x_imul (pc := 20) C dX7_answerBy_20 ?_
      refine x_iload (pc := 21) C 4 dX7_answerBy_21 rfl ?_
      refine x_iadd (pc := 23) C dX7_answerBy_23 ?_
      obtain ⟨g_1, h⟩ := of_gd h
      refine x_iaload (pc := 24) C hO.2.2.2.2.2.2.1 g_1 dX7_answerBy_24 ?_
      refine x_iload (pc := 25) C 4 dX7_answerBy_25 rfl ?_
      refine x_iload_n (pc := 27) C 2 dX7_answerBy_27 rfl ?_
      refine x_icmp_ge (pc := 28) C 41 dX7_answerBy_28 rfl (fun c_2 => ?_) (fun c_2 => ?_)
      · replace h := of_ifn c_2 h
        refine x_aload_n (pc := 41) C 0 dX7_answerBy_41 rfl ?_
        refine x_getr (pc := 42) C (k := 1) 142 hO.1 rfl rfl wd_729 dX7_answerBy_42 (Nat.le_of_ble_eq_true rfl) rfl ?_
        refine x_iload (pc := 45) C 4 dX7_answerBy_45 rfl ?_
        obtain ⟨g_2, h⟩ := of_gd h
        refine x_iaload (pc := 47) C hO.2.2.1 g_2 dX7_answerBy_47 ?_
        refine x_imul (pc := 48) C dX7_answerBy_48 ?_
        refine x_iadd (pc := 49) C dX7_answerBy_49 ?_
        obtain ⟨v3_1, ev3_1, h⟩ := of_lt h
        refine x_istore_n (pc := 50) C 3 [(3, .int v3_1), (0, .ref (b + 140)), (1, .int v1), (2, .int v2), (4, .int v4)] dX7_answerBy_50 rfl (Nat.le_of_ble_eq_true rfl) ev3_1 rfl ?_
        obtain ⟨v4_1, ev4_1, h⟩ := of_lt h
        refine x_iinc (pc := 51) C (w := (1 : Int32)) 4 [(4, .int v4_1), (3, .int v3_1), (0, .ref (b + 140)), (1, .int v1), (2, .int v2)] dX7_answerBy_51 rfl rfl (Nat.le_of_ble_eq_true rfl) ev4_1 rfl ?_
        refine x_goto (pc := 54) C 5 dX7_answerBy_54 rfl ?_
        exact x_sub [2, 3, 4, 1, 0] rfl (ih _ _ h hx)
      · replace h := of_ifp c_2 h
        refine x_aload_n (pc := 31) C 0 dX7_answerBy_31 rfl ?_
        refine x_getr (pc := 32) C (k := 38) 165 hO.1 rfl rfl wd_766 dX7_answerBy_32 (Nat.le_of_ble_eq_true rfl) rfl ?_
        refine x_iload (pc := 35) C 4 dX7_answerBy_35 rfl ?_
        obtain ⟨g_3, h⟩ := of_gd h
        refine x_iaload (pc := 37) C hO.2.2.2.2.2.2.2.2.2.2.2.2.2.2.2.2.2.2.2.2.2.2.2.2.2 g_3 dX7_answerBy_37 ?_
        refine x_goto (pc := 38) C 48 dX7_answerBy_38 rfl ?_
        refine x_imul (pc := 48) C dX7_answerBy_48 ?_
        refine x_iadd (pc := 49) C dX7_answerBy_49 ?_
        obtain ⟨v3_2, ev3_2, h⟩ := of_lt h
        refine x_istore_n (pc := 50) C 3 [(3, .int v3_2), (0, .ref (b + 140)), (1, .int v1), (2, .int v2), (4, .int v4)] dX7_answerBy_50 rfl (Nat.le_of_ble_eq_true rfl) ev3_2 rfl ?_
        obtain ⟨v4_2, ev4_2, h⟩ := of_lt h
        refine x_iinc (pc := 51) C (w := (1 : Int32)) 4 [(4, .int v4_2), (3, .int v3_2), (0, .ref (b + 140)), (1, .int v1), (2, .int v2)] dX7_answerBy_51 rfl rfl (Nat.le_of_ble_eq_true rfl) ev4_2 rfl ?_
        refine x_goto (pc := 54) C 5 dX7_answerBy_54 rfl ?_
        exact x_sub [2, 3, 4, 1, 0] rfl (ih _ _ h hx)
set_option maxRecDepth 100000 in
set_option maxHeartbeats 4000000 in
theorem c_X7_answerBy {l : Launch} {G : zz_G} {L : Ly} {b : Nat} (p1 : Int32) (p2 : Int32) (hO : isMo L) (S : Sg) (rf : Int32) (h : f_X7_answerBy p1 p2 S = some rf) : Met l yX7_answerBy (Cond.code yX7_answerBy cX7_answerBy 5 (some .int) :: zz_all) (rmz 0 0) (PC G L b S [.ref (b + 140), .int p1, .int p2]) (QC G L b S (some (.int rf)) True) 0 0 (fun q => b ≤ q) := by
  refine x_met [.ref (b + 140), .int p1, .int p2] (by decide +kernel) (Nat.le_of_ble_eq_true rfl) fun p e s m args below meth c C => ?_
  unfold f_X7_answerBy at h
  refine x_iconst (pc := 0) C (v := (0 : Int32)) dX7_answerBy_0 rfl ?_
  refine x_istore_n (pc := 1) C 3 [(3, .int (0 : Int32)), (0, .ref (b + 140)), (1, .int p1), (2, .int p2)] dX7_answerBy_1 rfl (Nat.le_of_ble_eq_true rfl) rfl rfl ?_
  refine x_iconst (pc := 2) C (v := (0 : Int32)) dX7_answerBy_2 rfl ?_
  refine x_istore (pc := 3) C [(4, .int (0 : Int32)), (3, .int (0 : Int32)), (0, .ref (b + 140)), (1, .int p1), (2, .int p2)] dX7_answerBy_3 (Nat.le_of_ble_eq_true rfl) rfl rfl ?_
  refine x_sub [2, 3, 4, 1, 0] rfl ?_
  obtain ⟨z_hz_1, hz_1, h⟩ := of_bd h
  refine l_X7_answerBy_5 C hO p1 p2 S 400 _ _ hz_1 (fun v3_1 ez => ?_)
  subst z_hz_1
  refine x_iload_n (pc := 57) C 0 dX7_answerBy_57 rfl ?_
  exact x_ireturn (pc := 58) C dX7_answerBy_58 (of_s1 h) rfl
set_option maxRecDepth 100000 in
set_option maxHeartbeats 4000000 in
theorem l_X7_isPivot_2 {p : Program} {l : Launch} {e : Env} {s : State} {m : MethodId} {args : Array Value} {below : List Frame} {meth : Method} {c : Code} {G : zz_G} {L : Ly} {b : Nat} (C : CX p G s m args meth c cX7_isPivot yX7_isPivot 3 (some .boolean)) (hO : isMo L) (v1 : Int32) (S : Sg) (rf : Int32) : ∀ (n : Nat) (v2 : Int32) {z}, L_X7_isPivot_2 v1 S n v2 = some z → (∀ q, z = .inl q → q = rf) → (z = .inr () → X p l e (rmz 0 0) s m args below meth c 0 0 (RQ G L b S below args s (some (.int rf)) (rf = 0 ∨ rf = 1)) 3 G L b S 28 [] []) → X p l e (rmz 0 0) s m args below meth c 0 0 (RQ G L b S below args s (some (.int rf)) (rf = 0 ∨ rf = 1)) 3 G L b S 2 [(0, .ref (b + 140)), (1, .int v1), (2, .int v2)] [] := by
  intro n
  induction n with
  | zero =>
    intro v2 z h
    exact of_none h
  | succ n ih =>
    intro v2 z h hr hx
    rw [L_X7_isPivot_2] at h
    refine x_iload_n (pc := 2) C 2 dX7_isPivot_2 rfl ?_
    refine x_aload_n (pc := 3) C 0 dX7_isPivot_3 rfl ?_
    refine x_geti (pc := 4) C (k := 19) hO.1 rfl rfl wd_747 dX7_isPivot_4 ⟨Nat.le_of_ble_eq_true rfl, rfl⟩ ?_
    refine x_icmp_ge (pc := 7) C 28 dX7_isPivot_7 rfl (fun c_1 => ?_) (fun c_1 => ?_)
    · replace h := of_ifn c_1 h
      exact x_sub [] rfl (hx (of_s1 h).symm)
    · replace h := of_ifp c_1 h
      refine x_aload_n (pc := 10) C 0 dX7_isPivot_10 rfl ?_
      refine x_getr (pc := 11) C (k := 17) 153 hO.1 rfl rfl wd_745 dX7_isPivot_11 (Nat.le_of_ble_eq_true rfl) rfl ?_
      refine x_iload_n (pc := 14) C 2 dX7_isPivot_14 rfl ?_
      obtain ⟨g_1, h⟩ := of_gd h
      refine x_iaload (pc := 15) C hO.2.2.2.2.2.2.2.2.2.2.2.2.2.1 g_1 dX7_isPivot_15 ?_
      refine x_iload_n (pc := 16) C 1 dX7_isPivot_16 rfl ?_
      refine x_icmp_ne (pc := 17) C 22 dX7_isPivot_17 rfl (fun c_2 => ?_) (fun c_2 => ?_)
      · replace h := of_ifn c_2 h
        obtain ⟨v2_1, ev2_1, h⟩ := of_lt h
        refine x_iinc (pc := 22) C (w := (1 : Int32)) 2 [(2, .int v2_1), (0, .ref (b + 140)), (1, .int v1)] dX7_isPivot_22 rfl rfl (Nat.le_of_ble_eq_true rfl) ev2_1 rfl ?_
        refine x_goto (pc := 25) C 2 dX7_isPivot_25 rfl ?_
        exact x_sub [1, 2, 0] rfl (ih _ h hr hx)
      · replace h := of_ifp c_2 h
        refine x_iconst (pc := 20) C (v := (1 : Int32)) dX7_isPivot_20 rfl ?_
        have hq := hr _ (of_s1 h).symm
        exact x_zreturn (pc := 21) C (by decide) dX7_isPivot_21 hq rfl
set_option maxRecDepth 100000 in
set_option maxHeartbeats 4000000 in
theorem c_X7_isPivot {l : Launch} {G : zz_G} {L : Ly} {b : Nat} (p1 : Int32) (hO : isMo L) (S : Sg) (rf : Int32) (h : f_X7_isPivot p1 S = some rf) : Met l yX7_isPivot (Cond.code yX7_isPivot cX7_isPivot 3 (some .boolean) :: zz_all) (rmz 0 0) (PC G L b S [.ref (b + 140), .int p1]) (QC G L b S (some (.int rf)) (rf = 0 ∨ rf = 1)) 0 0 (fun q => b ≤ q) := by
  refine x_met [.ref (b + 140), .int p1] (by decide +kernel) (Nat.le_of_ble_eq_true rfl) fun p e s m args below meth c C => ?_
  unfold f_X7_isPivot at h
  refine x_iconst (pc := 0) C (v := (0 : Int32)) dX7_isPivot_0 rfl ?_
  refine x_istore_n (pc := 1) C 2 [(2, .int (0 : Int32)), (0, .ref (b + 140)), (1, .int p1)] dX7_isPivot_1 rfl (Nat.le_of_ble_eq_true rfl) rfl rfl ?_
  refine x_sub [1, 2, 0] rfl ?_
  obtain ⟨z_hz_1, hz_1, hl, hrr⟩ := of_bs h
  refine l_X7_isPivot_2 C hO p1 S rf 400 _ hz_1 (fun q ez => of_s1 (hl _ ez)) (fun ez => ?_)
  replace h := hrr _ ez
  clear hl hrr
  refine x_iconst (pc := 28) C (v := (0 : Int32)) dX7_isPivot_28 rfl ?_
  exact x_zreturn (pc := 29) C (by decide) dX7_isPivot_29 (of_s1 h) rfl
set_option maxRecDepth 100000 in
set_option maxHeartbeats 4000000 in
theorem l_X7_areAlike_13 {p : Program} {l : Launch} {e : Env} {s : State} {m : MethodId} {args : Array Value} {below : List Frame} {meth : Method} {c : Code} {G : zz_G} {L : Ly} {b : Nat} (C : CX p G s m args meth c cX7_areAlike yX7_areAlike 5 (some .boolean)) (hO : isMo L) (v1 : Int32) (v2 : Int32) (v3 : Int32) (S : Sg) (rf : Int32) : ∀ (n : Nat) (v4 : Int32) {z}, L_X7_areAlike_13 v1 v2 v3 S n v4 = some z → (∀ q, z = .inl q → q = rf) → (z = .inr () → X p l e (rmz 1 22) s m args below meth c 0 0 (RQ G L b S below args s (some (.int rf)) (rf = 0 ∨ rf = 1)) 5 G L b S 100 [(0, .ref (b + 140)), (1, .int v1), (2, .int v2), (3, .int v3)] []) → X p l e (rmz 1 22) s m args below meth c 0 0 (RQ G L b S below args s (some (.int rf)) (rf = 0 ∨ rf = 1)) 5 G L b S 13 [(0, .ref (b + 140)), (1, .int v1), (2, .int v2), (3, .int v3), (4, .int v4)] [] := by
  intro n
  induction n with
  | zero =>
    intro v4 z h
    exact of_none h
  | succ n ih =>
    intro v4 z h hr hx
    rw [L_X7_areAlike_13] at h
    refine x_iload (pc := 13) C 4 dX7_areAlike_13 rfl ?_
    refine x_bipush (pc := 15) C (v := (10 : Int32)) dX7_areAlike_15 rfl ?_
    refine x_icmp_ge (pc := 17) C 100 dX7_areAlike_17 rfl (fun c_1 => ?_) (fun c_1 => ?_)
    · replace h := of_ifn c_1 h
      exact x_sub [0, 1, 2, 3] rfl (hx (of_s1 h).symm)
    · replace h := of_ifp c_1 h
      refine x_aload_n (pc := 20) C 0 dX7_areAlike_20 rfl ?_
      refine x_iload_n (pc := 21) C 3 dX7_areAlike_21 rfl ?_
      obtain ⟨r_1, hc_1, h⟩ := of_bd h
      refine x_callV1 (pc := 22) C (o := 140) [.int v3] [] (c_X7_isPivot (b := b) v3 hO S _ hc_1) cw_X7_153 vi_X7_isPivot ⟨rfl, rfl, Nat.le_of_ble_eq_true rfl, Nat.le_of_ble_eq_true rfl⟩ ⟨Nat.le_refl _, Nat.le_refl _⟩ hO.1 ⟨rfl, rfl, rfl⟩ rfl ⟨rfl, Nat.le_of_ble_eq_true rfl⟩ dX7_areAlike_22 (fun hx_1 => ?_)
      refine x_if_ne (pc := 25) C 94 dX7_areAlike_25 rfl (fun c_2 => ?_) (fun c_2 => ?_)
      · replace h := of_ifn c_2 h
        obtain ⟨v4_1, ev4_1, h⟩ := of_lt h
        refine x_iinc (pc := 94) C (w := (1 : Int32)) 4 [(4, .int v4_1), (0, .ref (b + 140)), (1, .int v1), (2, .int v2), (3, .int v3)] dX7_areAlike_94 rfl rfl (Nat.le_of_ble_eq_true rfl) ev4_1 rfl ?_
        refine x_goto (pc := 97) C 13 dX7_areAlike_97 rfl ?_
        exact x_sub [1, 2, 3, 4, 0] rfl (ih _ h hr hx)
      · replace h := of_ifp c_2 h
        refine x_aload_n (pc := 28) C 0 dX7_areAlike_28 rfl ?_
        refine x_iload (pc := 29) C 4 dX7_areAlike_29 rfl ?_
        obtain ⟨r_2, hc_2, h⟩ := of_bd h
        refine x_callV1 (pc := 31) C (o := 140) [.int v4] [] (c_X7_isPivot (b := b) v4 hO S _ hc_2) cw_X7_153 vi_X7_isPivot ⟨rfl, rfl, Nat.le_of_ble_eq_true rfl, Nat.le_of_ble_eq_true rfl⟩ ⟨Nat.le_refl _, Nat.le_refl _⟩ hO.1 ⟨rfl, rfl, rfl⟩ rfl ⟨rfl, Nat.le_of_ble_eq_true rfl⟩ dX7_areAlike_31 (fun hx_2 => ?_)
        refine x_if_eq (pc := 34) C 40 dX7_areAlike_34 rfl (fun c_3 => ?_) (fun c_3 => ?_)
        · replace h := of_ifp c_3 h
          refine x_aload_n (pc := 40) C 0 dX7_areAlike_40 rfl ?_
          refine x_getr (pc := 41) C (k := 14) 150 hO.1 rfl rfl wd_742 dX7_areAlike_41 (Nat.le_of_ble_eq_true rfl) rfl ?_
          refine x_bipush (pc := 44) C (v := (10 : Int32)) dX7_areAlike_44 rfl ?_
          refine x_iload_n (pc := 46) C 1 dX7_areAlike_46 rfl ?_
          refine x_imul (pc := 47) C dX7_areAlike_47 ?_
          refine x_iload_n (pc := 48) C 3 dX7_areAlike_48 rfl ?_
          refine x_iadd (pc := 49) C dX7_areAlike_49 ?_
          obtain ⟨g_1, h⟩ := of_gd h
          refine x_laload (pc := 50) C hO.2.2.2.2.2.2.2.2.2.2.1 g_1 dX7_areAlike_50 ?_
          refine x_aload_n (pc := 51) C 0 dX7_areAlike_51 rfl ?_
          refine x_getr (pc := 52) C (k := 14) 150 hO.1 rfl rfl wd_742 dX7_areAlike_52 (Nat.le_of_ble_eq_true rfl) rfl ?_
          refine x_bipush (pc := 55) C (v := (10 : Int32)) dX7_areAlike_55 rfl ?_
          refine x_iload_n (pc := 57) C 2 dX7_areAlike_57 rfl ?_
          refine x_imul (pc := 58) C dX7_areAlike_58 ?_
          refine x_iload (pc := 59) C 4 dX7_areAlike_59 rfl ?_
          refine x_iadd (pc := 61) C dX7_areAlike_61 ?_
          obtain ⟨g_2, h⟩ := of_gd h
          refine x_laload (pc := 62) C hO.2.2.2.2.2.2.2.2.2.2.1 g_2 dX7_areAlike_62 ?_
          refine x_lmul (pc := 63) C dX7_areAlike_63 ?_
          refine x_aload_n (pc := 64) C 0 dX7_areAlike_64 rfl ?_
          refine x_getr (pc := 65) C (k := 14) 150 hO.1 rfl rfl wd_742 dX7_areAlike_65 (Nat.le_of_ble_eq_true rfl) rfl ?_
          refine x_bipush (pc := 68) C (v := (10 : Int32)) dX7_areAlike_68 rfl ?_
          refine x_iload_n (pc := 70) C 1 dX7_areAlike_70 rfl ?_
          refine x_imul (pc := 71) C dX7_areAlike_71 ?_
          refine x_iload (pc := 72) C 4 dX7_areAlike_72 rfl ?_
          refine x_iadd (pc := 74) C dX7_areAlike_74 ?_
          obtain ⟨g_3, h⟩ := of_gd h
          refine x_laload (pc := 75) C hO.2.2.2.2.2.2.2.2.2.2.1 g_3 dX7_areAlike_75 ?_
          refine x_aload_n (pc := 76) C 0 dX7_areAlike_76 rfl ?_
          refine x_getr (pc := 77) C (k := 14) 150 hO.1 rfl rfl wd_742 dX7_areAlike_77 (Nat.le_of_ble_eq_true rfl) rfl ?_
          refine x_bipush (pc := 80) C (v := (10 : Int32)) dX7_areAlike_80 rfl ?_
          refine x_iload_n (pc := 82) C 2 dX7_areAlike_82 rfl ?_
          refine x_imul (pc := 83) C dX7_areAlike_83 ?_
          refine x_iload_n (pc := 84) C 3 dX7_areAlike_84 rfl ?_
          refine x_iadd (pc := 85) C dX7_areAlike_85 ?_
          obtain ⟨g_4, h⟩ := of_gd h
          refine x_laload (pc := 86) C hO.2.2.2.2.2.2.2.2.2.2.1 g_4 dX7_areAlike_86 ?_
          refine x_lmul (pc := 87) C dX7_areAlike_87 ?_
          refine x_lcmp_eq (pc := 88) C 94 dX7_areAlike_88 dX7_areAlike_89 rfl (fun c_4 => ?_) (fun c_4 => ?_)
          · replace h := of_ifp c_4 h
            obtain ⟨v4_2, ev4_2, h⟩ := of_lt h
            refine x_iinc (pc := 94) C (w := (1 : Int32)) 4 [(4, .int v4_2), (0, .ref (b + 140)), (1, .int v1), (2, .int v2), (3, .int v3)] dX7_areAlike_94 rfl rfl (Nat.le_of_ble_eq_true rfl) ev4_2 rfl ?_
            refine x_goto (pc := 97) C 13 dX7_areAlike_97 rfl ?_
            exact x_sub [1, 2, 3, 4, 0] rfl (ih _ h hr hx)
          · replace h := of_ifn c_4 h
            refine x_iconst (pc := 92) C (v := (0 : Int32)) dX7_areAlike_92 rfl ?_
            have hq := hr _ (of_s1 h).symm
            exact x_zreturn (pc := 93) C (by decide) dX7_areAlike_93 hq rfl
        · replace h := of_ifn c_3 h
          refine x_goto (pc := 37) C 94 dX7_areAlike_37 rfl ?_
          obtain ⟨v4_3, ev4_3, h⟩ := of_lt h
          refine x_iinc (pc := 94) C (w := (1 : Int32)) 4 [(4, .int v4_3), (0, .ref (b + 140)), (1, .int v1), (2, .int v2), (3, .int v3)] dX7_areAlike_94 rfl rfl (Nat.le_of_ble_eq_true rfl) ev4_3 rfl ?_
          refine x_goto (pc := 97) C 13 dX7_areAlike_97 rfl ?_
          exact x_sub [1, 2, 3, 4, 0] rfl (ih _ h hr hx)
set_option maxRecDepth 100000 in
set_option maxHeartbeats 4000000 in
theorem l_X7_areAlike_2 {p : Program} {l : Launch} {e : Env} {s : State} {m : MethodId} {args : Array Value} {below : List Frame} {meth : Method} {c : Code} {G : zz_G} {L : Ly} {b : Nat} (C : CX p G s m args meth c cX7_areAlike yX7_areAlike 5 (some .boolean)) (hO : isMo L) (v1 : Int32) (v2 : Int32) (S : Sg) (rf : Int32) : ∀ (n : Nat) (v3 : Int32) {z}, L_X7_areAlike_2 v1 v2 S n v3 = some z → (∀ q, z = .inl q → q = rf) → (z = .inr () → X p l e (rmz 1 22) s m args below meth c 0 0 (RQ G L b S below args s (some (.int rf)) (rf = 0 ∨ rf = 1)) 5 G L b S 161 [] []) → X p l e (rmz 1 22) s m args below meth c 0 0 (RQ G L b S below args s (some (.int rf)) (rf = 0 ∨ rf = 1)) 5 G L b S 2 [(0, .ref (b + 140)), (1, .int v1), (2, .int v2), (3, .int v3)] [] := by
  intro n
  induction n with
  | zero =>
    intro v3 z h
    exact of_none h
  | succ n ih =>
    intro v3 z h hr hx
    rw [L_X7_areAlike_2] at h
    refine x_iload_n (pc := 2) C 3 dX7_areAlike_2 rfl ?_
    refine x_bipush (pc := 3) C (v := (10 : Int32)) dX7_areAlike_3 rfl ?_
    refine x_icmp_ge (pc := 5) C 161 dX7_areAlike_5 rfl (fun c_1 => ?_) (fun c_1 => ?_)
    · replace h := of_ifn c_1 h
      exact x_sub [] rfl (hx (of_s1 h).symm)
    · replace h := of_ifp c_1 h
      refine x_iload_n (pc := 8) C 3 dX7_areAlike_8 rfl ?_
      refine x_iconst (pc := 9) C (v := (1 : Int32)) dX7_areAlike_9 rfl ?_
      refine x_iadd (pc := 10) C dX7_areAlike_10 ?_
      obtain ⟨v4_1, ev4_1, h⟩ := of_lt h
      refine x_istore (pc := 11) C [(4, .int v4_1), (0, .ref (b + 140)), (1, .int v1), (2, .int v2), (3, .int v3)] dX7_areAlike_11 (Nat.le_of_ble_eq_true rfl) ev4_1 rfl ?_
      refine x_sub [1, 2, 3, 4, 0] rfl ?_
      obtain ⟨z_hz_1, hz_1, hl, hrr⟩ := of_bs h
      refine l_X7_areAlike_13 C hO v1 v2 v3 S rf 400 _ hz_1 (fun q ez => hr _ (of_s1 (hl _ ez)).symm) (fun ez => ?_)
      replace h := hrr _ ez
      clear hl hrr
      refine x_aload_n (pc := 100) C 0 dX7_areAlike_100 rfl ?_
      refine x_iload_n (pc := 101) C 3 dX7_areAlike_101 rfl ?_
      obtain ⟨r_1, hc_1, h⟩ := of_bd h
      refine x_callV1 (pc := 102) C (o := 140) [.int v3] [] (c_X7_isPivot (b := b) v3 hO S _ hc_1) cw_X7_153 vi_X7_isPivot ⟨rfl, rfl, Nat.le_of_ble_eq_true rfl, Nat.le_of_ble_eq_true rfl⟩ ⟨Nat.le_refl _, Nat.le_refl _⟩ hO.1 ⟨rfl, rfl, rfl⟩ rfl ⟨rfl, Nat.le_of_ble_eq_true rfl⟩ dX7_areAlike_102 (fun hx_1 => ?_)
      refine x_if_ne (pc := 105) C 155 dX7_areAlike_105 rfl (fun c_2 => ?_) (fun c_2 => ?_)
      · replace h := of_ifn c_2 h
        obtain ⟨v3_1, ev3_1, h⟩ := of_lt h
        refine x_iinc (pc := 155) C (w := (1 : Int32)) 3 [(3, .int v3_1), (0, .ref (b + 140)), (1, .int v1), (2, .int v2)] dX7_areAlike_155 rfl rfl (Nat.le_of_ble_eq_true rfl) ev3_1 rfl ?_
        refine x_goto (pc := 158) C 2 dX7_areAlike_158 rfl ?_
        exact x_sub [1, 2, 3, 0] rfl (ih _ h hr hx)
      · replace h := of_ifp c_2 h
        refine x_aload_n (pc := 108) C 0 dX7_areAlike_108 rfl ?_
        refine x_getr (pc := 109) C (k := 14) 150 hO.1 rfl rfl wd_742 dX7_areAlike_109 (Nat.le_of_ble_eq_true rfl) rfl ?_
        refine x_bipush (pc := 112) C (v := (10 : Int32)) dX7_areAlike_112 rfl ?_
        refine x_iload_n (pc := 114) C 1 dX7_areAlike_114 rfl ?_
        refine x_imul (pc := 115) C dX7_areAlike_115 ?_
        refine x_iload_n (pc := 116) C 3 dX7_areAlike_116 rfl ?_
        refine x_iadd (pc := 117) C dX7_areAlike_117 ?_
        obtain ⟨g_1, h⟩ := of_gd h
        refine x_laload (pc := 118) C hO.2.2.2.2.2.2.2.2.2.2.1 g_1 dX7_areAlike_118 ?_
        refine x_lconst (pc := 119) C (v := (0 : Int64)) dX7_areAlike_119 rfl ?_
        obtain ⟨x_1, ex_1, h⟩ := of_lt h
        have kd_1 : X p l e (rmz 1 22) s m args below meth c 0 0 (RQ G L b S below args s (some (.int rf)) (rf = 0 ∨ rf = 1)) 5 G L b S 129 [(0, .ref (b + 140)), (1, .int v1), (2, .int v2), (3, .int v3)] [.int x_1] := by
          refine x_aload_n (pc := 129) C 0 dX7_areAlike_129 rfl ?_
          refine x_getr (pc := 130) C (k := 14) 150 hO.1 rfl rfl wd_742 dX7_areAlike_130 (Nat.le_of_ble_eq_true rfl) rfl ?_
          refine x_bipush (pc := 133) C (v := (10 : Int32)) dX7_areAlike_133 rfl ?_
          refine x_iload_n (pc := 135) C 2 dX7_areAlike_135 rfl ?_
          refine x_imul (pc := 136) C dX7_areAlike_136 ?_
          refine x_iload_n (pc := 137) C 3 dX7_areAlike_137 rfl ?_
          refine x_iadd (pc := 138) C dX7_areAlike_138 ?_
          obtain ⟨g_2, h⟩ := of_gd h
          refine x_laload (pc := 139) C hO.2.2.2.2.2.2.2.2.2.2.1 g_2 dX7_areAlike_139 ?_
          refine x_lconst (pc := 140) C (v := (0 : Int64)) dX7_areAlike_140 rfl ?_
          obtain ⟨x_2, ex_2, h⟩ := of_lt h
          have kd_2 : X p l e (rmz 1 22) s m args below meth c 0 0 (RQ G L b S below args s (some (.int rf)) (rf = 0 ∨ rf = 1)) 5 G L b S 150 [(0, .ref (b + 140)), (1, .int v1), (2, .int v2), (3, .int v3)] [.int x_2, .int x_1] := by
            refine x_icmp_eq (pc := 150) C 155 dX7_areAlike_150 rfl (fun c_3 => ?_) (fun c_3 => ?_)
            · replace h := of_ifp c_3 h
              obtain ⟨v3_2, ev3_2, h⟩ := of_lt h
              refine x_iinc (pc := 155) C (w := (1 : Int32)) 3 [(3, .int v3_2), (0, .ref (b + 140)), (1, .int v1), (2, .int v2)] dX7_areAlike_155 rfl rfl (Nat.le_of_ble_eq_true rfl) ev3_2 rfl ?_
              refine x_goto (pc := 158) C 2 dX7_areAlike_158 rfl ?_
              exact x_sub [1, 2, 3, 0] rfl (ih _ h hr hx)
            · replace h := of_ifn c_3 h
              refine x_iconst (pc := 153) C (v := (0 : Int32)) dX7_areAlike_153 rfl ?_
              have hq := hr _ (of_s1 h).symm
              exact x_zreturn (pc := 154) C (by decide) dX7_areAlike_154 hq rfl
          refine x_lcmp_ne (pc := 141) C 149 dX7_areAlike_141 dX7_areAlike_142 rfl (fun c_4 => ?_) (fun c_4 => ?_)
          · refine x_iconst (pc := 149) C (v := (0 : Int32)) dX7_areAlike_149 rfl ?_
            refine x_sub [0, 1, 2, 3] rfl ?_
            rw [show x_2 = (0 : Int32) from (ex_2.trans (if_neg c_4))] at kd_2
            exact kd_2
          · refine x_iconst (pc := 145) C (v := (1 : Int32)) dX7_areAlike_145 rfl ?_
            refine x_goto (pc := 146) C 150 dX7_areAlike_146 rfl ?_
            refine x_sub [0, 1, 2, 3] rfl ?_
            rw [show x_2 = (1 : Int32) from (ex_2.trans (if_pos c_4))] at kd_2
            exact kd_2
        refine x_lcmp_ne (pc := 120) C 128 dX7_areAlike_120 dX7_areAlike_121 rfl (fun c_5 => ?_) (fun c_5 => ?_)
        · refine x_iconst (pc := 128) C (v := (0 : Int32)) dX7_areAlike_128 rfl ?_
          refine x_sub [0, 1, 2, 3] rfl ?_
          rw [show x_1 = (0 : Int32) from (ex_1.trans (if_neg c_5))] at kd_1
          exact kd_1
        · refine x_iconst (pc := 124) C (v := (1 : Int32)) dX7_areAlike_124 rfl ?_
          refine x_goto (pc := 125) C 129 dX7_areAlike_125 rfl ?_
          refine x_sub [0, 1, 2, 3] rfl ?_
          rw [show x_1 = (1 : Int32) from (ex_1.trans (if_pos c_5))] at kd_1
          exact kd_1
set_option maxRecDepth 100000 in
set_option maxHeartbeats 4000000 in
theorem c_X7_areAlike {l : Launch} {G : zz_G} {L : Ly} {b : Nat} (p1 : Int32) (p2 : Int32) (hO : isMo L) (S : Sg) (rf : Int32) (h : f_X7_areAlike p1 p2 S = some rf) : Met l yX7_areAlike (Cond.code yX7_areAlike cX7_areAlike 5 (some .boolean) :: zz_all) (rmz 1 22) (PC G L b S [.ref (b + 140), .int p1, .int p2]) (QC G L b S (some (.int rf)) (rf = 0 ∨ rf = 1)) 0 0 (fun q => b ≤ q) := by
  refine x_met [.ref (b + 140), .int p1, .int p2] (by decide +kernel) (Nat.le_of_ble_eq_true rfl) fun p e s m args below meth c C => ?_
  unfold f_X7_areAlike at h
  refine x_iconst (pc := 0) C (v := (0 : Int32)) dX7_areAlike_0 rfl ?_
  refine x_istore_n (pc := 1) C 3 [(3, .int (0 : Int32)), (0, .ref (b + 140)), (1, .int p1), (2, .int p2)] dX7_areAlike_1 rfl (Nat.le_of_ble_eq_true rfl) rfl rfl ?_
  refine x_sub [1, 2, 3, 0] rfl ?_
  obtain ⟨z_hz_1, hz_1, hl, hrr⟩ := of_bs h
  refine l_X7_areAlike_2 C hO p1 p2 S rf 400 _ hz_1 (fun q ez => of_s1 (hl _ ez)) (fun ez => ?_)
  replace h := hrr _ ez
  clear hl hrr
  refine x_iconst (pc := 161) C (v := (1 : Int32)) dX7_areAlike_161 rfl ?_
  exact x_zreturn (pc := 162) C (by decide) dX7_areAlike_162 (of_s1 h) rfl
set_option maxRecDepth 100000 in
set_option maxHeartbeats 4000000 in
theorem c_X7_has {l : Launch} {G : zz_G} {L : Ly} {b : Nat} (p0 : Int32) (p1 : Int32) (S : Sg) : Met l yX7_has (Cond.code yX7_has cX7_has 2 (some .boolean) :: zz_all) (rmz 0 0) (PC G L b S [.int p0, .int p1]) (QC G L b S (some (.int (f_X7_has p0 p1))) (f_X7_has p0 p1 = 0 ∨ f_X7_has p0 p1 = 1)) 0 0 (fun q => b ≤ q) := by
  refine x_met [.int p0, .int p1] (by decide +kernel) (Nat.le_of_ble_eq_true rfl) fun p e s m args below meth c C => ?_
  generalize h : f_X7_has p0 p1 = rf
  unfold f_X7_has at h
  refine x_iload_n (pc := 0) C 0 dX7_has_0 rfl ?_
  refine x_iload_n (pc := 1) C 1 dX7_has_1 rfl ?_
  refine x_ishr (pc := 2) C dX7_has_2 ?_
  refine x_iconst (pc := 3) C (v := (1 : Int32)) dX7_has_3 rfl ?_
  refine x_iand (pc := 4) C dX7_has_4 ?_
  refine x_iconst (pc := 5) C (v := (1 : Int32)) dX7_has_5 rfl ?_
  obtain ⟨x_1, ex_1, h⟩ := of_lt h
  have kd_1 : X p l e (rmz 0 0) s m args below meth c 0 0 (RQ G L b S below args s (some (.int rf)) (rf = 0 ∨ rf = 1)) 2 G L b S 14 [] [.int x_1] := by
    exact x_zreturn (pc := 14) C (ex_1 ▸ (if01 (by decide) (by decide))) dX7_has_14 h rfl
  refine x_icmp_ne (pc := 6) C 13 dX7_has_6 rfl (fun c_1 => ?_) (fun c_1 => ?_)
  · refine x_iconst (pc := 13) C (v := (0 : Int32)) dX7_has_13 rfl ?_
    refine x_sub [] rfl ?_
    rw [show x_1 = (0 : Int32) from (ex_1.trans (if_neg c_1))] at kd_1
    exact kd_1
  · refine x_iconst (pc := 9) C (v := (1 : Int32)) dX7_has_9 rfl ?_
    refine x_goto (pc := 10) C 14 dX7_has_10 rfl ?_
    refine x_sub [] rfl ?_
    rw [show x_1 = (1 : Int32) from (ex_1.trans (if_pos c_1))] at kd_1
    exact kd_1
set_option maxRecDepth 100000 in
set_option maxHeartbeats 4000000 in
theorem c_X7_weight {l : Launch} {G : zz_G} {L : Ly} {b : Nat} (p0 : Int32) (p1 : Int32) (p2 : Int32) (p3 : Int32) (S : Sg) (rf : Int32) (h : f_X7_weight p0 p1 p2 p3 = some rf) : Met l yX7_weight (Cond.code yX7_weight cX7_weight 4 (some .int) :: zz_all) (rmz 1 21) (PC G L b S [.int p0, .int p1, .int p2, .int p3]) (QC G L b S (some (.int rf)) True) 0 0 (fun q => b ≤ q) := by
  refine x_met [.int p0, .int p1, .int p2, .int p3] (by decide +kernel) (Nat.le_of_ble_eq_true rfl) fun p e s m args below meth c C => ?_
  unfold f_X7_weight at h
  refine x_iload_n (pc := 0) C 0 dX7_weight_0 rfl ?_
  refine x_iconst (pc := 1) C (v := (1 : Int32)) dX7_weight_1 rfl ?_
  refine x_icmp_ne (pc := 2) C 17 dX7_weight_2 rfl (fun c_1 => ?_) (fun c_1 => ?_)
  · replace h := of_ifn c_1 h
    refine x_iload_n (pc := 17) C 1 dX7_weight_17 rfl ?_
    refine x_iload_n (pc := 18) C 3 dX7_weight_18 rfl ?_
    refine x_callS1 (pc := 19) C [.int p1, .int p3] [] (c_X7_has (b := b) p1 p3 S) cw_X7_103 vs_X7_has ⟨rfl, rfl, Nat.le_of_ble_eq_true rfl, Nat.le_of_ble_eq_true rfl⟩ ⟨Nat.le_refl _, Nat.le_refl _⟩ rfl ⟨rfl, Nat.le_of_ble_eq_true rfl⟩ dX7_weight_19 (fun hx_1 => ?_)
    refine x_if_ne (pc := 22) C 29 dX7_weight_22 rfl (fun c_2 => ?_) (fun c_2 => ?_)
    · replace h := of_ifn c_2 h
      refine x_iload_n (pc := 29) C 0 dX7_weight_29 rfl ?_
      refine x_if_ne (pc := 30) C 37 dX7_weight_30 rfl (fun c_3 => ?_) (fun c_3 => ?_)
      · replace h := of_ifn c_3 h
        refine x_iload_n (pc := 37) C 3 dX7_weight_37 rfl ?_
        refine x_iload_n (pc := 38) C 2 dX7_weight_38 rfl ?_
        obtain ⟨g_1, h⟩ := of_gd h
        refine x_irem (pc := 39) C dX7_weight_39 g_1 ?_
        refine x_iconst (pc := 40) C (v := (1 : Int32)) dX7_weight_40 rfl ?_
        refine x_iadd (pc := 41) C dX7_weight_41 ?_
        exact x_ireturn (pc := 42) C dX7_weight_42 (of_s1 h) rfl
      · replace h := of_ifp c_3 h
        refine x_iconst (pc := 33) C (v := (1 : Int32)) dX7_weight_33 rfl ?_
        refine x_goto (pc := 34) C 42 dX7_weight_34 rfl ?_
        exact x_ireturn (pc := 42) C dX7_weight_42 (of_s1 h) rfl
    · replace h := of_ifp c_2 h
      refine x_iconst (pc := 25) C (v := (0 : Int32)) dX7_weight_25 rfl ?_
      refine x_goto (pc := 26) C 42 dX7_weight_26 rfl ?_
      exact x_ireturn (pc := 42) C dX7_weight_42 (of_s1 h) rfl
  · replace h := of_ifp c_1 h
    refine x_iload_n (pc := 5) C 1 dX7_weight_5 rfl ?_
    refine x_iload_n (pc := 6) C 3 dX7_weight_6 rfl ?_
    refine x_ishr (pc := 7) C dX7_weight_7 ?_
    refine x_iconst (pc := 8) C (v := (1 : Int32)) dX7_weight_8 rfl ?_
    refine x_iand (pc := 9) C dX7_weight_9 ?_
    refine x_iload_n (pc := 10) C 2 dX7_weight_10 rfl ?_
    refine x_iload_n (pc := 11) C 3 dX7_weight_11 rfl ?_
    refine x_ishr (pc := 12) C dX7_weight_12 ?_
    refine x_iconst (pc := 13) C (v := (1 : Int32)) dX7_weight_13 rfl ?_
    refine x_iand (pc := 14) C dX7_weight_14 ?_
    refine x_isub (pc := 15) C dX7_weight_15 ?_
    exact x_ireturn (pc := 16) C dX7_weight_16 (of_s1 h) rfl
set_option maxRecDepth 100000 in
set_option maxHeartbeats 4000000 in
theorem l_X7_asks_8 {p : Program} {l : Launch} {e : Env} {s : State} {m : MethodId} {args : Array Value} {below : List Frame} {meth : Method} {c : Code} {G : zz_G} {L : Ly} {b : Nat} {Q : State → Prop} (C : CX p G s m args meth c cX7_asks yX7_asks 6 none) (hO : isMo L) (v1 : Int32) (v2 : Int32) (v3 : Int32) : ∀ (n : Nat) (v4 : Int32) (S : Sg) {z}, L_X7_asks_8 v1 v2 v3 n v4 S = some z → (∀ (S_o : Sg), z = S_o → X p l e (rmz 2 44) s m args below meth c 0 0 Q 6 G L b S_o 29 [(0, .ref (b + 140)), (1, .int v1), (2, .int v2), (3, .int v3)] []) → X p l e (rmz 2 44) s m args below meth c 0 0 Q 6 G L b S 8 [(0, .ref (b + 140)), (1, .int v1), (2, .int v2), (3, .int v3), (4, .int v4)] [] := by
  intro n
  induction n with
  | zero =>
    intro v4 S z h
    exact of_none h
  | succ n ih =>
    intro v4 S z h hx
    rw [L_X7_asks_8] at h
    refine x_iload (pc := 8) C 4 dX7_asks_8 rfl ?_
    refine x_bipush (pc := 10) C (v := (10 : Int32)) dX7_asks_10 rfl ?_
    refine x_icmp_ge (pc := 12) C 29 dX7_asks_12 rfl (fun c_1 => ?_) (fun c_1 => ?_)
    · replace h := of_ifn c_1 h
      exact x_sub [0, 1, 2, 3] rfl (hx _ (of_s1 h).symm)
    · replace h := of_ifp c_1 h
      refine x_aload_n (pc := 15) C 0 dX7_asks_15 rfl ?_
      refine x_getr (pc := 16) C (k := 11) 148 hO.1 rfl rfl wd_739 dX7_asks_16 (Nat.le_of_ble_eq_true rfl) rfl ?_
      refine x_iload (pc := 19) C 4 dX7_asks_19 rfl ?_
      refine x_iconst (pc := 21) C (v := (0 : Int32)) dX7_asks_21 rfl ?_
      obtain ⟨g_1, h⟩ := of_gd h
      obtain ⟨S_1, eS_1, h⟩ := of_lt h
      refine x_iastore (pc := 22) C hO.2.2.2.2.2.2.2.2.1 g_1 eS_1 dX7_asks_22 ?_
      obtain ⟨v4_1, ev4_1, h⟩ := of_lt h
      refine x_iinc (pc := 23) C (w := (1 : Int32)) 4 [(4, .int v4_1), (0, .ref (b + 140)), (1, .int v1), (2, .int v2), (3, .int v3)] dX7_asks_23 rfl rfl (Nat.le_of_ble_eq_true rfl) ev4_1 rfl ?_
      refine x_goto (pc := 26) C 8 dX7_asks_26 rfl ?_
      exact x_sub [1, 2, 3, 4, 0] rfl (ih _ _ h hx)
set_option maxRecDepth 100000 in
set_option maxHeartbeats 4000000 in
theorem l_X7_asks_32 {p : Program} {l : Launch} {e : Env} {s : State} {m : MethodId} {args : Array Value} {below : List Frame} {meth : Method} {c : Code} {G : zz_G} {L : Ly} {b : Nat} {Q : State → Prop} (C : CX p G s m args meth c cX7_asks yX7_asks 6 none) (hO : isMo L) (v1 : Int32) (v2 : Int32) (v3 : Int32) : ∀ (n : Nat) (v4 : Int32) (S : Sg) {z}, L_X7_asks_32 v1 v2 v3 n v4 S = some z → (∀ (S_o : Sg), z = S_o → X p l e (rmz 2 44) s m args below meth c 0 0 Q 6 G L b S_o 88 [] []) → X p l e (rmz 2 44) s m args below meth c 0 0 Q 6 G L b S 32 [(0, .ref (b + 140)), (1, .int v1), (2, .int v2), (3, .int v3), (4, .int v4)] [] := by
  intro n
  induction n with
  | zero =>
    intro v4 S z h
    exact of_none h
  | succ n ih =>
    intro v4 S z h hx
    rw [L_X7_asks_32] at h
    refine x_iload (pc := 32) C 4 dX7_asks_32 rfl ?_
    refine x_bipush (pc := 34) C (v := (8 : Int32)) dX7_asks_34 rfl ?_
    refine x_icmp_ge (pc := 36) C 88 dX7_asks_36 rfl (fun c_1 => ?_) (fun c_1 => ?_)
    · replace h := of_ifn c_1 h
      exact x_sub [] rfl (hx _ (of_s1 h).symm)
    · replace h := of_ifp c_1 h
      refine x_iload_n (pc := 39) C 1 dX7_asks_39 rfl ?_
      refine x_iload_n (pc := 40) C 2 dX7_asks_40 rfl ?_
      refine x_iload_n (pc := 41) C 3 dX7_asks_41 rfl ?_
      refine x_iload (pc := 42) C 4 dX7_asks_42 rfl ?_
      obtain ⟨r_1, hc_1, h⟩ := of_bd h
      refine x_callS1 (pc := 44) C [.int v1, .int v2, .int v3, .int v4] [] (c_X7_weight (b := b) v1 v2 v3 v4 S _ hc_1) cw_X7_110 vs_X7_weight ⟨rfl, rfl, Nat.le_of_ble_eq_true rfl, Nat.le_of_ble_eq_true rfl⟩ ⟨Nat.le_refl _, Nat.le_refl _⟩ rfl ⟨rfl, Nat.le_of_ble_eq_true rfl⟩ dX7_asks_44 (fun hx_1 => ?_)
      refine x_istore (pc := 47) C [(5, .int r_1), (0, .ref (b + 140)), (1, .int v1), (2, .int v2), (3, .int v3), (4, .int v4)] dX7_asks_47 (Nat.le_of_ble_eq_true rfl) rfl rfl ?_
      refine x_aload_n (pc := 49) C 1 dX7_asks_49 rfl ?_
      refine x_getr (pc := 50) C (k := 11) 148 hO.1 rfl rfl wd_739 dX7_asks_50 (Nat.le_of_ble_eq_true rfl) rfl ?_
      refine x_aload_n (pc := 53) C 1 dX7_asks_53 rfl ?_
      refine x_getr (pc := 54) C (k := 4) 145 hO.1 rfl rfl wd_732 dX7_asks_54 (Nat.le_of_ble_eq_true rfl) rfl ?_
      refine x_iload (pc := 57) C 5 dX7_asks_57 rfl ?_
      obtain ⟨g_1, h⟩ := of_gd h
      refine x_iaload (pc := 59) C hO.2.2.2.2.2.1 g_1 dX7_asks_59 ?_
      refine x_iload (pc := 60) C 0 dX7_asks_60 rfl ?_
      obtain ⟨g_2, h⟩ := of_gd h
      obtain ⟨S_1, eS_1, h⟩ := of_lt h
      refine x_iastore (pc := 62) C hO.2.2.2.2.2.2.2.2.1 g_2 eS_1 dX7_asks_62 ?_
      refine x_aload_n (pc := 63) C 1 dX7_asks_63 rfl ?_
      refine x_dup (pc := 64) C dX7_asks_64 rfl ?_
      refine x_geti (pc := 65) C (k := 12) hO.1 rfl rfl wd_740 dX7_asks_65 ⟨Nat.le_of_ble_eq_true rfl, rfl⟩ ?_
      refine x_iload (pc := 68) C 0 dX7_asks_68 rfl ?_
      obtain ⟨x_1, ex_1, h⟩ := of_lt h
      have kd_1 : X p l e (rmz 2 44) s m args below meth c 0 0 Q 6 G L b S_1 78 [(0, .ref (b + 140)), (1, .int v1), (2, .int v2), (3, .int v3), (4, .int v4)] [.int x_1, .int (S_1.1 140 12), .ref (b + 140)] := by
        refine x_iadd (pc := 78) C dX7_asks_78 ?_
        obtain ⟨S_2, eS_2, h⟩ := of_lt h
        refine x_puti (pc := 79) C (k := 12) hO.1 rfl rfl wd_740 dX7_asks_79 ⟨Nat.le_of_ble_eq_true rfl, rfl⟩ eS_2 ?_
        obtain ⟨v4_1, ev4_1, h⟩ := of_lt h
        refine x_iinc (pc := 82) C (w := (1 : Int32)) 4 [(4, .int v4_1), (0, .ref (b + 140)), (1, .int v1), (2, .int v2), (3, .int v3)] dX7_asks_82 rfl rfl (Nat.le_of_ble_eq_true rfl) ev4_1 rfl ?_
        refine x_goto (pc := 85) C 32 dX7_asks_85 rfl ?_
        exact x_sub [1, 2, 3, 4, 0] rfl (ih _ _ h hx)
      refine x_if_eq (pc := 70) C 77 dX7_asks_70 rfl (fun c_2 => ?_) (fun c_2 => ?_)
      · refine x_iconst (pc := 77) C (v := (0 : Int32)) dX7_asks_77 rfl ?_
        refine x_sub [1, 2, 3, 4, 5] rfl ?_
        rw [show x_1 = (0 : Int32) from (ex_1.trans (if_pos c_2))] at kd_1
        exact kd_1
      · refine x_iconst (pc := 73) C (v := (1 : Int32)) dX7_asks_73 rfl ?_
        refine x_goto (pc := 74) C 78 dX7_asks_74 rfl ?_
        refine x_sub [1, 2, 3, 4, 5] rfl ?_
        rw [show x_1 = (1 : Int32) from (ex_1.trans (if_neg c_2))] at kd_1
        exact kd_1
set_option maxRecDepth 100000 in
set_option maxHeartbeats 4000000 in
theorem c_X7_asks {l : Launch} {G : zz_G} {L : Ly} {b : Nat} (p1 : Int32) (p2 : Int32) (p3 : Int32) (hO : isMo L) (S : Sg) (Sf : Sg) (h : f_X7_asks p1 p2 p3 S = some Sf) : Met l yX7_asks (Cond.code yX7_asks cX7_asks 6 none :: zz_all) (rmz 2 44) (PC G L b S [.ref (b + 140), .int p1, .int p2, .int p3]) (QC G L b Sf none True) 0 0 (fun q => b ≤ q) := by
  refine x_met [.ref (b + 140), .int p1, .int p2, .int p3] (by decide +kernel) (Nat.le_of_ble_eq_true rfl) fun p e s m args below meth c C => ?_
  unfold f_X7_asks at h
  refine x_aload_n (pc := 0) C 0 dX7_asks_0 rfl ?_
  refine x_iconst (pc := 1) C (v := (0 : Int32)) dX7_asks_1 rfl ?_
  obtain ⟨S_1, eS_1, h⟩ := of_lt h
  refine x_puti (pc := 2) C (k := 12) hO.1 rfl rfl wd_740 dX7_asks_2 ⟨Nat.le_of_ble_eq_true rfl, rfl⟩ eS_1 ?_
  refine x_iconst (pc := 5) C (v := (0 : Int32)) dX7_asks_5 rfl ?_
  refine x_istore (pc := 6) C [(4, .int (0 : Int32)), (0, .ref (b + 140)), (1, .int p1), (2, .int p2), (3, .int p3)] dX7_asks_6 (Nat.le_of_ble_eq_true rfl) rfl rfl ?_
  refine x_sub [1, 2, 3, 4, 0] rfl ?_
  obtain ⟨z_hz_2, hz_2, h⟩ := of_bd h
  refine l_X7_asks_8 C hO p1 p2 p3 400 _ _ hz_2 (fun S_2 ez => ?_)
  subst z_hz_2
  refine x_iconst (pc := 29) C (v := (0 : Int32)) dX7_asks_29 rfl ?_
  refine x_istore (pc := 30) C [(4, .int (0 : Int32)), (0, .ref (b + 140)), (1, .int p1), (2, .int p2), (3, .int p3)] dX7_asks_30 (Nat.le_of_ble_eq_true rfl) rfl rfl ?_
  refine x_sub [1, 2, 3, 4, 0] rfl ?_
  obtain ⟨z_hz_1, hz_1, h⟩ := of_bd h
  refine l_X7_asks_32 C hO p1 p2 p3 400 _ _ hz_1 (fun S_3 ez => ?_)
  subst z_hz_1
  exact x_vreturn (pc := 88) C dX7_asks_88 (of_s1 h)
set_option maxRecDepth 100000 in
set_option maxHeartbeats 4000000 in
theorem l_X7_trueAnswer_4 {p : Program} {l : Launch} {e : Env} {s : State} {m : MethodId} {args : Array Value} {below : List Frame} {meth : Method} {c : Code} {G : zz_G} {L : Ly} {b : Nat} {Q : State → Prop} (C : CX p G s m args meth c cX7_trueAnswer yX7_trueAnswer 3 (some .int)) (hO : isMo L) (S : Sg) : ∀ (n : Nat) (v1 : Int32) (v2 : Int32) {z}, L_X7_trueAnswer_4 S n v1 v2 = some z → (∀ (v1_o : Int32), z = v1_o → X p l e (rmz 0 0) s m args below meth c 0 0 Q 3 G L b S 32 [(1, .int v1_o)] []) → X p l e (rmz 0 0) s m args below meth c 0 0 Q 3 G L b S 4 [(0, .ref (b + 140)), (1, .int v1), (2, .int v2)] [] := by
  intro n
  induction n with
  | zero =>
    intro v1 v2 z h
    exact of_none h
  | succ n ih =>
    intro v1 v2 z h hx
    rw [L_X7_trueAnswer_4] at h
    refine x_iload_n (pc := 4) C 2 dX7_trueAnswer_4 rfl ?_
    refine x_bipush (pc := 5) C (v := (10 : Int32)) dX7_trueAnswer_5 rfl ?_
    refine x_icmp_ge (pc := 7) C 32 dX7_trueAnswer_7 rfl (fun c_1 => ?_) (fun c_1 => ?_)
    · replace h := of_ifn c_1 h
      exact x_sub [1] rfl (hx _ (of_s1 h).symm)
    · replace h := of_ifp c_1 h
      refine x_iload_n (pc := 10) C 1 dX7_trueAnswer_10 rfl ?_
      refine x_aload_n (pc := 11) C 0 dX7_trueAnswer_11 rfl ?_
      refine x_getr (pc := 12) C (k := 11) 148 hO.1 rfl rfl wd_739 dX7_trueAnswer_12 (Nat.le_of_ble_eq_true rfl) rfl ?_
      refine x_iload_n (pc := 15) C 2 dX7_trueAnswer_15 rfl ?_
      obtain ⟨g_1, h⟩ := of_gd h
      refine x_iaload (pc := 16) C hO.2.2.2.2.2.2.2.2.1 g_1 dX7_trueAnswer_16 ?_
      refine x_aload_n (pc := 17) C 0 dX7_trueAnswer_17 rfl ?_
      refine x_getr (pc := 18) C (k := 1) 142 hO.1 rfl rfl wd_729 dX7_trueAnswer_18 (Nat.le_of_ble_eq_true rfl) rfl ?_
      refine x_iload_n (pc := 21) C 2 dX7_trueAnswer_21 rfl ?_
      refine x_iaload (pc := 22) C hO.2.2.1 g_1 dX7_trueAnswer_22 ?_
      refine x_imul (pc := 23) C dX7_trueAnswer_23 ?_
      refine x_iadd (pc := 24) C dX7_trueAnswer_24 ?_
      obtain ⟨v1_1, ev1_1, h⟩ := of_lt h
      refine x_istore_n (pc := 25) C 1 [(1, .int v1_1), (0, .ref (b + 140)), (2, .int v2)] dX7_trueAnswer_25 rfl (Nat.le_of_ble_eq_true rfl) ev1_1 rfl ?_
      obtain ⟨v2_1, ev2_1, h⟩ := of_lt h
      refine x_iinc (pc := 26) C (w := (1 : Int32)) 2 [(2, .int v2_1), (1, .int v1_1), (0, .ref (b + 140))] dX7_trueAnswer_26 rfl rfl (Nat.le_of_ble_eq_true rfl) ev2_1 rfl ?_
      refine x_goto (pc := 29) C 4 dX7_trueAnswer_29 rfl ?_
      exact x_sub [2, 1, 0] rfl (ih _ _ h hx)
set_option maxRecDepth 100000 in
set_option maxHeartbeats 4000000 in
theorem c_X7_trueAnswer {l : Launch} {G : zz_G} {L : Ly} {b : Nat} (hO : isMo L) (S : Sg) (rf : Int32) (h : f_X7_trueAnswer S = some rf) : Met l yX7_trueAnswer (Cond.code yX7_trueAnswer cX7_trueAnswer 3 (some .int) :: zz_all) (rmz 0 0) (PC G L b S [.ref (b + 140)]) (QC G L b S (some (.int rf)) True) 0 0 (fun q => b ≤ q) := by
  refine x_met [.ref (b + 140)] (by decide +kernel) (Nat.le_of_ble_eq_true rfl) fun p e s m args below meth c C => ?_
  unfold f_X7_trueAnswer at h
  refine x_iconst (pc := 0) C (v := (0 : Int32)) dX7_trueAnswer_0 rfl ?_
  refine x_istore_n (pc := 1) C 1 [(1, .int (0 : Int32)), (0, .ref (b + 140))] dX7_trueAnswer_1 rfl (Nat.le_of_ble_eq_true rfl) rfl rfl ?_
  refine x_iconst (pc := 2) C (v := (0 : Int32)) dX7_trueAnswer_2 rfl ?_
  refine x_istore_n (pc := 3) C 2 [(2, .int (0 : Int32)), (1, .int (0 : Int32)), (0, .ref (b + 140))] dX7_trueAnswer_3 rfl (Nat.le_of_ble_eq_true rfl) rfl rfl ?_
  refine x_sub [2, 1, 0] rfl ?_
  obtain ⟨z_hz_1, hz_1, h⟩ := of_bd h
  refine l_X7_trueAnswer_4 C hO S 400 _ _ hz_1 (fun v1_1 ez => ?_)
  subst z_hz_1
  refine x_iload_n (pc := 32) C 0 dX7_trueAnswer_32 rfl ?_
  exact x_ireturn (pc := 33) C dX7_trueAnswer_33 (of_s1 h) rfl
set_option maxRecDepth 100000 in
set_option maxHeartbeats 4000000 in
theorem l_X7_joins_2 {p : Program} {l : Launch} {e : Env} {s : State} {m : MethodId} {args : Array Value} {below : List Frame} {meth : Method} {c : Code} {G : zz_G} {L : Ly} {b : Nat} {Q : State → Prop} (C : CX p G s m args meth c cX7_joins yX7_joins 2 none) (hO : isMo L) : ∀ (n : Nat) (v1 : Int32) (S : Sg) {z}, L_X7_joins_2 n v1 S = some z → (∀ (S_o : Sg), z = S_o → X p l e (rmz 1 22) s m args below meth c 0 0 Q 2 G L b S_o 34 [(0, .ref (b + 140))] []) → X p l e (rmz 1 22) s m args below meth c 0 0 Q 2 G L b S 2 [(0, .ref (b + 140)), (1, .int v1)] [] := by
  intro n
  induction n with
  | zero =>
    intro v1 S z h
    exact of_none h
  | succ n ih =>
    intro v1 S z h hx
    rw [L_X7_joins_2] at h
    refine x_iload_n (pc := 2) C 1 dX7_joins_2 rfl ?_
    refine x_bipush (pc := 3) C (v := (10 : Int32)) dX7_joins_3 rfl ?_
    refine x_icmp_ge (pc := 5) C 34 dX7_joins_5 rfl (fun c_1 => ?_) (fun c_1 => ?_)
    · replace h := of_ifn c_1 h
      exact x_sub [0] rfl (hx _ (of_s1 h).symm)
    · replace h := of_ifp c_1 h
      refine x_aload_n (pc := 8) C 0 dX7_joins_8 rfl ?_
      refine x_getr (pc := 9) C (k := 5) 146 hO.1 rfl rfl wd_733 dX7_joins_9 (Nat.le_of_ble_eq_true rfl) rfl ?_
      refine x_bipush (pc := 12) C (v := (10 : Int32)) dX7_joins_12 rfl ?_
      refine x_aload_n (pc := 14) C 0 dX7_joins_14 rfl ?_
      refine x_geti (pc := 15) C (k := 8) hO.1 rfl rfl wd_736 dX7_joins_15 ⟨Nat.le_of_ble_eq_true rfl, rfl⟩ ?_
      refine x_imul (pc := 18) C dX7_joins_18 ?_
      refine x_iload_n (pc := 19) C 1 dX7_joins_19 rfl ?_
      refine x_iadd (pc := 20) C dX7_joins_20 ?_
      refine x_aload_n (pc := 21) C 0 dX7_joins_21 rfl ?_
      refine x_getr (pc := 22) C (k := 11) 148 hO.1 rfl rfl wd_739 dX7_joins_22 (Nat.le_of_ble_eq_true rfl) rfl ?_
      refine x_iload_n (pc := 25) C 1 dX7_joins_25 rfl ?_
      obtain ⟨g_1, h⟩ := of_gd h
      refine x_iaload (pc := 26) C hO.2.2.2.2.2.2.2.2.1 g_1 dX7_joins_26 ?_
      obtain ⟨g_2, h⟩ := of_gd h
      obtain ⟨S_1, eS_1, h⟩ := of_lt h
      refine x_iastore (pc := 27) C hO.2.2.2.2.2.2.1 g_2 eS_1 dX7_joins_27 ?_
      obtain ⟨v1_1, ev1_1, h⟩ := of_lt h
      refine x_iinc (pc := 28) C (w := (1 : Int32)) 1 [(1, .int v1_1), (0, .ref (b + 140))] dX7_joins_28 rfl rfl (Nat.le_of_ble_eq_true rfl) ev1_1 rfl ?_
      refine x_goto (pc := 31) C 2 dX7_joins_31 rfl ?_
      exact x_sub [1, 0] rfl (ih _ _ h hx)
set_option maxRecDepth 100000 in
set_option maxHeartbeats 4000000 in
theorem c_X7_joins {l : Launch} {G : zz_G} {L : Ly} {b : Nat} (hO : isMo L) (S : Sg) (Sf : Sg) (h : f_X7_joins S = some Sf) : Met l yX7_joins (Cond.code yX7_joins cX7_joins 2 none :: zz_all) (rmz 1 22) (PC G L b S [.ref (b + 140)]) (QC G L b Sf none True) 0 0 (fun q => b ≤ q) := by
  refine x_met [.ref (b + 140)] (by decide +kernel) (Nat.le_of_ble_eq_true rfl) fun p e s m args below meth c C => ?_
  unfold f_X7_joins at h
  refine x_iconst (pc := 0) C (v := (0 : Int32)) dX7_joins_0 rfl ?_
  refine x_istore_n (pc := 1) C 1 [(1, .int (0 : Int32)), (0, .ref (b + 140))] dX7_joins_1 rfl (Nat.le_of_ble_eq_true rfl) rfl rfl ?_
  refine x_sub [1, 0] rfl ?_
  obtain ⟨z_hz_1, hz_1, h⟩ := of_bd h
  refine l_X7_joins_2 C hO 400 _ _ hz_1 (fun S_1 ez => ?_)
  subst z_hz_1
  refine x_aload_n (pc := 34) C 0 dX7_joins_34 rfl ?_
  refine x_getr (pc := 35) C (k := 6) 147 hO.1 rfl rfl wd_734 dX7_joins_35 (Nat.le_of_ble_eq_true rfl) rfl ?_
  refine x_aload_n (pc := 38) C 0 dX7_joins_38 rfl ?_
  refine x_geti (pc := 39) C (k := 8) hO.1 rfl rfl wd_736 dX7_joins_39 ⟨Nat.le_of_ble_eq_true rfl, rfl⟩ ?_
  refine x_aload_n (pc := 42) C 0 dX7_joins_42 rfl ?_
  obtain ⟨r_1, hc_1, h⟩ := of_bd h
  refine x_callV1 (pc := 43) C (o := 140) [] [.int (S_1.1 140 8), .ref (b + 147)] (c_X7_trueAnswer (b := b) hO S_1 _ hc_1) cw_X7_183 vi_X7_trueAnswer ⟨rfl, rfl, Nat.le_of_ble_eq_true rfl, Nat.le_of_ble_eq_true rfl⟩ ⟨Nat.le_refl _, Nat.le_refl _⟩ hO.1 ⟨rfl, rfl, rfl⟩ rfl ⟨rfl, Nat.le_of_ble_eq_true rfl⟩ dX7_joins_43 (fun hx_1 => ?_)
  obtain ⟨g_1, h⟩ := of_gd h
  obtain ⟨S_2, eS_2, h⟩ := of_lt h
  refine x_iastore (pc := 46) C hO.2.2.2.2.2.2.2.1 g_1 eS_2 dX7_joins_46 ?_
  refine x_aload_n (pc := 47) C 0 dX7_joins_47 rfl ?_
  refine x_dup (pc := 48) C dX7_joins_48 rfl ?_
  refine x_geti (pc := 49) C (k := 8) hO.1 rfl rfl wd_736 dX7_joins_49 ⟨Nat.le_of_ble_eq_true rfl, rfl⟩ ?_
  refine x_iconst (pc := 52) C (v := (1 : Int32)) dX7_joins_52 rfl ?_
  refine x_iadd (pc := 53) C dX7_joins_53 ?_
  obtain ⟨S_3, eS_3, h⟩ := of_lt h
  refine x_puti (pc := 54) C (k := 8) hO.1 rfl rfl wd_736 dX7_joins_54 ⟨Nat.le_of_ble_eq_true rfl, rfl⟩ eS_3 ?_
  exact x_vreturn (pc := 57) C dX7_joins_57 (of_s1 h)
set_option maxRecDepth 100000 in
set_option maxHeartbeats 4000000 in
theorem l_X7_builds_7 {p : Program} {l : Launch} {e : Env} {s : State} {m : MethodId} {args : Array Value} {below : List Frame} {meth : Method} {c : Code} {G : zz_G} {L : Ly} {b : Nat} {Q : State → Prop} (C : CX p G s m args meth c cX7_builds yX7_builds 2 none) (hO : isMo L) : ∀ (n : Nat) (v1 : Int32) (S : Sg) {z}, L_X7_builds_7 n v1 S = some z → (∀ (S_o : Sg), z = S_o → X p l e (rmz 6 154) s m args below meth c 0 0 Q 2 G L b S_o 33 [(0, .ref (b + 140))] []) → X p l e (rmz 6 154) s m args below meth c 0 0 Q 2 G L b S 7 [(0, .ref (b + 140)), (1, .int v1)] [] := by
  intro n
  induction n with
  | zero =>
    intro v1 S z h
    exact of_none h
  | succ n ih =>
    intro v1 S z h hx
    rw [L_X7_builds_7] at h
    refine x_iload_n (pc := 7) C 1 dX7_builds_7 rfl ?_
    refine x_aload_n (pc := 8) C 0 dX7_builds_8 rfl ?_
    refine x_geti (pc := 9) C (k := 8) hO.1 rfl rfl wd_736 dX7_builds_9 ⟨Nat.le_of_ble_eq_true rfl, rfl⟩ ?_
    refine x_icmp_ge (pc := 12) C 33 dX7_builds_12 rfl (fun c_1 => ?_) (fun c_1 => ?_)
    · replace h := of_ifn c_1 h
      exact x_sub [0] rfl (hx _ (of_s1 h).symm)
    · replace h := of_ifp c_1 h
      refine x_aload_n (pc := 15) C 0 dX7_builds_15 rfl ?_
      refine x_aload_n (pc := 16) C 0 dX7_builds_16 rfl ?_
      refine x_getr (pc := 17) C (k := 5) 146 hO.1 rfl rfl wd_733 dX7_builds_17 (Nat.le_of_ble_eq_true rfl) rfl ?_
      refine x_bipush (pc := 20) C (v := (10 : Int32)) dX7_builds_20 rfl ?_
      refine x_iload_n (pc := 22) C 1 dX7_builds_22 rfl ?_
      refine x_imul (pc := 23) C dX7_builds_23 ?_
      obtain ⟨S_1, hc_1, h⟩ := of_bd h
      refine x_callV_ (pc := 24) C (o := 140) [.ref (b + 146), .int ((10 : Int32) * v1)] [] (c_X7_adds (b := b) 146 100 ((10 : Int32) * v1) hO hO.2.2.2.2.2.2.1 S _ hc_1) cw_X7_146 vi_X7_adds ⟨rfl, rfl, Nat.le_of_ble_eq_true rfl, Nat.le_of_ble_eq_true rfl⟩ ⟨Nat.le_refl _, Nat.le_refl _⟩ hO.1 ⟨rfl, rfl, rfl⟩ rfl ⟨rfl, Nat.le_of_ble_eq_true rfl⟩ dX7_builds_24 (fun hx_1 => ?_)
      obtain ⟨v1_1, ev1_1, h⟩ := of_lt h
      refine x_iinc (pc := 27) C (w := (1 : Int32)) 1 [(1, .int v1_1), (0, .ref (b + 140))] dX7_builds_27 rfl rfl (Nat.le_of_ble_eq_true rfl) ev1_1 rfl ?_
      refine x_goto (pc := 30) C 7 dX7_builds_30 rfl ?_
      exact x_sub [1, 0] rfl (ih _ _ h hx)
set_option maxRecDepth 100000 in
set_option maxHeartbeats 4000000 in
theorem l_X7_builds_35 {p : Program} {l : Launch} {e : Env} {s : State} {m : MethodId} {args : Array Value} {below : List Frame} {meth : Method} {c : Code} {G : zz_G} {L : Ly} {b : Nat} {Q : State → Prop} (C : CX p G s m args meth c cX7_builds yX7_builds 2 none) (hO : isMo L) : ∀ (n : Nat) (v1 : Int32) (S : Sg) {z}, L_X7_builds_35 n v1 S = some z → (∀ (S_o : Sg), z = S_o → X p l e (rmz 6 154) s m args below meth c 0 0 Q 2 G L b S_o 59 [(0, .ref (b + 140))] []) → X p l e (rmz 6 154) s m args below meth c 0 0 Q 2 G L b S 35 [(0, .ref (b + 140)), (1, .int v1)] [] := by
  intro n
  induction n with
  | zero =>
    intro v1 S z h
    exact of_none h
  | succ n ih =>
    intro v1 S z h hx
    rw [L_X7_builds_35] at h
    refine x_iload_n (pc := 35) C 1 dX7_builds_35 rfl ?_
    refine x_bipush (pc := 36) C (v := (110 : Int32)) dX7_builds_36 rfl ?_
    refine x_icmp_ge (pc := 38) C 59 dX7_builds_38 rfl (fun c_1 => ?_) (fun c_1 => ?_)
    · replace h := of_ifn c_1 h
      exact x_sub [0] rfl (hx _ (of_s1 h).symm)
    · replace h := of_ifp c_1 h
      refine x_aload_n (pc := 41) C 0 dX7_builds_41 rfl ?_
      refine x_getr (pc := 42) C (k := 13) 149 hO.1 rfl rfl wd_741 dX7_builds_42 (Nat.le_of_ble_eq_true rfl) rfl ?_
      refine x_iload_n (pc := 45) C 1 dX7_builds_45 rfl ?_
      refine x_aload_n (pc := 46) C 0 dX7_builds_46 rfl ?_
      refine x_getr (pc := 47) C (k := 14) 150 hO.1 rfl rfl wd_742 dX7_builds_47 (Nat.le_of_ble_eq_true rfl) rfl ?_
      refine x_iload_n (pc := 50) C 1 dX7_builds_50 rfl ?_
      obtain ⟨g_1, h⟩ := of_gd h
      refine x_laload (pc := 51) C hO.2.2.2.2.2.2.2.2.2.2.1 g_1 dX7_builds_51 ?_
      obtain ⟨S_1, eS_1, h⟩ := of_lt h
      refine x_lastore (pc := 52) C hO.2.2.2.2.2.2.2.2.2.1 g_1 eS_1 dX7_builds_52 ?_
      obtain ⟨v1_1, ev1_1, h⟩ := of_lt h
      refine x_iinc (pc := 53) C (w := (1 : Int32)) 1 [(1, .int v1_1), (0, .ref (b + 140))] dX7_builds_53 rfl rfl (Nat.le_of_ble_eq_true rfl) ev1_1 rfl ?_
      refine x_goto (pc := 56) C 35 dX7_builds_56 rfl ?_
      exact x_sub [1, 0] rfl (ih _ _ h hx)
set_option maxRecDepth 100000 in
set_option maxHeartbeats 4000000 in
theorem l_X7_builds_61 {p : Program} {l : Launch} {e : Env} {s : State} {m : MethodId} {args : Array Value} {below : List Frame} {meth : Method} {c : Code} {G : zz_G} {L : Ly} {b : Nat} {Q : State → Prop} (C : CX p G s m args meth c cX7_builds yX7_builds 2 none) (hO : isMo L) : ∀ (n : Nat) (v1 : Int32) (S : Sg) {z}, L_X7_builds_61 n v1 S = some z → (∀ (S_o : Sg), z = S_o → X p l e (rmz 6 154) s m args below meth c 0 0 Q 2 G L b S_o 85 [(0, .ref (b + 140))] []) → X p l e (rmz 6 154) s m args below meth c 0 0 Q 2 G L b S 61 [(0, .ref (b + 140)), (1, .int v1)] [] := by
  intro n
  induction n with
  | zero =>
    intro v1 S z h
    exact of_none h
  | succ n ih =>
    intro v1 S z h hx
    rw [L_X7_builds_61] at h
    refine x_iload_n (pc := 61) C 1 dX7_builds_61 rfl ?_
    refine x_bipush (pc := 62) C (v := (11 : Int32)) dX7_builds_62 rfl ?_
    refine x_icmp_ge (pc := 64) C 85 dX7_builds_64 rfl (fun c_1 => ?_) (fun c_1 => ?_)
    · replace h := of_ifn c_1 h
      exact x_sub [0] rfl (hx _ (of_s1 h).symm)
    · replace h := of_ifp c_1 h
      refine x_aload_n (pc := 67) C 0 dX7_builds_67 rfl ?_
      refine x_getr (pc := 68) C (k := 16) 152 hO.1 rfl rfl wd_744 dX7_builds_68 (Nat.le_of_ble_eq_true rfl) rfl ?_
      refine x_iload_n (pc := 71) C 1 dX7_builds_71 rfl ?_
      refine x_aload_n (pc := 72) C 0 dX7_builds_72 rfl ?_
      refine x_getr (pc := 73) C (k := 17) 153 hO.1 rfl rfl wd_745 dX7_builds_73 (Nat.le_of_ble_eq_true rfl) rfl ?_
      refine x_iload_n (pc := 76) C 1 dX7_builds_76 rfl ?_
      obtain ⟨g_1, h⟩ := of_gd h
      refine x_iaload (pc := 77) C hO.2.2.2.2.2.2.2.2.2.2.2.2.2.1 g_1 dX7_builds_77 ?_
      obtain ⟨S_1, eS_1, h⟩ := of_lt h
      refine x_iastore (pc := 78) C hO.2.2.2.2.2.2.2.2.2.2.2.2.1 g_1 eS_1 dX7_builds_78 ?_
      obtain ⟨v1_1, ev1_1, h⟩ := of_lt h
      refine x_iinc (pc := 79) C (w := (1 : Int32)) 1 [(1, .int v1_1), (0, .ref (b + 140))] dX7_builds_79 rfl rfl (Nat.le_of_ble_eq_true rfl) ev1_1 rfl ?_
      refine x_goto (pc := 82) C 61 dX7_builds_82 rfl ?_
      exact x_sub [1, 0] rfl (ih _ _ h hx)
set_option maxRecDepth 100000 in
set_option maxHeartbeats 4000000 in
theorem c_X7_builds {l : Launch} {G : zz_G} {L : Ly} {b : Nat} (hO : isMo L) (S : Sg) (Sf : Sg) (h : f_X7_builds S = some Sf) : Met l yX7_builds (Cond.code yX7_builds cX7_builds 2 none :: zz_all) (rmz 6 154) (PC G L b S [.ref (b + 140)]) (QC G L b Sf none True) 0 0 (fun q => b ≤ q) := by
  refine x_met [.ref (b + 140)] (by decide +kernel) (Nat.le_of_ble_eq_true rfl) fun p e s m args below meth c C => ?_
  unfold f_X7_builds at h
  refine x_aload_n (pc := 0) C 0 dX7_builds_0 rfl ?_
  refine x_iconst (pc := 1) C (v := (0 : Int32)) dX7_builds_1 rfl ?_
  obtain ⟨S_1, eS_1, h⟩ := of_lt h
  refine x_puti (pc := 2) C (k := 19) hO.1 rfl rfl wd_747 dX7_builds_2 ⟨Nat.le_of_ble_eq_true rfl, rfl⟩ eS_1 ?_
  refine x_iconst (pc := 5) C (v := (0 : Int32)) dX7_builds_5 rfl ?_
  refine x_istore_n (pc := 6) C 1 [(1, .int (0 : Int32)), (0, .ref (b + 140))] dX7_builds_6 rfl (Nat.le_of_ble_eq_true rfl) rfl rfl ?_
  refine x_sub [1, 0] rfl ?_
  obtain ⟨z_hz_3, hz_3, h⟩ := of_bd h
  refine l_X7_builds_7 C hO 400 _ _ hz_3 (fun S_2 ez => ?_)
  subst z_hz_3
  refine x_iconst (pc := 33) C (v := (0 : Int32)) dX7_builds_33 rfl ?_
  refine x_istore_n (pc := 34) C 1 [(1, .int (0 : Int32)), (0, .ref (b + 140))] dX7_builds_34 rfl (Nat.le_of_ble_eq_true rfl) rfl rfl ?_
  refine x_sub [1, 0] rfl ?_
  obtain ⟨z_hz_2, hz_2, h⟩ := of_bd h
  refine l_X7_builds_35 C hO 400 _ _ hz_2 (fun S_3 ez => ?_)
  subst z_hz_2
  refine x_iconst (pc := 59) C (v := (0 : Int32)) dX7_builds_59 rfl ?_
  refine x_istore_n (pc := 60) C 1 [(1, .int (0 : Int32)), (0, .ref (b + 140))] dX7_builds_60 rfl (Nat.le_of_ble_eq_true rfl) rfl rfl ?_
  refine x_sub [1, 0] rfl ?_
  obtain ⟨z_hz_1, hz_1, h⟩ := of_bd h
  refine l_X7_builds_61 C hO 400 _ _ hz_1 (fun S_4 ez => ?_)
  subst z_hz_1
  refine x_aload_n (pc := 85) C 0 dX7_builds_85 rfl ?_
  refine x_aload_n (pc := 86) C 0 dX7_builds_86 rfl ?_
  refine x_geti (pc := 87) C (k := 19) hO.1 rfl rfl wd_747 dX7_builds_87 ⟨Nat.le_of_ble_eq_true rfl, rfl⟩ ?_
  obtain ⟨S_5, eS_5, h⟩ := of_lt h
  refine x_puti (pc := 90) C (k := 18) hO.1 rfl rfl wd_746 dX7_builds_90 ⟨Nat.le_of_ble_eq_true rfl, rfl⟩ eS_5 ?_
  exact x_vreturn (pc := 93) C dX7_builds_93 (of_s1 h)
set_option maxRecDepth 100000 in
set_option maxHeartbeats 4000000 in
theorem l_X7_manyNot0_4 {p : Program} {l : Launch} {e : Env} {s : State} {m : MethodId} {args : Array Value} {below : List Frame} {meth : Method} {c : Code} {G : zz_G} {L : Ly} {b : Nat} {Q : State → Prop} (C : CX p G s m args meth c cX7_manyNot0 yX7_manyNot0 4 (some .int)) (hO : isMo L) (v1 : Int32) (S : Sg) : ∀ (n : Nat) (v2 : Int32) (v3 : Int32) {z}, L_X7_manyNot0_4 v1 S n v2 v3 = some z → (∀ (v2_o : Int32), z = v2_o → X p l e (rmz 0 0) s m args below meth c 0 0 Q 4 G L b S 40 [(2, .int v2_o)] []) → X p l e (rmz 0 0) s m args below meth c 0 0 Q 4 G L b S 4 [(0, .ref (b + 140)), (1, .int v1), (2, .int v2), (3, .int v3)] [] := by
  intro n
  induction n with
  | zero =>
    intro v2 v3 z h
    exact of_none h
  | succ n ih =>
    intro v2 v3 z h hx
    rw [L_X7_manyNot0_4] at h
    refine x_iload_n (pc := 4) C 3 dX7_manyNot0_4 rfl ?_
    refine x_bipush (pc := 5) C (v := (10 : Int32)) dX7_manyNot0_5 rfl ?_
    refine x_icmp_ge (pc := 7) C 40 dX7_manyNot0_7 rfl (fun c_1 => ?_) (fun c_1 => ?_)
    · replace h := of_ifn c_1 h
      exact x_sub [2] rfl (hx _ (of_s1 h).symm)
    · replace h := of_ifp c_1 h
      refine x_iload_n (pc := 10) C 2 dX7_manyNot0_10 rfl ?_
      refine x_aload_n (pc := 11) C 0 dX7_manyNot0_11 rfl ?_
      refine x_getr (pc := 12) C (k := 14) 150 hO.1 rfl rfl wd_742 dX7_manyNot0_12 (Nat.le_of_ble_eq_true rfl) rfl ?_
      refine x_bipush (pc := 15) C (v := (10 : Int32)) dX7_manyNot0_15 rfl ?_
      refine x_iload_n (pc := 17) C 1 dX7_manyNot0_17 rfl ?_
      refine x_imul (pc := 18) C dX7_manyNot0_18 ?_
      refine x_iload_n (pc := 19) C 3 dX7_manyNot0_19 rfl ?_
      refine x_iadd (pc := 20) C dX7_manyNot0_20 ?_
      obtain ⟨g_1, h⟩ := of_gd h
      refine x_laload (pc := 21) C hO.2.2.2.2.2.2.2.2.2.2.1 g_1 dX7_manyNot0_21 ?_
      refine x_lconst (pc := 22) C (v := (0 : Int64)) dX7_manyNot0_22 rfl ?_
      obtain ⟨x_1, ex_1, h⟩ := of_lt h
      have kd_1 : X p l e (rmz 0 0) s m args below meth c 0 0 Q 4 G L b S 32 [(0, .ref (b + 140)), (1, .int v1), (3, .int v3)] [.int x_1, .int v2] := by
        refine x_iadd (pc := 32) C dX7_manyNot0_32 ?_
        obtain ⟨v2_1, ev2_1, h⟩ := of_lt h
        refine x_istore_n (pc := 33) C 2 [(2, .int v2_1), (0, .ref (b + 140)), (1, .int v1), (3, .int v3)] dX7_manyNot0_33 rfl (Nat.le_of_ble_eq_true rfl) ev2_1 rfl ?_
        obtain ⟨v3_1, ev3_1, h⟩ := of_lt h
        refine x_iinc (pc := 34) C (w := (1 : Int32)) 3 [(3, .int v3_1), (2, .int v2_1), (0, .ref (b + 140)), (1, .int v1)] dX7_manyNot0_34 rfl rfl (Nat.le_of_ble_eq_true rfl) ev3_1 rfl ?_
        refine x_goto (pc := 37) C 4 dX7_manyNot0_37 rfl ?_
        exact x_sub [2, 3, 1, 0] rfl (ih _ _ h hx)
      refine x_lcmp_eq (pc := 23) C 31 dX7_manyNot0_23 dX7_manyNot0_24 rfl (fun c_2 => ?_) (fun c_2 => ?_)
      · refine x_iconst (pc := 31) C (v := (0 : Int32)) dX7_manyNot0_31 rfl ?_
        refine x_sub [0, 1, 3] rfl ?_
        rw [show x_1 = (0 : Int32) from (ex_1.trans (if_pos c_2))] at kd_1
        exact kd_1
      · refine x_iconst (pc := 27) C (v := (1 : Int32)) dX7_manyNot0_27 rfl ?_
        refine x_goto (pc := 28) C 32 dX7_manyNot0_28 rfl ?_
        refine x_sub [0, 1, 3] rfl ?_
        rw [show x_1 = (1 : Int32) from (ex_1.trans (if_neg c_2))] at kd_1
        exact kd_1
set_option maxRecDepth 100000 in
set_option maxHeartbeats 4000000 in
theorem c_X7_manyNot0 {l : Launch} {G : zz_G} {L : Ly} {b : Nat} (p1 : Int32) (hO : isMo L) (S : Sg) (rf : Int32) (h : f_X7_manyNot0 p1 S = some rf) : Met l yX7_manyNot0 (Cond.code yX7_manyNot0 cX7_manyNot0 4 (some .int) :: zz_all) (rmz 0 0) (PC G L b S [.ref (b + 140), .int p1]) (QC G L b S (some (.int rf)) True) 0 0 (fun q => b ≤ q) := by
  refine x_met [.ref (b + 140), .int p1] (by decide +kernel) (Nat.le_of_ble_eq_true rfl) fun p e s m args below meth c C => ?_
  unfold f_X7_manyNot0 at h
  refine x_iconst (pc := 0) C (v := (0 : Int32)) dX7_manyNot0_0 rfl ?_
  refine x_istore_n (pc := 1) C 2 [(2, .int (0 : Int32)), (0, .ref (b + 140)), (1, .int p1)] dX7_manyNot0_1 rfl (Nat.le_of_ble_eq_true rfl) rfl rfl ?_
  refine x_iconst (pc := 2) C (v := (0 : Int32)) dX7_manyNot0_2 rfl ?_
  refine x_istore_n (pc := 3) C 3 [(3, .int (0 : Int32)), (2, .int (0 : Int32)), (0, .ref (b + 140)), (1, .int p1)] dX7_manyNot0_3 rfl (Nat.le_of_ble_eq_true rfl) rfl rfl ?_
  refine x_sub [2, 3, 1, 0] rfl ?_
  obtain ⟨z_hz_1, hz_1, h⟩ := of_bd h
  refine l_X7_manyNot0_4 C hO p1 S 400 _ _ hz_1 (fun v2_1 ez => ?_)
  subst z_hz_1
  refine x_iload_n (pc := 40) C 0 dX7_manyNot0_40 rfl ?_
  exact x_ireturn (pc := 41) C dX7_manyNot0_41 (of_s1 h) rfl
set_option maxRecDepth 100000 in
set_option maxHeartbeats 4000000 in
theorem l_X7_isAnyFixed_2 {p : Program} {l : Launch} {e : Env} {s : State} {m : MethodId} {args : Array Value} {below : List Frame} {meth : Method} {c : Code} {G : zz_G} {L : Ly} {b : Nat} (C : CX p G s m args meth c cX7_isAnyFixed yX7_isAnyFixed 2 (some .boolean)) (hO : isMo L) (S : Sg) (rf : Int32) : ∀ (n : Nat) (v1 : Int32) {z}, L_X7_isAnyFixed_2 S n v1 = some z → (∀ q, z = .inl q → q = rf) → (z = .inr () → X p l e (rmz 1 23) s m args below meth c 0 0 (RQ G L b S below args s (some (.int rf)) (rf = 0 ∨ rf = 1)) 2 G L b S 27 [] []) → X p l e (rmz 1 23) s m args below meth c 0 0 (RQ G L b S below args s (some (.int rf)) (rf = 0 ∨ rf = 1)) 2 G L b S 2 [(0, .ref (b + 140)), (1, .int v1)] [] := by
  intro n
  induction n with
  | zero =>
    intro v1 z h
    exact of_none h
  | succ n ih =>
    intro v1 z h hr hx
    rw [L_X7_isAnyFixed_2] at h
    refine x_iload_n (pc := 2) C 1 dX7_isAnyFixed_2 rfl ?_
    refine x_aload_n (pc := 3) C 0 dX7_isAnyFixed_3 rfl ?_
    refine x_geti (pc := 4) C (k := 19) hO.1 rfl rfl wd_747 dX7_isAnyFixed_4 ⟨Nat.le_of_ble_eq_true rfl, rfl⟩ ?_
    refine x_icmp_ge (pc := 7) C 27 dX7_isAnyFixed_7 rfl (fun c_1 => ?_) (fun c_1 => ?_)
    · replace h := of_ifn c_1 h
      exact x_sub [] rfl (hx (of_s1 h).symm)
    · replace h := of_ifp c_1 h
      refine x_aload_n (pc := 10) C 0 dX7_isAnyFixed_10 rfl ?_
      refine x_iload_n (pc := 11) C 1 dX7_isAnyFixed_11 rfl ?_
      obtain ⟨r_1, hc_1, h⟩ := of_bd h
      refine x_callV1 (pc := 12) C (o := 140) [.int v1] [] (c_X7_manyNot0 (b := b) v1 hO S _ hc_1) cw_X7_149 vi_X7_manyNot0 ⟨rfl, rfl, Nat.le_of_ble_eq_true rfl, Nat.le_of_ble_eq_true rfl⟩ ⟨Nat.le_refl _, Nat.le_refl _⟩ hO.1 ⟨rfl, rfl, rfl⟩ rfl ⟨rfl, Nat.le_of_ble_eq_true rfl⟩ dX7_isAnyFixed_12 (fun hx_1 => ?_)
      refine x_iconst (pc := 15) C (v := (1 : Int32)) dX7_isAnyFixed_15 rfl ?_
      refine x_icmp_ne (pc := 16) C 21 dX7_isAnyFixed_16 rfl (fun c_2 => ?_) (fun c_2 => ?_)
      · replace h := of_ifn c_2 h
        obtain ⟨v1_1, ev1_1, h⟩ := of_lt h
        refine x_iinc (pc := 21) C (w := (1 : Int32)) 1 [(1, .int v1_1), (0, .ref (b + 140))] dX7_isAnyFixed_21 rfl rfl (Nat.le_of_ble_eq_true rfl) ev1_1 rfl ?_
        refine x_goto (pc := 24) C 2 dX7_isAnyFixed_24 rfl ?_
        exact x_sub [1, 0] rfl (ih _ h hr hx)
      · replace h := of_ifp c_2 h
        refine x_iconst (pc := 19) C (v := (1 : Int32)) dX7_isAnyFixed_19 rfl ?_
        have hq := hr _ (of_s1 h).symm
        exact x_zreturn (pc := 20) C (by decide) dX7_isAnyFixed_20 hq rfl
set_option maxRecDepth 100000 in
set_option maxHeartbeats 4000000 in
theorem c_X7_isAnyFixed {l : Launch} {G : zz_G} {L : Ly} {b : Nat} (hO : isMo L) (S : Sg) (rf : Int32) (h : f_X7_isAnyFixed S = some rf) : Met l yX7_isAnyFixed (Cond.code yX7_isAnyFixed cX7_isAnyFixed 2 (some .boolean) :: zz_all) (rmz 1 23) (PC G L b S [.ref (b + 140)]) (QC G L b S (some (.int rf)) (rf = 0 ∨ rf = 1)) 0 0 (fun q => b ≤ q) := by
  refine x_met [.ref (b + 140)] (by decide +kernel) (Nat.le_of_ble_eq_true rfl) fun p e s m args below meth c C => ?_
  unfold f_X7_isAnyFixed at h
  refine x_iconst (pc := 0) C (v := (0 : Int32)) dX7_isAnyFixed_0 rfl ?_
  refine x_istore_n (pc := 1) C 1 [(1, .int (0 : Int32)), (0, .ref (b + 140))] dX7_isAnyFixed_1 rfl (Nat.le_of_ble_eq_true rfl) rfl rfl ?_
  refine x_sub [1, 0] rfl ?_
  obtain ⟨z_hz_1, hz_1, hl, hrr⟩ := of_bs h
  refine l_X7_isAnyFixed_2 C hO S rf 400 _ hz_1 (fun q ez => of_s1 (hl _ ez)) (fun ez => ?_)
  replace h := hrr _ ez
  clear hl hrr
  refine x_iconst (pc := 27) C (v := (0 : Int32)) dX7_isAnyFixed_27 rfl ?_
  exact x_zreturn (pc := 28) C (by decide) dX7_isAnyFixed_28 (of_s1 h) rfl
set_option maxRecDepth 100000 in
set_option maxHeartbeats 4000000 in
theorem l_X7_isAnyPaired_25 {p : Program} {l : Launch} {e : Env} {s : State} {m : MethodId} {args : Array Value} {below : List Frame} {meth : Method} {c : Code} {G : zz_G} {L : Ly} {b : Nat} (C : CX p G s m args meth c cX7_isAnyPaired yX7_isAnyPaired 3 (some .boolean)) (hO : isMo L) (v1 : Int32) (S : Sg) (rf : Int32) : ∀ (n : Nat) (v2 : Int32) {z}, L_X7_isAnyPaired_25 v1 S n v2 = some z → (∀ q, z = .inl q → q = rf) → (z = .inr () → X p l e (rmz 2 46) s m args below meth c 0 0 (RQ G L b S below args s (some (.int rf)) (rf = 0 ∨ rf = 1)) 3 G L b S 50 [(0, .ref (b + 140)), (1, .int v1)] []) → X p l e (rmz 2 46) s m args below meth c 0 0 (RQ G L b S below args s (some (.int rf)) (rf = 0 ∨ rf = 1)) 3 G L b S 25 [(0, .ref (b + 140)), (1, .int v1), (2, .int v2)] [] := by
  intro n
  induction n with
  | zero =>
    intro v2 z h
    exact of_none h
  | succ n ih =>
    intro v2 z h hr hx
    rw [L_X7_isAnyPaired_25] at h
    refine x_iload_n (pc := 25) C 2 dX7_isAnyPaired_25 rfl ?_
    refine x_aload_n (pc := 26) C 0 dX7_isAnyPaired_26 rfl ?_
    refine x_geti (pc := 27) C (k := 19) hO.1 rfl rfl wd_747 dX7_isAnyPaired_27 ⟨Nat.le_of_ble_eq_true rfl, rfl⟩ ?_
    refine x_icmp_ge (pc := 30) C 50 dX7_isAnyPaired_30 rfl (fun c_1 => ?_) (fun c_1 => ?_)
    · replace h := of_ifn c_1 h
      exact x_sub [0, 1] rfl (hx (of_s1 h).symm)
    · replace h := of_ifp c_1 h
      refine x_aload_n (pc := 33) C 0 dX7_isAnyPaired_33 rfl ?_
      refine x_iload_n (pc := 34) C 1 dX7_isAnyPaired_34 rfl ?_
      refine x_iload_n (pc := 35) C 2 dX7_isAnyPaired_35 rfl ?_
      obtain ⟨r_1, hc_1, h⟩ := of_bd h
      refine x_callV1 (pc := 36) C (o := 140) [.int v1, .int v2] [] (c_X7_areAlike (b := b) v1 v2 hO S _ hc_1) cw_X7_157 vi_X7_areAlike ⟨rfl, rfl, Nat.le_of_ble_eq_true rfl, Nat.le_of_ble_eq_true rfl⟩ ⟨Nat.le_refl _, Nat.le_refl _⟩ hO.1 ⟨rfl, rfl, rfl⟩ rfl ⟨rfl, Nat.le_of_ble_eq_true rfl⟩ dX7_isAnyPaired_36 (fun hx_1 => ?_)
      refine x_if_eq (pc := 39) C 44 dX7_isAnyPaired_39 rfl (fun c_2 => ?_) (fun c_2 => ?_)
      · replace h := of_ifp c_2 h
        obtain ⟨v2_1, ev2_1, h⟩ := of_lt h
        refine x_iinc (pc := 44) C (w := (1 : Int32)) 2 [(2, .int v2_1), (0, .ref (b + 140)), (1, .int v1)] dX7_isAnyPaired_44 rfl rfl (Nat.le_of_ble_eq_true rfl) ev2_1 rfl ?_
        refine x_goto (pc := 47) C 25 dX7_isAnyPaired_47 rfl ?_
        exact x_sub [1, 2, 0] rfl (ih _ h hr hx)
      · replace h := of_ifn c_2 h
        refine x_iconst (pc := 42) C (v := (1 : Int32)) dX7_isAnyPaired_42 rfl ?_
        have hq := hr _ (of_s1 h).symm
        exact x_zreturn (pc := 43) C (by decide) dX7_isAnyPaired_43 hq rfl
set_option maxRecDepth 100000 in
set_option maxHeartbeats 4000000 in
theorem l_X7_isAnyPaired_2 {p : Program} {l : Launch} {e : Env} {s : State} {m : MethodId} {args : Array Value} {below : List Frame} {meth : Method} {c : Code} {G : zz_G} {L : Ly} {b : Nat} (C : CX p G s m args meth c cX7_isAnyPaired yX7_isAnyPaired 3 (some .boolean)) (hO : isMo L) (S : Sg) (rf : Int32) : ∀ (n : Nat) (v1 : Int32) {z}, L_X7_isAnyPaired_2 S n v1 = some z → (∀ q, z = .inl q → q = rf) → (z = .inr () → X p l e (rmz 2 46) s m args below meth c 0 0 (RQ G L b S below args s (some (.int rf)) (rf = 0 ∨ rf = 1)) 3 G L b S 56 [] []) → X p l e (rmz 2 46) s m args below meth c 0 0 (RQ G L b S below args s (some (.int rf)) (rf = 0 ∨ rf = 1)) 3 G L b S 2 [(0, .ref (b + 140)), (1, .int v1)] [] := by
  intro n
  induction n with
  | zero =>
    intro v1 z h
    exact of_none h
  | succ n ih =>
    intro v1 z h hr hx
    rw [L_X7_isAnyPaired_2] at h
    refine x_iload_n (pc := 2) C 1 dX7_isAnyPaired_2 rfl ?_
    refine x_aload_n (pc := 3) C 0 dX7_isAnyPaired_3 rfl ?_
    refine x_geti (pc := 4) C (k := 19) hO.1 rfl rfl wd_747 dX7_isAnyPaired_4 ⟨Nat.le_of_ble_eq_true rfl, rfl⟩ ?_
    refine x_icmp_ge (pc := 7) C 56 dX7_isAnyPaired_7 rfl (fun c_1 => ?_) (fun c_1 => ?_)
    · replace h := of_ifn c_1 h
      exact x_sub [] rfl (hx (of_s1 h).symm)
    · replace h := of_ifp c_1 h
      refine x_aload_n (pc := 10) C 0 dX7_isAnyPaired_10 rfl ?_
      refine x_iload_n (pc := 11) C 1 dX7_isAnyPaired_11 rfl ?_
      obtain ⟨r_1, hc_1, h⟩ := of_bd h
      refine x_callV1 (pc := 12) C (o := 140) [.int v1] [] (c_X7_manyNot0 (b := b) v1 hO S _ hc_1) cw_X7_149 vi_X7_manyNot0 ⟨rfl, rfl, Nat.le_of_ble_eq_true rfl, Nat.le_of_ble_eq_true rfl⟩ ⟨Nat.le_refl _, Nat.le_refl _⟩ hO.1 ⟨rfl, rfl, rfl⟩ rfl ⟨rfl, Nat.le_of_ble_eq_true rfl⟩ dX7_isAnyPaired_12 (fun hx_1 => ?_)
      refine x_iconst (pc := 15) C (v := (2 : Int32)) dX7_isAnyPaired_15 rfl ?_
      refine x_icmp_ne (pc := 16) C 21 dX7_isAnyPaired_16 rfl (fun c_2 => ?_) (fun c_2 => ?_)
      · replace h := of_ifn c_2 h
        refine x_iload_n (pc := 21) C 1 dX7_isAnyPaired_21 rfl ?_
        refine x_iconst (pc := 22) C (v := (1 : Int32)) dX7_isAnyPaired_22 rfl ?_
        refine x_iadd (pc := 23) C dX7_isAnyPaired_23 ?_
        obtain ⟨v2_1, ev2_1, h⟩ := of_lt h
        refine x_istore_n (pc := 24) C 2 [(2, .int v2_1), (0, .ref (b + 140)), (1, .int v1)] dX7_isAnyPaired_24 rfl (Nat.le_of_ble_eq_true rfl) ev2_1 rfl ?_
        refine x_sub [1, 2, 0] rfl ?_
        obtain ⟨z_hz_1, hz_1, hl, hrr⟩ := of_bs h
        refine l_X7_isAnyPaired_25 C hO v1 S rf 400 _ hz_1 (fun q ez => hr _ (of_s1 (hl _ ez)).symm) (fun ez => ?_)
        replace h := hrr _ ez
        clear hl hrr
        obtain ⟨v1_1, ev1_1, h⟩ := of_lt h
        refine x_iinc (pc := 50) C (w := (1 : Int32)) 1 [(1, .int v1_1), (0, .ref (b + 140))] dX7_isAnyPaired_50 rfl rfl (Nat.le_of_ble_eq_true rfl) ev1_1 rfl ?_
        refine x_goto (pc := 53) C 2 dX7_isAnyPaired_53 rfl ?_
        exact x_sub [1, 0] rfl (ih _ h hr hx)
      · replace h := of_ifp c_2 h
        refine x_iconst (pc := 19) C (v := (1 : Int32)) dX7_isAnyPaired_19 rfl ?_
        have hq := hr _ (of_s1 h).symm
        exact x_zreturn (pc := 20) C (by decide) dX7_isAnyPaired_20 hq rfl
set_option maxRecDepth 100000 in
set_option maxHeartbeats 4000000 in
theorem c_X7_isAnyPaired {l : Launch} {G : zz_G} {L : Ly} {b : Nat} (hO : isMo L) (S : Sg) (rf : Int32) (h : f_X7_isAnyPaired S = some rf) : Met l yX7_isAnyPaired (Cond.code yX7_isAnyPaired cX7_isAnyPaired 3 (some .boolean) :: zz_all) (rmz 2 46) (PC G L b S [.ref (b + 140)]) (QC G L b S (some (.int rf)) (rf = 0 ∨ rf = 1)) 0 0 (fun q => b ≤ q) := by
  refine x_met [.ref (b + 140)] (by decide +kernel) (Nat.le_of_ble_eq_true rfl) fun p e s m args below meth c C => ?_
  unfold f_X7_isAnyPaired at h
  refine x_iconst (pc := 0) C (v := (0 : Int32)) dX7_isAnyPaired_0 rfl ?_
  refine x_istore_n (pc := 1) C 1 [(1, .int (0 : Int32)), (0, .ref (b + 140))] dX7_isAnyPaired_1 rfl (Nat.le_of_ble_eq_true rfl) rfl rfl ?_
  refine x_sub [1, 0] rfl ?_
  obtain ⟨z_hz_1, hz_1, hl, hrr⟩ := of_bs h
  refine l_X7_isAnyPaired_2 C hO S rf 400 _ hz_1 (fun q ez => of_s1 (hl _ ez)) (fun ez => ?_)
  replace h := hrr _ ez
  clear hl hrr
  refine x_iconst (pc := 56) C (v := (0 : Int32)) dX7_isAnyPaired_56 rfl ?_
  exact x_zreturn (pc := 57) C (by decide) dX7_isAnyPaired_57 (of_s1 h) rfl
set_option maxRecDepth 100000 in
set_option maxHeartbeats 4000000 in
theorem c_X7_isForbidden {l : Launch} {G : zz_G} {L : Ly} {b : Nat} (p1 : Int32) (p2 : Int32) (hO : isMo L) (S : Sg) (rf : Int32) (h : f_X7_isForbidden p1 p2 S = some rf) : Met l yX7_isForbidden (Cond.code yX7_isForbidden cX7_isForbidden 3 (some .boolean) :: zz_all) (rmz 3 68) (PC G L b S [.ref (b + 140), .int p1, .int p2]) (QC G L b S (some (.int rf)) (rf = 0 ∨ rf = 1)) 0 0 (fun q => b ≤ q) := by
  refine x_met [.ref (b + 140), .int p1, .int p2] (by decide +kernel) (Nat.le_of_ble_eq_true rfl) fun p e s m args below meth c C => ?_
  unfold f_X7_isForbidden at h
  refine x_aload_n (pc := 0) C 0 dX7_isForbidden_0 rfl ?_
  obtain ⟨r_1, hc_1, h⟩ := of_bd h
  refine x_callV1 (pc := 1) C (o := 140) [] [] (c_X7_isAnyFixed (b := b) hO S _ hc_1) cw_X7_160 vi_X7_isAnyFixed ⟨rfl, rfl, Nat.le_of_ble_eq_true rfl, Nat.le_of_ble_eq_true rfl⟩ ⟨Nat.le_refl _, Nat.le_refl _⟩ hO.1 ⟨rfl, rfl, rfl⟩ rfl ⟨rfl, Nat.le_of_ble_eq_true rfl⟩ dX7_isForbidden_1 (fun hx_1 => ?_)
  refine x_if_eq (pc := 4) C 9 dX7_isForbidden_4 rfl (fun c_1 => ?_) (fun c_1 => ?_)
  · replace h := of_ifp c_1 h
    refine x_iload_n (pc := 9) C 1 dX7_isForbidden_9 rfl ?_
    refine x_iconst (pc := 10) C (v := (1 : Int32)) dX7_isForbidden_10 rfl ?_
    refine x_icmp_ne (pc := 11) C 33 dX7_isForbidden_11 rfl (fun c_2 => ?_) (fun c_2 => ?_)
    · replace h := of_ifn c_2 h
      refine x_iload_n (pc := 33) C 1 dX7_isForbidden_33 rfl ?_
      refine x_iconst (pc := 34) C (v := (2 : Int32)) dX7_isForbidden_34 rfl ?_
      refine x_icmp_ne (pc := 35) C 45 dX7_isForbidden_35 rfl (fun c_3 => ?_) (fun c_3 => ?_)
      · replace h := of_ifn c_3 h
        refine x_iload_n (pc := 45) C 1 dX7_isForbidden_45 rfl ?_
        refine x_iconst (pc := 46) C (v := (3 : Int32)) dX7_isForbidden_46 rfl ?_
        obtain ⟨x_1, ex_1, h⟩ := of_lt h
        have kd_1 : X p l e (rmz 3 68) s m args below meth c 0 0 (RQ G L b S below args s (some (.int rf)) (rf = 0 ∨ rf = 1)) 3 G L b S 63 [] [.int x_1] := by
          exact x_zreturn (pc := 63) C (ex_1 ▸ (if01 (if01 (by decide) (by decide)) (by decide))) dX7_isForbidden_63 (of_s1 h) rfl
        refine x_icmp_ne (pc := 47) C 62 dX7_isForbidden_47 rfl (fun c_4 => ?_) (fun c_4 => ?_)
        · refine x_iconst (pc := 62) C (v := (0 : Int32)) dX7_isForbidden_62 rfl ?_
          refine x_sub [] rfl ?_
          rw [show x_1 = (0 : Int32) from (ex_1.trans (if_neg c_4))] at kd_1
          exact kd_1
        · refine x_aload_n (pc := 50) C 0 dX7_isForbidden_50 rfl ?_
          refine x_geti (pc := 51) C (k := 19) hO.1 rfl rfl wd_747 dX7_isForbidden_51 ⟨Nat.le_of_ble_eq_true rfl, rfl⟩ ?_
          refine x_iload_n (pc := 54) C 2 dX7_isForbidden_54 rfl ?_
          refine x_icmp_le (pc := 55) C 62 dX7_isForbidden_55 rfl (fun c_5 => ?_) (fun c_5 => ?_)
          · refine x_iconst (pc := 62) C (v := (0 : Int32)) dX7_isForbidden_62 rfl ?_
            refine x_sub [] rfl ?_
            rw [show x_1 = (0 : Int32) from ((ex_1.trans (if_pos c_4)).trans (if_neg c_5))] at kd_1
            exact kd_1
          · refine x_iconst (pc := 58) C (v := (1 : Int32)) dX7_isForbidden_58 rfl ?_
            refine x_goto (pc := 59) C 63 dX7_isForbidden_59 rfl ?_
            refine x_sub [] rfl ?_
            rw [show x_1 = (1 : Int32) from ((ex_1.trans (if_pos c_4)).trans (if_pos c_5))] at kd_1
            exact kd_1
      · replace h := of_ifp c_3 h
        refine x_aload_n (pc := 38) C 0 dX7_isForbidden_38 rfl ?_
        obtain ⟨r_2, hc_2, h⟩ := of_bd h
        refine x_callV1 (pc := 39) C (o := 140) [] [] (c_X7_isAnyPaired (b := b) hO S _ hc_2) cw_X7_164 vi_X7_isAnyPaired ⟨rfl, rfl, Nat.le_of_ble_eq_true rfl, Nat.le_of_ble_eq_true rfl⟩ ⟨Nat.le_refl _, Nat.le_refl _⟩ hO.1 ⟨rfl, rfl, rfl⟩ rfl ⟨rfl, Nat.le_of_ble_eq_true rfl⟩ dX7_isForbidden_39 (fun hx_2 => ?_)
        refine x_goto (pc := 42) C 63 dX7_isForbidden_42 rfl ?_
        exact x_zreturn (pc := 63) C hx_2 dX7_isForbidden_63 (of_s1 h) rfl
    · replace h := of_ifp c_2 h
      refine x_aload_n (pc := 14) C 0 dX7_isForbidden_14 rfl ?_
      refine x_geti (pc := 15) C (k := 12) hO.1 rfl rfl wd_740 dX7_isForbidden_15 ⟨Nat.le_of_ble_eq_true rfl, rfl⟩ ?_
      refine x_iconst (pc := 18) C (v := (2 : Int32)) dX7_isForbidden_18 rfl ?_
      refine x_bipush (pc := 19) C (v := (6 : Int32)) dX7_isForbidden_19 rfl ?_
      refine x_callS1 (pc := 21) C [.int (S.1 140 12), .int (2 : Int32), .int (6 : Int32)] [] (c_X7_isIn (b := b) (S.1 140 12) (2 : Int32) (6 : Int32) S) cw_X7_96 vs_X7_isIn ⟨rfl, rfl, Nat.le_of_ble_eq_true rfl, Nat.le_of_ble_eq_true rfl⟩ ⟨Nat.le_refl _, Nat.le_refl _⟩ rfl ⟨rfl, Nat.le_of_ble_eq_true rfl⟩ dX7_isForbidden_21 (fun hx_3 => ?_)
      obtain ⟨x_2, ex_2, h⟩ := of_lt h
      have kd_2 : X p l e (rmz 3 68) s m args below meth c 0 0 (RQ G L b S below args s (some (.int rf)) (rf = 0 ∨ rf = 1)) 3 G L b S 32 [] [.int x_2] := by
        exact x_zreturn (pc := 32) C (ex_2 ▸ (if01 (by decide) (by decide))) dX7_isForbidden_32 (of_s1 h) rfl
      refine x_if_ne (pc := 24) C 31 dX7_isForbidden_24 rfl (fun c_6 => ?_) (fun c_6 => ?_)
      · refine x_iconst (pc := 31) C (v := (0 : Int32)) dX7_isForbidden_31 rfl ?_
        refine x_sub [] rfl ?_
        rw [show x_2 = (0 : Int32) from (ex_2.trans (if_neg c_6))] at kd_2
        exact kd_2
      · refine x_iconst (pc := 27) C (v := (1 : Int32)) dX7_isForbidden_27 rfl ?_
        refine x_goto (pc := 28) C 32 dX7_isForbidden_28 rfl ?_
        refine x_sub [] rfl ?_
        rw [show x_2 = (1 : Int32) from (ex_2.trans (if_pos c_6))] at kd_2
        exact kd_2
  · replace h := of_ifn c_1 h
    refine x_iconst (pc := 7) C (v := (1 : Int32)) dX7_isForbidden_7 rfl ?_
    exact x_zreturn (pc := 8) C (by decide) dX7_isForbidden_8 (of_s1 h) rfl
