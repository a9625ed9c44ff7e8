set_option maxRecDepth 100000 in
set_option maxHeartbeats 4000000 in
theorem c_X2_misfitOf {l : Launch} {G : zz_G} {L : Ly} {b : Nat} (p0 : Int32) (p1 : Int32) (p2 : Int32) (S : Sg) : Met l yX2_misfitOf (Cond.code yX2_misfitOf cX2_misfitOf 5 (some .int) :: zz_all) (rmz 0 0) (PC G L b S [.int p0, .int p1, .int p2]) (QC G L b S (some (.int (f_X2_misfitOf p0 p1 p2))) True) 0 0 (fun q => b ≤ q) := by
  refine x_met [.int p0, .int p1, .int p2] (by decide +kernel) (Nat.le_of_ble_eq_true rfl) fun p e s m args below meth c C => ?_
  generalize h : f_X2_misfitOf p0 p1 p2 = rf
  unfold f_X2_misfitOf at h
  refine x_iload_n (pc := 0) C 0 dX2_misfitOf_0 rfl ?_
  obtain ⟨J_1, eJ_1, h⟩ := of_lt h
  have kJ_1 : ∀ (_ : Unit), J_1 () = rf → X p l e (rmz 0 0) s m args below meth c 0 0 (RQ G L b S below args s (some (.int rf)) True) 5 G L b S 17 [(0, .int p0), (1, .int p1), (2, .int p2)] [] := by
    intro _ h
    replace h := of_J1 eJ_1 h
    refine x_iload_n (pc := 17) C 0 dX2_misfitOf_17 rfl ?_
    obtain ⟨x_1, ex_1, h⟩ := of_lt h
    have kd_1 : X p l e (rmz 0 0) s m args below meth c 0 0 (RQ G L b S below args s (some (.int rf)) True) 5 G L b S 26 [(0, .int p0), (1, .int p1), (2, .int p2)] [.int x_1] := by
      refine x_istore_n (pc := 26) C 3 [(3, .int x_1), (0, .int p0), (1, .int p1), (2, .int p2)] dX2_misfitOf_26 rfl (Nat.le_of_ble_eq_true rfl) rfl rfl ?_
      refine x_iload_n (pc := 27) C 2 dX2_misfitOf_27 rfl ?_
      refine x_iconst (pc := 28) C (v := (1 : Int32)) dX2_misfitOf_28 rfl ?_
      refine x_icmp_lt (pc := 29) C 41 dX2_misfitOf_29 rfl (fun c_1 => ?_) (fun c_1 => ?_)
      · replace h := of_ifp c_1 h
        refine x_bipush (pc := 41) C (v := (-4 : Int32)) dX2_misfitOf_41 rfl ?_
        exact x_ireturn (pc := 43) C dX2_misfitOf_43 h rfl
      · replace h := of_ifn c_1 h
        refine x_iload_n (pc := 32) C 0 dX2_misfitOf_32 rfl ?_
        obtain ⟨J_2, eJ_2, h⟩ := of_lt h
        have kJ_2 : ∀ (_ : Unit), J_2 () = rf → X p l e (rmz 0 0) s m args below meth c 0 0 (RQ G L b S below args s (some (.int rf)) True) 5 G L b S 44 [(0, .int p0), (1, .int p1), (2, .int p2), (3, .int x_1)] [] := by
          intro _ h
          replace h := of_J1 eJ_2 h
          refine x_iload_n (pc := 44) C 0 dX2_misfitOf_44 rfl ?_
          refine x_iconst (pc := 45) C (v := (2 : Int32)) dX2_misfitOf_45 rfl ?_
          obtain ⟨x_2, ex_2, h⟩ := of_lt h
          have kd_2 : X p l e (rmz 0 0) s m args below meth c 0 0 (RQ G L b S below args s (some (.int rf)) True) 5 G L b S 56 [(0, .int p0), (1, .int p1), (2, .int p2), (3, .int x_1)] [.int x_2] := by
            refine x_istore (pc := 56) C [(4, .int x_2), (0, .int p0), (1, .int p1), (2, .int p2), (3, .int x_1)] dX2_misfitOf_56 (Nat.le_of_ble_eq_true rfl) rfl rfl ?_
            refine x_iload_n (pc := 58) C 2 dX2_misfitOf_58 rfl ?_
            refine x_sipush (pc := 59) C (v := (255 : Int32)) dX2_misfitOf_59 rfl ?_
            refine x_icmp_gt (pc := 62) C 75 dX2_misfitOf_62 rfl (fun c_2 => ?_) (fun c_2 => ?_)
            · replace h := of_ifp c_2 h
              refine x_bipush (pc := 75) C (v := (-6 : Int32)) dX2_misfitOf_75 rfl ?_
              exact x_ireturn (pc := 77) C dX2_misfitOf_77 h rfl
            · replace h := of_ifn c_2 h
              refine x_iload_n (pc := 65) C 4 dX2_misfitOf_65 rfl ?_
              obtain ⟨J_3, eJ_3, h⟩ := of_lt h
              have kJ_3 : ∀ (_ : Unit), J_3 () = rf → X p l e (rmz 0 0) s m args below meth c 0 0 (RQ G L b S below args s (some (.int rf)) True) 5 G L b S 78 [(0, .int p0), (1, .int p1), (2, .int p2)] [] := by
                intro _ h
                replace h := of_J1 eJ_3 h
                refine x_iload_n (pc := 78) C 0 dX2_misfitOf_78 rfl ?_
                refine x_iconst (pc := 79) C (v := (1 : Int32)) dX2_misfitOf_79 rfl ?_
                obtain ⟨x_3, ex_3, h⟩ := of_lt h
                have kd_3 : X p l e (rmz 0 0) s m args below meth c 0 0 (RQ G L b S below args s (some (.int rf)) True) 5 G L b S 95 [] [.int x_3] := by
                  exact x_ireturn (pc := 95) C dX2_misfitOf_95 h rfl
                refine x_icmp_ne (pc := 80) C 94 dX2_misfitOf_80 rfl (fun c_3 => ?_) (fun c_3 => ?_)
                · refine x_iconst (pc := 94) C (v := (0 : Int32)) dX2_misfitOf_94 rfl ?_
                  refine x_sub [] rfl ?_
                  rw [show x_3 = (0 : Int32) from (ex_3.trans (if_neg c_3))] at kd_3
                  exact kd_3
                · refine x_iload_n (pc := 83) C 1 dX2_misfitOf_83 rfl ?_
                  refine x_iload_n (pc := 84) C 2 dX2_misfitOf_84 rfl ?_
                  refine x_iand (pc := 85) C dX2_misfitOf_85 ?_
                  refine x_if_eq (pc := 86) C 94 dX2_misfitOf_86 rfl (fun c_4 => ?_) (fun c_4 => ?_)
                  · refine x_iconst (pc := 94) C (v := (0 : Int32)) dX2_misfitOf_94 rfl ?_
                    refine x_sub [] rfl ?_
                    rw [show x_3 = (0 : Int32) from ((ex_3.trans (if_pos c_3)).trans (if_pos c_4))] at kd_3
                    exact kd_3
                  · refine x_bipush (pc := 89) C (v := (-3 : Int32)) dX2_misfitOf_89 rfl ?_
                    refine x_goto (pc := 91) C 95 dX2_misfitOf_91 rfl ?_
                    refine x_sub [] rfl ?_
                    rw [show x_3 = (-3 : Int32) from ((ex_3.trans (if_pos c_3)).trans (if_neg c_4))] at kd_3
                    exact kd_3
              refine x_if_eq (pc := 66) C 78 dX2_misfitOf_66 rfl (fun c_5 => ?_) (fun c_5 => ?_)
              · replace h := of_ifp c_5 h
                exact x_sub [1, 2, 3] rfl (kJ_3 () h)
              · replace h := of_ifn c_5 h
                refine x_iload_n (pc := 69) C 3 dX2_misfitOf_69 rfl ?_
                refine x_iload (pc := 70) C 0 dX2_misfitOf_70 rfl ?_
                refine x_icmp_le (pc := 72) C 78 dX2_misfitOf_72 rfl (fun c_6 => ?_) (fun c_6 => ?_)
                · replace h := of_ifn c_6 h
                  exact x_sub [1, 2, 3] rfl (kJ_3 () h)
                · replace h := of_ifp c_6 h
                  refine x_bipush (pc := 75) C (v := (-6 : Int32)) dX2_misfitOf_75 rfl ?_
                  exact x_ireturn (pc := 77) C dX2_misfitOf_77 h rfl
          refine x_icmp_ne (pc := 46) C 53 dX2_misfitOf_46 rfl (fun c_7 => ?_) (fun c_7 => ?_)
          · refine x_sipush (pc := 53) C (v := (255 : Int32)) dX2_misfitOf_53 rfl ?_
            refine x_sub [0, 1, 2, 3] rfl ?_
            rw [show x_2 = (255 : Int32) from (ex_2.trans (if_neg c_7))] at kd_2
            exact kd_2
          · refine x_iconst (pc := 49) C (v := (3 : Int32)) dX2_misfitOf_49 rfl ?_
            refine x_goto (pc := 50) C 56 dX2_misfitOf_50 rfl ?_
            refine x_sub [0, 1, 2, 3] rfl ?_
            rw [show x_2 = (3 : Int32) from (ex_2.trans (if_pos c_7))] at kd_2
            exact kd_2
        refine x_if_eq (pc := 33) C 44 dX2_misfitOf_33 rfl (fun c_8 => ?_) (fun c_8 => ?_)
        · replace h := of_ifp c_8 h
          exact x_sub [1, 2, 3, 0] rfl (kJ_2 () h)
        · replace h := of_ifn c_8 h
          refine x_iload_n (pc := 36) C 3 dX2_misfitOf_36 rfl ?_
          refine x_iconst (pc := 37) C (v := (1 : Int32)) dX2_misfitOf_37 rfl ?_
          refine x_icmp_ge (pc := 38) C 44 dX2_misfitOf_38 rfl (fun c_9 => ?_) (fun c_9 => ?_)
          · replace h := of_ifn c_9 h
            exact x_sub [1, 2, 3, 0] rfl (kJ_2 () h)
          · replace h := of_ifp c_9 h
            refine x_bipush (pc := 41) C (v := (-4 : Int32)) dX2_misfitOf_41 rfl ?_
            exact x_ireturn (pc := 43) C dX2_misfitOf_43 h rfl
    refine x_if_eq (pc := 18) C 25 dX2_misfitOf_18 rfl (fun c_10 => ?_) (fun c_10 => ?_)
    · refine x_iconst (pc := 25) C (v := (0 : Int32)) dX2_misfitOf_25 rfl ?_
      refine x_sub [0, 1, 2] rfl ?_
      rw [show x_1 = (0 : Int32) from (ex_1.trans (if_pos c_10))] at kd_1
      exact kd_1
    · refine x_iconst (pc := 21) C (v := (1 : Int32)) dX2_misfitOf_21 rfl ?_
      refine x_goto (pc := 22) C 26 dX2_misfitOf_22 rfl ?_
      refine x_sub [0, 1, 2] rfl ?_
      rw [show x_1 = (1 : Int32) from (ex_1.trans (if_neg c_10))] at kd_1
      exact kd_1
  refine x_if_eq (pc := 1) C 17 dX2_misfitOf_1 rfl (fun c_11 => ?_) (fun c_11 => ?_)
  · replace h := of_ifp c_11 h
    exact x_sub [0, 1, 2] rfl (kJ_1 () h)
  · replace h := of_ifn c_11 h
    refine x_iload_n (pc := 4) C 0 dX2_misfitOf_4 rfl ?_
    refine x_iconst (pc := 5) C (v := (1 : Int32)) dX2_misfitOf_5 rfl ?_
    refine x_icmp_eq (pc := 6) C 17 dX2_misfitOf_6 rfl (fun c_12 => ?_) (fun c_12 => ?_)
    · replace h := of_ifp c_12 h
      exact x_sub [0, 1, 2] rfl (kJ_1 () h)
    · replace h := of_ifn c_12 h
      refine x_iload_n (pc := 9) C 0 dX2_misfitOf_9 rfl ?_
      refine x_iconst (pc := 10) C (v := (2 : Int32)) dX2_misfitOf_10 rfl ?_
      refine x_icmp_eq (pc := 11) C 17 dX2_misfitOf_11 rfl (fun c_13 => ?_) (fun c_13 => ?_)
      · replace h := of_ifp c_13 h
        exact x_sub [0, 1, 2] rfl (kJ_1 () h)
      · replace h := of_ifn c_13 h
        refine x_bipush (pc := 14) C (v := (-2 : Int32)) dX2_misfitOf_14 rfl ?_
        exact x_ireturn (pc := 16) C dX2_misfitOf_16 h rfl
set_option maxRecDepth 100000 in
set_option maxHeartbeats 4000000 in
theorem l_X4_firstIn_2 {p : Program} {l : Launch} {e : Env} {s : State} {m : MethodId} {args : Array Value} {below : List Frame} {meth : Method} {c : Code} {G : zz_G} {L : Ly} {b : Nat} (C : CX p G s m args meth c cX4_firstIn yX4_firstIn 2 (some .int)) (a0 : Nat) (n0 : Nat) (h0 : L.2 a0 = some (2, n0, [])) (S : Sg) (rf : Int32) : ∀ (n : Nat) (v1 : Int32) {z}, L_X4_firstIn_2 a0 n0 S n v1 = some z → (∀ q, z = .inl q → q = rf) → (z = .inr () → X p l e (rmz 0 0) s m args below meth c 0 0 (RQ G L b S below args s (some (.int rf)) True) 2 G L b S 24 [] []) → X p l e (rmz 0 0) s m args below meth c 0 0 (RQ G L b S below args s (some (.int rf)) True) 2 G L b S 2 [(0, .ref (b + a0)), (1, .int v1)] [] := by
  intro n
  induction n with
  | zero =>
    intro v1 z h
    exact of_none h
  | succ n ih =>
    intro v1 z h hr hx
    rw [L_X4_firstIn_2] at h
    refine x_iload_n (pc := 2) C 1 dX4_firstIn_2 rfl ?_
    refine x_bipush (pc := 3) C (v := (10 : Int32)) dX4_firstIn_3 rfl ?_
    refine x_icmp_ge (pc := 5) C 24 dX4_firstIn_5 rfl (fun c_1 => ?_) (fun c_1 => ?_)
    · replace h := of_ifn c_1 h
      exact x_sub [] rfl (hx (of_s1 h).symm)
    · replace h := of_ifp c_1 h
      refine x_aload_n (pc := 8) C 0 dX4_firstIn_8 rfl ?_
      refine x_iload_n (pc := 9) C 1 dX4_firstIn_9 rfl ?_
      obtain ⟨g_1, h⟩ := of_gd h
      refine x_laload (pc := 10) C h0 g_1 dX4_firstIn_10 ?_
      refine x_lconst (pc := 11) C (v := (0 : Int64)) dX4_firstIn_11 rfl ?_
      refine x_lcmp_eq (pc := 12) C 18 dX4_firstIn_12 dX4_firstIn_13 rfl (fun c_2 => ?_) (fun c_2 => ?_)
      · replace h := of_ifp c_2 h
        obtain ⟨v1_1, ev1_1, h⟩ := of_lt h
        refine x_iinc (pc := 18) C (w := (1 : Int32)) 1 [(1, .int v1_1), (0, .ref (b + a0))] dX4_firstIn_18 rfl rfl (Nat.le_of_ble_eq_true rfl) ev1_1 rfl ?_
        refine x_goto (pc := 21) C 2 dX4_firstIn_21 rfl ?_
        exact x_sub [1, 0] rfl (ih _ h hr hx)
      · replace h := of_ifn c_2 h
        refine x_iload_n (pc := 16) C 1 dX4_firstIn_16 rfl ?_
        have hq := hr _ (of_s1 h).symm
        exact x_ireturn (pc := 17) C dX4_firstIn_17 hq rfl
set_option maxRecDepth 100000 in
set_option maxHeartbeats 4000000 in
theorem c_X4_firstIn {l : Launch} {G : zz_G} {L : Ly} {b : Nat} (a0 : Nat) (n0 : Nat) (h0 : L.2 a0 = some (2, n0, [])) (S : Sg) (rf : Int32) (h : f_X4_firstIn a0 n0 S = some rf) : Met l yX4_firstIn (Cond.code yX4_firstIn cX4_firstIn 2 (some .int) :: zz_all) (rmz 0 0) (PC G L b S [.ref (b + a0)]) (QC G L b S (some (.int rf)) True) 0 0 (fun q => b ≤ q) := by
  refine x_met [.ref (b + a0)] (by decide +kernel) (Nat.le_of_ble_eq_true rfl) fun p e s m args below meth c C => ?_
  unfold f_X4_firstIn at h
  refine x_iconst (pc := 0) C (v := (0 : Int32)) dX4_firstIn_0 rfl ?_
  refine x_istore_n (pc := 1) C 1 [(1, .int (0 : Int32)), (0, .ref (b + a0))] dX4_firstIn_1 rfl (Nat.le_of_ble_eq_true rfl) rfl rfl ?_
  refine x_sub [1, 0] rfl ?_
  obtain ⟨z_hz_1, hz_1, hl, hrr⟩ := of_bs h
  refine l_X4_firstIn_2 C a0 n0 h0 S rf 400 _ hz_1 (fun q ez => of_s1 (hl _ ez)) (fun ez => ?_)
  replace h := hrr _ ez
  clear hl hrr
  refine x_bipush (pc := 24) C (v := (-9 : Int32)) dX4_firstIn_24 rfl ?_
  exact x_ireturn (pc := 26) C dX4_firstIn_26 (of_s1 h) rfl
set_option maxRecDepth 100000 in
set_option maxHeartbeats 4000000 in
theorem l_X4_join_52 {p : Program} {l : Launch} {e : Env} {s : State} {m : MethodId} {args : Array Value} {below : List Frame} {meth : Method} {c : Code} {G : zz_G} {L : Ly} {b : Nat} {Q : State → Prop} (C : CX p G s m args meth c cX4_join yX4_join 9 none) (o : Nat) (a1 : Nat) (n1 : Nat) (hO : isSp L o) (h1 : L.2 a1 = some (2, n1, [])) (v2 : Int32) (v3 : Int64) (v5 : Int32) (v6 : Int64) : ∀ (n : Nat) (v8 : Int32) (S : Sg) {z}, L_X4_join_52 o a1 n1 v2 v3 v5 v6 n v8 S = some z → (∀ (S_o : Sg), z = S_o → X p l e (rmz 1 21) s m args below meth c 0 0 Q 9 G L b S_o 100 [(0, .ref (b + o)), (1, .ref (b + a1)), (2, .int v2), (3, .long v3), (5, .int v5)] []) → X p l e (rmz 1 21) s m args below meth c 0 0 Q 9 G L b S 52 [(0, .ref (b + o)), (1, .ref (b + a1)), (2, .int v2), (3, .long v3), (5, .int v5), (6, .long v6), (8, .int v8)] [] := by
  intro n
  induction n with
  | zero =>
    intro v8 S z h
    exact of_none h
  | succ n ih =>
    intro v8 S z h hx
    rw [L_X4_join_52] at h
    refine x_iload (pc := 52) C 6 dX4_join_52 rfl ?_
    refine x_bipush (pc := 54) C (v := (10 : Int32)) dX4_join_54 rfl ?_
    refine x_icmp_ge (pc := 56) C 100 dX4_join_56 rfl (fun c_1 => ?_) (fun c_1 => ?_)
    · replace h := of_ifn c_1 h
      exact x_sub [0, 1, 2, 3, 4] rfl (hx _ (of_s1 h).symm)
    · replace h := of_ifp c_1 h
      refine x_aload_n (pc := 59) C 0 dX4_join_59 rfl ?_
      refine x_getr (pc := 60) C (k := 0) (o + 1) hO.1 rfl rfl wd_46 dX4_join_60 (Nat.le_of_ble_eq_true rfl) rfl ?_
      refine x_iload (pc := 63) C 4 dX4_join_63 rfl ?_
      obtain ⟨g_1, h⟩ := of_gd h
      refine x_aaloadJ (pc := 65) C hO.2.1 g_1 dX4_join_65 ?_
      refine x_iload (pc := 66) C 6 dX4_join_66 rfl ?_
      refine x_aload_n (pc := 68) C 0 dX4_join_68 rfl ?_
      refine x_getr (pc := 69) C (k := 0) (o + 1) hO.1 rfl rfl wd_46 dX4_join_69 (Nat.le_of_ble_eq_true rfl) rfl ?_
      refine x_iload (pc := 72) C 4 dX4_join_72 rfl ?_
      refine x_aaloadJ (pc := 74) C hO.2.1 g_1 dX4_join_74 ?_
      refine x_iload (pc := 75) C 6 dX4_join_75 rfl ?_
      obtain ⟨g_2, h⟩ := of_gd h
      refine x_laload (pc := 77) C (hO.2.2 _ (inb_lt (i := v5) g_1)) g_2 dX4_join_77 ?_
      refine x_lload_n (pc := 78) C 3 dX4_join_78 rfl ?_
      refine x_lmul (pc := 79) C dX4_join_79 ?_
      refine x_lload (pc := 80) C 5 dX4_join_80 rfl ?_
      refine x_aload_n (pc := 82) C 1 dX4_join_82 rfl ?_
      refine x_iload (pc := 83) C 6 dX4_join_83 rfl ?_
      obtain ⟨g_3, h⟩ := of_gd h
      refine x_laload (pc := 85) C h1 g_3 dX4_join_85 ?_
      refine x_lmul (pc := 86) C dX4_join_86 ?_
      refine x_lsub (pc := 87) C dX4_join_87 ?_
      refine x_aload_n (pc := 88) C 0 dX4_join_88 rfl ?_
      refine x_getj (pc := 89) C (k := 1) hO.1 rfl rfl wd_47 dX4_join_89 ⟨Nat.le_of_ble_eq_true rfl, rfl⟩ ?_
      obtain ⟨g_4, h⟩ := of_gd h
      refine x_ldiv (pc := 92) C dX4_join_92 g_4 ?_
      obtain ⟨S_1, eS_1, h⟩ := of_lt h
      refine x_lastore (pc := 93) C (hO.2.2 _ (inb_lt (i := v5) g_1)) g_2 eS_1 dX4_join_93 ?_
      obtain ⟨v8_1, ev8_1, h⟩ := of_lt h
      refine x_iinc (pc := 94) C (w := (1 : Int32)) 6 [(8, .int v8_1), (0, .ref (b + o)), (1, .ref (b + a1)), (2, .int v2), (3, .long v3), (5, .int v5), (6, .long v6)] dX4_join_94 rfl rfl (Nat.le_of_ble_eq_true rfl) ev8_1 rfl ?_
      refine x_goto (pc := 97) C 52 dX4_join_97 rfl ?_
      exact x_sub [1, 2, 3, 4, 5, 6, 0] rfl (ih _ _ h hx)
set_option maxRecDepth 100000 in
set_option maxHeartbeats 4000000 in
theorem l_X4_join_31 {p : Program} {l : Launch} {e : Env} {s : State} {m : MethodId} {args : Array Value} {below : List Frame} {meth : Method} {c : Code} {G : zz_G} {L : Ly} {b : Nat} {Q : State → Prop} (C : CX p G s m args meth c cX4_join yX4_join 9 none) (o : Nat) (a1 : Nat) (n1 : Nat) (hO : isSp L o) (h1 : L.2 a1 = some (2, n1, [])) (v2 : Int32) (v3 : Int64) : ∀ (n : Nat) (v5 : Int32) (S : Sg) {z}, L_X4_join_31 o a1 n1 v2 v3 n v5 S = some z → (∀ (S_o : Sg), z = S_o → X p l e (rmz 1 21) s m args below meth c 0 0 Q 9 G L b S_o 106 [(0, .ref (b + o)), (2, .int v2), (3, .long v3)] []) → X p l e (rmz 1 21) s m args below meth c 0 0 Q 9 G L b S 31 [(0, .ref (b + o)), (1, .ref (b + a1)), (2, .int v2), (3, .long v3), (5, .int v5)] [] := by
  intro n
  induction n with
  | zero =>
    intro v5 S z h
    exact of_none h
  | succ n ih =>
    intro v5 S z h hx
    rw [L_X4_join_31] at h
    refine x_iload (pc := 31) C 4 dX4_join_31 rfl ?_
    refine x_bipush (pc := 33) C (v := (10 : Int32)) dX4_join_33 rfl ?_
    refine x_icmp_ge (pc := 35) C 106 dX4_join_35 rfl (fun c_1 => ?_) (fun c_1 => ?_)
    · replace h := of_ifn c_1 h
      exact x_sub [0, 2, 3] rfl (hx _ (of_s1 h).symm)
    · replace h := of_ifp c_1 h
      refine x_aload_n (pc := 38) C 0 dX4_join_38 rfl ?_
      refine x_getr (pc := 39) C (k := 0) (o + 1) hO.1 rfl rfl wd_46 dX4_join_39 (Nat.le_of_ble_eq_true rfl) rfl ?_
      refine x_iload (pc := 42) C 4 dX4_join_42 rfl ?_
      obtain ⟨g_1, h⟩ := of_gd h
      refine x_aaloadJ (pc := 44) C hO.2.1 g_1 dX4_join_44 ?_
      refine x_iload_n (pc := 45) C 2 dX4_join_45 rfl ?_
      obtain ⟨g_2, h⟩ := of_gd h
      refine x_laload (pc := 46) C (hO.2.2 _ (inb_lt (i := v5) g_1)) g_2 dX4_join_46 ?_
      obtain ⟨v6_1, ev6_1, h⟩ := of_lt h
      refine x_lstore (pc := 47) C [(6, .long v6_1), (0, .ref (b + o)), (1, .ref (b + a1)), (2, .int v2), (3, .long v3), (5, .int v5)] dX4_join_47 (Nat.le_of_ble_eq_true rfl) ev6_1 rfl ?_
      refine x_iconst (pc := 49) C (v := (0 : Int32)) dX4_join_49 rfl ?_
      refine x_istore (pc := 50) C [(8, .int (0 : Int32)), (6, .long v6_1), (0, .ref (b + o)), (1, .ref (b + a1)), (2, .int v2), (3, .long v3), (5, .int v5)] dX4_join_50 (Nat.le_of_ble_eq_true rfl) rfl rfl ?_
      refine x_sub [2, 3, 4, 5, 6, 1, 0] rfl ?_
      obtain ⟨z_hz_1, hz_1, h⟩ := of_bd h
      refine l_X4_join_52 C o a1 n1 hO h1 v2 v3 v5 v6_1 400 _ _ hz_1 (fun S_1 ez => ?_)
      subst z_hz_1
      obtain ⟨v5_1, ev5_1, h⟩ := of_lt h
      refine x_iinc (pc := 100) C (w := (1 : Int32)) 4 [(5, .int v5_1), (0, .ref (b + o)), (1, .ref (b + a1)), (2, .int v2), (3, .long v3)] dX4_join_100 rfl rfl (Nat.le_of_ble_eq_true rfl) ev5_1 rfl ?_
      refine x_goto (pc := 103) C 31 dX4_join_103 rfl ?_
      exact x_sub [1, 2, 3, 4, 0] rfl (ih _ _ h hx)
set_option maxRecDepth 100000 in
set_option maxHeartbeats 4000000 in
theorem c_X4_join {l : Launch} {G : zz_G} {L : Ly} {b : Nat} (o : Nat) (a1 : Nat) (n1 : Nat) (hO : isSp L o) (h1 : L.2 a1 = some (2, n1, [])) (S : Sg) (Sf : Sg) (h : f_X4_join o a1 n1 S = some Sf) : Met l yX4_join (Cond.code yX4_join cX4_join 9 none :: zz_all) (rmz 1 21) (PC G L b S [.ref (b + o), .ref (b + a1)]) (QC G L b Sf none True) 0 0 (fun q => b ≤ q) := by
  refine x_met [.ref (b + o), .ref (b + a1)] (by decide +kernel) (Nat.le_of_ble_eq_true rfl) fun p e s m args below meth c C => ?_
  unfold f_X4_join at h
  refine x_aload_n (pc := 0) C 1 dX4_join_0 rfl ?_
  obtain ⟨r_1, hc_1, h⟩ := of_bd h
  refine x_callS1 (pc := 1) C [.ref (b + a1)] [] (c_X4_firstIn (b := b) a1 n1 h1 S _ hc_1) cw_X4_30 vs_X4_firstIn ⟨rfl, rfl, Nat.le_of_ble_eq_true rfl, Nat.le_of_ble_eq_true rfl⟩ ⟨Nat.le_refl _, Nat.le_refl _⟩ rfl ⟨rfl, Nat.le_of_ble_eq_true rfl⟩ dX4_join_1 (fun hx_1 => ?_)
  refine x_istore_n (pc := 4) C 2 [(2, .int r_1), (0, .ref (b + o)), (1, .ref (b + a1))] dX4_join_4 rfl (Nat.le_of_ble_eq_true rfl) rfl rfl ?_
  refine x_iload_n (pc := 5) C 0 dX4_join_5 rfl ?_
  refine x_bipush (pc := 6) C (v := (10 : Int32)) dX4_join_6 rfl ?_
  refine x_callSN1 (pc := 8) C [.int r_1, .int (10 : Int32)] [] (c_X6_isWithin (b := b) r_1 (10 : Int32) S) cn_X4_34 vs_X6_isWithin ⟨rfl, rfl, Nat.le_of_ble_eq_true rfl, Nat.le_of_ble_eq_true rfl⟩ ⟨Nat.le_refl _, Nat.le_refl _⟩ rfl ⟨rfl, Nat.le_of_ble_eq_true rfl⟩ dX4_join_8 (fun hx_2 => ?_)
  refine x_if_eq (pc := 11) C 23 dX4_join_11 rfl (fun c_1 => ?_) (fun c_1 => ?_)
  · replace h := of_ifp c_1 h
    exact x_vreturn (pc := 23) C dX4_join_23 (of_s1 h)
  · replace h := of_ifn c_1 h
    refine x_aload_n (pc := 14) C 1 dX4_join_14 rfl ?_
    refine x_getj (pc := 15) C (k := 1) hO.1 rfl rfl wd_47 dX4_join_15 ⟨Nat.le_of_ble_eq_true rfl, rfl⟩ ?_
    refine x_lconst (pc := 18) C (v := (0 : Int64)) dX4_join_18 rfl ?_
    refine x_lcmp_ne (pc := 19) C 24 dX4_join_19 dX4_join_20 rfl (fun c_2 => ?_) (fun c_2 => ?_)
    · replace h := of_ifn c_2 h
      refine x_aload_n (pc := 24) C 2 dX4_join_24 rfl ?_
      refine x_iload_n (pc := 25) C 0 dX4_join_25 rfl ?_
      obtain ⟨g_1, h⟩ := of_gd h
      refine x_laload (pc := 26) C h1 g_1 dX4_join_26 ?_
      obtain ⟨v3_1, ev3_1, h⟩ := of_lt h
      refine x_lstore_n (pc := 27) C 3 [(3, .long v3_1), (2, .int r_1), (0, .ref (b + o)), (1, .ref (b + a1))] dX4_join_27 rfl (Nat.le_of_ble_eq_true rfl) ev3_1 rfl ?_
      refine x_iconst (pc := 28) C (v := (0 : Int32)) dX4_join_28 rfl ?_
      refine x_istore (pc := 29) C [(5, .int (0 : Int32)), (3, .long v3_1), (2, .int r_1), (0, .ref (b + o)), (1, .ref (b + a1))] dX4_join_29 (Nat.le_of_ble_eq_true rfl) rfl rfl ?_
      refine x_sub [3, 4, 2, 1, 0] rfl ?_
      obtain ⟨z_hz_1, hz_1, h⟩ := of_bd h
      refine l_X4_join_31 C o a1 n1 hO h1 r_1 v3_1 400 _ _ hz_1 (fun S_1 ez => ?_)
      subst z_hz_1
      refine x_aload_n (pc := 106) C 0 dX4_join_106 rfl ?_
      refine x_lload_n (pc := 107) C 2 dX4_join_107 rfl ?_
      obtain ⟨S_2, eS_2, h⟩ := of_lt h
      refine x_putj (pc := 108) C (k := 1) hO.1 rfl rfl wd_47 dX4_join_108 ⟨Nat.le_of_ble_eq_true rfl, rfl⟩ eS_2 ?_
      refine x_aload_n (pc := 111) C 0 dX4_join_111 rfl ?_
      refine x_dup (pc := 112) C dX4_join_112 rfl ?_
      refine x_geti (pc := 113) C (k := 2) hO.1 rfl rfl wd_48 dX4_join_113 ⟨Nat.le_of_ble_eq_true rfl, rfl⟩ ?_
      refine x_iconst (pc := 116) C (v := (1 : Int32)) dX4_join_116 rfl ?_
      refine x_iload_n (pc := 117) C 1 dX4_join_117 rfl ?_
      refine x_ishl (pc := 118) C dX4_join_118 ?_
      refine x_ior (pc := 119) C dX4_join_119 ?_
      obtain ⟨S_3, eS_3, h⟩ := of_lt h
      refine x_puti (pc := 120) C (k := 2) hO.1 rfl rfl wd_48 dX4_join_120 ⟨Nat.le_of_ble_eq_true rfl, rfl⟩ eS_3 ?_
      exact x_vreturn (pc := 123) C dX4_join_123 (of_s1 h)
    · replace h := of_ifp c_2 h
      exact x_vreturn (pc := 23) C dX4_join_23 (of_s1 h)
set_option maxRecDepth 100000 in
set_option maxHeartbeats 4000000 in
theorem l_X4_leave_2 {p : Program} {l : Launch} {e : Env} {s : State} {m : MethodId} {args : Array Value} {below : List Frame} {meth : Method} {c : Code} {G : zz_G} {L : Ly} {b : Nat} {Q : State → Prop} (C : CX p G s m args meth c cX4_leave yX4_leave 6 none) (o : Nat) (a1 : Nat) (n1 : Nat) (a2 : Nat) (n2 : Nat) (hO : isSp L o) (h1 : L.2 a1 = some (1, n1, [])) (h2 : L.2 a2 = some (2, n2, [])) : ∀ (n : Nat) (v3 : Int32) (S : Sg) {z}, L_X4_leave_2 o a1 n1 a2 n2 n v3 S = some z → (∀ (S_o : Sg), z = S_o → X p l e (rmz 0 0) s m args below meth c 0 0 Q 6 G L b S_o 18 [(0, .ref (b + o)), (1, .ref (b + a1)), (2, .ref (b + a2))] []) → X p l e (rmz 0 0) s m args below meth c 0 0 Q 6 G L b S 2 [(0, .ref (b + o)), (1, .ref (b + a1)), (2, .ref (b + a2)), (3, .int v3)] [] := by
  intro n
  induction n with
  | zero =>
    intro v3 S z h
    exact of_none h
  | succ n ih =>
    intro v3 S z h hx
    rw [L_X4_leave_2] at h
    refine x_iload_n (pc := 2) C 3 dX4_leave_2 rfl ?_
    refine x_bipush (pc := 3) C (v := (10 : Int32)) dX4_leave_3 rfl ?_
    refine x_icmp_ge (pc := 5) C 18 dX4_leave_5 rfl (fun c_1 => ?_) (fun c_1 => ?_)
    · replace h := of_ifn c_1 h
      exact x_sub [0, 1, 2] rfl (hx _ (of_s1 h).symm)
    · replace h := of_ifp c_1 h
      refine x_aload_n (pc := 8) C 2 dX4_leave_8 rfl ?_
      refine x_iload_n (pc := 9) C 3 dX4_leave_9 rfl ?_
      refine x_lconst (pc := 10) C (v := (0 : Int64)) dX4_leave_10 rfl ?_
      obtain ⟨g_1, h⟩ := of_gd h
      obtain ⟨S_1, eS_1, h⟩ := of_lt h
      refine x_lastore (pc := 11) C h2 g_1 eS_1 dX4_leave_11 ?_
      obtain ⟨v3_1, ev3_1, h⟩ := of_lt h
      refine x_iinc (pc := 12) C (w := (1 : Int32)) 3 [(3, .int v3_1), (0, .ref (b + o)), (1, .ref (b + a1)), (2, .ref (b + a2))] dX4_leave_12 rfl rfl (Nat.le_of_ble_eq_true rfl) ev3_1 rfl ?_
      refine x_goto (pc := 15) C 2 dX4_leave_15 rfl ?_
      exact x_sub [1, 2, 3, 0] rfl (ih _ _ h hx)
set_option maxRecDepth 100000 in
set_option maxHeartbeats 4000000 in
theorem l_X4_leave_42 {p : Program} {l : Launch} {e : Env} {s : State} {m : MethodId} {args : Array Value} {below : List Frame} {meth : Method} {c : Code} {G : zz_G} {L : Ly} {b : Nat} {Q : State → Prop} (C : CX p G s m args meth c cX4_leave yX4_leave 6 none) (o : Nat) (a1 : Nat) (n1 : Nat) (a2 : Nat) (n2 : Nat) (hO : isSp L o) (h1 : L.2 a1 = some (1, n1, [])) (h2 : L.2 a2 = some (2, n2, [])) (v3 : Int32) (v4 : Int32) : ∀ (n : Nat) (v5 : Int32) (S : Sg) {z}, L_X4_leave_42 o a1 n1 a2 n2 v3 v4 n v5 S = some z → (∀ (S_o : Sg), z = S_o → X p l e (rmz 0 0) s m args below meth c 0 0 Q 6 G L b S_o 75 [(0, .ref (b + o)), (1, .ref (b + a1)), (2, .ref (b + a2)), (3, .int v3)] []) → X p l e (rmz 0 0) s m args below meth c 0 0 Q 6 G L b S 42 [(0, .ref (b + o)), (1, .ref (b + a1)), (2, .ref (b + a2)), (3, .int v3), (4, .int v4), (5, .int v5)] [] := by
  intro n
  induction n with
  | zero =>
    intro v5 S z h
    exact of_none h
  | succ n ih =>
    intro v5 S z h hx
    rw [L_X4_leave_42] at h
    refine x_iload (pc := 42) C 5 dX4_leave_42 rfl ?_
    refine x_bipush (pc := 44) C (v := (10 : Int32)) dX4_leave_44 rfl ?_
    refine x_icmp_ge (pc := 46) C 75 dX4_leave_46 rfl (fun c_1 => ?_) (fun c_1 => ?_)
    · replace h := of_ifn c_1 h
      exact x_sub [0, 1, 2, 3] rfl (hx _ (of_s1 h).symm)
    · replace h := of_ifp c_1 h
      refine x_aload_n (pc := 49) C 2 dX4_leave_49 rfl ?_
      refine x_iload (pc := 50) C 5 dX4_leave_50 rfl ?_
      refine x_dup2 (pc := 52) C dX4_leave_52 rfl rfl ?_
      obtain ⟨g_1, h⟩ := of_gd h
      refine x_laload (pc := 53) C h2 g_1 dX4_leave_53 ?_
      refine x_iload (pc := 54) C 4 dX4_leave_54 rfl ?_
      refine x_i2l (pc := 56) C dX4_leave_56 ?_
      refine x_aload_n (pc := 57) C 0 dX4_leave_57 rfl ?_
      refine x_getr (pc := 58) C (k := 0) (o + 1) hO.1 rfl rfl wd_46 dX4_leave_58 (Nat.le_of_ble_eq_true rfl) rfl ?_
      refine x_iload_n (pc := 61) C 3 dX4_leave_61 rfl ?_
      obtain ⟨g_2, h⟩ := of_gd h
      refine x_aaloadJ (pc := 62) C hO.2.1 g_2 dX4_leave_62 ?_
      refine x_iload (pc := 63) C 5 dX4_leave_63 rfl ?_
      obtain ⟨g_3, h⟩ := of_gd h
      refine x_laload (pc := 65) C (hO.2.2 _ (inb_lt (i := v3) g_2)) g_3 dX4_leave_65 ?_
      refine x_lmul (pc := 66) C dX4_leave_66 ?_
      refine x_ladd (pc := 67) C dX4_leave_67 ?_
      obtain ⟨S_1, eS_1, h⟩ := of_lt h
      refine x_lastore (pc := 68) C h2 g_1 eS_1 dX4_leave_68 ?_
      obtain ⟨v5_1, ev5_1, h⟩ := of_lt h
      refine x_iinc (pc := 69) C (w := (1 : Int32)) 5 [(5, .int v5_1), (0, .ref (b + o)), (1, .ref (b + a1)), (2, .ref (b + a2)), (3, .int v3), (4, .int v4)] dX4_leave_69 rfl rfl (Nat.le_of_ble_eq_true rfl) ev5_1 rfl ?_
      refine x_goto (pc := 72) C 42 dX4_leave_72 rfl ?_
      exact x_sub [1, 2, 3, 4, 5, 0] rfl (ih _ _ h hx)
set_option maxRecDepth 100000 in
set_option maxHeartbeats 4000000 in
theorem l_X4_leave_20 {p : Program} {l : Launch} {e : Env} {s : State} {m : MethodId} {args : Array Value} {below : List Frame} {meth : Method} {c : Code} {G : zz_G} {L : Ly} {b : Nat} {Q : State → Prop} (C : CX p G s m args meth c cX4_leave yX4_leave 6 none) (o : Nat) (a1 : Nat) (n1 : Nat) (a2 : Nat) (n2 : Nat) (hO : isSp L o) (h1 : L.2 a1 = some (1, n1, [])) (h2 : L.2 a2 = some (2, n2, [])) : ∀ (n : Nat) (v3 : Int32) (S : Sg) {z}, L_X4_leave_20 o a1 n1 a2 n2 n v3 S = some z → (∀ (S_o : Sg), z = S_o → X p l e (rmz 0 0) s m args below meth c 0 0 Q 6 G L b S_o 81 [] []) → X p l e (rmz 0 0) s m args below meth c 0 0 Q 6 G L b S 20 [(0, .ref (b + o)), (1, .ref (b + a1)), (2, .ref (b + a2)), (3, .int v3)] [] := by
  intro n
  induction n with
  | zero =>
    intro v3 S z h
    exact of_none h
  | succ n ih =>
    intro v3 S z h hx
    rw [L_X4_leave_20] at h
    refine x_iload_n (pc := 20) C 3 dX4_leave_20 rfl ?_
    refine x_bipush (pc := 21) C (v := (10 : Int32)) dX4_leave_21 rfl ?_
    refine x_icmp_ge (pc := 23) C 81 dX4_leave_23 rfl (fun c_1 => ?_) (fun c_1 => ?_)
    · replace h := of_ifn c_1 h
      exact x_sub [] rfl (hx _ (of_s1 h).symm)
    · replace h := of_ifp c_1 h
      refine x_aload_n (pc := 26) C 1 dX4_leave_26 rfl ?_
      refine x_iload_n (pc := 27) C 3 dX4_leave_27 rfl ?_
      obtain ⟨g_1, h⟩ := of_gd h
      refine x_iaload (pc := 28) C h1 g_1 dX4_leave_28 ?_
      obtain ⟨v4_1, ev4_1, h⟩ := of_lt h
      refine x_istore (pc := 29) C [(4, .int v4_1), (0, .ref (b + o)), (1, .ref (b + a1)), (2, .ref (b + a2)), (3, .int v3)] dX4_leave_29 (Nat.le_of_ble_eq_true rfl) ev4_1 rfl ?_
      refine x_iload (pc := 31) C 0 dX4_leave_31 rfl ?_
      refine x_if_ne (pc := 33) C 39 dX4_leave_33 rfl (fun c_2 => ?_) (fun c_2 => ?_)
      · replace h := of_ifn c_2 h
        refine x_iconst (pc := 39) C (v := (0 : Int32)) dX4_leave_39 rfl ?_
        refine x_istore (pc := 40) C [(5, .int (0 : Int32)), (4, .int v4_1), (0, .ref (b + o)), (1, .ref (b + a1)), (2, .ref (b + a2)), (3, .int v3)] dX4_leave_40 (Nat.le_of_ble_eq_true rfl) rfl rfl ?_
        refine x_sub [2, 3, 4, 5, 1, 0] rfl ?_
        obtain ⟨z_hz_1, hz_1, h⟩ := of_bd h
        refine l_X4_leave_42 C o a1 n1 a2 n2 hO h1 h2 v3 v4_1 400 _ _ hz_1 (fun S_1 ez => ?_)
        subst z_hz_1
        obtain ⟨v3_1, ev3_1, h⟩ := of_lt h
        refine x_iinc (pc := 75) C (w := (1 : Int32)) 3 [(3, .int v3_1), (0, .ref (b + o)), (1, .ref (b + a1)), (2, .ref (b + a2))] dX4_leave_75 rfl rfl (Nat.le_of_ble_eq_true rfl) ev3_1 rfl ?_
        refine x_goto (pc := 78) C 20 dX4_leave_78 rfl ?_
        exact x_sub [1, 2, 3, 0] rfl (ih _ _ h hx)
      · replace h := of_ifp c_2 h
        refine x_goto (pc := 36) C 75 dX4_leave_36 rfl ?_
        obtain ⟨v3_2, ev3_2, h⟩ := of_lt h
        refine x_iinc (pc := 75) C (w := (1 : Int32)) 4 [(3, .int v3_2), (4, .int v4_1), (0, .ref (b + o)), (1, .ref (b + a1)), (2, .ref (b + a2))] dX4_leave_75 rfl rfl (Nat.le_of_ble_eq_true rfl) ev3_2 rfl ?_
        refine x_goto (pc := 78) C 20 dX4_leave_78 rfl ?_
        exact x_sub [2, 3, 4, 0] rfl (ih _ _ h hx)
set_option maxRecDepth 100000 in
set_option maxHeartbeats 4000000 in
theorem c_X4_leave {l : Launch} {G : zz_G} {L : Ly} {b : Nat} (o : Nat) (a1 : Nat) (n1 : Nat) (a2 : Nat) (n2 : Nat) (hO : isSp L o) (h1 : L.2 a1 = some (1, n1, [])) (h2 : L.2 a2 = some (2, n2, [])) (S : Sg) (Sf : Sg) (h : f_X4_leave o a1 n1 a2 n2 S = some Sf) : Met l yX4_leave (Cond.code yX4_leave cX4_leave 6 none :: zz_all) (rmz 0 0) (PC G L b S [.ref (b + o), .ref (b + a1), .ref (b + a2)]) (QC G L b Sf none True) 0 0 (fun q => b ≤ q) := by
  refine x_met [.ref (b + o), .ref (b + a1), .ref (b + a2)] (by decide +kernel) (Nat.le_of_ble_eq_true rfl) fun p e s m args below meth c C => ?_
  unfold f_X4_leave at h
  refine x_iconst (pc := 0) C (v := (0 : Int32)) dX4_leave_0 rfl ?_
  refine x_istore_n (pc := 1) C 3 [(3, .int (0 : Int32)), (0, .ref (b + o)), (1, .ref (b + a1)), (2, .ref (b + a2))] dX4_leave_1 rfl (Nat.le_of_ble_eq_true rfl) rfl rfl ?_
  refine x_sub [1, 2, 3, 0] rfl ?_
  obtain ⟨z_hz_2, hz_2, h⟩ := of_bd h
  refine l_X4_leave_2 C o a1 n1 a2 n2 hO h1 h2 400 _ _ hz_2 (fun S_1 ez => ?_)
  subst z_hz_2
  refine x_iconst (pc := 18) C (v := (0 : Int32)) dX4_leave_18 rfl ?_
  refine x_istore_n (pc := 19) C 3 [(3, .int (0 : Int32)), (0, .ref (b + o)), (1, .ref (b + a1)), (2, .ref (b + a2))] dX4_leave_19 rfl (Nat.le_of_ble_eq_true rfl) rfl rfl ?_
  refine x_sub [1, 2, 3, 0] rfl ?_
  obtain ⟨z_hz_1, hz_1, h⟩ := of_bd h
  refine l_X4_leave_20 C o a1 n1 a2 n2 hO h1 h2 400 _ _ hz_1 (fun S_2 ez => ?_)
  subst z_hz_1
  exact x_vreturn (pc := 81) C dX4_leave_81 (of_s1 h)
set_option maxRecDepth 100000 in
set_option maxHeartbeats 4000000 in
theorem l_X5_findRest_2 {p : Program} {l : Launch} {e : Env} {s : State} {m : MethodId} {args : Array Value} {below : List Frame} {meth : Method} {c : Code} {G : zz_G} {L : Ly} {b : Nat} {Q : State → Prop} (C : CX p G s m args meth c cX5_findRest yX5_findRest 4 none) (o : Nat) (o1 : Nat) (hO : isW L o) (h1 : isQ L o1) : ∀ (n : Nat) (v2 : Int32) (S : Sg) {z}, L_X5_findRest_2 o o1 n v2 S = some z → (∀ (S_o : Sg), z = S_o → X p l e (rmz 1 25) s m args below meth c 0 0 Q 4 G L b S_o 21 [(0, .ref (b + o)), (1, .ref (b + o1))] []) → X p l e (rmz 1 25) s m args below meth c 0 0 Q 4 G L b S 2 [(0, .ref (b + o)), (1, .ref (b + o1)), (2, .int v2)] [] := by
  intro n
  induction n with
  | zero =>
    intro v2 S z h
    exact of_none h
  | succ n ih =>
    intro v2 S z h hx
    rw [L_X5_findRest_2] at h
    refine x_iload_n (pc := 2) C 2 dX5_findRest_2 rfl ?_
    refine x_bipush (pc := 3) C (v := (10 : Int32)) dX5_findRest_3 rfl ?_
    refine x_icmp_ge (pc := 5) C 21 dX5_findRest_5 rfl (fun c_1 => ?_) (fun c_1 => ?_)
    · replace h := of_ifn c_1 h
      exact x_sub [0, 1] rfl (hx _ (of_s1 h).symm)
    · replace h := of_ifp c_1 h
      refine x_aload_n (pc := 8) C 0 dX5_findRest_8 rfl ?_
      refine x_getr (pc := 9) C (k := 12) (o + 41) hO.1 rfl rfl wd_78 dX5_findRest_9 (Nat.le_of_ble_eq_true rfl) rfl ?_
      refine x_iload_n (pc := 12) C 2 dX5_findRest_12 rfl ?_
      refine x_iconst (pc := 13) C (v := (0 : Int32)) dX5_findRest_13 rfl ?_
      obtain ⟨g_1, h⟩ := of_gd h
      obtain ⟨S_1, eS_1, h⟩ := of_lt h
      refine x_iastore (pc := 14) C hO.2.2.2.2.2.2.2.2.2.2.1 g_1 eS_1 dX5_findRest_14 ?_
      obtain ⟨v2_1, ev2_1, h⟩ := of_lt h
      refine x_iinc (pc := 15) C (w := (1 : Int32)) 2 [(2, .int v2_1), (0, .ref (b + o)), (1, .ref (b + o1))] dX5_findRest_15 rfl rfl (Nat.le_of_ble_eq_true rfl) ev2_1 rfl ?_
      refine x_goto (pc := 18) C 2 dX5_findRest_18 rfl ?_
      exact x_sub [1, 2, 0] rfl (ih _ _ h hx)
set_option maxRecDepth 100000 in
set_option maxHeartbeats 4000000 in
theorem l_X5_findRest_23 {p : Program} {l : Launch} {e : Env} {s : State} {m : MethodId} {args : Array Value} {below : List Frame} {meth : Method} {c : Code} {G : zz_G} {L : Ly} {b : Nat} {Q : State → Prop} (C : CX p G s m args meth c cX5_findRest yX5_findRest 4 none) (o : Nat) (o1 : Nat) (hO : isW L o) (h1 : isQ L o1) : ∀ (n : Nat) (v2 : Int32) (S : Sg) {z}, L_X5_findRest_23 o o1 n v2 S = some z → (∀ (S_o : Sg), z = S_o → X p l e (rmz 1 25) s m args below meth c 0 0 Q 4 G L b S_o 63 [(0, .ref (b + o))] []) → X p l e (rmz 1 25) s m args below meth c 0 0 Q 4 G L b S 23 [(0, .ref (b + o)), (1, .ref (b + o1)), (2, .int v2)] [] := by
  intro n
  induction n with
  | zero =>
    intro v2 S z h
    exact of_none h
  | succ n ih =>
    intro v2 S z h hx
    rw [L_X5_findRest_23] at h
    refine x_iload_n (pc := 23) C 2 dX5_findRest_23 rfl ?_
    refine x_bipush (pc := 24) C (v := (8 : Int32)) dX5_findRest_24 rfl ?_
    refine x_icmp_ge (pc := 26) C 63 dX5_findRest_26 rfl (fun c_1 => ?_) (fun c_1 => ?_)
    · replace h := of_ifn c_1 h
      exact x_sub [0] rfl (hx _ (of_s1 h).symm)
    · replace h := of_ifp c_1 h
      refine x_aload_n (pc := 29) C 0 dX5_findRest_29 rfl ?_
      refine x_getr (pc := 30) C (k := 0) (o + 1) hO.1 rfl rfl wd_59 dX5_findRest_30 (Nat.le_of_ble_eq_true rfl) rfl ?_
      refine x_iload_n (pc := 33) C 2 dX5_findRest_33 rfl ?_
      obtain ⟨g_1, h⟩ := of_gd h
      refine x_iaload (pc := 34) C hO.2.1 g_1 dX5_findRest_34 ?_
      obtain ⟨v3_1, ev3_1, h⟩ := of_lt h
      refine x_istore_n (pc := 35) C 3 [(3, .int v3_1), (0, .ref (b + o)), (1, .ref (b + o1)), (2, .int v2)] dX5_findRest_35 rfl (Nat.le_of_ble_eq_true rfl) ev3_1 rfl ?_
      refine x_iload_n (pc := 36) C 0 dX5_findRest_36 rfl ?_
      refine x_bipush (pc := 37) C (v := (10 : Int32)) dX5_findRest_37 rfl ?_
      refine x_callSN1 (pc := 39) C [.int v3_1, .int (10 : Int32)] [] (c_X6_isWithin (b := b) v3_1 (10 : Int32) S) cn_X5_72 vs_X6_isWithin ⟨rfl, rfl, Nat.le_of_ble_eq_true rfl, Nat.le_of_ble_eq_true rfl⟩ ⟨Nat.le_refl _, Nat.le_refl _⟩ rfl ⟨rfl, Nat.le_of_ble_eq_true rfl⟩ dX5_findRest_39 (fun hx_1 => ?_)
      refine x_if_eq (pc := 42) C 57 dX5_findRest_42 rfl (fun c_2 => ?_) (fun c_2 => ?_)
      · replace h := of_ifp c_2 h
        obtain ⟨v2_1, ev2_1, h⟩ := of_lt h
        refine x_iinc (pc := 57) C (w := (1 : Int32)) 3 [(2, .int v2_1), (3, .int v3_1), (0, .ref (b + o)), (1, .ref (b + o1))] dX5_findRest_57 rfl rfl (Nat.le_of_ble_eq_true rfl) ev2_1 rfl ?_
        refine x_goto (pc := 60) C 23 dX5_findRest_60 rfl ?_
        exact x_sub [2, 3, 0] rfl (ih _ _ h hx)
      · replace h := of_ifn c_2 h
        refine x_aload_n (pc := 45) C 1 dX5_findRest_45 rfl ?_
        refine x_getr (pc := 46) C (k := 12) (o + 41) hO.1 rfl rfl wd_78 dX5_findRest_46 (Nat.le_of_ble_eq_true rfl) rfl ?_
        refine x_iload_n (pc := 49) C 0 dX5_findRest_49 rfl ?_
        refine x_aload_n (pc := 50) C 2 dX5_findRest_50 rfl ?_
        refine x_getr (pc := 51) C (k := 0) (o1 + 1) h1.1 rfl rfl wd_116 dX5_findRest_51 (Nat.le_of_ble_eq_true rfl) rfl ?_
        refine x_iload_n (pc := 54) C 3 dX5_findRest_54 rfl ?_
        refine x_iaload (pc := 55) C h1.2 g_1 dX5_findRest_55 ?_
        obtain ⟨g_2, h⟩ := of_gd h
        obtain ⟨S_1, eS_1, h⟩ := of_lt h
        refine x_iastore (pc := 56) C hO.2.2.2.2.2.2.2.2.2.2.1 g_2 eS_1 dX5_findRest_56 ?_
        obtain ⟨v2_2, ev2_2, h⟩ := of_lt h
        refine x_iinc (pc := 57) C (w := (1 : Int32)) 3 [(2, .int v2_2), (3, .int v3_1), (0, .ref (b + o)), (1, .ref (b + o1))] dX5_findRest_57 rfl rfl (Nat.le_of_ble_eq_true rfl) ev2_2 rfl ?_
        refine x_goto (pc := 60) C 23 dX5_findRest_60 rfl ?_
        exact x_sub [2, 3, 0] rfl (ih _ _ h hx)
set_option maxRecDepth 100000 in
set_option maxHeartbeats 4000000 in
theorem c_X5_findRest {l : Launch} {G : zz_G} {L : Ly} {b : Nat} (o : Nat) (o1 : Nat) (hO : isW L o) (h1 : isQ L o1) (S : Sg) (Sf : Sg) (h : f_X5_findRest o o1 S = some Sf) : Met l yX5_findRest (Cond.code yX5_findRest cX5_findRest 4 none :: zz_all) (rmz 1 25) (PC G L b S [.ref (b + o), .ref (b + o1)]) (QC G L b Sf none True) 0 0 (fun q => b ≤ q) := by
  refine x_met [.ref (b + o), .ref (b + o1)] (by decide +kernel) (Nat.le_of_ble_eq_true rfl) fun p e s m args below meth c C => ?_
  unfold f_X5_findRest at h
  refine x_iconst (pc := 0) C (v := (0 : Int32)) dX5_findRest_0 rfl ?_
  refine x_istore_n (pc := 1) C 2 [(2, .int (0 : Int32)), (0, .ref (b + o)), (1, .ref (b + o1))] dX5_findRest_1 rfl (Nat.le_of_ble_eq_true rfl) rfl rfl ?_
  refine x_sub [1, 2, 0] rfl ?_
  obtain ⟨z_hz_2, hz_2, h⟩ := of_bd h
  refine l_X5_findRest_2 C o o1 hO h1 400 _ _ hz_2 (fun S_1 ez => ?_)
  subst z_hz_2
  refine x_iconst (pc := 21) C (v := (0 : Int32)) dX5_findRest_21 rfl ?_
  refine x_istore_n (pc := 22) C 2 [(2, .int (0 : Int32)), (0, .ref (b + o)), (1, .ref (b + o1))] dX5_findRest_22 rfl (Nat.le_of_ble_eq_true rfl) rfl rfl ?_
  refine x_sub [1, 2, 0] rfl ?_
  obtain ⟨z_hz_1, hz_1, h⟩ := of_bd h
  refine l_X5_findRest_23 C o o1 hO h1 400 _ _ hz_1 (fun S_2 ez => ?_)
  subst z_hz_1
  refine x_aload_n (pc := 63) C 0 dX5_findRest_63 rfl ?_
  refine x_getr (pc := 64) C (k := 10) (o + 17) hO.1 rfl rfl wd_75 dX5_findRest_64 (Nat.le_of_ble_eq_true rfl) rfl ?_
  refine x_aload_n (pc := 67) C 0 dX5_findRest_67 rfl ?_
  refine x_getr (pc := 68) C (k := 12) (o + 41) hO.1 rfl rfl wd_78 dX5_findRest_68 (Nat.le_of_ble_eq_true rfl) rfl ?_
  refine x_aload_n (pc := 71) C 0 dX5_findRest_71 rfl ?_
  refine x_getr (pc := 72) C (k := 13) (o + 42) hO.1 rfl rfl wd_79 dX5_findRest_72 (Nat.le_of_ble_eq_true rfl) rfl ?_
  obtain ⟨S_3, hc_1, h⟩ := of_bd h
  refine x_callV_ (pc := 75) C (o := (o + 17)) [.ref (b + (o + 41)), .ref (b + (o + 42))] [] (c_X4_leave (b := b) (o + 17) (o + 41) 10 (o + 42) 10 hO.2.2.2.2.2.2.2.2.1 hO.2.2.2.2.2.2.2.2.2.2.1 hO.2.2.2.2.2.2.2.2.2.2.2 S_2 _ hc_1) cw_X5_143 vi_X4_leave ⟨rfl, rfl, Nat.le_of_ble_eq_true rfl, Nat.le_of_ble_eq_true rfl⟩ ⟨Nat.le_refl _, Nat.le_refl _⟩ hO.2.2.2.2.2.2.2.2.1.1 ⟨rfl, rfl, rfl⟩ rfl ⟨rfl, Nat.le_of_ble_eq_true rfl⟩ dX5_findRest_75 (fun hx_1 => ?_)
  exact x_vreturn (pc := 78) C dX5_findRest_78 (of_s1 h)
set_option maxRecDepth 100000 in
set_option maxHeartbeats 4000000 in
theorem l_X5_trueAnswer_4 {p : Program} {l : Launch} {e : Env} {s : State} {m : MethodId} {args : Array Value} {below : List Frame} {meth : Method} {c : Code} {G : zz_G} {L : Ly} {b : Nat} {Q : State → Prop} (C : CX p G s m args meth c cX5_trueAnswer yX5_trueAnswer 5 (some .int)) (o : Nat) (o1 : Nat) (hO : isW L o) (h1 : isQ L o1) (S : Sg) : ∀ (n : Nat) (v2 : Int32) (v3 : Int32) {z}, L_X5_trueAnswer_4 o o1 S n v2 v3 = some z → (∀ (v2_o : Int32), z = v2_o → X p l e (rmz 1 21) s m args below meth c 0 0 Q 5 G L b S 51 [(2, .int v2_o)] []) → X p l e (rmz 1 21) s m args below meth c 0 0 Q 5 G L b S 4 [(0, .ref (b + o)), (1, .ref (b + o1)), (2, .int v2), (3, .int v3)] [] := by
  intro n
  induction n with
  | zero =>
    intro v2 v3 z h
    exact of_none h
  | succ n ih =>
    intro v2 v3 z h hx
    rw [L_X5_trueAnswer_4] at h
    refine x_iload_n (pc := 4) C 3 dX5_trueAnswer_4 rfl ?_
    refine x_bipush (pc := 5) C (v := (8 : Int32)) dX5_trueAnswer_5 rfl ?_
    refine x_icmp_ge (pc := 7) C 51 dX5_trueAnswer_7 rfl (fun c_1 => ?_) (fun c_1 => ?_)
    · replace h := of_ifn c_1 h
      exact x_sub [2] rfl (hx _ (of_s1 h).symm)
    · replace h := of_ifp c_1 h
      refine x_aload_n (pc := 10) C 0 dX5_trueAnswer_10 rfl ?_
      refine x_getr (pc := 11) C (k := 0) (o + 1) hO.1 rfl rfl wd_59 dX5_trueAnswer_11 (Nat.le_of_ble_eq_true rfl) rfl ?_
      refine x_iload_n (pc := 14) C 3 dX5_trueAnswer_14 rfl ?_
      obtain ⟨g_1, h⟩ := of_gd h
      refine x_iaload (pc := 15) C hO.2.1 g_1 dX5_trueAnswer_15 ?_
      obtain ⟨v4_1, ev4_1, h⟩ := of_lt h
      refine x_istore (pc := 16) C [(4, .int v4_1), (0, .ref (b + o)), (1, .ref (b + o1)), (2, .int v2), (3, .int v3)] dX5_trueAnswer_16 (Nat.le_of_ble_eq_true rfl) ev4_1 rfl ?_
      refine x_iload (pc := 18) C 0 dX5_trueAnswer_18 rfl ?_
      refine x_bipush (pc := 20) C (v := (10 : Int32)) dX5_trueAnswer_20 rfl ?_
      refine x_callSN1 (pc := 22) C [.int v4_1, .int (10 : Int32)] [] (c_X6_isWithin (b := b) v4_1 (10 : Int32) S) cn_X5_72 vs_X6_isWithin ⟨rfl, rfl, Nat.le_of_ble_eq_true rfl, Nat.le_of_ble_eq_true rfl⟩ ⟨Nat.le_refl _, Nat.le_refl _⟩ rfl ⟨rfl, Nat.le_of_ble_eq_true rfl⟩ dX5_trueAnswer_22 (fun hx_1 => ?_)
      refine x_if_eq (pc := 25) C 45 dX5_trueAnswer_25 rfl (fun c_2 => ?_) (fun c_2 => ?_)
      · replace h := of_ifp c_2 h
        obtain ⟨v3_1, ev3_1, h⟩ := of_lt h
        refine x_iinc (pc := 45) C (w := (1 : Int32)) 4 [(3, .int v3_1), (4, .int v4_1), (0, .ref (b + o)), (1, .ref (b + o1)), (2, .int v2)] dX5_trueAnswer_45 rfl rfl (Nat.le_of_ble_eq_true rfl) ev3_1 rfl ?_
        refine x_goto (pc := 48) C 4 dX5_trueAnswer_48 rfl ?_
        exact x_sub [2, 3, 4, 0] rfl (ih _ _ h hx)
      · replace h := of_ifn c_2 h
        refine x_iload_n (pc := 28) C 3 dX5_trueAnswer_28 rfl ?_
        refine x_aload_n (pc := 29) C 2 dX5_trueAnswer_29 rfl ?_
        refine x_getr (pc := 30) C (k := 0) (o1 + 1) h1.1 rfl rfl wd_116 dX5_trueAnswer_30 (Nat.le_of_ble_eq_true rfl) rfl ?_
        refine x_iload_n (pc := 33) C 4 dX5_trueAnswer_33 rfl ?_
        refine x_iaload (pc := 34) C h1.2 g_1 dX5_trueAnswer_34 ?_
        refine x_aload_n (pc := 35) C 1 dX5_trueAnswer_35 rfl ?_
        refine x_getr (pc := 36) C (k := 1) (o + 2) hO.1 rfl rfl wd_60 dX5_trueAnswer_36 (Nat.le_of_ble_eq_true rfl) rfl ?_
        refine x_iload (pc := 39) C 0 dX5_trueAnswer_39 rfl ?_
        obtain ⟨g_2, h⟩ := of_gd h
        refine x_iaload (pc := 41) C hO.2.2.1 g_2 dX5_trueAnswer_41 ?_
        refine x_imul (pc := 42) C dX5_trueAnswer_42 ?_
        refine x_iadd (pc := 43) C dX5_trueAnswer_43 ?_
        obtain ⟨v2_1, ev2_1, h⟩ := of_lt h
        refine x_istore_n (pc := 44) C 2 [(2, .int v2_1), (4, .int v4_1), (0, .ref (b + o)), (1, .ref (b + o1)), (3, .int v3)] dX5_trueAnswer_44 rfl (Nat.le_of_ble_eq_true rfl) ev2_1 rfl ?_
        obtain ⟨v3_2, ev3_2, h⟩ := of_lt h
        refine x_iinc (pc := 45) C (w := (1 : Int32)) 4 [(3, .int v3_2), (2, .int v2_1), (4, .int v4_1), (0, .ref (b + o)), (1, .ref (b + o1))] dX5_trueAnswer_45 rfl rfl (Nat.le_of_ble_eq_true rfl) ev3_2 rfl ?_
        refine x_goto (pc := 48) C 4 dX5_trueAnswer_48 rfl ?_
        exact x_sub [3, 4, 1, 0] rfl (ih _ _ h hx)
set_option maxRecDepth 100000 in
set_option maxHeartbeats 4000000 in
theorem c_X5_trueAnswer {l : Launch} {G : zz_G} {L : Ly} {b : Nat} (o : Nat) (o1 : Nat) (hO : isW L o) (h1 : isQ L o1) (S : Sg) (rf : Int32) (h : f_X5_trueAnswer o o1 S = some rf) : Met l yX5_trueAnswer (Cond.code yX5_trueAnswer cX5_trueAnswer 5 (some .int) :: zz_all) (rmz 1 21) (PC G L b S [.ref (b + o), .ref (b + o1)]) (QC G L b S (some (.int rf)) True) 0 0 (fun q => b ≤ q) := by
  refine x_met [.ref (b + o), .ref (b + o1)] (by decide +kernel) (Nat.le_of_ble_eq_true rfl) fun p e s m args below meth c C => ?_
  unfold f_X5_trueAnswer at h
  refine x_iconst (pc := 0) C (v := (0 : Int32)) dX5_trueAnswer_0 rfl ?_
  refine x_istore_n (pc := 1) C 2 [(2, .int (0 : Int32)), (0, .ref (b + o)), (1, .ref (b + o1))] dX5_trueAnswer_1 rfl (Nat.le_of_ble_eq_true rfl) rfl rfl ?_
  refine x_iconst (pc := 2) C (v := (0 : Int32)) dX5_trueAnswer_2 rfl ?_
  refine x_istore_n (pc := 3) C 3 [(3, .int (0 : Int32)), (2, .int (0 : Int32)), (0, .ref (b + o)), (1, .ref (b + o1))] dX5_trueAnswer_3 rfl (Nat.le_of_ble_eq_true rfl) rfl rfl ?_
  refine x_sub [2, 3, 1, 0] rfl ?_
  obtain ⟨z_hz_1, hz_1, h⟩ := of_bd h
  refine l_X5_trueAnswer_4 C o o1 hO h1 S 400 _ _ hz_1 (fun v2_1 ez => ?_)
  subst z_hz_1
  refine x_iload_n (pc := 51) C 0 dX5_trueAnswer_51 rfl ?_
  exact x_ireturn (pc := 52) C dX5_trueAnswer_52 (of_s1 h) rfl
set_option maxRecDepth 100000 in
set_option maxHeartbeats 4000000 in
theorem c_X5_join {l : Launch} {G : zz_G} {L : Ly} {b : Nat} (o : Nat) (o1 : Nat) (hO : isW L o) (h1 : isQ L o1) (S : Sg) (Sf : Sg) (h : f_X5_join o o1 S = some Sf) : Met l yX5_join (Cond.code yX5_join cX5_join 2 none :: zz_all) (rmz 2 49) (PC G L b S [.ref (b + o), .ref (b + o1)]) (QC G L b Sf none True) 0 0 (fun q => b ≤ q) := by
  refine x_met [.ref (b + o), .ref (b + o1)] (by decide +kernel) (Nat.le_of_ble_eq_true rfl) fun p e s m args below meth c C => ?_
  unfold f_X5_join at h
  refine x_aload_n (pc := 0) C 0 dX5_join_0 rfl ?_
  refine x_aload_n (pc := 1) C 1 dX5_join_1 rfl ?_
  obtain ⟨S_1, hc_1, h⟩ := of_bd h
  refine x_callV_ (pc := 2) C (o := o) [.ref (b + o1)] [] (c_X5_findRest (b := b) o o1 hO h1 S _ hc_1) cw_X5_114 vi_X5_findRest ⟨rfl, rfl, Nat.le_of_ble_eq_true rfl, Nat.le_of_ble_eq_true rfl⟩ ⟨Nat.le_refl _, Nat.le_refl _⟩ hO.1 ⟨rfl, rfl, rfl⟩ rfl ⟨rfl, Nat.le_of_ble_eq_true rfl⟩ dX5_join_2 (fun hx_1 => ?_)
  refine x_aload_n (pc := 5) C 0 dX5_join_5 rfl ?_
  refine x_getr (pc := 6) C (k := 13) (o + 42) hO.1 rfl rfl wd_79 dX5_join_6 (Nat.le_of_ble_eq_true rfl) rfl ?_
  obtain ⟨r_1, hc_2, h⟩ := of_bd h
  refine x_callS1 (pc := 9) C [.ref (b + (o + 42))] [] (c_X4_firstIn (b := b) (o + 42) 10 hO.2.2.2.2.2.2.2.2.2.2.2 S_1 _ hc_2) cw_X5_117 vs_X4_firstIn ⟨rfl, rfl, Nat.le_of_ble_eq_true rfl, Nat.le_of_ble_eq_true rfl⟩ ⟨Nat.le_refl _, Nat.le_refl _⟩ rfl ⟨rfl, Nat.le_of_ble_eq_true rfl⟩ dX5_join_9 (fun hx_2 => ?_)
  refine x_if_lt (pc := 12) C 27 dX5_join_12 rfl (fun c_1 => ?_) (fun c_1 => ?_)
  · replace h := of_ifp c_1 h
    exact x_vreturn (pc := 27) C dX5_join_27 (of_s1 h)
  · replace h := of_ifn c_1 h
    refine x_aload_n (pc := 15) C 0 dX5_join_15 rfl ?_
    refine x_geti (pc := 16) C (k := 9) hO.1 rfl rfl wd_73 dX5_join_16 ⟨Nat.le_of_ble_eq_true rfl, rfl⟩ ?_
    refine x_bipush (pc := 19) C (v := (10 : Int32)) dX5_join_19 rfl ?_
    refine x_callSN1 (pc := 21) C [.int (S_1.1 o 9), .int (10 : Int32)] [] (c_X6_isWithin (b := b) (S_1.1 o 9) (10 : Int32) S_1) cn_X5_72 vs_X6_isWithin ⟨rfl, rfl, Nat.le_of_ble_eq_true rfl, Nat.le_of_ble_eq_true rfl⟩ ⟨Nat.le_refl _, Nat.le_refl _⟩ rfl ⟨rfl, Nat.le_of_ble_eq_true rfl⟩ dX5_join_21 (fun hx_3 => ?_)
    refine x_if_ne (pc := 24) C 28 dX5_join_24 rfl (fun c_2 => ?_) (fun c_2 => ?_)
    · replace h := of_ifn c_2 h
      refine x_aload_n (pc := 28) C 0 dX5_join_28 rfl ?_
      refine x_getr (pc := 29) C (k := 12) (o + 41) hO.1 rfl rfl wd_78 dX5_join_29 (Nat.le_of_ble_eq_true rfl) rfl ?_
      refine x_iconst (pc := 32) C (v := (0 : Int32)) dX5_join_32 rfl ?_
      refine x_aload_n (pc := 33) C 0 dX5_join_33 rfl ?_
      refine x_getr (pc := 34) C (k := 7) (o + 5) hO.1 rfl rfl wd_70 dX5_join_34 (Nat.le_of_ble_eq_true rfl) rfl ?_
      refine x_aload_n (pc := 37) C 0 dX5_join_37 rfl ?_
      refine x_geti (pc := 38) C (k := 9) hO.1 rfl rfl wd_73 dX5_join_38 ⟨Nat.le_of_ble_eq_true rfl, rfl⟩ ?_
      obtain ⟨g_1, h⟩ := of_gd h
      refine x_aaloadI (pc := 41) C hO.2.2.2.2.2.1 g_1 dX5_join_41 ?_
      refine x_iconst (pc := 42) C (v := (0 : Int32)) dX5_join_42 rfl ?_
      refine x_bipush (pc := 43) C (v := (10 : Int32)) dX5_join_43 rfl ?_
      obtain ⟨S_2, eS_2, h⟩ := of_lt h
      refine x_acpI (pc := 45) C sysw_X5 hO.2.2.2.2.2.2.2.2.2.2.1 (hO.2.2.2.2.2.2.1 _ (inb_lt (i := (S_1.1 o 9)) g_1)) (by decide) eS_2 ⟨Nat.le_of_ble_eq_true rfl, Nat.le_of_ble_eq_true rfl⟩ (Nat.le_of_ble_eq_true rfl) dX5_join_45 ?_
      refine x_aload_n (pc := 48) C 0 dX5_join_48 rfl ?_
      refine x_getr (pc := 49) C (k := 8) (o + 16) hO.1 rfl rfl wd_71 dX5_join_49 (Nat.le_of_ble_eq_true rfl) rfl ?_
      refine x_aload_n (pc := 52) C 0 dX5_join_52 rfl ?_
      refine x_geti (pc := 53) C (k := 9) hO.1 rfl rfl wd_73 dX5_join_53 ⟨Nat.le_of_ble_eq_true rfl, rfl⟩ ?_
      refine x_aload_n (pc := 56) C 0 dX5_join_56 rfl ?_
      refine x_aload_n (pc := 57) C 1 dX5_join_57 rfl ?_
      obtain ⟨r_2, hc_3, h⟩ := of_bd h
      refine x_callV1 (pc := 58) C (o := o) [.ref (b + o1)] [.int (S_2.1 o 9), .ref (b + (o + 16))] (c_X5_trueAnswer (b := b) o o1 hO h1 S_2 _ hc_3) cw_X5_136 vi_X5_trueAnswer ⟨rfl, rfl, Nat.le_of_ble_eq_true rfl, Nat.le_of_ble_eq_true rfl⟩ ⟨Nat.le_refl _, Nat.le_refl _⟩ hO.1 ⟨rfl, rfl, rfl⟩ rfl ⟨rfl, Nat.le_of_ble_eq_true rfl⟩ dX5_join_58 (fun hx_4 => ?_)
      obtain ⟨g_2, h⟩ := of_gd h
      obtain ⟨S_3, eS_3, h⟩ := of_lt h
      refine x_iastore (pc := 61) C hO.2.2.2.2.2.2.2.1 g_2 eS_3 dX5_join_61 ?_
      refine x_aload_n (pc := 62) C 0 dX5_join_62 rfl ?_
      refine x_dup (pc := 63) C dX5_join_63 rfl ?_
      refine x_geti (pc := 64) C (k := 9) hO.1 rfl rfl wd_73 dX5_join_64 ⟨Nat.le_of_ble_eq_true rfl, rfl⟩ ?_
      refine x_iconst (pc := 67) C (v := (1 : Int32)) dX5_join_67 rfl ?_
      refine x_iadd (pc := 68) C dX5_join_68 ?_
      obtain ⟨S_4, eS_4, h⟩ := of_lt h
      refine x_puti (pc := 69) C (k := 9) hO.1 rfl rfl wd_73 dX5_join_69 ⟨Nat.le_of_ble_eq_true rfl, rfl⟩ eS_4 ?_
      refine x_aload_n (pc := 72) C 0 dX5_join_72 rfl ?_
      refine x_getr (pc := 73) C (k := 10) (o + 17) hO.1 rfl rfl wd_75 dX5_join_73 (Nat.le_of_ble_eq_true rfl) rfl ?_
      refine x_aload_n (pc := 76) C 0 dX5_join_76 rfl ?_
      refine x_getr (pc := 77) C (k := 13) (o + 42) hO.1 rfl rfl wd_79 dX5_join_77 (Nat.le_of_ble_eq_true rfl) rfl ?_
      obtain ⟨S_5, hc_4, h⟩ := of_bd h
      refine x_callV_ (pc := 80) C (o := (o + 17)) [.ref (b + (o + 42))] [] (c_X4_join (b := b) (o + 17) (o + 42) 10 hO.2.2.2.2.2.2.2.2.1 hO.2.2.2.2.2.2.2.2.2.2.2 S_4 _ hc_4) cw_X5_129 vi_X4_join ⟨rfl, rfl, Nat.le_of_ble_eq_true rfl, Nat.le_of_ble_eq_true rfl⟩ ⟨Nat.le_refl _, Nat.le_refl _⟩ hO.2.2.2.2.2.2.2.2.1.1 ⟨rfl, rfl, rfl⟩ rfl ⟨rfl, Nat.le_of_ble_eq_true rfl⟩ dX5_join_80 (fun hx_5 => ?_)
      exact x_vreturn (pc := 83) C dX5_join_83 (of_s1 h)
    · replace h := of_ifp c_2 h
      exact x_vreturn (pc := 27) C dX5_join_27 (of_s1 h)
set_option maxRecDepth 100000 in
set_option maxHeartbeats 4000000 in
theorem l_X2_size_4 {p : Program} {l : Launch} {e : Env} {s : State} {m : MethodId} {args : Array Value} {below : List Frame} {meth : Method} {c : Code} {G : zz_G} {L : Ly} {b : Nat} {Q : State → Prop} (C : CX p G s m args meth c cX2_size yX2_size 3 (some .int)) (o : Nat) (hO : isQ L o) (S : Sg) : ∀ (n : Nat) (v1 : Int32) (v2 : Int32) {z}, L_X2_size_4 o S n v1 v2 = some z → (∀ (v1_o : Int32), z = v1_o → X p l e (rmz 0 0) s m args below meth c 0 0 Q 3 G L b S 28 [(1, .int v1_o)] []) → X p l e (rmz 0 0) s m args below meth c 0 0 Q 3 G L b S 4 [(0, .ref (b + o)), (1, .int v1), (2, .int v2)] [] := by
  intro n
  induction n with
  | zero =>
    intro v1 v2 z h
    exact of_none h
  | succ n ih =>
    intro v1 v2 z h hx
    rw [L_X2_size_4] at h
    refine x_iload_n (pc := 4) C 2 dX2_size_4 rfl ?_
    refine x_bipush (pc := 5) C (v := (8 : Int32)) dX2_size_5 rfl ?_
    refine x_icmp_ge (pc := 7) C 28 dX2_size_7 rfl (fun c_1 => ?_) (fun c_1 => ?_)
    · replace h := of_ifn c_1 h
      exact x_sub [1] rfl (hx _ (of_s1 h).symm)
    · replace h := of_ifp c_1 h
      refine x_aload_n (pc := 10) C 0 dX2_size_10 rfl ?_
      refine x_getr (pc := 11) C (k := 0) (o + 1) hO.1 rfl rfl wd_115 dX2_size_11 (Nat.le_of_ble_eq_true rfl) rfl ?_
      refine x_iload_n (pc := 14) C 2 dX2_size_14 rfl ?_
      obtain ⟨g_1, h⟩ := of_gd h
      refine x_iaload (pc := 15) C hO.2 g_1 dX2_size_15 ?_
      obtain ⟨v1_1, ev1_1, h⟩ := of_lt h
      have kd_1 : X p l e (rmz 0 0) s m args below meth c 0 0 Q 3 G L b S 22 [(0, .ref (b + o)), (1, .int v1_1), (2, .int v2)] [] := by
        obtain ⟨v2_1, ev2_1, h⟩ := of_lt h
        refine x_iinc (pc := 22) C (w := (1 : Int32)) 2 [(2, .int v2_1), (0, .ref (b + o)), (1, .int v1_1)] dX2_size_22 rfl rfl (Nat.le_of_ble_eq_true rfl) ev2_1 rfl ?_
        refine x_goto (pc := 25) C 4 dX2_size_25 rfl ?_
        exact x_sub [1, 2, 0] rfl (ih _ _ h hx)
      refine x_if_eq (pc := 16) C 22 dX2_size_16 rfl (fun c_2 => ?_) (fun c_2 => ?_)
      · refine x_sub [0, 1, 2] rfl ?_
        rw [show v1_1 = v1 from (ev1_1.trans (if_pos c_2))] at kd_1
        exact kd_1
      · refine x_iinc (pc := 19) C (w := (1 : Int32)) 1 [(1, .int (v1 + (1 : Int32))), (0, .ref (b + o)), (2, .int v2)] dX2_size_19 rfl rfl (Nat.le_of_ble_eq_true rfl) rfl rfl ?_
        refine x_sub [1, 0, 2] rfl ?_
        rw [show v1_1 = (v1 + (1 : Int32)) from (ev1_1.trans (if_neg c_2))] at kd_1
        exact kd_1
set_option maxRecDepth 100000 in
set_option maxHeartbeats 4000000 in
theorem c_X2_size {l : Launch} {G : zz_G} {L : Ly} {b : Nat} (o : Nat) (hO : isQ L o) (S : Sg) (rf : Int32) (h : f_X2_size o S = some rf) : Met l yX2_size (Cond.code yX2_size cX2_size 3 (some .int) :: zz_all) (rmz 0 0) (PC G L b S [.ref (b + o)]) (QC G L b S (some (.int rf)) True) 0 0 (fun q => b ≤ q) := by
  refine x_met [.ref (b + o)] (by decide +kernel) (Nat.le_of_ble_eq_true rfl) fun p e s m args below meth c C => ?_
  unfold f_X2_size at h
  refine x_iconst (pc := 0) C (v := (0 : Int32)) dX2_size_0 rfl ?_
  refine x_istore_n (pc := 1) C 1 [(1, .int (0 : Int32)), (0, .ref (b + o))] dX2_size_1 rfl (Nat.le_of_ble_eq_true rfl) rfl rfl ?_
  refine x_iconst (pc := 2) C (v := (0 : Int32)) dX2_size_2 rfl ?_
  refine x_istore_n (pc := 3) C 2 [(2, .int (0 : Int32)), (1, .int (0 : Int32)), (0, .ref (b + o))] dX2_size_3 rfl (Nat.le_of_ble_eq_true rfl) rfl rfl ?_
  refine x_sub [2, 1, 0] rfl ?_
  obtain ⟨z_hz_1, hz_1, h⟩ := of_bd h
  refine l_X2_size_4 C o hO S 400 _ _ hz_1 (fun v1_1 ez => ?_)
  subst z_hz_1
  refine x_iload_n (pc := 28) C 0 dX2_size_28 rfl ?_
  exact x_ireturn (pc := 29) C dX2_size_29 (of_s1 h) rfl
set_option maxRecDepth 100000 in
set_option maxHeartbeats 4000000 in
theorem l_X4_copyFrom_2 {p : Program} {l : Launch} {e : Env} {s : State} {m : MethodId} {args : Array Value} {below : List Frame} {meth : Method} {c : Code} {G : zz_G} {L : Ly} {b : Nat} {Q : State → Prop} (C : CX p G s m args meth c cX4_copyFrom yX4_copyFrom 3 none) (o : Nat) (o1 : Nat) (hO : isSp L o) (h1 : isSp L o1) : ∀ (n : Nat) (v2 : Int32) (S : Sg) {z}, L_X4_copyFrom_2 o o1 n v2 S = some z → (∀ (S_o : Sg), z = S_o → X p l e (rmz 1 26) s m args below meth c 0 0 Q 3 G L b S_o 33 [(0, .ref (b + o)), (1, .ref (b + o1))] []) → X p l e (rmz 1 26) s m args below meth c 0 0 Q 3 G L b S 2 [(0, .ref (b + o)), (1, .ref (b + o1)), (2, .int v2)] [] := by
  intro n
  induction n with
  | zero =>
    intro v2 S z h
    exact of_none h
  | succ n ih =>
    intro v2 S z h hx
    rw [L_X4_copyFrom_2] at h
    refine x_iload_n (pc := 2) C 2 dX4_copyFrom_2 rfl ?_
    refine x_bipush (pc := 3) C (v := (10 : Int32)) dX4_copyFrom_3 rfl ?_
    refine x_icmp_ge (pc := 5) C 33 dX4_copyFrom_5 rfl (fun c_1 => ?_) (fun c_1 => ?_)
    · replace h := of_ifn c_1 h
      exact x_sub [0, 1] rfl (hx _ (of_s1 h).symm)
    · replace h := of_ifp c_1 h
      refine x_aload_n (pc := 8) C 1 dX4_copyFrom_8 rfl ?_
      refine x_getr (pc := 9) C (k := 0) (o1 + 1) h1.1 rfl rfl wd_46 dX4_copyFrom_9 (Nat.le_of_ble_eq_true rfl) rfl ?_
      refine x_iload_n (pc := 12) C 2 dX4_copyFrom_12 rfl ?_
      obtain ⟨g_1, h⟩ := of_gd h
      refine x_aaloadJ (pc := 13) C h1.2.1 g_1 dX4_copyFrom_13 ?_
      refine x_iconst (pc := 14) C (v := (0 : Int32)) dX4_copyFrom_14 rfl ?_
      refine x_aload_n (pc := 15) C 0 dX4_copyFrom_15 rfl ?_
      refine x_getr (pc := 16) C (k := 0) (o + 1) hO.1 rfl rfl wd_46 dX4_copyFrom_16 (Nat.le_of_ble_eq_true rfl) rfl ?_
      refine x_iload_n (pc := 19) C 2 dX4_copyFrom_19 rfl ?_
      refine x_aaloadJ (pc := 20) C hO.2.1 g_1 dX4_copyFrom_20 ?_
      refine x_iconst (pc := 21) C (v := (0 : Int32)) dX4_copyFrom_21 rfl ?_
      refine x_bipush (pc := 22) C (v := (10 : Int32)) dX4_copyFrom_22 rfl ?_
      obtain ⟨S_1, eS_1, h⟩ := of_lt h
      refine x_acpJ (pc := 24) C sysw_X4 (h1.2.2 _ (inb_lt (i := v2) g_1)) (hO.2.2 _ (inb_lt (i := v2) g_1)) (by decide) eS_1 ⟨Nat.le_of_ble_eq_true rfl, Nat.le_of_ble_eq_true rfl⟩ (Nat.le_of_ble_eq_true rfl) dX4_copyFrom_24 ?_
      obtain ⟨v2_1, ev2_1, h⟩ := of_lt h
      refine x_iinc (pc := 27) C (w := (1 : Int32)) 2 [(2, .int v2_1), (0, .ref (b + o)), (1, .ref (b + o1))] dX4_copyFrom_27 rfl rfl (Nat.le_of_ble_eq_true rfl) ev2_1 rfl ?_
      refine x_goto (pc := 30) C 2 dX4_copyFrom_30 rfl ?_
      exact x_sub [1, 2, 0] rfl (ih _ _ h hx)
set_option maxRecDepth 100000 in
set_option maxHeartbeats 4000000 in
theorem c_X4_copyFrom {l : Launch} {G : zz_G} {L : Ly} {b : Nat} (o : Nat) (o1 : Nat) (hO : isSp L o) (h1 : isSp L o1) (S : Sg) (Sf : Sg) (h : f_X4_copyFrom o o1 S = some Sf) : Met l yX4_copyFrom (Cond.code yX4_copyFrom cX4_copyFrom 3 none :: zz_all) (rmz 1 26) (PC G L b S [.ref (b + o), .ref (b + o1)]) (QC G L b Sf none True) 0 0 (fun q => b ≤ q) := by
  refine x_met [.ref (b + o), .ref (b + o1)] (by decide +kernel) (Nat.le_of_ble_eq_true rfl) fun p e s m args below meth c C => ?_
  unfold f_X4_copyFrom at h
  refine x_iconst (pc := 0) C (v := (0 : Int32)) dX4_copyFrom_0 rfl ?_
  refine x_istore_n (pc := 1) C 2 [(2, .int (0 : Int32)), (0, .ref (b + o)), (1, .ref (b + o1))] dX4_copyFrom_1 rfl (Nat.le_of_ble_eq_true rfl) rfl rfl ?_
  refine x_sub [1, 2, 0] rfl ?_
  obtain ⟨z_hz_1, hz_1, h⟩ := of_bd h
  refine l_X4_copyFrom_2 C o o1 hO h1 400 _ _ hz_1 (fun S_1 ez => ?_)
  subst z_hz_1
  refine x_aload_n (pc := 33) C 0 dX4_copyFrom_33 rfl ?_
  refine x_aload_n (pc := 34) C 1 dX4_copyFrom_34 rfl ?_
  refine x_getj (pc := 35) C (k := 1) h1.1 rfl rfl wd_47 dX4_copyFrom_35 ⟨Nat.le_of_ble_eq_true rfl, rfl⟩ ?_
  obtain ⟨S_2, eS_2, h⟩ := of_lt h
  refine x_putj (pc := 38) C (k := 1) hO.1 rfl rfl wd_47 dX4_copyFrom_38 ⟨Nat.le_of_ble_eq_true rfl, rfl⟩ eS_2 ?_
  refine x_aload_n (pc := 41) C 0 dX4_copyFrom_41 rfl ?_
  refine x_aload_n (pc := 42) C 1 dX4_copyFrom_42 rfl ?_
  refine x_geti (pc := 43) C (k := 2) h1.1 rfl rfl wd_48 dX4_copyFrom_43 ⟨Nat.le_of_ble_eq_true rfl, rfl⟩ ?_
  obtain ⟨S_3, eS_3, h⟩ := of_lt h
  refine x_puti (pc := 46) C (k := 2) hO.1 rfl rfl wd_48 dX4_copyFrom_46 ⟨Nat.le_of_ble_eq_true rfl, rfl⟩ eS_3 ?_
  exact x_vreturn (pc := 49) C dX4_copyFrom_49 (of_s1 h)
set_option maxRecDepth 100000 in
set_option maxHeartbeats 4000000 in
theorem l_X4_isOneLine_22 {p : Program} {l : Launch} {e : Env} {s : State} {m : MethodId} {args : Array Value} {below : List Frame} {meth : Method} {c : Code} {G : zz_G} {L : Ly} {b : Nat} (C : CX p G s m args meth c cX4_isOneLine yX4_isOneLine 4 (some .boolean)) (a0 : Nat) (n0 : Nat) (a1 : Nat) (n1 : Nat) (h0 : L.2 a0 = some (2, n0, [])) (h1 : L.2 a1 = some (2, n1, [])) (v2 : Int32) (S : Sg) (rf : Int32) : ∀ (n : Nat) (v3 : Int32) {z}, L_X4_isOneLine_22 a0 n0 a1 n1 v2 S n v3 = some z → (∀ q, z = .inl q → q = rf) → (z = .inr () → X p l e (rmz 0 0) s m args below meth c 0 0 (RQ G L b S below args s (some (.int rf)) (rf = 0 ∨ rf = 1)) 4 G L b S 54 [] []) → X p l e (rmz 0 0) s m args below meth c 0 0 (RQ G L b S below args s (some (.int rf)) (rf = 0 ∨ rf = 1)) 4 G L b S 22 [(0, .ref (b + a0)), (1, .ref (b + a1)), (2, .int v2), (3, .int v3)] [] := by
  intro n
  induction n with
  | zero =>
    intro v3 z h
    exact of_none h
  | succ n ih =>
    intro v3 z h hr hx
    rw [L_X4_isOneLine_22] at h
    refine x_iload_n (pc := 22) C 3 dX4_isOneLine_22 rfl ?_
    refine x_bipush (pc := 23) C (v := (10 : Int32)) dX4_isOneLine_23 rfl ?_
    refine x_icmp_ge (pc := 25) C 54 dX4_isOneLine_25 rfl (fun c_1 => ?_) (fun c_1 => ?_)
    · replace h := of_ifn c_1 h
      exact x_sub [] rfl (hx (of_s1 h).symm)
    · replace h := of_ifp c_1 h
      refine x_aload_n (pc := 28) C 0 dX4_isOneLine_28 rfl ?_
      refine x_iload_n (pc := 29) C 3 dX4_isOneLine_29 rfl ?_
      obtain ⟨g_1, h⟩ := of_gd h
      refine x_laload (pc := 30) C h0 g_1 dX4_isOneLine_30 ?_
      refine x_aload_n (pc := 31) C 1 dX4_isOneLine_31 rfl ?_
      refine x_iload_n (pc := 32) C 2 dX4_isOneLine_32 rfl ?_
      obtain ⟨g_2, h⟩ := of_gd h
      refine x_laload (pc := 33) C h1 g_2 dX4_isOneLine_33 ?_
      refine x_lmul (pc := 34) C dX4_isOneLine_34 ?_
      refine x_aload_n (pc := 35) C 1 dX4_isOneLine_35 rfl ?_
      refine x_iload_n (pc := 36) C 3 dX4_isOneLine_36 rfl ?_
      obtain ⟨g_3, h⟩ := of_gd h
      refine x_laload (pc := 37) C h1 g_3 dX4_isOneLine_37 ?_
      refine x_aload_n (pc := 38) C 0 dX4_isOneLine_38 rfl ?_
      refine x_iload_n (pc := 39) C 2 dX4_isOneLine_39 rfl ?_
      obtain ⟨g_4, h⟩ := of_gd h
      refine x_laload (pc := 40) C h0 g_4 dX4_isOneLine_40 ?_
      refine x_lmul (pc := 41) C dX4_isOneLine_41 ?_
      refine x_lcmp_eq (pc := 42) C 48 dX4_isOneLine_42 dX4_isOneLine_43 rfl (fun c_2 => ?_) (fun c_2 => ?_)
      · replace h := of_ifp c_2 h
        obtain ⟨v3_1, ev3_1, h⟩ := of_lt h
        refine x_iinc (pc := 48) C (w := (1 : Int32)) 3 [(3, .int v3_1), (0, .ref (b + a0)), (1, .ref (b + a1)), (2, .int v2)] dX4_isOneLine_48 rfl rfl (Nat.le_of_ble_eq_true rfl) ev3_1 rfl ?_
        refine x_goto (pc := 51) C 22 dX4_isOneLine_51 rfl ?_
        exact x_sub [1, 2, 3, 0] rfl (ih _ h hr hx)
      · replace h := of_ifn c_2 h
        refine x_iconst (pc := 46) C (v := (0 : Int32)) dX4_isOneLine_46 rfl ?_
        have hq := hr _ (of_s1 h).symm
        exact x_zreturn (pc := 47) C (by decide) dX4_isOneLine_47 hq rfl
set_option maxRecDepth 100000 in
set_option maxHeartbeats 4000000 in
theorem c_X4_isOneLine {l : Launch} {G : zz_G} {L : Ly} {b : Nat} (a0 : Nat) (n0 : Nat) (a1 : Nat) (n1 : Nat) (p2 : Int32) (h0 : L.2 a0 = some (2, n0, [])) (h1 : L.2 a1 = some (2, n1, [])) (S : Sg) (rf : Int32) (h : f_X4_isOneLine a0 n0 a1 n1 p2 S = some rf) : Met l yX4_isOneLine (Cond.code yX4_isOneLine cX4_isOneLine 4 (some .boolean) :: zz_all) (rmz 0 0) (PC G L b S [.ref (b + a0), .ref (b + a1), .int p2]) (QC G L b S (some (.int rf)) (rf = 0 ∨ rf = 1)) 0 0 (fun q => b ≤ q) := by
  refine x_met [.ref (b + a0), .ref (b + a1), .int p2] (by decide +kernel) (Nat.le_of_ble_eq_true rfl) fun p e s m args below meth c C => ?_
  unfold f_X4_isOneLine at h
  refine x_iload_n (pc := 0) C 2 dX4_isOneLine_0 rfl ?_
  refine x_if_lt (pc := 1) C 18 dX4_isOneLine_1 rfl (fun c_1 => ?_) (fun c_1 => ?_)
  · replace h := of_ifp c_1 h
    refine x_iconst (pc := 18) C (v := (0 : Int32)) dX4_isOneLine_18 rfl ?_
    exact x_zreturn (pc := 19) C (by decide) dX4_isOneLine_19 (of_s1 h) rfl
  · replace h := of_ifn c_1 h
    refine x_iload_n (pc := 4) C 2 dX4_isOneLine_4 rfl ?_
    refine x_bipush (pc := 5) C (v := (10 : Int32)) dX4_isOneLine_5 rfl ?_
    refine x_icmp_ge (pc := 7) C 18 dX4_isOneLine_7 rfl (fun c_2 => ?_) (fun c_2 => ?_)
    · replace h := of_ifn c_2 h
      refine x_iconst (pc := 18) C (v := (0 : Int32)) dX4_isOneLine_18 rfl ?_
      exact x_zreturn (pc := 19) C (by decide) dX4_isOneLine_19 (of_s1 h) rfl
    · replace h := of_ifp c_2 h
      refine x_aload_n (pc := 10) C 1 dX4_isOneLine_10 rfl ?_
      refine x_iload_n (pc := 11) C 2 dX4_isOneLine_11 rfl ?_
      obtain ⟨g_1, h⟩ := of_gd h
      refine x_laload (pc := 12) C h1 g_1 dX4_isOneLine_12 ?_
      refine x_lconst (pc := 13) C (v := (0 : Int64)) dX4_isOneLine_13 rfl ?_
      refine x_lcmp_ne (pc := 14) C 20 dX4_isOneLine_14 dX4_isOneLine_15 rfl (fun c_3 => ?_) (fun c_3 => ?_)
      · replace h := of_ifn c_3 h
        refine x_iconst (pc := 20) C (v := (0 : Int32)) dX4_isOneLine_20 rfl ?_
        refine x_istore_n (pc := 21) C 3 [(3, .int (0 : Int32)), (0, .ref (b + a0)), (1, .ref (b + a1)), (2, .int p2)] dX4_isOneLine_21 rfl (Nat.le_of_ble_eq_true rfl) rfl rfl ?_
        refine x_sub [1, 2, 3, 0] rfl ?_
        obtain ⟨z_hz_1, hz_1, hl, hrr⟩ := of_bs h
        refine l_X4_isOneLine_22 C a0 n0 a1 n1 h0 h1 p2 S rf 400 _ hz_1 (fun q ez => of_s1 (hl _ ez)) (fun ez => ?_)
        replace h := hrr _ ez
        clear hl hrr
        refine x_iconst (pc := 54) C (v := (1 : Int32)) dX4_isOneLine_54 rfl ?_
        exact x_zreturn (pc := 55) C (by decide) dX4_isOneLine_55 (of_s1 h) rfl
      · replace h := of_ifp c_3 h
        refine x_iconst (pc := 18) C (v := (0 : Int32)) dX4_isOneLine_18 rfl ?_
        exact x_zreturn (pc := 19) C (by decide) dX4_isOneLine_19 (of_s1 h) rfl
set_option maxRecDepth 100000 in
set_option maxHeartbeats 4000000 in
theorem l_X4_fixedBitsWith_4 {p : Program} {l : Launch} {e : Env} {s : State} {m : MethodId} {args : Array Value} {below : List Frame} {meth : Method} {c : Code} {G : zz_G} {L : Ly} {b : Nat} {Q : State → Prop} (C : CX p G s m args meth c cX4_fixedBitsWith yX4_fixedBitsWith 5 (some .int)) (o : Nat) (a1 : Nat) (n1 : Nat) (hO : isSp L o) (h1 : L.2 a1 = some (2, n1, [])) (S : Sg) : ∀ (n : Nat) (v2 : Int32) (v3 : Int32) {z}, L_X4_fixedBitsWith_4 o a1 n1 S n v2 v3 = some z → (∀ (v2_o : Int32), z = v2_o → X p l e (rmz 1 23) s m args below meth c 0 0 Q 5 G L b S 53 [(2, .int v2_o)] []) → X p l e (rmz 1 23) s m args below meth c 0 0 Q 5 G L b S 4 [(0, .ref (b + o)), (1, .ref (b + a1)), (2, .int v2), (3, .int v3)] [] := by
  intro n
  induction n with
  | zero =>
    intro v2 v3 z h
    exact of_none h
  | succ n ih =>
    intro v2 v3 z h hx
    rw [L_X4_fixedBitsWith_4] at h
    refine x_iload_n (pc := 4) C 3 dX4_fixedBitsWith_4 rfl ?_
    refine x_bipush (pc := 5) C (v := (10 : Int32)) dX4_fixedBitsWith_5 rfl ?_
    refine x_icmp_ge (pc := 7) C 53 dX4_fixedBitsWith_7 rfl (fun c_1 => ?_) (fun c_1 => ?_)
    · replace h := of_ifn c_1 h
      exact x_sub [2] rfl (hx _ (of_s1 h).symm)
    · replace h := of_ifp c_1 h
      refine x_aload_n (pc := 10) C 0 dX4_fixedBitsWith_10 rfl ?_
      refine x_getr (pc := 11) C (k := 0) (o + 1) hO.1 rfl rfl wd_46 dX4_fixedBitsWith_11 (Nat.le_of_ble_eq_true rfl) rfl ?_
      refine x_iload_n (pc := 14) C 3 dX4_fixedBitsWith_14 rfl ?_
      obtain ⟨g_1, h⟩ := of_gd h
      refine x_aaloadJ (pc := 15) C hO.2.1 g_1 dX4_fixedBitsWith_15 ?_
      obtain ⟨r_1, hc_1, h⟩ := of_bd h
      refine x_callS1 (pc := 16) C [.ref (b + ((o + 2) + ix v3))] [] (c_X4_firstIn (b := b) ((o + 2) + ix v3) 10 (hO.2.2 _ (inb_lt (i := v3) g_1)) S _ hc_1) cw_X4_30 vs_X4_firstIn ⟨rfl, rfl, Nat.le_of_ble_eq_true rfl, Nat.le_of_ble_eq_true rfl⟩ ⟨Nat.le_refl _, Nat.le_refl _⟩ rfl ⟨rfl, Nat.le_of_ble_eq_true rfl⟩ dX4_fixedBitsWith_16 (fun hx_1 => ?_)
      refine x_istore (pc := 19) C [(4, .int r_1), (0, .ref (b + o)), (1, .ref (b + a1)), (2, .int v2), (3, .int v3)] dX4_fixedBitsWith_19 (Nat.le_of_ble_eq_true rfl) rfl rfl ?_
      refine x_iload (pc := 21) C 0 dX4_fixedBitsWith_21 rfl ?_
      refine x_if_lt (pc := 23) C 41 dX4_fixedBitsWith_23 rfl (fun c_2 => ?_) (fun c_2 => ?_)
      · replace h := of_ifp c_2 h
        refine x_iload_n (pc := 41) C 3 dX4_fixedBitsWith_41 rfl ?_
        refine x_iconst (pc := 42) C (v := (1 : Int32)) dX4_fixedBitsWith_42 rfl ?_
        refine x_iload_n (pc := 43) C 4 dX4_fixedBitsWith_43 rfl ?_
        refine x_ishl (pc := 44) C dX4_fixedBitsWith_44 ?_
        refine x_ior (pc := 45) C dX4_fixedBitsWith_45 ?_
        obtain ⟨v2_1, ev2_1, h⟩ := of_lt h
        refine x_istore_n (pc := 46) C 2 [(2, .int v2_1), (4, .int r_1), (0, .ref (b + o)), (1, .ref (b + a1)), (3, .int v3)] dX4_fixedBitsWith_46 rfl (Nat.le_of_ble_eq_true rfl) ev2_1 rfl ?_
        obtain ⟨v3_1, ev3_1, h⟩ := of_lt h
        refine x_iinc (pc := 47) C (w := (1 : Int32)) 4 [(3, .int v3_1), (2, .int v2_1), (4, .int r_1), (0, .ref (b + o)), (1, .ref (b + a1))] dX4_fixedBitsWith_47 rfl rfl (Nat.le_of_ble_eq_true rfl) ev3_1 rfl ?_
        refine x_goto (pc := 50) C 4 dX4_fixedBitsWith_50 rfl ?_
        exact x_sub [3, 4, 1, 0] rfl (ih _ _ h hx)
      · replace h := of_ifn c_2 h
        refine x_aload_n (pc := 26) C 1 dX4_fixedBitsWith_26 rfl ?_
        refine x_getr (pc := 27) C (k := 0) (o + 1) hO.1 rfl rfl wd_46 dX4_fixedBitsWith_27 (Nat.le_of_ble_eq_true rfl) rfl ?_
        refine x_iload_n (pc := 30) C 4 dX4_fixedBitsWith_30 rfl ?_
        refine x_aaloadJ (pc := 31) C hO.2.1 g_1 dX4_fixedBitsWith_31 ?_
        refine x_aload_n (pc := 32) C 2 dX4_fixedBitsWith_32 rfl ?_
        refine x_iload (pc := 33) C 0 dX4_fixedBitsWith_33 rfl ?_
        obtain ⟨r_2, hc_2, h⟩ := of_bd h
        refine x_callS1 (pc := 35) C [.ref (b + ((o + 2) + ix v3)), .ref (b + a1), .int r_1] [] (c_X4_isOneLine (b := b) ((o + 2) + ix v3) 10 a1 n1 r_1 (hO.2.2 _ (inb_lt (i := v3) g_1)) h1 S _ hc_2) cw_X4_38 vs_X4_isOneLine ⟨rfl, rfl, Nat.le_of_ble_eq_true rfl, Nat.le_of_ble_eq_true rfl⟩ ⟨Nat.le_refl _, Nat.le_refl _⟩ rfl ⟨rfl, Nat.le_of_ble_eq_true rfl⟩ dX4_fixedBitsWith_35 (fun hx_2 => ?_)
        obtain ⟨v2_2, ev2_2, h⟩ := of_lt h
        have kd_1 : X p l e (rmz 1 23) s m args below meth c 0 0 Q 5 G L b S 47 [(0, .ref (b + o)), (1, .ref (b + a1)), (2, .int v2_2), (3, .int v3)] [] := by
          obtain ⟨v3_2, ev3_2, h⟩ := of_lt h
          refine x_iinc (pc := 47) C (w := (1 : Int32)) 3 [(3, .int v3_2), (0, .ref (b + o)), (1, .ref (b + a1)), (2, .int v2_2)] dX4_fixedBitsWith_47 rfl rfl (Nat.le_of_ble_eq_true rfl) ev3_2 rfl ?_
          refine x_goto (pc := 50) C 4 dX4_fixedBitsWith_50 rfl ?_
          exact x_sub [1, 2, 3, 0] rfl (ih _ _ h hx)
        refine x_if_eq (pc := 38) C 47 dX4_fixedBitsWith_38 rfl (fun c_3 => ?_) (fun c_3 => ?_)
        · refine x_sub [1, 2, 3, 4] rfl ?_
          rw [show v2_2 = v2 from (ev2_2.trans (if_pos c_3))] at kd_1
          exact kd_1
        · refine x_iload_n (pc := 41) C 3 dX4_fixedBitsWith_41 rfl ?_
          refine x_iconst (pc := 42) C (v := (1 : Int32)) dX4_fixedBitsWith_42 rfl ?_
          refine x_iload_n (pc := 43) C 4 dX4_fixedBitsWith_43 rfl ?_
          refine x_ishl (pc := 44) C dX4_fixedBitsWith_44 ?_
          refine x_ior (pc := 45) C dX4_fixedBitsWith_45 ?_
          refine x_istore_n (pc := 46) C 2 [(2, .int (v2 ||| (isl (1 : Int32) v3))), (4, .int r_1), (0, .ref (b + o)), (1, .ref (b + a1)), (3, .int v3)] dX4_fixedBitsWith_46 rfl (Nat.le_of_ble_eq_true rfl) rfl rfl ?_
          refine x_sub [2, 3, 0, 4] rfl ?_
          rw [show v2_2 = (v2 ||| (isl (1 : Int32) v3)) from (ev2_2.trans (if_neg c_3))] at kd_1
          exact kd_1
set_option maxRecDepth 100000 in
set_option maxHeartbeats 4000000 in
theorem c_X4_fixedBitsWith {l : Launch} {G : zz_G} {L : Ly} {b : Nat} (o : Nat) (a1 : Nat) (n1 : Nat) (hO : isSp L o) (h1 : L.2 a1 = some (2, n1, [])) (S : Sg) (rf : Int32) (h : f_X4_fixedBitsWith o a1 n1 S = some rf) : Met l yX4_fixedBitsWith (Cond.code yX4_fixedBitsWith cX4_fixedBitsWith 5 (some .int) :: zz_all) (rmz 1 23) (PC G L b S [.ref (b + o), .ref (b + a1)]) (QC G L b S (some (.int rf)) True) 0 0 (fun q => b ≤ q) := by
  refine x_met [.ref (b + o), .ref (b + a1)] (by decide +kernel) (Nat.le_of_ble_eq_true rfl) fun p e s m args below meth c C => ?_
  unfold f_X4_fixedBitsWith at h
  refine x_iconst (pc := 0) C (v := (0 : Int32)) dX4_fixedBitsWith_0 rfl ?_
  refine x_istore_n (pc := 1) C 2 [(2, .int (0 : Int32)), (0, .ref (b + o)), (1, .ref (b + a1))] dX4_fixedBitsWith_1 rfl (Nat.le_of_ble_eq_true rfl) rfl rfl ?_
  refine x_iconst (pc := 2) C (v := (0 : Int32)) dX4_fixedBitsWith_2 rfl ?_
  refine x_istore_n (pc := 3) C 3 [(3, .int (0 : Int32)), (2, .int (0 : Int32)), (0, .ref (b + o)), (1, .ref (b + a1))] dX4_fixedBitsWith_3 rfl (Nat.le_of_ble_eq_true rfl) rfl rfl ?_
  refine x_sub [2, 3, 1, 0] rfl ?_
  obtain ⟨z_hz_1, hz_1, h⟩ := of_bd h
  refine l_X4_fixedBitsWith_4 C o a1 n1 hO h1 S 400 _ _ hz_1 (fun v2_1 ez => ?_)
  subst z_hz_1
  refine x_iload_n (pc := 53) C 0 dX4_fixedBitsWith_53 rfl ?_
  exact x_ireturn (pc := 54) C dX4_fixedBitsWith_54 (of_s1 h) rfl
set_option maxRecDepth 100000 in
set_option maxHeartbeats 4000000 in
theorem l_X4_hasPair_22 {p : Program} {l : Launch} {e : Env} {s : State} {m : MethodId} {args : Array Value} {below : List Frame} {meth : Method} {c : Code} {G : zz_G} {L : Ly} {b : Nat} (C : CX p G s m args meth c cX4_hasPair yX4_hasPair 4 (some .boolean)) (o : Nat) (hO : isSp L o) (v1 : Int32) (v2 : Int32) (S : Sg) (rf : Int32) : ∀ (n : Nat) (v3 : Int32) {z}, L_X4_hasPair_22 o v1 v2 S n v3 = some z → (∀ q, z = .inl q → q = rf) → (z = .inr () → X p l e (rmz 1 23) s m args below meth c 0 0 (RQ G L b S below args s (some (.int rf)) (rf = 0 ∨ rf = 1)) 4 G L b S 55 [(0, .ref (b + o)), (1, .int v1)] []) → X p l e (rmz 1 23) s m args below meth c 0 0 (RQ G L b S below args s (some (.int rf)) (rf = 0 ∨ rf = 1)) 4 G L b S 22 [(0, .ref (b + o)), (1, .int v1), (2, .int v2), (3, .int v3)] [] := by
  intro n
  induction n with
  | zero =>
    intro v3 z h
    exact of_none h
  | succ n ih =>
    intro v3 z h hr hx
    rw [L_X4_hasPair_22] at h
    refine x_iload_n (pc := 22) C 3 dX4_hasPair_22 rfl ?_
    refine x_bipush (pc := 23) C (v := (10 : Int32)) dX4_hasPair_23 rfl ?_
    refine x_icmp_ge (pc := 25) C 55 dX4_hasPair_25 rfl (fun c_1 => ?_) (fun c_1 => ?_)
    · replace h := of_ifn c_1 h
      exact x_sub [0, 1] rfl (hx (of_s1 h).symm)
    · replace h := of_ifp c_1 h
      refine x_aload_n (pc := 28) C 0 dX4_hasPair_28 rfl ?_
      refine x_getr (pc := 29) C (k := 0) (o + 1) hO.1 rfl rfl wd_46 dX4_hasPair_29 (Nat.le_of_ble_eq_true rfl) rfl ?_
      refine x_iload_n (pc := 32) C 1 dX4_hasPair_32 rfl ?_
      obtain ⟨g_1, h⟩ := of_gd h
      refine x_aaloadJ (pc := 33) C hO.2.1 g_1 dX4_hasPair_33 ?_
      refine x_aload_n (pc := 34) C 0 dX4_hasPair_34 rfl ?_
      refine x_getr (pc := 35) C (k := 0) (o + 1) hO.1 rfl rfl wd_46 dX4_hasPair_35 (Nat.le_of_ble_eq_true rfl) rfl ?_
      refine x_iload_n (pc := 38) C 3 dX4_hasPair_38 rfl ?_
      obtain ⟨g_2, h⟩ := of_gd h
      refine x_aaloadJ (pc := 39) C hO.2.1 g_2 dX4_hasPair_39 ?_
      refine x_iload_n (pc := 40) C 2 dX4_hasPair_40 rfl ?_
      obtain ⟨r_1, hc_1, h⟩ := of_bd h
      refine x_callS1 (pc := 41) C [.ref (b + ((o + 2) + ix v1)), .ref (b + ((o + 2) + ix v3)), .int v2] [] (c_X4_isOneLine (b := b) ((o + 2) + ix v1) 10 ((o + 2) + ix v3) 10 v2 (hO.2.2 _ (inb_lt (i := v1) g_1)) (hO.2.2 _ (inb_lt (i := v3) g_2)) S _ hc_1) cw_X4_38 vs_X4_isOneLine ⟨rfl, rfl, Nat.le_of_ble_eq_true rfl, Nat.le_of_ble_eq_true rfl⟩ ⟨Nat.le_refl _, Nat.le_refl _⟩ rfl ⟨rfl, Nat.le_of_ble_eq_true rfl⟩ dX4_hasPair_41 (fun hx_1 => ?_)
      refine x_if_eq (pc := 44) C 49 dX4_hasPair_44 rfl (fun c_2 => ?_) (fun c_2 => ?_)
      · replace h := of_ifp c_2 h
        obtain ⟨v3_1, ev3_1, h⟩ := of_lt h
        refine x_iinc (pc := 49) C (w := (1 : Int32)) 3 [(3, .int v3_1), (0, .ref (b + o)), (1, .int v1), (2, .int v2)] dX4_hasPair_49 rfl rfl (Nat.le_of_ble_eq_true rfl) ev3_1 rfl ?_
        refine x_goto (pc := 52) C 22 dX4_hasPair_52 rfl ?_
        exact x_sub [1, 2, 3, 0] rfl (ih _ h hr hx)
      · replace h := of_ifn c_2 h
        refine x_iconst (pc := 47) C (v := (1 : Int32)) dX4_hasPair_47 rfl ?_
        have hq := hr _ (of_s1 h).symm
        exact x_zreturn (pc := 48) C (by decide) dX4_hasPair_48 hq rfl
set_option maxRecDepth 100000 in
set_option maxHeartbeats 4000000 in
theorem l_X4_hasPair_2 {p : Program} {l : Launch} {e : Env} {s : State} {m : MethodId} {args : Array Value} {below : List Frame} {meth : Method} {c : Code} {G : zz_G} {L : Ly} {b : Nat} (C : CX p G s m args meth c cX4_hasPair yX4_hasPair 4 (some .boolean)) (o : Nat) (hO : isSp L o) (S : Sg) (rf : Int32) : ∀ (n : Nat) (v1 : Int32) {z}, L_X4_hasPair_2 o S n v1 = some z → (∀ q, z = .inl q → q = rf) → (z = .inr () → X p l e (rmz 1 23) s m args below meth c 0 0 (RQ G L b S below args s (some (.int rf)) (rf = 0 ∨ rf = 1)) 4 G L b S 61 [] []) → X p l e (rmz 1 23) s m args below meth c 0 0 (RQ G L b S below args s (some (.int rf)) (rf = 0 ∨ rf = 1)) 4 G L b S 2 [(0, .ref (b + o)), (1, .int v1)] [] := by
  intro n
  induction n with
  | zero =>
    intro v1 z h
    exact of_none h
  | succ n ih =>
    intro v1 z h hr hx
    rw [L_X4_hasPair_2] at h
    refine x_iload_n (pc := 2) C 1 dX4_hasPair_2 rfl ?_
    refine x_bipush (pc := 3) C (v := (10 : Int32)) dX4_hasPair_3 rfl ?_
    refine x_icmp_ge (pc := 5) C 61 dX4_hasPair_5 rfl (fun c_1 => ?_) (fun c_1 => ?_)
    · replace h := of_ifn c_1 h
      exact x_sub [] rfl (hx (of_s1 h).symm)
    · replace h := of_ifp c_1 h
      refine x_aload_n (pc := 8) C 0 dX4_hasPair_8 rfl ?_
      refine x_getr (pc := 9) C (k := 0) (o + 1) hO.1 rfl rfl wd_46 dX4_hasPair_9 (Nat.le_of_ble_eq_true rfl) rfl ?_
      refine x_iload_n (pc := 12) C 1 dX4_hasPair_12 rfl ?_
      obtain ⟨g_1, h⟩ := of_gd h
      refine x_aaloadJ (pc := 13) C hO.2.1 g_1 dX4_hasPair_13 ?_
      obtain ⟨r_1, hc_1, h⟩ := of_bd h
      refine x_callS1 (pc := 14) C [.ref (b + ((o + 2) + ix v1))] [] (c_X4_firstIn (b := b) ((o + 2) + ix v1) 10 (hO.2.2 _ (inb_lt (i := v1) g_1)) S _ hc_1) cw_X4_30 vs_X4_firstIn ⟨rfl, rfl, Nat.le_of_ble_eq_true rfl, Nat.le_of_ble_eq_true rfl⟩ ⟨Nat.le_refl _, Nat.le_refl _⟩ rfl ⟨rfl, Nat.le_of_ble_eq_true rfl⟩ dX4_hasPair_14 (fun hx_1 => ?_)
      refine x_istore_n (pc := 17) C 2 [(2, .int r_1), (0, .ref (b + o)), (1, .int v1)] dX4_hasPair_17 rfl (Nat.le_of_ble_eq_true rfl) rfl rfl ?_
      refine x_iload_n (pc := 18) C 2 dX4_hasPair_18 rfl ?_
      refine x_iconst (pc := 19) C (v := (1 : Int32)) dX4_hasPair_19 rfl ?_
      refine x_iadd (pc := 20) C dX4_hasPair_20 ?_
      obtain ⟨v3_1, ev3_1, h⟩ := of_lt h
      refine x_istore_n (pc := 21) C 3 [(3, .int v3_1), (2, .int r_1), (0, .ref (b + o)), (1, .int v1)] dX4_hasPair_21 rfl (Nat.le_of_ble_eq_true rfl) ev3_1 rfl ?_
      refine x_sub [2, 3, 1, 0] rfl ?_
      obtain ⟨z_hz_1, hz_1, hl, hrr⟩ := of_bs h
      refine l_X4_hasPair_22 C o hO v1 r_1 S rf 400 _ hz_1 (fun q ez => hr _ (of_s1 (hl _ ez)).symm) (fun ez => ?_)
      replace h := hrr _ ez
      clear hl hrr
      obtain ⟨v1_1, ev1_1, h⟩ := of_lt h
      refine x_iinc (pc := 55) C (w := (1 : Int32)) 1 [(1, .int v1_1), (0, .ref (b + o))] dX4_hasPair_55 rfl rfl (Nat.le_of_ble_eq_true rfl) ev1_1 rfl ?_
      refine x_goto (pc := 58) C 2 dX4_hasPair_58 rfl ?_
      exact x_sub [1, 0] rfl (ih _ h hr hx)
set_option maxRecDepth 100000 in
set_option maxHeartbeats 4000000 in
theorem c_X4_hasPair {l : Launch} {G : zz_G} {L : Ly} {b : Nat} (o : Nat) (hO : isSp L o) (S : Sg) (rf : Int32) (h : f_X4_hasPair o S = some rf) : Met l yX4_hasPair (Cond.code yX4_hasPair cX4_hasPair 4 (some .boolean) :: zz_all) (rmz 1 23) (PC G L b S [.ref (b + o)]) (QC G L b S (some (.int rf)) (rf = 0 ∨ rf = 1)) 0 0 (fun q => b ≤ q) := by
  refine x_met [.ref (b + o)] (by decide +kernel) (Nat.le_of_ble_eq_true rfl) fun p e s m args below meth c C => ?_
  unfold f_X4_hasPair at h
  refine x_iconst (pc := 0) C (v := (0 : Int32)) dX4_hasPair_0 rfl ?_
  refine x_istore_n (pc := 1) C 1 [(1, .int (0 : Int32)), (0, .ref (b + o))] dX4_hasPair_1 rfl (Nat.le_of_ble_eq_true rfl) rfl rfl ?_
  refine x_sub [1, 0] rfl ?_
  obtain ⟨z_hz_1, hz_1, hl, hrr⟩ := of_bs h
  refine l_X4_hasPair_2 C o hO S rf 400 _ hz_1 (fun q ez => of_s1 (hl _ ez)) (fun ez => ?_)
  replace h := hrr _ ez
  clear hl hrr
  refine x_iconst (pc := 61) C (v := (0 : Int32)) dX4_hasPair_61 rfl ?_
  exact x_zreturn (pc := 62) C (by decide) dX4_hasPair_62 (of_s1 h) rfl
set_option maxRecDepth 100000 in
set_option maxHeartbeats 4000000 in
theorem c_X5_meetingBy {l : Launch} {G : zz_G} {L : Ly} {b : Nat} (o : Nat) (o1 : Nat) (p2 : Int32) (p3 : Int32) (hO : isW L o) (h1 : isQ L o1) (S : Sg) (rf : Int32) (Sf : Sg) (h : f_X5_meetingBy o o1 p2 p3 S = some (rf, Sf)) : Met l yX5_meetingBy (Cond.code yX5_meetingBy cX5_meetingBy 6 (some .int) :: zz_all) (rmz 2 49) (PC G L b S [.ref (b + o), .ref (b + o1), .int p2, .int p3]) (QC G L b Sf (some (.int rf)) True) 0 0 (fun q => b ≤ q) := by
  refine x_met [.ref (b + o), .ref (b + o1), .int p2, .int p3] (by decide +kernel) (Nat.le_of_ble_eq_true rfl) fun p e s m args below meth c C => ?_
  unfold f_X5_meetingBy at h
  refine x_aload_n (pc := 0) C 0 dX5_meetingBy_0 rfl ?_
  refine x_aload_n (pc := 1) C 1 dX5_meetingBy_1 rfl ?_
  obtain ⟨S_1, hc_1, h⟩ := of_bd h
  refine x_callV_ (pc := 2) C (o := o) [.ref (b + o1)] [] (c_X5_findRest (b := b) o o1 hO h1 S _ hc_1) cw_X5_114 vi_X5_findRest ⟨rfl, rfl, Nat.le_of_ble_eq_true rfl, Nat.le_of_ble_eq_true rfl⟩ ⟨Nat.le_refl _, Nat.le_refl _⟩ hO.1 ⟨rfl, rfl, rfl⟩ rfl ⟨rfl, Nat.le_of_ble_eq_true rfl⟩ dX5_meetingBy_2 (fun hx_1 => ?_)
  refine x_aload_n (pc := 5) C 0 dX5_meetingBy_5 rfl ?_
  refine x_getr (pc := 6) C (k := 13) (o + 42) hO.1 rfl rfl wd_79 dX5_meetingBy_6 (Nat.le_of_ble_eq_true rfl) rfl ?_
  obtain ⟨r_1, hc_2, h⟩ := of_bd h
  refine x_callS1 (pc := 9) C [.ref (b + (o + 42))] [] (c_X4_firstIn (b := b) (o + 42) 10 hO.2.2.2.2.2.2.2.2.2.2.2 S_1 _ hc_2) cw_X5_117 vs_X4_firstIn ⟨rfl, rfl, Nat.le_of_ble_eq_true rfl, Nat.le_of_ble_eq_true rfl⟩ ⟨Nat.le_refl _, Nat.le_refl _⟩ rfl ⟨rfl, Nat.le_of_ble_eq_true rfl⟩ dX5_meetingBy_9 (fun hx_2 => ?_)
  refine x_if_ge (pc := 12) C 17 dX5_meetingBy_12 rfl (fun c_1 => ?_) (fun c_1 => ?_)
  · replace h := of_ifn c_1 h
    refine x_aload_n (pc := 17) C 0 dX5_meetingBy_17 rfl ?_
    refine x_getr (pc := 18) C (k := 10) (o + 17) hO.1 rfl rfl wd_75 dX5_meetingBy_18 (Nat.le_of_ble_eq_true rfl) rfl ?_
    refine x_aload_n (pc := 21) C 0 dX5_meetingBy_21 rfl ?_
    refine x_getr (pc := 22) C (k := 13) (o + 42) hO.1 rfl rfl wd_79 dX5_meetingBy_22 (Nat.le_of_ble_eq_true rfl) rfl ?_
    obtain ⟨r_2, hc_3, h⟩ := of_bd h
    refine x_callV1 (pc := 25) C (o := (o + 17)) [.ref (b + (o + 42))] [] (c_X4_fixedBitsWith (b := b) (o + 17) (o + 42) 10 hO.2.2.2.2.2.2.2.2.1 hO.2.2.2.2.2.2.2.2.2.2.2 S_1 _ hc_3) cw_X5_121 vi_X4_fixedBitsWith ⟨rfl, rfl, Nat.le_of_ble_eq_true rfl, Nat.le_of_ble_eq_true rfl⟩ ⟨Nat.le_refl _, Nat.le_refl _⟩ hO.2.2.2.2.2.2.2.2.1.1 ⟨rfl, rfl, rfl⟩ rfl ⟨rfl, Nat.le_of_ble_eq_true rfl⟩ dX5_meetingBy_25 (fun hx_3 => ?_)
    refine x_if_eq (pc := 28) C 33 dX5_meetingBy_28 rfl (fun c_2 => ?_) (fun c_2 => ?_)
    · replace h := of_ifp c_2 h
      refine x_iconst (pc := 33) C (v := (0 : Int32)) dX5_meetingBy_33 rfl ?_
      refine x_istore (pc := 34) C [(4, .int (0 : Int32)), (0, .ref (b + o)), (1, .ref (b + o1)), (2, .int p2), (3, .int p3)] dX5_meetingBy_34 (Nat.le_of_ble_eq_true rfl) rfl rfl ?_
      refine x_iload_n (pc := 36) C 3 dX5_meetingBy_36 rfl ?_
      refine x_iconst (pc := 37) C (v := (1 : Int32)) dX5_meetingBy_37 rfl ?_
      obtain ⟨J_1, eJ_1, h⟩ := of_lt h
      have kJ_1 : ∀ (v4_1 : Int32) (S_2 : Sg), J_1 v4_1 S_2 = some (rf, Sf) → X p l e (rmz 2 49) s m args below meth c 0 0 (RQ G L b Sf below args s (some (.int rf)) True) 6 G L b S_2 131 [(4, .int v4_1)] [] := by
        intro v4_1 S_2 h
        replace h := of_J2 eJ_1 h
        refine x_iload (pc := 131) C 0 dX5_meetingBy_131 rfl ?_
        obtain ⟨x_1, ex_1, h⟩ := of_lt h
        have kd_1 : X p l e (rmz 2 49) s m args below meth c 0 0 (RQ G L b Sf below args s (some (.int rf)) True) 6 G L b S_2 141 [] [.int x_1] := by
          exact x_ireturn (pc := 141) C dX5_meetingBy_141 (of_sp h).1 (of_sp h).2
        refine x_if_eq (pc := 133) C 140 dX5_meetingBy_133 rfl (fun c_3 => ?_) (fun c_3 => ?_)
        · refine x_iconst (pc := 140) C (v := (1 : Int32)) dX5_meetingBy_140 rfl ?_
          refine x_sub [] rfl ?_
          rw [show x_1 = (1 : Int32) from (ex_1.trans (if_pos c_3))] at kd_1
          exact kd_1
        · refine x_iconst (pc := 136) C (v := (2 : Int32)) dX5_meetingBy_136 rfl ?_
          refine x_goto (pc := 137) C 141 dX5_meetingBy_137 rfl ?_
          refine x_sub [] rfl ?_
          rw [show x_1 = (2 : Int32) from (ex_1.trans (if_neg c_3))] at kd_1
          exact kd_1
      refine x_icmp_ne (pc := 38) C 70 dX5_meetingBy_38 rfl (fun c_4 => ?_) (fun c_4 => ?_)
      · replace h := of_ifn c_4 h
        refine x_iload_n (pc := 70) C 3 dX5_meetingBy_70 rfl ?_
        refine x_iconst (pc := 71) C (v := (2 : Int32)) dX5_meetingBy_71 rfl ?_
        refine x_icmp_ne (pc := 72) C 109 dX5_meetingBy_72 rfl (fun c_5 => ?_) (fun c_5 => ?_)
        · replace h := of_ifn c_5 h
          refine x_iload_n (pc := 109) C 3 dX5_meetingBy_109 rfl ?_
          refine x_iconst (pc := 110) C (v := (3 : Int32)) dX5_meetingBy_110 rfl ?_
          refine x_icmp_ne (pc := 111) C 131 dX5_meetingBy_111 rfl (fun c_6 => ?_) (fun c_6 => ?_)
          · replace h := of_ifn c_6 h
            exact x_sub [0] rfl (kJ_1 _ _ h)
          · replace h := of_ifp c_6 h
            refine x_aload_n (pc := 114) C 1 dX5_meetingBy_114 rfl ?_
            refine x_geti (pc := 115) C (k := 9) hO.1 rfl rfl wd_73 dX5_meetingBy_115 ⟨Nat.le_of_ble_eq_true rfl, rfl⟩ ?_
            refine x_iconst (pc := 118) C (v := (1 : Int32)) dX5_meetingBy_118 rfl ?_
            refine x_iadd (pc := 119) C dX5_meetingBy_119 ?_
            refine x_iload_n (pc := 120) C 4 dX5_meetingBy_120 rfl ?_
            obtain ⟨x_2, ex_2, h⟩ := of_lt h
            have kd_2 : X p l e (rmz 2 49) s m args below meth c 0 0 (RQ G L b Sf below args s (some (.int rf)) True) 6 G L b S_1 129 [] [.int x_2] := by
              refine x_istore (pc := 129) C [(4, .int x_2)] dX5_meetingBy_129 (Nat.le_of_ble_eq_true rfl) rfl rfl ?_
              exact x_sub [0] rfl (kJ_1 _ _ h)
            refine x_icmp_le (pc := 121) C 128 dX5_meetingBy_121 rfl (fun c_7 => ?_) (fun c_7 => ?_)
            · refine x_iconst (pc := 128) C (v := (0 : Int32)) dX5_meetingBy_128 rfl ?_
              refine x_sub [] rfl ?_
              rw [show x_2 = (0 : Int32) from (ex_2.trans (if_neg c_7))] at kd_2
              exact kd_2
            · refine x_iconst (pc := 124) C (v := (1 : Int32)) dX5_meetingBy_124 rfl ?_
              refine x_goto (pc := 125) C 129 dX5_meetingBy_125 rfl ?_
              refine x_sub [] rfl ?_
              rw [show x_2 = (1 : Int32) from (ex_2.trans (if_pos c_7))] at kd_2
              exact kd_2
        · replace h := of_ifp c_5 h
          refine x_aload_n (pc := 75) C 1 dX5_meetingBy_75 rfl ?_
          refine x_getr (pc := 76) C (k := 11) (o + 29) hO.1 rfl rfl wd_77 dX5_meetingBy_76 (Nat.le_of_ble_eq_true rfl) rfl ?_
          refine x_aload_n (pc := 79) C 1 dX5_meetingBy_79 rfl ?_
          refine x_getr (pc := 80) C (k := 10) (o + 17) hO.1 rfl rfl wd_75 dX5_meetingBy_80 (Nat.le_of_ble_eq_true rfl) rfl ?_
          obtain ⟨S_3, hc_4, h⟩ := of_bd h
          refine x_callV_ (pc := 83) C (o := (o + 29)) [.ref (b + (o + 17))] [] (c_X4_copyFrom (b := b) (o + 29) (o + 17) hO.2.2.2.2.2.2.2.2.2.1 hO.2.2.2.2.2.2.2.2.1 S_1 _ hc_4) cw_X5_68 vi_X4_copyFrom ⟨rfl, rfl, Nat.le_of_ble_eq_true rfl, Nat.le_of_ble_eq_true rfl⟩ ⟨Nat.le_refl _, Nat.le_refl _⟩ hO.2.2.2.2.2.2.2.2.2.1.1 ⟨rfl, rfl, rfl⟩ rfl ⟨rfl, Nat.le_of_ble_eq_true rfl⟩ dX5_meetingBy_83 (fun hx_4 => ?_)
          refine x_aload_n (pc := 86) C 1 dX5_meetingBy_86 rfl ?_
          refine x_getr (pc := 87) C (k := 11) (o + 29) hO.1 rfl rfl wd_77 dX5_meetingBy_87 (Nat.le_of_ble_eq_true rfl) rfl ?_
          refine x_aload_n (pc := 90) C 1 dX5_meetingBy_90 rfl ?_
          refine x_getr (pc := 91) C (k := 13) (o + 42) hO.1 rfl rfl wd_79 dX5_meetingBy_91 (Nat.le_of_ble_eq_true rfl) rfl ?_
          obtain ⟨S_4, hc_5, h⟩ := of_bd h
          refine x_callV_ (pc := 94) C (o := (o + 29)) [.ref (b + (o + 42))] [] (c_X4_join (b := b) (o + 29) (o + 42) 10 hO.2.2.2.2.2.2.2.2.2.1 hO.2.2.2.2.2.2.2.2.2.2.2 S_3 _ hc_5) cw_X5_129 vi_X4_join ⟨rfl, rfl, Nat.le_of_ble_eq_true rfl, Nat.le_of_ble_eq_true rfl⟩ ⟨Nat.le_refl _, Nat.le_refl _⟩ hO.2.2.2.2.2.2.2.2.2.1.1 ⟨rfl, rfl, rfl⟩ rfl ⟨rfl, Nat.le_of_ble_eq_true rfl⟩ dX5_meetingBy_94 (fun hx_5 => ?_)
          refine x_aload_n (pc := 97) C 1 dX5_meetingBy_97 rfl ?_
          refine x_getr (pc := 98) C (k := 11) (o + 29) hO.1 rfl rfl wd_77 dX5_meetingBy_98 (Nat.le_of_ble_eq_true rfl) rfl ?_
          obtain ⟨r_3, hc_6, h⟩ := of_bd h
          refine x_callV1 (pc := 101) C (o := (o + 29)) [] [] (c_X4_hasPair (b := b) (o + 29) hO.2.2.2.2.2.2.2.2.2.1 S_4 _ hc_6) cw_X5_132 vi_X4_hasPair ⟨rfl, rfl, Nat.le_of_ble_eq_true rfl, Nat.le_of_ble_eq_true rfl⟩ ⟨Nat.le_refl _, Nat.le_refl _⟩ hO.2.2.2.2.2.2.2.2.2.1.1 ⟨rfl, rfl, rfl⟩ rfl ⟨rfl, Nat.le_of_ble_eq_true rfl⟩ dX5_meetingBy_101 (fun hx_6 => ?_)
          refine x_istore (pc := 104) C [(4, .int r_3), (0, .ref (b + o)), (1, .ref (b + o1)), (2, .int p2), (3, .int p3)] dX5_meetingBy_104 (Nat.le_of_ble_eq_true rfl) rfl rfl ?_
          refine x_goto (pc := 106) C 131 dX5_meetingBy_106 rfl ?_
          exact x_sub [0] rfl (kJ_1 _ _ h)
      · replace h := of_ifp c_4 h
        refine x_aload_n (pc := 41) C 2 dX5_meetingBy_41 rfl ?_
        obtain ⟨r_4, hc_7, h⟩ := of_bd h
        refine x_callV1 (pc := 42) C (o := o1) [] [] (c_X2_size (b := b) o1 h1 S_1 _ hc_7) cw_X5_124 vi_X2_size ⟨rfl, rfl, Nat.le_of_ble_eq_true rfl, Nat.le_of_ble_eq_true rfl⟩ ⟨Nat.le_refl _, Nat.le_refl _⟩ h1.1 ⟨rfl, rfl, rfl⟩ rfl ⟨rfl, Nat.le_of_ble_eq_true rfl⟩ dX5_meetingBy_42 (fun hx_7 => ?_)
        refine x_istore (pc := 45) C [(5, .int r_4), (4, .int (0 : Int32)), (0, .ref (b + o)), (1, .ref (b + o1)), (2, .int p2), (3, .int p3)] dX5_meetingBy_45 (Nat.le_of_ble_eq_true rfl) rfl rfl ?_
        refine x_iload (pc := 47) C 0 dX5_meetingBy_47 rfl ?_
        refine x_iconst (pc := 49) C (v := (2 : Int32)) dX5_meetingBy_49 rfl ?_
        obtain ⟨x_3, ex_3, h⟩ := of_lt h
        have kd_3 : X p l e (rmz 2 49) s m args below meth c 0 0 (RQ G L b Sf below args s (some (.int rf)) True) 6 G L b S_1 65 [] [.int x_3] := by
          refine x_istore (pc := 65) C [(4, .int x_3)] dX5_meetingBy_65 (Nat.le_of_ble_eq_true rfl) rfl rfl ?_
          refine x_goto (pc := 67) C 131 dX5_meetingBy_67 rfl ?_
          exact x_sub [0] rfl (kJ_1 _ _ h)
        refine x_icmp_lt (pc := 50) C 60 dX5_meetingBy_50 rfl (fun c_8 => ?_) (fun c_8 => ?_)
        · refine x_iconst (pc := 60) C (v := (1 : Int32)) dX5_meetingBy_60 rfl ?_
          refine x_goto (pc := 61) C 65 dX5_meetingBy_61 rfl ?_
          refine x_sub [] rfl ?_
          rw [show x_3 = (1 : Int32) from (ex_3.trans (if_pos c_8))] at kd_3
          exact kd_3
        · refine x_iload (pc := 53) C 0 dX5_meetingBy_53 rfl ?_
          refine x_bipush (pc := 55) C (v := (6 : Int32)) dX5_meetingBy_55 rfl ?_
          refine x_icmp_le (pc := 57) C 64 dX5_meetingBy_57 rfl (fun c_9 => ?_) (fun c_9 => ?_)
          · refine x_iconst (pc := 64) C (v := (0 : Int32)) dX5_meetingBy_64 rfl ?_
            refine x_sub [] rfl ?_
            rw [show x_3 = (0 : Int32) from ((ex_3.trans (if_neg c_8)).trans (if_neg c_9))] at kd_3
            exact kd_3
          · refine x_iconst (pc := 60) C (v := (1 : Int32)) dX5_meetingBy_60 rfl ?_
            refine x_goto (pc := 61) C 65 dX5_meetingBy_61 rfl ?_
            refine x_sub [] rfl ?_
            rw [show x_3 = (1 : Int32) from ((ex_3.trans (if_neg c_8)).trans (if_pos c_9))] at kd_3
            exact kd_3
    · replace h := of_ifn c_2 h
      refine x_iconst (pc := 31) C (v := (2 : Int32)) dX5_meetingBy_31 rfl ?_
      exact x_ireturn (pc := 32) C dX5_meetingBy_32 (of_sp h).1 (of_sp h).2
  · replace h := of_ifp c_1 h
    refine x_iconst (pc := 15) C (v := (0 : Int32)) dX5_meetingBy_15 rfl ?_
    exact x_ireturn (pc := 16) C dX5_meetingBy_16 (of_sp h).1 (of_sp h).2
set_option maxRecDepth 100000 in
set_option maxHeartbeats 4000000 in
theorem c_X5_takeQuestion {l : Launch} {G : zz_G} {L : Ly} {b : Nat} (o : Nat) (o1 : Nat) (hO : isW L o) (h1 : isQ L o1) (S : Sg) (rf : Int32) (Sf : Sg) (h : f_X5_takeQuestion o o1 S = some (rf, Sf)) : Met l yX5_takeQuestion (Cond.code yX5_takeQuestion cX5_takeQuestion 3 (some .int) :: zz_all) (rmz 3 74) (PC G L b S [.ref (b + o), .ref (b + o1)]) (QC G L b Sf (some (.int rf)) True) 0 0 (fun q => b ≤ q) := by
  refine x_met [.ref (b + o), .ref (b + o1)] (by decide +kernel) (Nat.le_of_ble_eq_true rfl) fun p e s m args below meth c C => ?_
  unfold f_X5_takeQuestion at h
  refine x_aload_n (pc := 0) C 0 dX5_takeQuestion_0 rfl ?_
  refine x_aload_n (pc := 1) C 1 dX5_takeQuestion_1 rfl ?_
  refine x_aload_n (pc := 2) C 0 dX5_takeQuestion_2 rfl ?_
  refine x_geti (pc := 3) C (k := 5) hO.1 rfl rfl wd_66 dX5_takeQuestion_3 ⟨Nat.le_of_ble_eq_true rfl, rfl⟩ ?_
  refine x_aload_n (pc := 6) C 0 dX5_takeQuestion_6 rfl ?_
  refine x_geti (pc := 7) C (k := 6) hO.1 rfl rfl wd_68 dX5_takeQuestion_7 ⟨Nat.le_of_ble_eq_true rfl, rfl⟩ ?_
  obtain ⟨⟨r_1, S_1⟩, hc_1, h⟩ := of_bd h
  replace h := of_u2 h
  refine x_callV1 (pc := 10) C (o := o) [.ref (b + o1), .int (S.1 o 5), .int (S.1 o 6)] [] (c_X5_meetingBy (b := b) o o1 (S.1 o 5) (S.1 o 6) hO h1 S _ _ hc_1) cw_X5_106 vi_X5_meetingBy ⟨rfl, rfl, Nat.le_of_ble_eq_true rfl, Nat.le_of_ble_eq_true rfl⟩ ⟨Nat.le_refl _, Nat.le_refl _⟩ hO.1 ⟨rfl, rfl, rfl⟩ rfl ⟨rfl, Nat.le_of_ble_eq_true rfl⟩ dX5_takeQuestion_10 (fun hx_1 => ?_)
  refine x_istore_n (pc := 13) C 2 [(2, .int r_1), (0, .ref (b + o)), (1, .ref (b + o1))] dX5_takeQuestion_13 rfl (Nat.le_of_ble_eq_true rfl) rfl rfl ?_
  refine x_iload_n (pc := 14) C 0 dX5_takeQuestion_14 rfl ?_
  refine x_iconst (pc := 15) C (v := (1 : Int32)) dX5_takeQuestion_15 rfl ?_
  refine x_icmp_ne (pc := 16) C 24 dX5_takeQuestion_16 rfl (fun c_1 => ?_) (fun c_1 => ?_)
  · replace h := of_ifn c_1 h
    refine x_iload_n (pc := 24) C 0 dX5_takeQuestion_24 rfl ?_
    exact x_ireturn (pc := 25) C dX5_takeQuestion_25 (of_sp h).1 (of_sp h).2
  · replace h := of_ifp c_1 h
    refine x_aload_n (pc := 19) C 1 dX5_takeQuestion_19 rfl ?_
    refine x_aload_n (pc := 20) C 2 dX5_takeQuestion_20 rfl ?_
    obtain ⟨S_2, hc_2, h⟩ := of_bd h
    refine x_callV_ (pc := 21) C (o := o) [.ref (b + o1)] [] (c_X5_join (b := b) o o1 hO h1 S_1 _ hc_2) cw_X5_110 vi_X5_join ⟨rfl, rfl, Nat.le_of_ble_eq_true rfl, Nat.le_of_ble_eq_true rfl⟩ ⟨Nat.le_refl _, Nat.le_refl _⟩ hO.1 ⟨rfl, rfl, rfl⟩ rfl ⟨rfl, Nat.le_of_ble_eq_true rfl⟩ dX5_takeQuestion_21 (fun hx_2 => ?_)
    refine x_iload_n (pc := 24) C 0 dX5_takeQuestion_24 rfl ?_
    exact x_ireturn (pc := 25) C dX5_takeQuestion_25 (of_sp h).1 (of_sp h).2
set_option maxRecDepth 100000 in
set_option maxHeartbeats 4000000 in
theorem c_X6_ask {l : Launch} {G : zz_G} {L : Ly} {b : Nat} (p1 : Int32) (p2 : Int32) (p3 : Int32) (hO : isGu L) (S : Sg) (rf : Int32) (Sf : Sg) (h : f_X6_ask p1 p2 p3 S = some (rf, Sf)) : Met l yX6_ask (Cond.code yX6_ask cX6_ask 5 (some .int) :: zz_all) (rmz 4 96) (PC G L b S [.ref (b + 0), .int p1, .int p2, .int p3]) (QC G L b Sf (some (.int rf)) True) 0 0 (fun q => b ≤ q) := by
  refine x_met [.ref (b + 0), .int p1, .int p2, .int p3] (by decide +kernel) (Nat.le_of_ble_eq_true rfl) fun p e s m args below meth c C => ?_
  unfold f_X6_ask at h
  refine x_iload_n (pc := 0) C 1 dX6_ask_0 rfl ?_
  refine x_iload_n (pc := 1) C 2 dX6_ask_1 rfl ?_
  refine x_iload_n (pc := 2) C 3 dX6_ask_2 rfl ?_
  refine x_callS1 (pc := 3) C [.int p1, .int p2, .int p3] [] (c_X2_misfitOf (b := b) p1 p2 p3 S) cw_X6_146 vs_X2_misfitOf ⟨rfl, rfl, Nat.le_of_ble_eq_true rfl, Nat.le_of_ble_eq_true rfl⟩ ⟨Nat.le_refl _, Nat.le_refl _⟩ rfl ⟨rfl, Nat.le_of_ble_eq_true rfl⟩ dX6_ask_3 (fun hx_1 => ?_)
  obtain ⟨v4_1, ev4_1, h⟩ := of_lt h
  refine x_istore (pc := 6) C [(4, .int v4_1), (0, .ref (b + 0)), (1, .int p1), (2, .int p2), (3, .int p3)] dX6_ask_6 (Nat.le_of_ble_eq_true rfl) ev4_1 rfl ?_
  refine x_iload (pc := 8) C 0 dX6_ask_8 rfl ?_
  refine x_if_eq (pc := 10) C 23 dX6_ask_10 rfl (fun c_1 => ?_) (fun c_1 => ?_)
  · replace h := of_ifp c_1 h
    refine x_aload_n (pc := 23) C 1 dX6_ask_23 rfl ?_
    refine x_getr (pc := 24) C (k := 4) 130 hO.1 rfl rfl wd_153 dX6_ask_24 (Nat.le_of_ble_eq_true rfl) rfl ?_
    refine x_iload_n (pc := 27) C 2 dX6_ask_27 rfl ?_
    refine x_iload_n (pc := 28) C 3 dX6_ask_28 rfl ?_
    refine x_iload_n (pc := 29) C 4 dX6_ask_29 rfl ?_
    obtain ⟨S_1, hc_1, h⟩ := of_bd h
    refine x_callV_ (pc := 30) C (o := 130) [.int p1, .int p2, .int p3] [] (c_X2_make (b := b) 130 p1 p2 p3 hO.2.2.2.2.1 S _ hc_1) cw_X6_150 vi_X2_make ⟨rfl, rfl, Nat.le_of_ble_eq_true rfl, Nat.le_of_ble_eq_true rfl⟩ ⟨Nat.le_refl _, Nat.le_refl _⟩ hO.2.2.2.2.1.1 ⟨rfl, rfl, rfl⟩ rfl ⟨rfl, Nat.le_of_ble_eq_true rfl⟩ dX6_ask_30 (fun hx_2 => ?_)
    refine x_aload_n (pc := 33) C 1 dX6_ask_33 rfl ?_
    refine x_getr (pc := 34) C (k := 0) 1 hO.1 rfl rfl wd_149 dX6_ask_34 (Nat.le_of_ble_eq_true rfl) rfl ?_
    refine x_aload_n (pc := 37) C 1 dX6_ask_37 rfl ?_
    refine x_getr (pc := 38) C (k := 4) 130 hO.1 rfl rfl wd_153 dX6_ask_38 (Nat.le_of_ble_eq_true rfl) rfl ?_
    obtain ⟨⟨r_1, S_2⟩, hc_2, h⟩ := of_bd h
    replace h := of_u2 h
    refine x_callV1 (pc := 41) C (o := 1) [.ref (b + 130)] [] (c_X5_takeQuestion (b := b) 1 130 hO.2.1 hO.2.2.2.2.1 S_1 _ _ hc_2) cw_X6_154 vi_X5_takeQuestion ⟨rfl, rfl, Nat.le_of_ble_eq_true rfl, Nat.le_of_ble_eq_true rfl⟩ ⟨Nat.le_refl _, Nat.le_refl _⟩ hO.2.1.1 ⟨rfl, rfl, rfl⟩ rfl ⟨rfl, Nat.le_of_ble_eq_true rfl⟩ dX6_ask_41 (fun hx_3 => ?_)
    refine x_iconst (pc := 44) C (v := (2 : Int32)) dX6_ask_44 rfl ?_
    refine x_icmp_ne (pc := 45) C 58 dX6_ask_45 rfl (fun c_2 => ?_) (fun c_2 => ?_)
    · replace h := of_ifn c_2 h
      refine x_aload_n (pc := 58) C 1 dX6_ask_58 rfl ?_
      refine x_getr (pc := 59) C (k := 0) 1 hO.1 rfl rfl wd_149 dX6_ask_59 (Nat.le_of_ble_eq_true rfl) rfl ?_
      refine x_aload_n (pc := 62) C 1 dX6_ask_62 rfl ?_
      refine x_getr (pc := 63) C (k := 4) 130 hO.1 rfl rfl wd_153 dX6_ask_63 (Nat.le_of_ble_eq_true rfl) rfl ?_
      obtain ⟨r_2, hc_3, h⟩ := of_bd h
      refine x_callV1 (pc := 66) C (o := 1) [.ref (b + 130)] [] (c_X5_trueAnswer (b := b) 1 130 hO.2.1 hO.2.2.2.2.1 S_2 _ hc_3) cw_X6_158 vi_X5_trueAnswer ⟨rfl, rfl, Nat.le_of_ble_eq_true rfl, Nat.le_of_ble_eq_true rfl⟩ ⟨Nat.le_refl _, Nat.le_refl _⟩ hO.2.1.1 ⟨rfl, rfl, rfl⟩ rfl ⟨rfl, Nat.le_of_ble_eq_true rfl⟩ dX6_ask_66 (fun hx_4 => ?_)
      exact x_ireturn (pc := 69) C dX6_ask_69 (of_sp h).1 (of_sp h).2
    · replace h := of_ifp c_2 h
      refine x_ldc (pc := 48) C wd_292 dX6_ask_48 ?_
      refine x_aload_n (pc := 50) C 1 dX6_ask_50 rfl ?_
      refine x_bipush (pc := 51) C (v := (-5 : Int32)) dX6_ask_51 rfl ?_
      obtain ⟨⟨r_3, S_3⟩, hc_4, h⟩ := of_bd h
      replace h := of_u2 h
      refine x_callV1 (pc := 53) C (o := 0) [.int (-5 : Int32)] [.int (1000000000 : Int32)] (c_X6_refuse (b := b) (-5 : Int32) hO S_2 _ _ hc_4) cw_X6_73 vi_X6_refuse ⟨rfl, rfl, Nat.le_of_ble_eq_true rfl, Nat.le_of_ble_eq_true rfl⟩ ⟨Nat.le_refl _, Nat.le_refl _⟩ hO.1 ⟨rfl, rfl, rfl⟩ rfl ⟨rfl, Nat.le_of_ble_eq_true rfl⟩ dX6_ask_53 (fun hx_5 => ?_)
      refine x_isub (pc := 56) C dX6_ask_56 ?_
      exact x_ireturn (pc := 57) C dX6_ask_57 (of_sp h).1 (of_sp h).2
  · replace h := of_ifn c_1 h
    refine x_ldc (pc := 13) C wd_292 dX6_ask_13 ?_
    refine x_aload_n (pc := 15) C 1 dX6_ask_15 rfl ?_
    refine x_iload (pc := 16) C 0 dX6_ask_16 rfl ?_
    obtain ⟨⟨r_4, S_4⟩, hc_5, h⟩ := of_bd h
    replace h := of_u2 h
    refine x_callV1 (pc := 18) C (o := 0) [.int v4_1] [.int (1000000000 : Int32)] (c_X6_refuse (b := b) v4_1 hO S _ _ hc_5) cw_X6_73 vi_X6_refuse ⟨rfl, rfl, Nat.le_of_ble_eq_true rfl, Nat.le_of_ble_eq_true rfl⟩ ⟨Nat.le_refl _, Nat.le_refl _⟩ hO.1 ⟨rfl, rfl, rfl⟩ rfl ⟨rfl, Nat.le_of_ble_eq_true rfl⟩ dX6_ask_18 (fun hx_6 => ?_)
    refine x_isub (pc := 21) C dX6_ask_21 ?_
    exact x_ireturn (pc := 22) C dX6_ask_22 (of_sp h).1 (of_sp h).2
set_option maxRecDepth 100000 in
set_option maxHeartbeats 4000000 in
theorem c_X5_set {l : Launch} {G : zz_G} {L : Ly} {b : Nat} (o : Nat) (p1 : Int32) (p2 : Int32) (hO : isW L o) (S : Sg) (Sf : Sg) (h : f_X5_set o p1 p2 S = some Sf) : Met l yX5_set (Cond.code yX5_set cX5_set 3 none :: zz_all) (rmz 1 21) (PC G L b S [.ref (b + o), .int p1, .int p2]) (QC G L b Sf none True) 0 0 (fun q => b ≤ q) := by
  refine x_met [.ref (b + o), .int p1, .int p2] (by decide +kernel) (Nat.le_of_ble_eq_true rfl) fun p e s m args below meth c C => ?_
  unfold f_X5_set at h
  refine x_iload_n (pc := 0) C 1 dX5_set_0 rfl ?_
  refine x_bipush (pc := 1) C (v := (10 : Int32)) dX5_set_1 rfl ?_
  refine x_callSN1 (pc := 3) C [.int p1, .int (10 : Int32)] [] (c_X6_isWithin (b := b) p1 (10 : Int32) S) cn_X5_72 vs_X6_isWithin ⟨rfl, rfl, Nat.le_of_ble_eq_true rfl, Nat.le_of_ble_eq_true rfl⟩ ⟨Nat.le_refl _, Nat.le_refl _⟩ rfl ⟨rfl, Nat.le_of_ble_eq_true rfl⟩ dX5_set_3 (fun hx_1 => ?_)
  refine x_if_eq (pc := 6) C 31 dX5_set_6 rfl (fun c_1 => ?_) (fun c_1 => ?_)
  · replace h := of_ifp c_1 h
    exact x_vreturn (pc := 31) C dX5_set_31 (of_s1 h)
  · replace h := of_ifn c_1 h
    refine x_aload_n (pc := 9) C 0 dX5_set_9 rfl ?_
    refine x_getr (pc := 10) C (k := 1) (o + 2) hO.1 rfl rfl wd_60 dX5_set_10 (Nat.le_of_ble_eq_true rfl) rfl ?_
    refine x_iload_n (pc := 13) C 1 dX5_set_13 rfl ?_
    refine x_iload_n (pc := 14) C 2 dX5_set_14 rfl ?_
    obtain ⟨g_1, h⟩ := of_gd h
    obtain ⟨S_1, eS_1, h⟩ := of_lt h
    refine x_iastore (pc := 15) C hO.2.2.1 g_1 eS_1 dX5_set_15 ?_
    refine x_aload_n (pc := 16) C 0 dX5_set_16 rfl ?_
    refine x_getr (pc := 17) C (k := 2) (o + 3) hO.1 rfl rfl wd_61 dX5_set_17 (Nat.le_of_ble_eq_true rfl) rfl ?_
    refine x_iload_n (pc := 20) C 1 dX5_set_20 rfl ?_
    refine x_iconst (pc := 21) C (v := (0 : Int32)) dX5_set_21 rfl ?_
    obtain ⟨S_2, eS_2, h⟩ := of_lt h
    refine x_iastore (pc := 22) C hO.2.2.2.1 g_1 eS_2 dX5_set_22 ?_
    refine x_aload_n (pc := 23) C 0 dX5_set_23 rfl ?_
    refine x_getr (pc := 24) C (k := 3) (o + 4) hO.1 rfl rfl wd_62 dX5_set_24 (Nat.le_of_ble_eq_true rfl) rfl ?_
    refine x_iload_n (pc := 27) C 1 dX5_set_27 rfl ?_
    refine x_bipush (pc := 28) C (v := (99 : Int32)) dX5_set_28 rfl ?_
    obtain ⟨S_3, eS_3, h⟩ := of_lt h
    refine x_iastore (pc := 30) C hO.2.2.2.2.1 g_1 eS_3 dX5_set_30 ?_
    exact x_vreturn (pc := 31) C dX5_set_31 (of_s1 h)
set_option maxRecDepth 100000 in
set_option maxHeartbeats 4000000 in
theorem c_X5_takeChange {l : Launch} {G : zz_G} {L : Ly} {b : Nat} (o : Nat) (p1 : Int32) (p2 : Int32) (hO : isW L o) (S : Sg) (rf : Int32) (Sf : Sg) (h : f_X5_takeChange o p1 p2 S = some (rf, Sf)) : Met l yX5_takeChange (Cond.code yX5_takeChange cX5_takeChange 3 (some .boolean) :: zz_all) (rmz 2 43) (PC G L b S [.ref (b + o), .int p1, .int p2]) (QC G L b Sf (some (.int rf)) (rf = 0 ∨ rf = 1)) 0 0 (fun q => b ≤ q) := by
  refine x_met [.ref (b + o), .int p1, .int p2] (by decide +kernel) (Nat.le_of_ble_eq_true rfl) fun p e s m args below meth c C => ?_
  unfold f_X5_takeChange at h
  refine x_iload_n (pc := 0) C 1 dX5_takeChange_0 rfl ?_
  refine x_bipush (pc := 1) C (v := (8 : Int32)) dX5_takeChange_1 rfl ?_
  refine x_callSN1 (pc := 3) C [.int p1, .int (8 : Int32)] [] (c_X6_isWithin (b := b) p1 (8 : Int32) S) cn_X5_72 vs_X6_isWithin ⟨rfl, rfl, Nat.le_of_ble_eq_true rfl, Nat.le_of_ble_eq_true rfl⟩ ⟨Nat.le_refl _, Nat.le_refl _⟩ rfl ⟨rfl, Nat.le_of_ble_eq_true rfl⟩ dX5_takeChange_3 (fun hx_1 => ?_)
  refine x_if_eq (pc := 6) C 21 dX5_takeChange_6 rfl (fun c_1 => ?_) (fun c_1 => ?_)
  · replace h := of_ifp c_1 h
    refine x_iconst (pc := 21) C (v := (0 : Int32)) dX5_takeChange_21 rfl ?_
    exact x_zreturn (pc := 22) C (by decide) dX5_takeChange_22 (of_sp h).1 (of_sp h).2
  · replace h := of_ifn c_1 h
    refine x_aload_n (pc := 9) C 0 dX5_takeChange_9 rfl ?_
    refine x_geti (pc := 10) C (k := 4) hO.1 rfl rfl wd_63 dX5_takeChange_10 ⟨Nat.le_of_ble_eq_true rfl, rfl⟩ ?_
    refine x_bipush (pc := 13) C (v := (10 : Int32)) dX5_takeChange_13 rfl ?_
    refine x_callSN1 (pc := 15) C [.int (S.1 o 4), .int (10 : Int32)] [] (c_X6_isWithin (b := b) (S.1 o 4) (10 : Int32) S) cn_X5_72 vs_X6_isWithin ⟨rfl, rfl, Nat.le_of_ble_eq_true rfl, Nat.le_of_ble_eq_true rfl⟩ ⟨Nat.le_refl _, Nat.le_refl _⟩ rfl ⟨rfl, Nat.le_of_ble_eq_true rfl⟩ dX5_takeChange_15 (fun hx_2 => ?_)
    refine x_if_ne (pc := 18) C 23 dX5_takeChange_18 rfl (fun c_2 => ?_) (fun c_2 => ?_)
    · replace h := of_ifn c_2 h
      refine x_aload_n (pc := 23) C 0 dX5_takeChange_23 rfl ?_
      refine x_getr (pc := 24) C (k := 0) (o + 1) hO.1 rfl rfl wd_59 dX5_takeChange_24 (Nat.le_of_ble_eq_true rfl) rfl ?_
      refine x_iload_n (pc := 27) C 1 dX5_takeChange_27 rfl ?_
      refine x_aload_n (pc := 28) C 0 dX5_takeChange_28 rfl ?_
      refine x_geti (pc := 29) C (k := 4) hO.1 rfl rfl wd_63 dX5_takeChange_29 ⟨Nat.le_of_ble_eq_true rfl, rfl⟩ ?_
      obtain ⟨g_1, h⟩ := of_gd h
      obtain ⟨S_1, eS_1, h⟩ := of_lt h
      refine x_iastore (pc := 32) C hO.2.1 g_1 eS_1 dX5_takeChange_32 ?_
      refine x_aload_n (pc := 33) C 0 dX5_takeChange_33 rfl ?_
      refine x_aload_n (pc := 34) C 0 dX5_takeChange_34 rfl ?_
      refine x_geti (pc := 35) C (k := 4) hO.1 rfl rfl wd_63 dX5_takeChange_35 ⟨Nat.le_of_ble_eq_true rfl, rfl⟩ ?_
      refine x_iload_n (pc := 38) C 2 dX5_takeChange_38 rfl ?_
      obtain ⟨S_2, hc_1, h⟩ := of_bd h
      refine x_callV_ (pc := 39) C (o := o) [.int (S_1.1 o 4), .int p2] [] (c_X5_set (b := b) o (S_1.1 o 4) p2 hO S_1 _ hc_1) cw_X5_102 vi_X5_set ⟨rfl, rfl, Nat.le_of_ble_eq_true rfl, Nat.le_of_ble_eq_true rfl⟩ ⟨Nat.le_refl _, Nat.le_refl _⟩ hO.1 ⟨rfl, rfl, rfl⟩ rfl ⟨rfl, Nat.le_of_ble_eq_true rfl⟩ dX5_takeChange_39 (fun hx_3 => ?_)
      refine x_aload_n (pc := 42) C 0 dX5_takeChange_42 rfl ?_
      refine x_dup (pc := 43) C dX5_takeChange_43 rfl ?_
      refine x_geti (pc := 44) C (k := 4) hO.1 rfl rfl wd_63 dX5_takeChange_44 ⟨Nat.le_of_ble_eq_true rfl, rfl⟩ ?_
      refine x_iconst (pc := 47) C (v := (1 : Int32)) dX5_takeChange_47 rfl ?_
      refine x_iadd (pc := 48) C dX5_takeChange_48 ?_
      obtain ⟨S_3, eS_3, h⟩ := of_lt h
      refine x_puti (pc := 49) C (k := 4) hO.1 rfl rfl wd_63 dX5_takeChange_49 ⟨Nat.le_of_ble_eq_true rfl, rfl⟩ eS_3 ?_
      refine x_iconst (pc := 52) C (v := (1 : Int32)) dX5_takeChange_52 rfl ?_
      exact x_zreturn (pc := 53) C (by decide) dX5_takeChange_53 (of_sp h).1 (of_sp h).2
    · replace h := of_ifp c_2 h
      refine x_iconst (pc := 21) C (v := (0 : Int32)) dX5_takeChange_21 rfl ?_
      exact x_zreturn (pc := 22) C (by decide) dX5_takeChange_22 (of_sp h).1 (of_sp h).2
set_option maxRecDepth 100000 in
set_option maxHeartbeats 4000000 in
theorem c_X5_variableOf {l : Launch} {G : zz_G} {L : Ly} {b : Nat} (o : Nat) (p1 : Int32) (hO : isW L o) (S : Sg) (rf : Int32) (h : f_X5_variableOf o p1 S = some rf) : Met l yX5_variableOf (Cond.code yX5_variableOf cX5_variableOf 2 (some .int) :: zz_all) (rmz 1 21) (PC G L b S [.ref (b + o), .int p1]) (QC G L b S (some (.int rf)) True) 0 0 (fun q => b ≤ q) := by
  refine x_met [.ref (b + o), .int p1] (by decide +kernel) (Nat.le_of_ble_eq_true rfl) fun p e s m args below meth c C => ?_
  unfold f_X5_variableOf at h
  refine x_iload_n (pc := 0) C 1 dX5_variableOf_0 rfl ?_
  refine x_bipush (pc := 1) C (v := (8 : Int32)) dX5_variableOf_1 rfl ?_
  refine x_callSN1 (pc := 3) C [.int p1, .int (8 : Int32)] [] (c_X6_isWithin (b := b) p1 (8 : Int32) S) cn_X5_72 vs_X6_isWithin ⟨rfl, rfl, Nat.le_of_ble_eq_true rfl, Nat.le_of_ble_eq_true rfl⟩ ⟨Nat.le_refl _, Nat.le_refl _⟩ rfl ⟨rfl, Nat.le_of_ble_eq_true rfl⟩ dX5_variableOf_3 (fun hx_1 => ?_)
  refine x_if_eq (pc := 6) C 18 dX5_variableOf_6 rfl (fun c_1 => ?_) (fun c_1 => ?_)
  · replace h := of_ifp c_1 h
    refine x_bipush (pc := 18) C (v := (-9 : Int32)) dX5_variableOf_18 rfl ?_
    exact x_ireturn (pc := 20) C dX5_variableOf_20 (of_s1 h) rfl
  · replace h := of_ifn c_1 h
    refine x_aload_n (pc := 9) C 0 dX5_variableOf_9 rfl ?_
    refine x_getr (pc := 10) C (k := 0) (o + 1) hO.1 rfl rfl wd_59 dX5_variableOf_10 (Nat.le_of_ble_eq_true rfl) rfl ?_
    refine x_iload_n (pc := 13) C 1 dX5_variableOf_13 rfl ?_
    obtain ⟨g_1, h⟩ := of_gd h
    refine x_iaload (pc := 14) C hO.2.1 g_1 dX5_variableOf_14 ?_
    refine x_goto (pc := 15) C 20 dX5_variableOf_15 rfl ?_
    exact x_ireturn (pc := 20) C dX5_variableOf_20 (of_s1 h) rfl
set_option maxRecDepth 100000 in
set_option maxHeartbeats 4000000 in
theorem c_X6_misfit {l : Launch} {G : zz_G} {L : Ly} {b : Nat} (p0 : Int32) (p1 : Int32) (p2 : Int32) (S : Sg) : Met l yX6_misfit (Cond.code yX6_misfit cX6_misfit 3 (some .int) :: zz_all) (rmz 0 0) (PC G L b S [.int p0, .int p1, .int p2]) (QC G L b S (some (.int (f_X6_misfit p0 p1 p2))) True) 0 0 (fun q => b ≤ q) := by
  refine x_met [.int p0, .int p1, .int p2] (by decide +kernel) (Nat.le_of_ble_eq_true rfl) fun p e s m args below meth c C => ?_
  generalize h : f_X6_misfit p0 p1 p2 = rf
  unfold f_X6_misfit at h
  refine x_iload_n (pc := 0) C 0 dX6_misfit_0 rfl ?_
  refine x_iload_n (pc := 1) C 1 dX6_misfit_1 rfl ?_
  obtain ⟨x_1, ex_1, h⟩ := of_lt h
  have kd_1 : X p l e (rmz 0 0) s m args below meth c 0 0 (RQ G L b S below args s (some (.int rf)) True) 3 G L b S 21 [] [.int x_1] := by
    exact x_ireturn (pc := 21) C dX6_misfit_21 h rfl
  refine x_icmp_ge (pc := 2) C 10 dX6_misfit_2 rfl (fun c_1 => ?_) (fun c_1 => ?_)
  · refine x_iload_n (pc := 10) C 0 dX6_misfit_10 rfl ?_
    refine x_iload_n (pc := 11) C 2 dX6_misfit_11 rfl ?_
    refine x_icmp_le (pc := 12) C 20 dX6_misfit_12 rfl (fun c_2 => ?_) (fun c_2 => ?_)
    · refine x_iconst (pc := 20) C (v := (0 : Int32)) dX6_misfit_20 rfl ?_
      refine x_sub [] rfl ?_
      rw [show x_1 = (0 : Int32) from ((ex_1.trans (if_neg c_1)).trans (if_neg c_2))] at kd_1
      exact kd_1
    · refine x_bipush (pc := 15) C (v := (-6 : Int32)) dX6_misfit_15 rfl ?_
      refine x_goto (pc := 17) C 21 dX6_misfit_17 rfl ?_
      refine x_sub [] rfl ?_
      rw [show x_1 = (-6 : Int32) from ((ex_1.trans (if_neg c_1)).trans (if_pos c_2))] at kd_1
      exact kd_1
  · refine x_bipush (pc := 5) C (v := (-4 : Int32)) dX6_misfit_5 rfl ?_
    refine x_goto (pc := 7) C 21 dX6_misfit_7 rfl ?_
    refine x_sub [] rfl ?_
    rw [show x_1 = (-4 : Int32) from (ex_1.trans (if_pos c_1))] at kd_1
    exact kd_1
set_option maxRecDepth 100000 in
set_option maxHeartbeats 4000000 in
theorem c_X6_misfitOfValue {l : Launch} {G : zz_G} {L : Ly} {b : Nat} (p0 : Int32) (p1 : Int32) (S : Sg) : Met l yX6_misfitOfValue (Cond.code yX6_misfitOfValue cX6_misfitOfValue 2 (some .int) :: zz_all) (rmz 1 22) (PC G L b S [.int p0, .int p1]) (QC G L b S (some (.int (f_X6_misfitOfValue p0 p1))) True) 0 0 (fun q => b ≤ q) := by
  refine x_met [.int p0, .int p1] (by decide +kernel) (Nat.le_of_ble_eq_true rfl) fun p e s m args below meth c C => ?_
  generalize h : f_X6_misfitOfValue p0 p1 = rf
  unfold f_X6_misfitOfValue at h
  refine x_iload_n (pc := 0) C 0 dX6_misfitOfValue_0 rfl ?_
  refine x_bipush (pc := 1) C (v := (8 : Int32)) dX6_misfitOfValue_1 rfl ?_
  refine x_callS1 (pc := 3) C [.int p0, .int (8 : Int32)] [] (c_X6_isWithin (b := b) p0 (8 : Int32) S) cw_X6_69 vs_X6_isWithin ⟨rfl, rfl, Nat.le_of_ble_eq_true rfl, Nat.le_of_ble_eq_true rfl⟩ ⟨Nat.le_refl _, Nat.le_refl _⟩ rfl ⟨rfl, Nat.le_of_ble_eq_true rfl⟩ dX6_misfitOfValue_3 (fun hx_1 => ?_)
  refine x_if_ne (pc := 6) C 11 dX6_misfitOfValue_6 rfl (fun c_1 => ?_) (fun c_1 => ?_)
  · replace h := of_ifn c_1 h
    refine x_iload_n (pc := 11) C 1 dX6_misfitOfValue_11 rfl ?_
    refine x_iconst (pc := 12) C (v := (0 : Int32)) dX6_misfitOfValue_12 rfl ?_
    refine x_bipush (pc := 13) C (v := (99 : Int32)) dX6_misfitOfValue_13 rfl ?_
    refine x_callS1 (pc := 15) C [.int p1, .int (0 : Int32), .int (99 : Int32)] [] (c_X6_misfit (b := b) p1 (0 : Int32) (99 : Int32) S) cw_X6_125 vs_X6_misfit ⟨rfl, rfl, Nat.le_of_ble_eq_true rfl, Nat.le_of_ble_eq_true rfl⟩ ⟨Nat.le_refl _, Nat.le_refl _⟩ rfl ⟨rfl, Nat.le_of_ble_eq_true rfl⟩ dX6_misfitOfValue_15 (fun hx_2 => ?_)
    exact x_ireturn (pc := 18) C dX6_misfitOfValue_18 h rfl
  · replace h := of_ifp c_1 h
    refine x_iconst (pc := 9) C (v := (-1 : Int32)) dX6_misfitOfValue_9 rfl ?_
    exact x_ireturn (pc := 10) C dX6_misfitOfValue_10 h rfl
set_option maxRecDepth 100000 in
set_option maxHeartbeats 4000000 in
theorem c_X6_changes {l : Launch} {G : zz_G} {L : Ly} {b : Nat} (p1 : Int32) (p2 : Int32) (hO : isGu L) (S : Sg) (rf : Int32) (Sf : Sg) (h : f_X6_changes p1 p2 S = some (rf, Sf)) : Met l yX6_changes (Cond.code yX6_changes cX6_changes 4 (some .int) :: zz_all) (rmz 3 65) (PC G L b S [.ref (b + 0), .int p1, .int p2]) (QC G L b Sf (some (.int rf)) True) 0 0 (fun q => b ≤ q) := by
  refine x_met [.ref (b + 0), .int p1, .int p2] (by decide +kernel) (Nat.le_of_ble_eq_true rfl) fun p e s m args below meth c C => ?_
  unfold f_X6_changes at h
  refine x_iload_n (pc := 0) C 1 dX6_changes_0 rfl ?_
  refine x_iload_n (pc := 1) C 2 dX6_changes_1 rfl ?_
  refine x_callS1 (pc := 2) C [.int p1, .int p2] [] (c_X6_misfitOfValue (b := b) p1 p2 S) cw_X6_116 vs_X6_misfitOfValue ⟨rfl, rfl, Nat.le_of_ble_eq_true rfl, Nat.le_of_ble_eq_true rfl⟩ ⟨Nat.le_refl _, Nat.le_refl _⟩ rfl ⟨rfl, Nat.le_of_ble_eq_true rfl⟩ dX6_changes_2 (fun hx_1 => ?_)
  obtain ⟨v3_1, ev3_1, h⟩ := of_lt h
  refine x_istore_n (pc := 5) C 3 [(3, .int v3_1), (0, .ref (b + 0)), (1, .int p1), (2, .int p2)] dX6_changes_5 rfl (Nat.le_of_ble_eq_true rfl) ev3_1 rfl ?_
  refine x_iload_n (pc := 6) C 0 dX6_changes_6 rfl ?_
  refine x_if_eq (pc := 7) C 16 dX6_changes_7 rfl (fun c_1 => ?_) (fun c_1 => ?_)
  · replace h := of_ifp c_1 h
    refine x_aload_n (pc := 16) C 1 dX6_changes_16 rfl ?_
    refine x_getr (pc := 17) C (k := 0) 1 hO.1 rfl rfl wd_149 dX6_changes_17 (Nat.le_of_ble_eq_true rfl) rfl ?_
    refine x_iload_n (pc := 20) C 2 dX6_changes_20 rfl ?_
    refine x_iload_n (pc := 21) C 3 dX6_changes_21 rfl ?_
    obtain ⟨⟨r_1, S_1⟩, hc_1, h⟩ := of_bd h
    replace h := of_u2 h
    refine x_callV1 (pc := 22) C (o := 1) [.int p1, .int p2] [] (c_X5_takeChange (b := b) 1 p1 p2 hO.2.1 S _ _ hc_1) cw_X6_122 vi_X5_takeChange ⟨rfl, rfl, Nat.le_of_ble_eq_true rfl, Nat.le_of_ble_eq_true rfl⟩ ⟨Nat.le_refl _, Nat.le_refl _⟩ hO.2.1.1 ⟨rfl, rfl, rfl⟩ rfl ⟨rfl, Nat.le_of_ble_eq_true rfl⟩ dX6_changes_22 (fun hx_2 => ?_)
    refine x_if_eq (pc := 25) C 39 dX6_changes_25 rfl (fun c_2 => ?_) (fun c_2 => ?_)
    · replace h := of_ifp c_2 h
      refine x_aload_n (pc := 39) C 1 dX6_changes_39 rfl ?_
      refine x_bipush (pc := 40) C (v := (-6 : Int32)) dX6_changes_40 rfl ?_
      obtain ⟨⟨r_2, S_2⟩, hc_2, h⟩ := of_bd h
      replace h := of_u2 h
      refine x_callV1 (pc := 42) C (o := 0) [.int (-6 : Int32)] [] (c_X6_refuse (b := b) (-6 : Int32) hO S_1 _ _ hc_2) cw_X6_73 vi_X6_refuse ⟨rfl, rfl, Nat.le_of_ble_eq_true rfl, Nat.le_of_ble_eq_true rfl⟩ ⟨Nat.le_refl _, Nat.le_refl _⟩ hO.1 ⟨rfl, rfl, rfl⟩ rfl ⟨rfl, Nat.le_of_ble_eq_true rfl⟩ dX6_changes_42 (fun hx_3 => ?_)
      exact x_ireturn (pc := 45) C dX6_changes_45 (of_sp h).1 (of_sp h).2
    · replace h := of_ifn c_2 h
      refine x_aload_n (pc := 28) C 1 dX6_changes_28 rfl ?_
      refine x_getr (pc := 29) C (k := 0) 1 hO.1 rfl rfl wd_149 dX6_changes_29 (Nat.le_of_ble_eq_true rfl) rfl ?_
      refine x_iload_n (pc := 32) C 2 dX6_changes_32 rfl ?_
      obtain ⟨r_3, hc_3, h⟩ := of_bd h
      refine x_callV1 (pc := 33) C (o := 1) [.int p1] [] (c_X5_variableOf (b := b) 1 p1 hO.2.1 S_1 _ hc_3) cw_X6_77 vi_X5_variableOf ⟨rfl, rfl, Nat.le_of_ble_eq_true rfl, Nat.le_of_ble_eq_true rfl⟩ ⟨Nat.le_refl _, Nat.le_refl _⟩ hO.2.1.1 ⟨rfl, rfl, rfl⟩ rfl ⟨rfl, Nat.le_of_ble_eq_true rfl⟩ dX6_changes_33 (fun hx_4 => ?_)
      refine x_goto (pc := 36) C 45 dX6_changes_36 rfl ?_
      exact x_ireturn (pc := 45) C dX6_changes_45 (of_sp h).1 (of_sp h).2
  · replace h := of_ifn c_1 h
    refine x_aload_n (pc := 10) C 1 dX6_changes_10 rfl ?_
    refine x_iload_n (pc := 11) C 0 dX6_changes_11 rfl ?_
    obtain ⟨⟨r_4, S_3⟩, hc_4, h⟩ := of_bd h
    replace h := of_u2 h
    refine x_callV1 (pc := 12) C (o := 0) [.int v3_1] [] (c_X6_refuse (b := b) v3_1 hO S _ _ hc_4) cw_X6_73 vi_X6_refuse ⟨rfl, rfl, Nat.le_of_ble_eq_true rfl, Nat.le_of_ble_eq_true rfl⟩ ⟨Nat.le_refl _, Nat.le_refl _⟩ hO.1 ⟨rfl, rfl, rfl⟩ rfl ⟨rfl, Nat.le_of_ble_eq_true rfl⟩ dX6_changes_12 (fun hx_5 => ?_)
    exact x_ireturn (pc := 15) C dX6_changes_15 (of_sp h).1 (of_sp h).2
set_option maxRecDepth 100000 in
set_option maxHeartbeats 4000000 in
theorem c_X5_takeLimit {l : Launch} {G : zz_G} {L : Ly} {b : Nat} (o : Nat) (p1 : Int32) (hO : isW L o) (S : Sg) (rf : Int32) (Sf : Sg) (h : f_X5_takeLimit o p1 S = some (rf, Sf)) : Met l yX5_takeLimit (Cond.code yX5_takeLimit cX5_takeLimit 2 (some .boolean) :: zz_all) (rmz 1 21) (PC G L b S [.ref (b + o), .int p1]) (QC G L b Sf (some (.int rf)) (rf = 0 ∨ rf = 1)) 0 0 (fun q => b ≤ q) := by
  refine x_met [.ref (b + o), .int p1] (by decide +kernel) (Nat.le_of_ble_eq_true rfl) fun p e s m args below meth c C => ?_
  unfold f_X5_takeLimit at h
  refine x_iload_n (pc := 0) C 1 dX5_takeLimit_0 rfl ?_
  refine x_bipush (pc := 1) C (v := (11 : Int32)) dX5_takeLimit_1 rfl ?_
  refine x_callSN1 (pc := 3) C [.int p1, .int (11 : Int32)] [] (c_X6_isWithin (b := b) p1 (11 : Int32) S) cn_X5_72 vs_X6_isWithin ⟨rfl, rfl, Nat.le_of_ble_eq_true rfl, Nat.le_of_ble_eq_true rfl⟩ ⟨Nat.le_refl _, Nat.le_refl _⟩ rfl ⟨rfl, Nat.le_of_ble_eq_true rfl⟩ dX5_takeLimit_3 (fun hx_1 => ?_)
  refine x_if_ne (pc := 6) C 11 dX5_takeLimit_6 rfl (fun c_1 => ?_) (fun c_1 => ?_)
  · replace h := of_ifn c_1 h
    refine x_aload_n (pc := 11) C 0 dX5_takeLimit_11 rfl ?_
    refine x_iload_n (pc := 12) C 1 dX5_takeLimit_12 rfl ?_
    obtain ⟨S_1, eS_1, h⟩ := of_lt h
    refine x_puti (pc := 13) C (k := 6) hO.1 rfl rfl wd_68 dX5_takeLimit_13 ⟨Nat.le_of_ble_eq_true rfl, rfl⟩ eS_1 ?_
    refine x_iconst (pc := 16) C (v := (1 : Int32)) dX5_takeLimit_16 rfl ?_
    exact x_zreturn (pc := 17) C (by decide) dX5_takeLimit_17 (of_sp h).1 (of_sp h).2
  · replace h := of_ifp c_1 h
    refine x_iconst (pc := 9) C (v := (0 : Int32)) dX5_takeLimit_9 rfl ?_
    exact x_zreturn (pc := 10) C (by decide) dX5_takeLimit_10 (of_sp h).1 (of_sp h).2
