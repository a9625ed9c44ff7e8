set_option maxRecDepth 100000 in
set_option maxHeartbeats 4000000 in
theorem l_X6_attack_43 {p : Program} {l : Launch} {e : Env} {s : State} {m : MethodId} {args : Array Value} {below : List Frame} {meth : Method} {c : Code} {G : zz_G} {L : Ly} {b : Nat} {Q : State → Prop} (C : CX p G s m args meth c cX6_attack yX6_attack 6 (some .int)) (hO : isGu L) (v1 : Int32) (v2 : Int32) : ∀ (n : Nat) (v3 : Int32) (v4 : Int32) (v5 : Int32) (S : Sg) {z}, L_X6_attack_43 v1 v2 n v3 v4 v5 S = some z → (∀ (v3_o : Int32) (v4_o : Int32) (S_o : Sg), z = (v3_o, v4_o, S_o) → X p l e (rmz 3 69) s m args below meth c 0 0 Q 6 G L b S_o 91 [(2, .int v2), (3, .int v3_o), (4, .int v4_o)] []) → X p l e (rmz 3 69) s m args below meth c 0 0 Q 6 G L b S 43 [(0, .ref (b + 0)), (1, .int v1), (2, .int v2), (3, .int v3), (4, .int v4), (5, .int v5)] [] := by
  intro n
  induction n with
  | zero =>
    intro v3 v4 v5 S z h
    exact of_none h
  | succ n ih =>
    intro v3 v4 v5 S z h hx
    rw [L_X6_attack_43] at h
    refine x_iload (pc := 43) C 5 dX6_attack_43 rfl ?_
    refine x_iconst (pc := 45) C (v := (1 : Int32)) dX6_attack_45 rfl ?_
    refine x_icmp_lt (pc := 46) C 91 dX6_attack_46 rfl (fun c_1 => ?_) (fun c_1 => ?_)
    · replace h := of_ifp c_1 h
      exact x_sub [2, 3, 4] rfl (hx _ _ _ (of_s1 h).symm)
    · replace h := of_ifn c_1 h
      refine x_aload_n (pc := 49) C 0 dX6_attack_49 rfl ?_
      refine x_getr (pc := 50) C (k := 4) 130 hO.1 rfl rfl wd_224 dX6_attack_50 (Nat.le_of_ble_eq_true rfl) rfl ?_
      refine x_iconst (pc := 53) C (v := (0 : Int32)) dX6_attack_53 rfl ?_
      refine x_iload (pc := 54) C 5 dX6_attack_54 rfl ?_
      refine x_iconst (pc := 56) C (v := (0 : Int32)) dX6_attack_56 rfl ?_
      obtain ⟨S_1, hc_1, h⟩ := of_bd h
      refine x_callV_ (pc := 57) C (o := 130) [.int (0 : Int32), .int v5, .int (0 : Int32)] [] (c_X2_make (b := b) 130 (0 : Int32) v5 (0 : Int32) hO.2.2.2.2.1 S _ hc_1) cw_X6_150 vi_X2_make ⟨rfl, rfl, Nat.le_of_ble_eq_true rfl, Nat.le_of_ble_eq_true rfl⟩ ⟨Nat.le_refl _, Nat.le_refl _⟩ hO.2.2.2.2.1.1 ⟨rfl, rfl, rfl⟩ rfl ⟨rfl, Nat.le_of_ble_eq_true rfl⟩ dX6_attack_57 (fun hx_1 => ?_)
      refine x_aload_n (pc := 60) C 0 dX6_attack_60 rfl ?_
      refine x_getr (pc := 61) C (k := 0) 1 hO.1 rfl rfl wd_220 dX6_attack_61 (Nat.le_of_ble_eq_true rfl) rfl ?_
      refine x_aload_n (pc := 64) C 0 dX6_attack_64 rfl ?_
      refine x_getr (pc := 65) C (k := 4) 130 hO.1 rfl rfl wd_224 dX6_attack_65 (Nat.le_of_ble_eq_true rfl) rfl ?_
      obtain ⟨⟨r_1, S_2⟩, hc_2, h⟩ := of_bd h
      replace h := of_u2 h
      refine x_callV1 (pc := 68) C (o := 1) [.ref (b + 130)] [] (c_X5_fixedBitsWith (b := b) 1 130 hO.2.1 hO.2.2.2.2.1 S_1 _ _ hc_2) cw_X6_200 vi_X5_fixedBitsWith ⟨rfl, rfl, Nat.le_of_ble_eq_true rfl, Nat.le_of_ble_eq_true rfl⟩ ⟨Nat.le_refl _, Nat.le_refl _⟩ hO.2.1.1 ⟨rfl, rfl, rfl⟩ rfl ⟨rfl, Nat.le_of_ble_eq_true rfl⟩ dX6_attack_68 (fun hx_2 => ?_)
      refine x_iload_n (pc := 71) C 1 dX6_attack_71 rfl ?_
      refine x_ishr (pc := 72) C dX6_attack_72 ?_
      refine x_iconst (pc := 73) C (v := (1 : Int32)) dX6_attack_73 rfl ?_
      refine x_iand (pc := 74) C dX6_attack_74 ?_
      refine x_iconst (pc := 75) C (v := (1 : Int32)) dX6_attack_75 rfl ?_
      obtain ⟨v3_1, ev3_1, h⟩ := of_lt h
      obtain ⟨v4_1, ev4_1, h⟩ := of_lt h
      have kd_1 : X p l e (rmz 3 69) s m args below meth c 0 0 Q 6 G L b S_2 85 [(0, .ref (b + 0)), (1, .int v1), (2, .int v2), (3, .int v3_1), (4, .int v4_1), (5, .int v5)] [] := by
        obtain ⟨v5_1, ev5_1, h⟩ := of_lt h
        refine x_iinc (pc := 85) C (w := (-1 : Int32)) 5 [(5, .int v5_1), (0, .ref (b + 0)), (1, .int v1), (2, .int v2), (3, .int v3_1), (4, .int v4_1)] dX6_attack_85 rfl rfl (Nat.le_of_ble_eq_true rfl) ev5_1 rfl ?_
        refine x_goto (pc := 88) C 43 dX6_attack_88 rfl ?_
        exact x_sub [1, 2, 3, 4, 5, 0] rfl (ih _ _ _ _ h hx)
      refine x_icmp_ne (pc := 76) C 85 dX6_attack_76 rfl (fun c_2 => ?_) (fun c_2 => ?_)
      · refine x_sub [0, 1, 2, 3, 4, 5] rfl ?_
        rw [show v3_1 = v3 from (ev3_1.trans (if_neg c_2))] at kd_1
        rw [show v4_1 = v4 from (ev4_1.trans (if_neg c_2))] at kd_1
        exact kd_1
      · refine x_iload (pc := 79) C 5 dX6_attack_79 rfl ?_
        refine x_istore_n (pc := 81) C 3 [(3, .int v5), (0, .ref (b + 0)), (1, .int v1), (2, .int v2), (4, .int v4), (5, .int v5)] dX6_attack_81 rfl (Nat.le_of_ble_eq_true rfl) rfl rfl ?_
        refine x_iinc (pc := 82) C (w := (1 : Int32)) 4 [(4, .int (v4 + (1 : Int32))), (3, .int v5), (0, .ref (b + 0)), (1, .int v1), (2, .int v2), (5, .int v5)] dX6_attack_82 rfl rfl (Nat.le_of_ble_eq_true rfl) rfl rfl ?_
        refine x_sub [2, 3, 4, 1, 0, 5] rfl ?_
        rw [show v3_1 = v5 from (ev3_1.trans (if_pos c_2))] at kd_1
        rw [show v4_1 = (v4 + (1 : Int32)) from (ev4_1.trans (if_pos c_2))] at kd_1
        exact kd_1
set_option maxRecDepth 100000 in
set_option maxHeartbeats 4000000 in
theorem c_X6_attack {l : Launch} {G : zz_G} {L : Ly} {b : Nat} (p1 : Int32) (p2 : Int32) (hO : isGu L) (S : Sg) (rf : Int32) (Sf : Sg) (h : f_X6_attack p1 p2 S = some (rf, Sf)) : Met l yX6_attack (Cond.code yX6_attack cX6_attack 6 (some .int) :: zz_all) (rmz 3 69) (PC G L b S [.ref (b + 0), .int p1, .int p2]) (QC G L b Sf (some (.int rf)) True) 0 0 (fun q => b ≤ q) := by
  refine x_met [.ref (b + 0), .int p1, .int p2] (by decide +kernel) (Nat.le_of_ble_eq_true rfl) fun p e s m args below meth c C => ?_
  unfold f_X6_attack at h
  refine x_aload_n (pc := 0) C 0 dX6_attack_0 rfl ?_
  refine x_getr (pc := 1) C (k := 0) 1 hO.1 rfl rfl wd_220 dX6_attack_1 (Nat.le_of_ble_eq_true rfl) rfl ?_
  refine x_iload_n (pc := 4) C 1 dX6_attack_4 rfl ?_
  refine x_callV1 (pc := 5) C (o := 1) [.int p1] [] (c_X5_has (b := b) 1 p1 hO.2.1 S) cw_X6_91 vi_X5_has ⟨rfl, rfl, Nat.le_of_ble_eq_true rfl, Nat.le_of_ble_eq_true rfl⟩ ⟨Nat.le_refl _, Nat.le_refl _⟩ hO.2.1.1 ⟨rfl, rfl, rfl⟩ rfl ⟨rfl, Nat.le_of_ble_eq_true rfl⟩ dX6_attack_5 (fun hx_1 => ?_)
  refine x_if_ne (pc := 8) C 17 dX6_attack_8 rfl (fun c_1 => ?_) (fun c_1 => ?_)
  · replace h := of_ifn c_1 h
    refine x_iload_n (pc := 17) C 2 dX6_attack_17 rfl ?_
    refine x_iconst (pc := 18) C (v := (2 : Int32)) dX6_attack_18 rfl ?_
    refine x_callS1 (pc := 19) C [.int p2, .int (2 : Int32)] [] (c_X6_isWithin (b := b) p2 (2 : Int32) S) cw_X6_69 vs_X6_isWithin ⟨rfl, rfl, Nat.le_of_ble_eq_true rfl, Nat.le_of_ble_eq_true rfl⟩ ⟨Nat.le_refl _, Nat.le_refl _⟩ rfl ⟨rfl, Nat.le_of_ble_eq_true rfl⟩ dX6_attack_19 (fun hx_2 => ?_)
    refine x_if_ne (pc := 22) C 32 dX6_attack_22 rfl (fun c_2 => ?_) (fun c_2 => ?_)
    · replace h := of_ifn c_2 h
      refine x_bipush (pc := 32) C (v := (-9 : Int32)) dX6_attack_32 rfl ?_
      refine x_istore_n (pc := 34) C 3 [(3, .int (-9 : Int32)), (0, .ref (b + 0)), (1, .int p1), (2, .int p2)] dX6_attack_34 rfl (Nat.le_of_ble_eq_true rfl) rfl rfl ?_
      refine x_iconst (pc := 35) C (v := (0 : Int32)) dX6_attack_35 rfl ?_
      refine x_istore (pc := 36) C [(4, .int (0 : Int32)), (3, .int (-9 : Int32)), (0, .ref (b + 0)), (1, .int p1), (2, .int p2)] dX6_attack_36 (Nat.le_of_ble_eq_true rfl) rfl rfl ?_
      refine x_sipush (pc := 38) C (v := (255 : Int32)) dX6_attack_38 rfl ?_
      refine x_istore (pc := 41) C [(5, .int (255 : Int32)), (4, .int (0 : Int32)), (3, .int (-9 : Int32)), (0, .ref (b + 0)), (1, .int p1), (2, .int p2)] dX6_attack_41 (Nat.le_of_ble_eq_true rfl) rfl rfl ?_
      refine x_sub [3, 4, 5, 2, 1, 0] rfl ?_
      obtain ⟨z_hz_1, hz_1, h⟩ := of_bd h
      refine l_X6_attack_43 C hO p1 p2 400 _ _ _ _ hz_1 (fun v3_1 v4_1 S_1 ez => ?_)
      subst z_hz_1
      replace h := of_u3 h
      refine x_iload_n (pc := 91) C 0 dX6_attack_91 rfl ?_
      obtain ⟨x_1, ex_1, h⟩ := of_lt h
      have kd_1 : X p l e (rmz 3 69) s m args below meth c 0 0 (RQ G L b Sf below args s (some (.int rf)) True) 6 G L b S_1 101 [] [.int x_1] := by
        exact x_ireturn (pc := 101) C dX6_attack_101 (of_sp h).1 (of_sp h).2
      refine x_if_ne (pc := 92) C 99 dX6_attack_92 rfl (fun c_3 => ?_) (fun c_3 => ?_)
      · refine x_iload (pc := 99) C 2 dX6_attack_99 rfl ?_
        refine x_sub [] rfl ?_
        rw [show x_1 = v4_1 from (ex_1.trans (if_neg c_3))] at kd_1
        exact kd_1
      · refine x_iload_n (pc := 95) C 1 dX6_attack_95 rfl ?_
        refine x_goto (pc := 96) C 101 dX6_attack_96 rfl ?_
        refine x_sub [] rfl ?_
        rw [show x_1 = v3_1 from (ex_1.trans (if_pos c_3))] at kd_1
        exact kd_1
    · replace h := of_ifp c_2 h
      refine x_aload_n (pc := 25) C 0 dX6_attack_25 rfl ?_
      refine x_bipush (pc := 26) C (v := (-2 : Int32)) dX6_attack_26 rfl ?_
      obtain ⟨⟨r_1, S_2⟩, hc_1, h⟩ := of_bd h
      replace h := of_u2 h
      refine x_callV1 (pc := 28) C (o := 0) [.int (-2 : Int32)] [] (c_X6_refuse (b := b) (-2 : Int32) hO S _ _ hc_1) cw_X6_73 vi_X6_refuse ⟨rfl, rfl, Nat.le_of_ble_eq_true rfl, Nat.le_of_ble_eq_true rfl⟩ ⟨Nat.le_refl _, Nat.le_refl _⟩ hO.1 ⟨rfl, rfl, rfl⟩ rfl ⟨rfl, Nat.le_of_ble_eq_true rfl⟩ dX6_attack_28 (fun hx_3 => ?_)
      exact x_ireturn (pc := 31) C dX6_attack_31 (of_sp h).1 (of_sp h).2
  · replace h := of_ifp c_1 h
    refine x_aload_n (pc := 11) C 0 dX6_attack_11 rfl ?_
    refine x_iconst (pc := 12) C (v := (-1 : Int32)) dX6_attack_12 rfl ?_
    obtain ⟨⟨r_2, S_3⟩, hc_2, h⟩ := of_bd h
    replace h := of_u2 h
    refine x_callV1 (pc := 13) C (o := 0) [.int (-1 : Int32)] [] (c_X6_refuse (b := b) (-1 : Int32) hO S _ _ hc_2) cw_X6_73 vi_X6_refuse ⟨rfl, rfl, Nat.le_of_ble_eq_true rfl, Nat.le_of_ble_eq_true rfl⟩ ⟨Nat.le_refl _, Nat.le_refl _⟩ hO.1 ⟨rfl, rfl, rfl⟩ rfl ⟨rfl, Nat.le_of_ble_eq_true rfl⟩ dX6_attack_13 (fun hx_4 => ?_)
    exact x_ireturn (pc := 16) C dX6_attack_16 (of_sp h).1 (of_sp h).2
set_option maxRecDepth 100000 in
set_option maxHeartbeats 4000000 in
theorem c_X6_bounds {l : Launch} {G : zz_G} {L : Ly} {b : Nat} (p1 : Int32) (p2 : Int32) (p3 : Int32) (hO : isGu L) (S : Sg) (rf : Int32) (Sf : Sg) (h : f_X6_bounds p1 p2 p3 S = some (rf, Sf)) : Met l yX6_bounds (Cond.code yX6_bounds cX6_bounds 4 (some .int) :: zz_all) (rmz 3 65) (PC G L b S [.ref (b + 0), .int p1, .int p2, .int p3]) (QC G L b Sf (some (.int rf)) True) 0 0 (fun q => b ≤ q) := by
  refine x_met [.ref (b + 0), .int p1, .int p2, .int p3] (by decide +kernel) (Nat.le_of_ble_eq_true rfl) fun p e s m args below meth c C => ?_
  unfold f_X6_bounds at h
  refine x_aload_n (pc := 0) C 0 dX6_bounds_0 rfl ?_
  refine x_getr (pc := 1) C (k := 0) 1 hO.1 rfl rfl wd_220 dX6_bounds_1 (Nat.le_of_ble_eq_true rfl) rfl ?_
  refine x_iload_n (pc := 4) C 1 dX6_bounds_4 rfl ?_
  refine x_callV1 (pc := 5) C (o := 1) [.int p1] [] (c_X5_has (b := b) 1 p1 hO.2.1 S) cw_X6_91 vi_X5_has ⟨rfl, rfl, Nat.le_of_ble_eq_true rfl, Nat.le_of_ble_eq_true rfl⟩ ⟨Nat.le_refl _, Nat.le_refl _⟩ hO.2.1.1 ⟨rfl, rfl, rfl⟩ rfl ⟨rfl, Nat.le_of_ble_eq_true rfl⟩ dX6_bounds_5 (fun hx_1 => ?_)
  refine x_if_ne (pc := 8) C 17 dX6_bounds_8 rfl (fun c_1 => ?_) (fun c_1 => ?_)
  · replace h := of_ifn c_1 h
    refine x_iload_n (pc := 17) C 2 dX6_bounds_17 rfl ?_
    refine x_if_lt (pc := 18) C 25 dX6_bounds_18 rfl (fun c_2 => ?_) (fun c_2 => ?_)
    · replace h := of_ifp c_2 h
      refine x_aload_n (pc := 25) C 0 dX6_bounds_25 rfl ?_
      refine x_bipush (pc := 26) C (v := (-4 : Int32)) dX6_bounds_26 rfl ?_
      obtain ⟨⟨r_1, S_1⟩, hc_1, h⟩ := of_bd h
      replace h := of_u2 h
      refine x_callV1 (pc := 28) C (o := 0) [.int (-4 : Int32)] [] (c_X6_refuse (b := b) (-4 : Int32) hO S _ _ hc_1) cw_X6_73 vi_X6_refuse ⟨rfl, rfl, Nat.le_of_ble_eq_true rfl, Nat.le_of_ble_eq_true rfl⟩ ⟨Nat.le_refl _, Nat.le_refl _⟩ hO.1 ⟨rfl, rfl, rfl⟩ rfl ⟨rfl, Nat.le_of_ble_eq_true rfl⟩ dX6_bounds_28 (fun hx_2 => ?_)
      exact x_ireturn (pc := 31) C dX6_bounds_31 (of_sp h).1 (of_sp h).2
    · replace h := of_ifn c_2 h
      refine x_iload_n (pc := 21) C 3 dX6_bounds_21 rfl ?_
      refine x_if_ge (pc := 22) C 32 dX6_bounds_22 rfl (fun c_3 => ?_) (fun c_3 => ?_)
      · replace h := of_ifn c_3 h
        refine x_iload_n (pc := 32) C 2 dX6_bounds_32 rfl ?_
        refine x_bipush (pc := 33) C (v := (99 : Int32)) dX6_bounds_33 rfl ?_
        refine x_icmp_gt (pc := 35) C 44 dX6_bounds_35 rfl (fun c_4 => ?_) (fun c_4 => ?_)
        · replace h := of_ifp c_4 h
          refine x_aload_n (pc := 44) C 0 dX6_bounds_44 rfl ?_
          refine x_bipush (pc := 45) C (v := (-6 : Int32)) dX6_bounds_45 rfl ?_
          obtain ⟨⟨r_2, S_2⟩, hc_2, h⟩ := of_bd h
          replace h := of_u2 h
          refine x_callV1 (pc := 47) C (o := 0) [.int (-6 : Int32)] [] (c_X6_refuse (b := b) (-6 : Int32) hO S _ _ hc_2) cw_X6_73 vi_X6_refuse ⟨rfl, rfl, Nat.le_of_ble_eq_true rfl, Nat.le_of_ble_eq_true rfl⟩ ⟨Nat.le_refl _, Nat.le_refl _⟩ hO.1 ⟨rfl, rfl, rfl⟩ rfl ⟨rfl, Nat.le_of_ble_eq_true rfl⟩ dX6_bounds_47 (fun hx_3 => ?_)
          exact x_ireturn (pc := 50) C dX6_bounds_50 (of_sp h).1 (of_sp h).2
        · replace h := of_ifn c_4 h
          refine x_iload_n (pc := 38) C 3 dX6_bounds_38 rfl ?_
          refine x_bipush (pc := 39) C (v := (99 : Int32)) dX6_bounds_39 rfl ?_
          refine x_icmp_le (pc := 41) C 51 dX6_bounds_41 rfl (fun c_5 => ?_) (fun c_5 => ?_)
          · replace h := of_ifn c_5 h
            refine x_aload_n (pc := 51) C 0 dX6_bounds_51 rfl ?_
            refine x_getr (pc := 52) C (k := 0) 1 hO.1 rfl rfl wd_220 dX6_bounds_52 (Nat.le_of_ble_eq_true rfl) rfl ?_
            refine x_iload_n (pc := 55) C 1 dX6_bounds_55 rfl ?_
            refine x_iload_n (pc := 56) C 2 dX6_bounds_56 rfl ?_
            refine x_iload_n (pc := 57) C 3 dX6_bounds_57 rfl ?_
            obtain ⟨⟨r_3, S_3⟩, hc_3, h⟩ := of_bd h
            replace h := of_u2 h
            refine x_callV1 (pc := 58) C (o := 1) [.int p1, .int p2, .int p3] [] (c_X5_takeBounds (b := b) 1 p1 p2 p3 hO.2.1 S _ _ hc_3) cw_X6_129 vi_X5_takeBounds ⟨rfl, rfl, Nat.le_of_ble_eq_true rfl, Nat.le_of_ble_eq_true rfl⟩ ⟨Nat.le_refl _, Nat.le_refl _⟩ hO.2.1.1 ⟨rfl, rfl, rfl⟩ rfl ⟨rfl, Nat.le_of_ble_eq_true rfl⟩ dX6_bounds_58 (fun hx_4 => ?_)
            refine x_if_eq (pc := 61) C 68 dX6_bounds_61 rfl (fun c_6 => ?_) (fun c_6 => ?_)
            · replace h := of_ifp c_6 h
              refine x_aload_n (pc := 68) C 0 dX6_bounds_68 rfl ?_
              refine x_bipush (pc := 69) C (v := (-3 : Int32)) dX6_bounds_69 rfl ?_
              obtain ⟨⟨r_4, S_4⟩, hc_4, h⟩ := of_bd h
              replace h := of_u2 h
              refine x_callV1 (pc := 71) C (o := 0) [.int (-3 : Int32)] [] (c_X6_refuse (b := b) (-3 : Int32) hO S_3 _ _ hc_4) cw_X6_73 vi_X6_refuse ⟨rfl, rfl, Nat.le_of_ble_eq_true rfl, Nat.le_of_ble_eq_true rfl⟩ ⟨Nat.le_refl _, Nat.le_refl _⟩ hO.1 ⟨rfl, rfl, rfl⟩ rfl ⟨rfl, Nat.le_of_ble_eq_true rfl⟩ dX6_bounds_71 (fun hx_5 => ?_)
              exact x_ireturn (pc := 74) C dX6_bounds_74 (of_sp h).1 (of_sp h).2
            · replace h := of_ifn c_6 h
              refine x_iconst (pc := 64) C (v := (1 : Int32)) dX6_bounds_64 rfl ?_
              refine x_goto (pc := 65) C 74 dX6_bounds_65 rfl ?_
              exact x_ireturn (pc := 74) C dX6_bounds_74 (of_sp h).1 (of_sp h).2
          · replace h := of_ifp c_5 h
            refine x_aload_n (pc := 44) C 0 dX6_bounds_44 rfl ?_
            refine x_bipush (pc := 45) C (v := (-6 : Int32)) dX6_bounds_45 rfl ?_
            obtain ⟨⟨r_5, S_5⟩, hc_5, h⟩ := of_bd h
            replace h := of_u2 h
            refine x_callV1 (pc := 47) C (o := 0) [.int (-6 : Int32)] [] (c_X6_refuse (b := b) (-6 : Int32) hO S _ _ hc_5) cw_X6_73 vi_X6_refuse ⟨rfl, rfl, Nat.le_of_ble_eq_true rfl, Nat.le_of_ble_eq_true rfl⟩ ⟨Nat.le_refl _, Nat.le_refl _⟩ hO.1 ⟨rfl, rfl, rfl⟩ rfl ⟨rfl, Nat.le_of_ble_eq_true rfl⟩ dX6_bounds_47 (fun hx_6 => ?_)
            exact x_ireturn (pc := 50) C dX6_bounds_50 (of_sp h).1 (of_sp h).2
      · replace h := of_ifp c_3 h
        refine x_aload_n (pc := 25) C 0 dX6_bounds_25 rfl ?_
        refine x_bipush (pc := 26) C (v := (-4 : Int32)) dX6_bounds_26 rfl ?_
        obtain ⟨⟨r_6, S_6⟩, hc_6, h⟩ := of_bd h
        replace h := of_u2 h
        refine x_callV1 (pc := 28) C (o := 0) [.int (-4 : Int32)] [] (c_X6_refuse (b := b) (-4 : Int32) hO S _ _ hc_6) cw_X6_73 vi_X6_refuse ⟨rfl, rfl, Nat.le_of_ble_eq_true rfl, Nat.le_of_ble_eq_true rfl⟩ ⟨Nat.le_refl _, Nat.le_refl _⟩ hO.1 ⟨rfl, rfl, rfl⟩ rfl ⟨rfl, Nat.le_of_ble_eq_true rfl⟩ dX6_bounds_28 (fun hx_7 => ?_)
        exact x_ireturn (pc := 31) C dX6_bounds_31 (of_sp h).1 (of_sp h).2
  · replace h := of_ifp c_1 h
    refine x_aload_n (pc := 11) C 0 dX6_bounds_11 rfl ?_
    refine x_iconst (pc := 12) C (v := (-1 : Int32)) dX6_bounds_12 rfl ?_
    obtain ⟨⟨r_7, S_7⟩, hc_7, h⟩ := of_bd h
    replace h := of_u2 h
    refine x_callV1 (pc := 13) C (o := 0) [.int (-1 : Int32)] [] (c_X6_refuse (b := b) (-1 : Int32) hO S _ _ hc_7) cw_X6_73 vi_X6_refuse ⟨rfl, rfl, Nat.le_of_ble_eq_true rfl, Nat.le_of_ble_eq_true rfl⟩ ⟨Nat.le_refl _, Nat.le_refl _⟩ hO.1 ⟨rfl, rfl, rfl⟩ rfl ⟨rfl, Nat.le_of_ble_eq_true rfl⟩ dX6_bounds_13 (fun hx_8 => ?_)
    exact x_ireturn (pc := 16) C dX6_bounds_16 (of_sp h).1 (of_sp h).2
set_option maxRecDepth 100000 in
set_option maxHeartbeats 4000000 in
theorem c_X6_misfitOfValue {l : Launch} {G : zz_G} {L : Ly} {b : Nat} (p0 : Int32) (p1 : Int32) (S : Sg) : Met l yX6_misfitOfValue (Cond.code yX6_misfitOfValue cX6_misfitOfValue 2 (some .int) :: zz_all) (rmz 1 22) (PC G L b S [.int p0, .int p1]) (QC G L b S (some (.int (f_X6_misfitOfValue p0 p1))) True) 0 0 (fun q => b ≤ q) := by
  refine x_met [.int p0, .int p1] (by decide +kernel) (Nat.le_of_ble_eq_true rfl) fun p e s m args below meth c C => ?_
  generalize h : f_X6_misfitOfValue p0 p1 = rf
  unfold f_X6_misfitOfValue at h
  refine x_iload_n (pc := 0) C 0 dX6_misfitOfValue_0 rfl ?_
  refine x_bipush (pc := 1) C (v := (8 : Int32)) dX6_misfitOfValue_1 rfl ?_
  refine x_callS1 (pc := 3) C [.int p0, .int (8 : Int32)] [] (c_X6_isWithin (b := b) p0 (8 : Int32) S) cw_X6_69 vs_X6_isWithin ⟨rfl, rfl, Nat.le_of_ble_eq_true rfl, Nat.le_of_ble_eq_true rfl⟩ ⟨Nat.le_refl _, Nat.le_refl _⟩ rfl ⟨rfl, Nat.le_of_ble_eq_true rfl⟩ dX6_misfitOfValue_3 (fun hx_1 => ?_)
  refine x_if_ne (pc := 6) C 11 dX6_misfitOfValue_6 rfl (fun c_1 => ?_) (fun c_1 => ?_)
  · replace h := of_ifn c_1 h
    refine x_iload_n (pc := 11) C 1 dX6_misfitOfValue_11 rfl ?_
    refine x_iconst (pc := 12) C (v := (0 : Int32)) dX6_misfitOfValue_12 rfl ?_
    refine x_bipush (pc := 13) C (v := (99 : Int32)) dX6_misfitOfValue_13 rfl ?_
    refine x_callS1 (pc := 15) C [.int p1, .int (0 : Int32), .int (99 : Int32)] [] (c_X6_misfit (b := b) p1 (0 : Int32) (99 : Int32) S) cw_X6_125 vs_X6_misfit ⟨rfl, rfl, Nat.le_of_ble_eq_true rfl, Nat.le_of_ble_eq_true rfl⟩ ⟨Nat.le_refl _, Nat.le_refl _⟩ rfl ⟨rfl, Nat.le_of_ble_eq_true rfl⟩ dX6_misfitOfValue_15 (fun hx_2 => ?_)
    exact x_ireturn (pc := 18) C dX6_misfitOfValue_18 h rfl
  · replace h := of_ifp c_1 h
    refine x_iconst (pc := 9) C (v := (-1 : Int32)) dX6_misfitOfValue_9 rfl ?_
    exact x_ireturn (pc := 10) C dX6_misfitOfValue_10 h rfl
set_option maxRecDepth 100000 in
set_option maxHeartbeats 4000000 in
theorem c_X6_changes {l : Launch} {G : zz_G} {L : Ly} {b : Nat} (p1 : Int32) (p2 : Int32) (hO : isGu L) (S : Sg) (rf : Int32) (Sf : Sg) (h : f_X6_changes p1 p2 S = some (rf, Sf)) : Met l yX6_changes (Cond.code yX6_changes cX6_changes 4 (some .int) :: zz_all) (rmz 3 65) (PC G L b S [.ref (b + 0), .int p1, .int p2]) (QC G L b Sf (some (.int rf)) True) 0 0 (fun q => b ≤ q) := by
  refine x_met [.ref (b + 0), .int p1, .int p2] (by decide +kernel) (Nat.le_of_ble_eq_true rfl) fun p e s m args below meth c C => ?_
  unfold f_X6_changes at h
  refine x_iload_n (pc := 0) C 1 dX6_changes_0 rfl ?_
  refine x_iload_n (pc := 1) C 2 dX6_changes_1 rfl ?_
  refine x_callS1 (pc := 2) C [.int p1, .int p2] [] (c_X6_misfitOfValue (b := b) p1 p2 S) cw_X6_116 vs_X6_misfitOfValue ⟨rfl, rfl, Nat.le_of_ble_eq_true rfl, Nat.le_of_ble_eq_true rfl⟩ ⟨Nat.le_refl _, Nat.le_refl _⟩ rfl ⟨rfl, Nat.le_of_ble_eq_true rfl⟩ dX6_changes_2 (fun hx_1 => ?_)
  obtain ⟨v3_1, ev3_1, h⟩ := of_lt h
  refine x_istore_n (pc := 5) C 3 [(3, .int v3_1), (0, .ref (b + 0)), (1, .int p1), (2, .int p2)] dX6_changes_5 rfl (Nat.le_of_ble_eq_true rfl) ev3_1 rfl ?_
  refine x_iload_n (pc := 6) C 0 dX6_changes_6 rfl ?_
  refine x_if_eq (pc := 7) C 16 dX6_changes_7 rfl (fun c_1 => ?_) (fun c_1 => ?_)
  · replace h := of_ifp c_1 h
    refine x_aload_n (pc := 16) C 1 dX6_changes_16 rfl ?_
    refine x_getr (pc := 17) C (k := 0) 1 hO.1 rfl rfl wd_220 dX6_changes_17 (Nat.le_of_ble_eq_true rfl) rfl ?_
    refine x_iload_n (pc := 20) C 2 dX6_changes_20 rfl ?_
    refine x_iload_n (pc := 21) C 3 dX6_changes_21 rfl ?_
    obtain ⟨⟨r_1, S_1⟩, hc_1, h⟩ := of_bd h
    replace h := of_u2 h
    refine x_callV1 (pc := 22) C (o := 1) [.int p1, .int p2] [] (c_X5_takeChange (b := b) 1 p1 p2 hO.2.1 S _ _ hc_1) cw_X6_122 vi_X5_takeChange ⟨rfl, rfl, Nat.le_of_ble_eq_true rfl, Nat.le_of_ble_eq_true rfl⟩ ⟨Nat.le_refl _, Nat.le_refl _⟩ hO.2.1.1 ⟨rfl, rfl, rfl⟩ rfl ⟨rfl, Nat.le_of_ble_eq_true rfl⟩ dX6_changes_22 (fun hx_2 => ?_)
    refine x_if_eq (pc := 25) C 39 dX6_changes_25 rfl (fun c_2 => ?_) (fun c_2 => ?_)
    · replace h := of_ifp c_2 h
      refine x_aload_n (pc := 39) C 1 dX6_changes_39 rfl ?_
      refine x_bipush (pc := 40) C (v := (-6 : Int32)) dX6_changes_40 rfl ?_
      obtain ⟨⟨r_2, S_2⟩, hc_2, h⟩ := of_bd h
      replace h := of_u2 h
      refine x_callV1 (pc := 42) C (o := 0) [.int (-6 : Int32)] [] (c_X6_refuse (b := b) (-6 : Int32) hO S_1 _ _ hc_2) cw_X6_73 vi_X6_refuse ⟨rfl, rfl, Nat.le_of_ble_eq_true rfl, Nat.le_of_ble_eq_true rfl⟩ ⟨Nat.le_refl _, Nat.le_refl _⟩ hO.1 ⟨rfl, rfl, rfl⟩ rfl ⟨rfl, Nat.le_of_ble_eq_true rfl⟩ dX6_changes_42 (fun hx_3 => ?_)
      exact x_ireturn (pc := 45) C dX6_changes_45 (of_sp h).1 (of_sp h).2
    · replace h := of_ifn c_2 h
      refine x_aload_n (pc := 28) C 1 dX6_changes_28 rfl ?_
      refine x_getr (pc := 29) C (k := 0) 1 hO.1 rfl rfl wd_220 dX6_changes_29 (Nat.le_of_ble_eq_true rfl) rfl ?_
      refine x_iload_n (pc := 32) C 2 dX6_changes_32 rfl ?_
      obtain ⟨r_3, hc_3, h⟩ := of_bd h
      refine x_callV1 (pc := 33) C (o := 1) [.int p1] [] (c_X5_variableOf (b := b) 1 p1 hO.2.1 S_1 _ hc_3) cw_X6_77 vi_X5_variableOf ⟨rfl, rfl, Nat.le_of_ble_eq_true rfl, Nat.le_of_ble_eq_true rfl⟩ ⟨Nat.le_refl _, Nat.le_refl _⟩ hO.2.1.1 ⟨rfl, rfl, rfl⟩ rfl ⟨rfl, Nat.le_of_ble_eq_true rfl⟩ dX6_changes_33 (fun hx_4 => ?_)
      refine x_goto (pc := 36) C 45 dX6_changes_36 rfl ?_
      exact x_ireturn (pc := 45) C dX6_changes_45 (of_sp h).1 (of_sp h).2
  · replace h := of_ifn c_1 h
    refine x_aload_n (pc := 10) C 1 dX6_changes_10 rfl ?_
    refine x_iload_n (pc := 11) C 0 dX6_changes_11 rfl ?_
    obtain ⟨⟨r_4, S_3⟩, hc_4, h⟩ := of_bd h
    replace h := of_u2 h
    refine x_callV1 (pc := 12) C (o := 0) [.int v3_1] [] (c_X6_refuse (b := b) v3_1 hO S _ _ hc_4) cw_X6_73 vi_X6_refuse ⟨rfl, rfl, Nat.le_of_ble_eq_true rfl, Nat.le_of_ble_eq_true rfl⟩ ⟨Nat.le_refl _, Nat.le_refl _⟩ hO.1 ⟨rfl, rfl, rfl⟩ rfl ⟨rfl, Nat.le_of_ble_eq_true rfl⟩ dX6_changes_12 (fun hx_5 => ?_)
    exact x_ireturn (pc := 15) C dX6_changes_15 (of_sp h).1 (of_sp h).2
set_option maxRecDepth 100000 in
set_option maxHeartbeats 4000000 in
theorem c_X6_meetingOfSum {l : Launch} {G : zz_G} {L : Ly} {b : Nat} (o1 : Nat) (p2 : Int32) (hO : isGu L) (h1 : isW L o1) (S : Sg) (rf : Int32) (Sf : Sg) (h : f_X6_meetingOfSum o1 p2 S = some (rf, Sf)) : Met l yX6_meetingOfSum (Cond.code yX6_meetingOfSum cX6_meetingOfSum 3 (some .int) :: zz_all) (rmz 3 74) (PC G L b S [.ref (b + 0), .ref (b + o1), .int p2]) (QC G L b Sf (some (.int rf)) True) 0 0 (fun q => b ≤ q) := by
  refine x_met [.ref (b + 0), .ref (b + o1), .int p2] (by decide +kernel) (Nat.le_of_ble_eq_true rfl) fun p e s m args below meth c C => ?_
  unfold f_X6_meetingOfSum at h
  refine x_aload_n (pc := 0) C 0 dX6_meetingOfSum_0 rfl ?_
  refine x_getr (pc := 1) C (k := 4) 130 hO.1 rfl rfl wd_224 dX6_meetingOfSum_1 (Nat.le_of_ble_eq_true rfl) rfl ?_
  refine x_iconst (pc := 4) C (v := (0 : Int32)) dX6_meetingOfSum_4 rfl ?_
  refine x_iload_n (pc := 5) C 2 dX6_meetingOfSum_5 rfl ?_
  refine x_iconst (pc := 6) C (v := (0 : Int32)) dX6_meetingOfSum_6 rfl ?_
  obtain ⟨S_1, hc_1, h⟩ := of_bd h
  refine x_callV_ (pc := 7) C (o := 130) [.int (0 : Int32), .int p2, .int (0 : Int32)] [] (c_X2_make (b := b) 130 (0 : Int32) p2 (0 : Int32) hO.2.2.2.2.1 S _ hc_1) cw_X6_150 vi_X2_make ⟨rfl, rfl, Nat.le_of_ble_eq_true rfl, Nat.le_of_ble_eq_true rfl⟩ ⟨Nat.le_refl _, Nat.le_refl _⟩ hO.2.2.2.2.1.1 ⟨rfl, rfl, rfl⟩ rfl ⟨rfl, Nat.le_of_ble_eq_true rfl⟩ dX6_meetingOfSum_7 (fun hx_1 => ?_)
  refine x_aload_n (pc := 10) C 1 dX6_meetingOfSum_10 rfl ?_
  refine x_aload_n (pc := 11) C 0 dX6_meetingOfSum_11 rfl ?_
  refine x_getr (pc := 12) C (k := 4) 130 hO.1 rfl rfl wd_224 dX6_meetingOfSum_12 (Nat.le_of_ble_eq_true rfl) rfl ?_
  refine x_aload_n (pc := 15) C 1 dX6_meetingOfSum_15 rfl ?_
  refine x_geti (pc := 16) C (k := 5) h1.1 rfl rfl wd_135 dX6_meetingOfSum_16 ⟨Nat.le_of_ble_eq_true rfl, rfl⟩ ?_
  refine x_aload_n (pc := 19) C 1 dX6_meetingOfSum_19 rfl ?_
  refine x_geti (pc := 20) C (k := 6) h1.1 rfl rfl wd_137 dX6_meetingOfSum_20 ⟨Nat.le_of_ble_eq_true rfl, rfl⟩ ?_
  obtain ⟨⟨r_1, S_2⟩, hc_2, h⟩ := of_bd h
  replace h := of_u2 h
  refine x_callV1 (pc := 23) C (o := o1) [.ref (b + 130), .int (S_1.1 o1 5), .int (S_1.1 o1 6)] [] (c_X5_meetingBy (b := b) o1 130 (S_1.1 o1 5) (S_1.1 o1 6) h1 hO.2.2.2.2.1 S_1 _ _ hc_2) cw_X6_161 vi_X5_meetingBy ⟨rfl, rfl, Nat.le_of_ble_eq_true rfl, Nat.le_of_ble_eq_true rfl⟩ ⟨Nat.le_refl _, Nat.le_refl _⟩ h1.1 ⟨rfl, rfl, rfl⟩ rfl ⟨rfl, Nat.le_of_ble_eq_true rfl⟩ dX6_meetingOfSum_23 (fun hx_2 => ?_)
  exact x_ireturn (pc := 26) C dX6_meetingOfSum_26 (of_sp h).1 (of_sp h).2
set_option maxRecDepth 100000 in
set_option maxHeartbeats 4000000 in
theorem l_X6_cheapest_24 {p : Program} {l : Launch} {e : Env} {s : State} {m : MethodId} {args : Array Value} {below : List Frame} {meth : Method} {c : Code} {G : zz_G} {L : Ly} {b : Nat} {Q : State → Prop} (C : CX p G s m args meth c cX6_cheapest yX6_cheapest 6 (some .int)) (hO : isGu L) (v1 : Int32) : ∀ (n : Nat) (v2 : Int32) (v3 : Int32) (v4 : Int32) (S : Sg) {z}, L_X6_cheapest_24 v1 n v2 v3 v4 S = some z → (∀ (v2_o : Int32) (v3_o : Int32) (S_o : Sg), z = (v2_o, v3_o, S_o) → X p l e (rmz 4 96) s m args below meth c 0 0 Q 6 G L b S_o 71 [(1, .int v1), (2, .int v2_o), (3, .int v3_o)] []) → X p l e (rmz 4 96) s m args below meth c 0 0 Q 6 G L b S 24 [(0, .ref (b + 0)), (1, .int v1), (2, .int v2), (3, .int v3), (4, .int v4)] [] := by
  intro n
  induction n with
  | zero =>
    intro v2 v3 v4 S z h
    exact of_none h
  | succ n ih =>
    intro v2 v3 v4 S z h hx
    rw [L_X6_cheapest_24] at h
    refine x_iload (pc := 24) C 4 dX6_cheapest_24 rfl ?_
    refine x_sipush (pc := 26) C (v := (255 : Int32)) dX6_cheapest_26 rfl ?_
    refine x_icmp_gt (pc := 29) C 71 dX6_cheapest_29 rfl (fun c_1 => ?_) (fun c_1 => ?_)
    · replace h := of_ifp c_1 h
      exact x_sub [1, 2, 3] rfl (hx _ _ _ (of_s1 h).symm)
    · replace h := of_ifn c_1 h
      refine x_iload (pc := 32) C 4 dX6_cheapest_32 rfl ?_
      refine x_callS1 (pc := 34) C [.int v4] [] (c_J6_bitCount_0f7a4 (b := b) v4 S) cw_X6_213 vs_J6_bitCount_0f7a4 ⟨rfl, rfl, Nat.le_of_ble_eq_true rfl, Nat.le_of_ble_eq_true rfl⟩ ⟨Nat.le_refl _, Nat.le_refl _⟩ rfl ⟨rfl, Nat.le_of_ble_eq_true rfl⟩ dX6_cheapest_34 (fun hx_1 => ?_)
      obtain ⟨v5_1, ev5_1, h⟩ := of_lt h
      refine x_istore (pc := 37) C [(5, .int v5_1), (0, .ref (b + 0)), (1, .int v1), (2, .int v2), (3, .int v3), (4, .int v4)] dX6_cheapest_37 (Nat.le_of_ble_eq_true rfl) ev5_1 rfl ?_
      refine x_iload (pc := 39) C 0 dX6_cheapest_39 rfl ?_
      refine x_iload_n (pc := 41) C 4 dX6_cheapest_41 rfl ?_
      refine x_icmp_ge (pc := 42) C 65 dX6_cheapest_42 rfl (fun c_2 => ?_) (fun c_2 => ?_)
      · replace h := of_ifn c_2 h
        obtain ⟨v4_1, ev4_1, h⟩ := of_lt h
        refine x_iinc (pc := 65) C (w := (1 : Int32)) 5 [(4, .int v4_1), (5, .int v5_1), (0, .ref (b + 0)), (1, .int v1), (2, .int v2), (3, .int v3)] dX6_cheapest_65 rfl rfl (Nat.le_of_ble_eq_true rfl) ev4_1 rfl ?_
        refine x_goto (pc := 68) C 24 dX6_cheapest_68 rfl ?_
        exact x_sub [2, 3, 4, 5, 0] rfl (ih _ _ _ _ h hx)
      · replace h := of_ifp c_2 h
        refine x_aload_n (pc := 45) C 1 dX6_cheapest_45 rfl ?_
        refine x_aload_n (pc := 46) C 1 dX6_cheapest_46 rfl ?_
        refine x_getr (pc := 47) C (k := 0) 1 hO.1 rfl rfl wd_220 dX6_cheapest_47 (Nat.le_of_ble_eq_true rfl) rfl ?_
        refine x_iload (pc := 50) C 5 dX6_cheapest_50 rfl ?_
        obtain ⟨⟨r_1, S_1⟩, hc_1, h⟩ := of_bd h
        replace h := of_u2 h
        refine x_callV1 (pc := 52) C (o := 0) [.ref (b + 1), .int v4] [] (c_X6_meetingOfSum (b := b) 1 v4 hO hO.2.1 S _ _ hc_1) cw_X6_172 vi_X6_meetingOfSum ⟨rfl, rfl, Nat.le_of_ble_eq_true rfl, Nat.le_of_ble_eq_true rfl⟩ ⟨Nat.le_refl _, Nat.le_refl _⟩ hO.1 ⟨rfl, rfl, rfl⟩ rfl ⟨rfl, Nat.le_of_ble_eq_true rfl⟩ dX6_cheapest_52 (fun hx_2 => ?_)
        refine x_iconst (pc := 55) C (v := (1 : Int32)) dX6_cheapest_55 rfl ?_
        obtain ⟨v2_1, ev2_1, h⟩ := of_lt h
        obtain ⟨v3_1, ev3_1, h⟩ := of_lt h
        have kd_1 : X p l e (rmz 4 96) s m args below meth c 0 0 Q 6 G L b S_1 65 [(0, .ref (b + 0)), (1, .int v1), (2, .int v2_1), (3, .int v3_1), (4, .int v4)] [] := by
          obtain ⟨v4_2, ev4_2, h⟩ := of_lt h
          refine x_iinc (pc := 65) C (w := (1 : Int32)) 4 [(4, .int v4_2), (0, .ref (b + 0)), (1, .int v1), (2, .int v2_1), (3, .int v3_1)] dX6_cheapest_65 rfl rfl (Nat.le_of_ble_eq_true rfl) ev4_2 rfl ?_
          refine x_goto (pc := 68) C 24 dX6_cheapest_68 rfl ?_
          exact x_sub [1, 2, 3, 4, 0] rfl (ih _ _ _ _ h hx)
        refine x_icmp_ne (pc := 56) C 65 dX6_cheapest_56 rfl (fun c_3 => ?_) (fun c_3 => ?_)
        · refine x_sub [1, 2, 3, 4, 5] rfl ?_
          rw [show v2_1 = v2 from (ev2_1.trans (if_neg c_3))] at kd_1
          rw [show v3_1 = v3 from (ev3_1.trans (if_neg c_3))] at kd_1
          exact kd_1
        · refine x_iload (pc := 59) C 5 dX6_cheapest_59 rfl ?_
          refine x_istore_n (pc := 61) C 2 [(2, .int v4), (5, .int v5_1), (0, .ref (b + 0)), (1, .int v1), (3, .int v3), (4, .int v4)] dX6_cheapest_61 rfl (Nat.le_of_ble_eq_true rfl) rfl rfl ?_
          refine x_iload (pc := 62) C 1 dX6_cheapest_62 rfl ?_
          refine x_istore_n (pc := 64) C 3 [(3, .int v5_1), (2, .int v4), (5, .int v5_1), (0, .ref (b + 0)), (1, .int v1), (4, .int v4)] dX6_cheapest_64 rfl (Nat.le_of_ble_eq_true rfl) rfl rfl ?_
          refine x_sub [3, 4, 1, 0, 5] rfl ?_
          rw [show v2_1 = v4 from (ev2_1.trans (if_pos c_3))] at kd_1
          rw [show v3_1 = v5_1 from (ev3_1.trans (if_pos c_3))] at kd_1
          exact kd_1
set_option maxRecDepth 100000 in
set_option maxHeartbeats 4000000 in
theorem c_X6_cheapest {l : Launch} {G : zz_G} {L : Ly} {b : Nat} (p1 : Int32) (hO : isGu L) (S : Sg) (rf : Int32) (Sf : Sg) (h : f_X6_cheapest p1 S = some (rf, Sf)) : Met l yX6_cheapest (Cond.code yX6_cheapest cX6_cheapest 6 (some .int) :: zz_all) (rmz 4 96) (PC G L b S [.ref (b + 0), .int p1]) (QC G L b Sf (some (.int rf)) True) 0 0 (fun q => b ≤ q) := by
  refine x_met [.ref (b + 0), .int p1] (by decide +kernel) (Nat.le_of_ble_eq_true rfl) fun p e s m args below meth c C => ?_
  unfold f_X6_cheapest at h
  refine x_iload_n (pc := 0) C 1 dX6_cheapest_0 rfl ?_
  refine x_iconst (pc := 1) C (v := (2 : Int32)) dX6_cheapest_1 rfl ?_
  refine x_callS1 (pc := 2) C [.int p1, .int (2 : Int32)] [] (c_X6_isWithin (b := b) p1 (2 : Int32) S) cw_X6_69 vs_X6_isWithin ⟨rfl, rfl, Nat.le_of_ble_eq_true rfl, Nat.le_of_ble_eq_true rfl⟩ ⟨Nat.le_refl _, Nat.le_refl _⟩ rfl ⟨rfl, Nat.le_of_ble_eq_true rfl⟩ dX6_cheapest_2 (fun hx_1 => ?_)
  refine x_if_ne (pc := 5) C 15 dX6_cheapest_5 rfl (fun c_1 => ?_) (fun c_1 => ?_)
  · replace h := of_ifn c_1 h
    refine x_bipush (pc := 15) C (v := (-9 : Int32)) dX6_cheapest_15 rfl ?_
    refine x_istore_n (pc := 17) C 2 [(2, .int (-9 : Int32)), (0, .ref (b + 0)), (1, .int p1)] dX6_cheapest_17 rfl (Nat.le_of_ble_eq_true rfl) rfl rfl ?_
    refine x_bipush (pc := 18) C (v := (9 : Int32)) dX6_cheapest_18 rfl ?_
    refine x_istore_n (pc := 20) C 3 [(3, .int (9 : Int32)), (2, .int (-9 : Int32)), (0, .ref (b + 0)), (1, .int p1)] dX6_cheapest_20 rfl (Nat.le_of_ble_eq_true rfl) rfl rfl ?_
    refine x_iconst (pc := 21) C (v := (1 : Int32)) dX6_cheapest_21 rfl ?_
    refine x_istore (pc := 22) C [(4, .int (1 : Int32)), (3, .int (9 : Int32)), (2, .int (-9 : Int32)), (0, .ref (b + 0)), (1, .int p1)] dX6_cheapest_22 (Nat.le_of_ble_eq_true rfl) rfl rfl ?_
    refine x_sub [3, 4, 2, 1, 0] rfl ?_
    obtain ⟨z_hz_1, hz_1, h⟩ := of_bd h
    refine l_X6_cheapest_24 C hO p1 400 _ _ _ _ hz_1 (fun v2_1 v3_1 S_1 ez => ?_)
    subst z_hz_1
    replace h := of_u3 h
    refine x_iload_n (pc := 71) C 0 dX6_cheapest_71 rfl ?_
    obtain ⟨x_1, ex_1, h⟩ := of_lt h
    have kd_1 : X p l e (rmz 4 96) s m args below meth c 0 0 (RQ G L b Sf below args s (some (.int rf)) True) 6 G L b S_1 86 [] [.int x_1] := by
      exact x_ireturn (pc := 86) C dX6_cheapest_86 (of_sp h).1 (of_sp h).2
    refine x_if_eq (pc := 72) C 81 dX6_cheapest_72 rfl (fun c_2 => ?_) (fun c_2 => ?_)
    · refine x_iload_n (pc := 81) C 1 dX6_cheapest_81 rfl ?_
      refine x_goto (pc := 82) C 86 dX6_cheapest_82 rfl ?_
      refine x_sub [] rfl ?_
      rw [show x_1 = v2_1 from (ex_1.trans (if_pos c_2))] at kd_1
      exact kd_1
    · refine x_iload_n (pc := 75) C 1 dX6_cheapest_75 rfl ?_
      refine x_bipush (pc := 76) C (v := (-9 : Int32)) dX6_cheapest_76 rfl ?_
      refine x_icmp_ne (pc := 78) C 85 dX6_cheapest_78 rfl (fun c_3 => ?_) (fun c_3 => ?_)
      · refine x_iload_n (pc := 85) C 2 dX6_cheapest_85 rfl ?_
        refine x_sub [] rfl ?_
        rw [show x_1 = v3_1 from ((ex_1.trans (if_neg c_2)).trans (if_neg c_3))] at kd_1
        exact kd_1
      · refine x_iload_n (pc := 81) C 1 dX6_cheapest_81 rfl ?_
        refine x_goto (pc := 82) C 86 dX6_cheapest_82 rfl ?_
        refine x_sub [] rfl ?_
        rw [show x_1 = v2_1 from ((ex_1.trans (if_neg c_2)).trans (if_pos c_3))] at kd_1
        exact kd_1
  · replace h := of_ifp c_1 h
    refine x_aload_n (pc := 8) C 0 dX6_cheapest_8 rfl ?_
    refine x_bipush (pc := 9) C (v := (-2 : Int32)) dX6_cheapest_9 rfl ?_
    obtain ⟨⟨r_1, S_2⟩, hc_1, h⟩ := of_bd h
    replace h := of_u2 h
    refine x_callV1 (pc := 11) C (o := 0) [.int (-2 : Int32)] [] (c_X6_refuse (b := b) (-2 : Int32) hO S _ _ hc_1) cw_X6_73 vi_X6_refuse ⟨rfl, rfl, Nat.le_of_ble_eq_true rfl, Nat.le_of_ble_eq_true rfl⟩ ⟨Nat.le_refl _, Nat.le_refl _⟩ hO.1 ⟨rfl, rfl, rfl⟩ rfl ⟨rfl, Nat.le_of_ble_eq_true rfl⟩ dX6_cheapest_11 (fun hx_2 => ?_)
    exact x_ireturn (pc := 14) C dX6_cheapest_14 (of_sp h).1 (of_sp h).2
set_option maxRecDepth 100000 in
set_option maxHeartbeats 4000000 in
theorem c_X6_clear {l : Launch} {G : zz_G} {L : Ly} {b : Nat} (hO : isGu L) (S : Sg) (rf : Int32) (Sf : Sg) (h : f_X6_clear S = some (rf, Sf)) : Met l yX6_clear (Cond.code yX6_clear cX6_clear 2 (some .int) :: zz_all) (rmz 1 20) (PC G L b S [.ref (b + 0)]) (QC G L b Sf (some (.int rf)) True) 0 0 (fun q => b ≤ q) := by
  refine x_met [.ref (b + 0)] (by decide +kernel) (Nat.le_of_ble_eq_true rfl) fun p e s m args below meth c C => ?_
  unfold f_X6_clear at h
  refine x_aload_n (pc := 0) C 0 dX6_clear_0 rfl ?_
  refine x_getr (pc := 1) C (k := 7) 137 hO.1 rfl rfl wd_227 dX6_clear_1 (Nat.le_of_ble_eq_true rfl) rfl ?_
  refine x_geti (pc := 4) C (k := 0) hO.2.2.2.2.2.2.2.1.1 rfl rfl wd_213 dX6_clear_4 ⟨Nat.le_of_ble_eq_true rfl, rfl⟩ ?_
  obtain ⟨v1_1, ev1_1, h⟩ := of_lt h
  refine x_istore_n (pc := 7) C 1 [(1, .int v1_1), (0, .ref (b + 0))] dX6_clear_7 rfl (Nat.le_of_ble_eq_true rfl) ev1_1 rfl ?_
  refine x_aload_n (pc := 8) C 1 dX6_clear_8 rfl ?_
  refine x_getr (pc := 9) C (k := 7) 137 hO.1 rfl rfl wd_227 dX6_clear_9 (Nat.le_of_ble_eq_true rfl) rfl ?_
  obtain ⟨S_1, hc_1, h⟩ := of_bd h
  refine x_callV_ (pc := 12) C (o := 137) [] [] (c_X1_forget (b := b) 137 32 hO.2.2.2.2.2.2.2.1 S _ hc_1) cw_X6_66 vi_X1_forget ⟨rfl, rfl, Nat.le_of_ble_eq_true rfl, Nat.le_of_ble_eq_true rfl⟩ ⟨Nat.le_refl _, Nat.le_refl _⟩ hO.2.2.2.2.2.2.2.1.1 ⟨rfl, rfl, rfl⟩ rfl ⟨rfl, Nat.le_of_ble_eq_true rfl⟩ dX6_clear_12 (fun hx_1 => ?_)
  refine x_iload_n (pc := 15) C 0 dX6_clear_15 rfl ?_
  exact x_ireturn (pc := 16) C dX6_clear_16 (of_sp h).1 (of_sp h).2
set_option maxRecDepth 100000 in
set_option maxHeartbeats 4000000 in
theorem c_X6_count {l : Launch} {G : zz_G} {L : Ly} {b : Nat} (p1 : Int32) (hO : isGu L) (S : Sg) (rf : Int32) (h : f_X6_count p1 S = some rf) : Met l yX6_count (Cond.code yX6_count cX6_count 2 (some .int) :: zz_all) (rmz 4 87) (PC G L b S [.ref (b + 0), .int p1]) (QC G L b S (some (.int rf)) True) 0 0 (fun q => b ≤ q) := by
  refine x_met [.ref (b + 0), .int p1] (by decide +kernel) (Nat.le_of_ble_eq_true rfl) fun p e s m args below meth c C => ?_
  unfold f_X6_count at h
  refine x_iload_n (pc := 0) C 1 dX6_count_0 rfl ?_
  by_cases c_1 : p1 = (0 : Int32)
  · replace h := of_ifp c_1 h
    refine x_tabIn (pc := 1) C 48 dX6_count_1 c_1 (by decide) (by decide) rfl rfl ?_
    refine x_aload_n (pc := 48) C 0 dX6_count_48 rfl ?_
    refine x_getr (pc := 49) C (k := 0) 1 hO.1 rfl rfl wd_220 dX6_count_49 (Nat.le_of_ble_eq_true rfl) rfl ?_
    refine x_geti (pc := 52) C (k := 9) hO.2.1.1 rfl rfl wd_142 dX6_count_52 ⟨Nat.le_of_ble_eq_true rfl, rfl⟩ ?_
    exact x_ireturn (pc := 55) C dX6_count_55 (of_s1 h) rfl
  replace h := of_ifn c_1 h
  by_cases c_2 : p1 = (1 : Int32)
  · replace h := of_ifp c_2 h
    refine x_tabIn (pc := 1) C 56 dX6_count_1 c_2 (by decide) (by decide) rfl rfl ?_
    refine x_aload_n (pc := 56) C 0 dX6_count_56 rfl ?_
    refine x_getr (pc := 57) C (k := 0) 1 hO.1 rfl rfl wd_220 dX6_count_57 (Nat.le_of_ble_eq_true rfl) rfl ?_
    refine x_geti (pc := 60) C (k := 4) hO.2.1.1 rfl rfl wd_133 dX6_count_60 ⟨Nat.le_of_ble_eq_true rfl, rfl⟩ ?_
    exact x_ireturn (pc := 63) C dX6_count_63 (of_s1 h) rfl
  replace h := of_ifn c_2 h
  by_cases c_3 : p1 = (2 : Int32)
  · replace h := of_ifp c_3 h
    refine x_tabIn (pc := 1) C 64 dX6_count_1 c_3 (by decide) (by decide) rfl rfl ?_
    refine x_aload_n (pc := 64) C 0 dX6_count_64 rfl ?_
    refine x_getr (pc := 65) C (k := 0) 1 hO.1 rfl rfl wd_220 dX6_count_65 (Nat.le_of_ble_eq_true rfl) rfl ?_
    refine x_geti (pc := 68) C (k := 5) hO.2.1.1 rfl rfl wd_135 dX6_count_68 ⟨Nat.le_of_ble_eq_true rfl, rfl⟩ ?_
    exact x_ireturn (pc := 71) C dX6_count_71 (of_s1 h) rfl
  replace h := of_ifn c_3 h
  by_cases c_4 : p1 = (3 : Int32)
  · replace h := of_ifp c_4 h
    refine x_tabIn (pc := 1) C 72 dX6_count_1 c_4 (by decide) (by decide) rfl rfl ?_
    refine x_aload_n (pc := 72) C 0 dX6_count_72 rfl ?_
    refine x_getr (pc := 73) C (k := 0) 1 hO.1 rfl rfl wd_220 dX6_count_73 (Nat.le_of_ble_eq_true rfl) rfl ?_
    refine x_geti (pc := 76) C (k := 6) hO.2.1.1 rfl rfl wd_137 dX6_count_76 ⟨Nat.le_of_ble_eq_true rfl, rfl⟩ ?_
    exact x_ireturn (pc := 79) C dX6_count_79 (of_s1 h) rfl
  replace h := of_ifn c_4 h
  by_cases c_5 : p1 = (4 : Int32)
  · replace h := of_ifp c_5 h
    refine x_tabIn (pc := 1) C 80 dX6_count_1 c_5 (by decide) (by decide) rfl rfl ?_
    refine x_aload_n (pc := 80) C 0 dX6_count_80 rfl ?_
    refine x_getr (pc := 81) C (k := 0) 1 hO.1 rfl rfl wd_220 dX6_count_81 (Nat.le_of_ble_eq_true rfl) rfl ?_
    obtain ⟨r_1, hc_1, h⟩ := of_bd h
    refine x_callV1 (pc := 84) C (o := 1) [] [] (c_X5_usedBits (b := b) 1 hO.2.1 S _ hc_1) cw_X6_278 vi_X5_usedBits ⟨rfl, rfl, Nat.le_of_ble_eq_true rfl, Nat.le_of_ble_eq_true rfl⟩ ⟨Nat.le_refl _, Nat.le_refl _⟩ hO.2.1.1 ⟨rfl, rfl, rfl⟩ rfl ⟨rfl, Nat.le_of_ble_eq_true rfl⟩ dX6_count_84 (fun hx_1 => ?_)
    exact x_ireturn (pc := 87) C dX6_count_87 (of_s1 h) rfl
  replace h := of_ifn c_5 h
  by_cases c_6 : p1 = (5 : Int32)
  · replace h := of_ifp c_6 h
    refine x_tabIn (pc := 1) C 88 dX6_count_1 c_6 (by decide) (by decide) rfl rfl ?_
    refine x_aload_n (pc := 88) C 0 dX6_count_88 rfl ?_
    refine x_getr (pc := 89) C (k := 0) 1 hO.1 rfl rfl wd_220 dX6_count_89 (Nat.le_of_ble_eq_true rfl) rfl ?_
    obtain ⟨r_2, hc_2, h⟩ := of_bd h
    refine x_callV1 (pc := 92) C (o := 1) [] [] (c_X5_valuesOfPeople (b := b) 1 hO.2.1 S _ hc_2) cw_X6_281 vi_X5_valuesOfPeople ⟨rfl, rfl, Nat.le_of_ble_eq_true rfl, Nat.le_of_ble_eq_true rfl⟩ ⟨Nat.le_refl _, Nat.le_refl _⟩ hO.2.1.1 ⟨rfl, rfl, rfl⟩ rfl ⟨rfl, Nat.le_of_ble_eq_true rfl⟩ dX6_count_92 (fun hx_2 => ?_)
    exact x_ireturn (pc := 95) C dX6_count_95 (of_s1 h) rfl
  replace h := of_ifn c_6 h
  by_cases c_7 : p1 = (6 : Int32)
  · replace h := of_ifp c_7 h
    refine x_tabIn (pc := 1) C 96 dX6_count_1 c_7 (by decide) (by decide) rfl rfl ?_
    refine x_aload_n (pc := 96) C 0 dX6_count_96 rfl ?_
    refine x_getr (pc := 97) C (k := 7) 137 hO.1 rfl rfl wd_227 dX6_count_97 (Nat.le_of_ble_eq_true rfl) rfl ?_
    refine x_geti (pc := 100) C (k := 0) hO.2.2.2.2.2.2.2.1.1 rfl rfl wd_213 dX6_count_100 ⟨Nat.le_of_ble_eq_true rfl, rfl⟩ ?_
    exact x_ireturn (pc := 103) C dX6_count_103 (of_s1 h) rfl
  replace h := of_ifn c_7 h
  by_cases c_8 : p1 = (7 : Int32)
  · replace h := of_ifp c_8 h
    refine x_tabIn (pc := 1) C 104 dX6_count_1 c_8 (by decide) (by decide) rfl rfl ?_
    refine x_aload_n (pc := 104) C 0 dX6_count_104 rfl ?_
    refine x_getr (pc := 105) C (k := 6) 135 hO.1 rfl rfl wd_226 dX6_count_105 (Nat.le_of_ble_eq_true rfl) rfl ?_
    refine x_geti (pc := 108) C (k := 0) hO.2.2.2.2.2.2.1.1 rfl rfl wd_213 dX6_count_108 ⟨Nat.le_of_ble_eq_true rfl, rfl⟩ ?_
    exact x_ireturn (pc := 111) C dX6_count_111 (of_s1 h) rfl
  replace h := of_ifn c_8 h
  refine x_tabOut (pc := 1) C 112 dX6_count_1 (by have := lv_neT c_1 (show ((0 : Int32)).toInt = 0 from rfl); have := lv_neT c_2 (show ((1 : Int32)).toInt = 1 from rfl); have := lv_neT c_3 (show ((2 : Int32)).toInt = 2 from rfl); have := lv_neT c_4 (show ((3 : Int32)).toInt = 3 from rfl); have := lv_neT c_5 (show ((4 : Int32)).toInt = 4 from rfl); have := lv_neT c_6 (show ((5 : Int32)).toInt = 5 from rfl); have := lv_neT c_7 (show ((6 : Int32)).toInt = 6 from rfl); have := lv_neT c_8 (show ((7 : Int32)).toInt = 7 from rfl); omega) rfl ?_
  refine x_iload_n (pc := 112) C 1 dX6_count_112 rfl ?_
  refine x_bipush (pc := 113) C (v := (11 : Int32)) dX6_count_113 rfl ?_
  refine x_isub (pc := 115) C dX6_count_115 ?_
  refine x_bipush (pc := 116) C (v := (6 : Int32)) dX6_count_116 rfl ?_
  refine x_callS1 (pc := 118) C [.int (p1 - (11 : Int32)), .int (6 : Int32)] [] (c_X6_isWithin (b := b) (p1 - (11 : Int32)) (6 : Int32) S) cw_X6_69 vs_X6_isWithin ⟨rfl, rfl, Nat.le_of_ble_eq_true rfl, Nat.le_of_ble_eq_true rfl⟩ ⟨Nat.le_refl _, Nat.le_refl _⟩ rfl ⟨rfl, Nat.le_of_ble_eq_true rfl⟩ dX6_count_118 (fun hx_3 => ?_)
  refine x_if_eq (pc := 121) C 136 dX6_count_121 rfl (fun c_9 => ?_) (fun c_9 => ?_)
  · replace h := of_ifp c_9 h
    refine x_bipush (pc := 136) C (v := (-9 : Int32)) dX6_count_136 rfl ?_
    exact x_ireturn (pc := 138) C dX6_count_138 (of_s1 h) rfl
  · replace h := of_ifn c_9 h
    refine x_aload_n (pc := 124) C 0 dX6_count_124 rfl ?_
    refine x_getr (pc := 125) C (k := 8) 139 hO.1 rfl rfl wd_228 dX6_count_125 (Nat.le_of_ble_eq_true rfl) rfl ?_
    refine x_iload_n (pc := 128) C 1 dX6_count_128 rfl ?_
    refine x_bipush (pc := 129) C (v := (11 : Int32)) dX6_count_129 rfl ?_
    refine x_isub (pc := 131) C dX6_count_131 ?_
    obtain ⟨g_1, h⟩ := of_gd h
    refine x_iaload (pc := 132) C hO.2.2.2.2.2.2.2.2 g_1 dX6_count_132 ?_
    refine x_goto (pc := 133) C 138 dX6_count_133 rfl ?_
    exact x_ireturn (pc := 138) C dX6_count_138 (of_s1 h) rfl
set_option maxRecDepth 100000 in
set_option maxHeartbeats 4000000 in
theorem c_X6_gain {l : Launch} {G : zz_G} {L : Ly} {b : Nat} (p0 : Int32) (S : Sg) : Met l yX6_gain (Cond.code yX6_gain cX6_gain 1 (some .int) :: zz_all) (rmz 0 0) (PC G L b S [.int p0]) (QC G L b S (some (.int (f_X6_gain p0))) True) 0 0 (fun q => b ≤ q) := by
  refine x_met [.int p0] (by decide +kernel) (Nat.le_of_ble_eq_true rfl) fun p e s m args below meth c C => ?_
  generalize h : f_X6_gain p0 = rf
  unfold f_X6_gain at h
  refine x_iload_n (pc := 0) C 0 dX6_gain_0 rfl ?_
  refine x_iconst (pc := 1) C (v := (1 : Int32)) dX6_gain_1 rfl ?_
  obtain ⟨x_1, ex_1, h⟩ := of_lt h
  have kd_1 : X p l e (rmz 0 0) s m args below meth c 0 0 (RQ G L b S below args s (some (.int rf)) True) 1 G L b S 18 [] [.int x_1] := by
    exact x_ireturn (pc := 18) C dX6_gain_18 h rfl
  refine x_icmp_ne (pc := 2) C 9 dX6_gain_2 rfl (fun c_1 => ?_) (fun c_1 => ?_)
  · refine x_iload_n (pc := 9) C 0 dX6_gain_9 rfl ?_
    refine x_if_ne (pc := 10) C 17 dX6_gain_10 rfl (fun c_2 => ?_) (fun c_2 => ?_)
    · refine x_iconst (pc := 17) C (v := (-1 : Int32)) dX6_gain_17 rfl ?_
      refine x_sub [] rfl ?_
      rw [show x_1 = (-1 : Int32) from ((ex_1.trans (if_neg c_1)).trans (if_neg c_2))] at kd_1
      exact kd_1
    · refine x_iconst (pc := 13) C (v := (1 : Int32)) dX6_gain_13 rfl ?_
      refine x_goto (pc := 14) C 18 dX6_gain_14 rfl ?_
      refine x_sub [] rfl ?_
      rw [show x_1 = (1 : Int32) from ((ex_1.trans (if_neg c_1)).trans (if_pos c_2))] at kd_1
      exact kd_1
  · refine x_iconst (pc := 5) C (v := (3 : Int32)) dX6_gain_5 rfl ?_
    refine x_goto (pc := 6) C 18 dX6_gain_6 rfl ?_
    refine x_sub [] rfl ?_
    rw [show x_1 = (3 : Int32) from (ex_1.trans (if_pos c_1))] at kd_1
    exact kd_1
set_option maxRecDepth 100000 in
set_option maxHeartbeats 4000000 in
theorem c_X6_guard {l : Launch} {G : zz_G} {L : Ly} {b : Nat} (hO : isGu L) (S : Sg) (rf : Int32) (Sf : Sg) (h : f_X6_guard S = some (rf, Sf)) : Met l yX6_guard (Cond.code yX6_guard cX6_guard 2 (some .int) :: zz_all) (rmz 6 145) (PC G L b S [.ref (b + 0)]) (QC G L b Sf (some (.int rf)) True) 0 0 (fun q => b ≤ q) := by
  refine x_met [.ref (b + 0)] (by decide +kernel) (Nat.le_of_ble_eq_true rfl) fun p e s m args below meth c C => ?_
  unfold f_X6_guard at h
  refine x_aload_n (pc := 0) C 0 dX6_guard_0 rfl ?_
  refine x_getr (pc := 1) C (k := 1) 44 hO.1 rfl rfl wd_221 dX6_guard_1 (Nat.le_of_ble_eq_true rfl) rfl ?_
  refine x_aload_n (pc := 4) C 0 dX6_guard_4 rfl ?_
  refine x_getr (pc := 5) C (k := 0) 1 hO.1 rfl rfl wd_220 dX6_guard_5 (Nat.le_of_ble_eq_true rfl) rfl ?_
  obtain ⟨S_1, hc_1, h⟩ := of_bd h
  refine x_callV_ (pc := 8) C (o := 44) [.ref (b + 1)] [] (c_X5_copyFrom (b := b) 44 1 hO.2.2.1 hO.2.1 S _ hc_1) cw_X6_56 vi_X5_copyFrom ⟨rfl, rfl, Nat.le_of_ble_eq_true rfl, Nat.le_of_ble_eq_true rfl⟩ ⟨Nat.le_refl _, Nat.le_refl _⟩ hO.2.2.1.1 ⟨rfl, rfl, rfl⟩ rfl ⟨rfl, Nat.le_of_ble_eq_true rfl⟩ dX6_guard_8 (fun hx_1 => ?_)
  refine x_aload_n (pc := 11) C 0 dX6_guard_11 rfl ?_
  refine x_getr (pc := 12) C (k := 6) 135 hO.1 rfl rfl wd_226 dX6_guard_12 (Nat.le_of_ble_eq_true rfl) rfl ?_
  refine x_aload_n (pc := 15) C 0 dX6_guard_15 rfl ?_
  refine x_getr (pc := 16) C (k := 1) 44 hO.1 rfl rfl wd_221 dX6_guard_16 (Nat.le_of_ble_eq_true rfl) rfl ?_
  refine x_aload_n (pc := 19) C 0 dX6_guard_19 rfl ?_
  refine x_getr (pc := 20) C (k := 4) 130 hO.1 rfl rfl wd_224 dX6_guard_20 (Nat.le_of_ble_eq_true rfl) rfl ?_
  obtain ⟨⟨r_1, S_2⟩, hc_2, h⟩ := of_bd h
  replace h := of_u2 h
  refine x_callS1 (pc := 23) C [.ref (b + 135), .ref (b + 44), .ref (b + 130)] [] (c_X3_perform (b := b) 135 96 44 130 hO.2.2.2.2.2.2.1 hO.2.2.1 hO.2.2.2.2.1 S_1 _ _ hc_2) cw_X6_60 vs_X3_perform ⟨rfl, rfl, Nat.le_of_ble_eq_true rfl, Nat.le_of_ble_eq_true rfl⟩ ⟨Nat.le_refl _, Nat.le_refl _⟩ rfl ⟨rfl, Nat.le_of_ble_eq_true rfl⟩ dX6_guard_23 (fun hx_2 => ?_)
  refine x_istore_n (pc := 26) C 1 [(1, .int r_1), (0, .ref (b + 0))] dX6_guard_26 rfl (Nat.le_of_ble_eq_true rfl) rfl rfl ?_
  refine x_aload_n (pc := 27) C 1 dX6_guard_27 rfl ?_
  refine x_getr (pc := 28) C (k := 6) 135 hO.1 rfl rfl wd_226 dX6_guard_28 (Nat.le_of_ble_eq_true rfl) rfl ?_
  obtain ⟨S_3, hc_3, h⟩ := of_bd h
  refine x_callV_ (pc := 31) C (o := 135) [] [] (c_X1_forget (b := b) 135 96 hO.2.2.2.2.2.2.1 S_2 _ hc_3) cw_X6_66 vi_X1_forget ⟨rfl, rfl, Nat.le_of_ble_eq_true rfl, Nat.le_of_ble_eq_true rfl⟩ ⟨Nat.le_refl _, Nat.le_refl _⟩ hO.2.2.2.2.2.2.1.1 ⟨rfl, rfl, rfl⟩ rfl ⟨rfl, Nat.le_of_ble_eq_true rfl⟩ dX6_guard_31 (fun hx_3 => ?_)
  refine x_iload_n (pc := 34) C 0 dX6_guard_34 rfl ?_
  refine x_if_lt (pc := 35) C 49 dX6_guard_35 rfl (fun c_1 => ?_) (fun c_1 => ?_)
  · replace h := of_ifp c_1 h
    refine x_iload_n (pc := 49) C 0 dX6_guard_49 rfl ?_
    exact x_ireturn (pc := 50) C dX6_guard_50 (of_sp h).1 (of_sp h).2
  · replace h := of_ifn c_1 h
    refine x_aload_n (pc := 38) C 1 dX6_guard_38 rfl ?_
    refine x_getr (pc := 39) C (k := 0) 1 hO.1 rfl rfl wd_220 dX6_guard_39 (Nat.le_of_ble_eq_true rfl) rfl ?_
    refine x_aload_n (pc := 42) C 1 dX6_guard_42 rfl ?_
    refine x_getr (pc := 43) C (k := 1) 44 hO.1 rfl rfl wd_221 dX6_guard_43 (Nat.le_of_ble_eq_true rfl) rfl ?_
    obtain ⟨S_4, hc_4, h⟩ := of_bd h
    refine x_callV_ (pc := 46) C (o := 1) [.ref (b + 44)] [] (c_X5_copyFrom (b := b) 1 44 hO.2.1 hO.2.2.1 S_3 _ hc_4) cw_X6_56 vi_X5_copyFrom ⟨rfl, rfl, Nat.le_of_ble_eq_true rfl, Nat.le_of_ble_eq_true rfl⟩ ⟨Nat.le_refl _, Nat.le_refl _⟩ hO.2.1.1 ⟨rfl, rfl, rfl⟩ rfl ⟨rfl, Nat.le_of_ble_eq_true rfl⟩ dX6_guard_46 (fun hx_4 => ?_)
    refine x_iload_n (pc := 49) C 0 dX6_guard_49 rfl ?_
    exact x_ireturn (pc := 50) C dX6_guard_50 (of_sp h).1 (of_sp h).2
set_option maxRecDepth 100000 in
set_option maxHeartbeats 4000000 in
theorem l_X6_howMany_4 {p : Program} {l : Launch} {e : Env} {s : State} {m : MethodId} {args : Array Value} {below : List Frame} {meth : Method} {c : Code} {G : zz_G} {L : Ly} {b : Nat} {Q : State → Prop} (C : CX p G s m args meth c cX6_howMany yX6_howMany 4 (some .int)) (hO : isGu L) (v1 : Int32) : ∀ (n : Nat) (v2 : Int32) (v3 : Int32) (S : Sg) {z}, L_X6_howMany_4 v1 n v2 v3 S = some z → (∀ (v2_o : Int32) (S_o : Sg), z = (v2_o, S_o) → X p l e (rmz 4 96) s m args below meth c 0 0 Q 4 G L b S_o 33 [(2, .int v2_o)] []) → X p l e (rmz 4 96) s m args below meth c 0 0 Q 4 G L b S 4 [(0, .ref (b + 0)), (1, .int v1), (2, .int v2), (3, .int v3)] [] := by
  intro n
  induction n with
  | zero =>
    intro v2 v3 S z h
    exact of_none h
  | succ n ih =>
    intro v2 v3 S z h hx
    rw [L_X6_howMany_4] at h
    refine x_iload_n (pc := 4) C 3 dX6_howMany_4 rfl ?_
    refine x_sipush (pc := 5) C (v := (255 : Int32)) dX6_howMany_5 rfl ?_
    refine x_icmp_gt (pc := 8) C 33 dX6_howMany_8 rfl (fun c_1 => ?_) (fun c_1 => ?_)
    · replace h := of_ifp c_1 h
      exact x_sub [2] rfl (hx _ _ (of_s1 h).symm)
    · replace h := of_ifn c_1 h
      refine x_aload_n (pc := 11) C 0 dX6_howMany_11 rfl ?_
      refine x_aload_n (pc := 12) C 0 dX6_howMany_12 rfl ?_
      refine x_getr (pc := 13) C (k := 0) 1 hO.1 rfl rfl wd_220 dX6_howMany_13 (Nat.le_of_ble_eq_true rfl) rfl ?_
      refine x_iload_n (pc := 16) C 3 dX6_howMany_16 rfl ?_
      obtain ⟨⟨r_1, S_1⟩, hc_1, h⟩ := of_bd h
      replace h := of_u2 h
      refine x_callV1 (pc := 17) C (o := 0) [.ref (b + 1), .int v3] [] (c_X6_meetingOfSum (b := b) 1 v3 hO hO.2.1 S _ _ hc_1) cw_X6_172 vi_X6_meetingOfSum ⟨rfl, rfl, Nat.le_of_ble_eq_true rfl, Nat.le_of_ble_eq_true rfl⟩ ⟨Nat.le_refl _, Nat.le_refl _⟩ hO.1 ⟨rfl, rfl, rfl⟩ rfl ⟨rfl, Nat.le_of_ble_eq_true rfl⟩ dX6_howMany_17 (fun hx_1 => ?_)
      refine x_iload_n (pc := 20) C 1 dX6_howMany_20 rfl ?_
      obtain ⟨v2_1, ev2_1, h⟩ := of_lt h
      have kd_1 : X p l e (rmz 4 96) s m args below meth c 0 0 Q 4 G L b S_1 27 [(0, .ref (b + 0)), (1, .int v1), (2, .int v2_1), (3, .int v3)] [] := by
        obtain ⟨v3_1, ev3_1, h⟩ := of_lt h
        refine x_iinc (pc := 27) C (w := (1 : Int32)) 3 [(3, .int v3_1), (0, .ref (b + 0)), (1, .int v1), (2, .int v2_1)] dX6_howMany_27 rfl rfl (Nat.le_of_ble_eq_true rfl) ev3_1 rfl ?_
        refine x_goto (pc := 30) C 4 dX6_howMany_30 rfl ?_
        exact x_sub [1, 2, 3, 0] rfl (ih _ _ _ h hx)
      refine x_icmp_ne (pc := 21) C 27 dX6_howMany_21 rfl (fun c_2 => ?_) (fun c_2 => ?_)
      · refine x_sub [0, 1, 2, 3] rfl ?_
        rw [show v2_1 = v2 from (ev2_1.trans (if_neg c_2))] at kd_1
        exact kd_1
      · refine x_iinc (pc := 24) C (w := (1 : Int32)) 2 [(2, .int (v2 + (1 : Int32))), (0, .ref (b + 0)), (1, .int v1), (3, .int v3)] dX6_howMany_24 rfl rfl (Nat.le_of_ble_eq_true rfl) rfl rfl ?_
        refine x_sub [1, 2, 0, 3] rfl ?_
        rw [show v2_1 = (v2 + (1 : Int32)) from (ev2_1.trans (if_pos c_2))] at kd_1
        exact kd_1
set_option maxRecDepth 100000 in
set_option maxHeartbeats 4000000 in
theorem c_X6_howMany {l : Launch} {G : zz_G} {L : Ly} {b : Nat} (p1 : Int32) (hO : isGu L) (S : Sg) (rf : Int32) (Sf : Sg) (h : f_X6_howMany p1 S = some (rf, Sf)) : Met l yX6_howMany (Cond.code yX6_howMany cX6_howMany 4 (some .int) :: zz_all) (rmz 4 96) (PC G L b S [.ref (b + 0), .int p1]) (QC G L b Sf (some (.int rf)) True) 0 0 (fun q => b ≤ q) := by
  refine x_met [.ref (b + 0), .int p1] (by decide +kernel) (Nat.le_of_ble_eq_true rfl) fun p e s m args below meth c C => ?_
  unfold f_X6_howMany at h
  refine x_iconst (pc := 0) C (v := (0 : Int32)) dX6_howMany_0 rfl ?_
  refine x_istore_n (pc := 1) C 2 [(2, .int (0 : Int32)), (0, .ref (b + 0)), (1, .int p1)] dX6_howMany_1 rfl (Nat.le_of_ble_eq_true rfl) rfl rfl ?_
  refine x_iconst (pc := 2) C (v := (1 : Int32)) dX6_howMany_2 rfl ?_
  refine x_istore_n (pc := 3) C 3 [(3, .int (1 : Int32)), (2, .int (0 : Int32)), (0, .ref (b + 0)), (1, .int p1)] dX6_howMany_3 rfl (Nat.le_of_ble_eq_true rfl) rfl rfl ?_
  refine x_sub [2, 3, 1, 0] rfl ?_
  obtain ⟨z_hz_1, hz_1, h⟩ := of_bd h
  refine l_X6_howMany_4 C hO p1 400 _ _ _ hz_1 (fun v2_1 S_1 ez => ?_)
  subst z_hz_1
  replace h := of_u2 h
  refine x_iload_n (pc := 33) C 0 dX6_howMany_33 rfl ?_
  exact x_ireturn (pc := 34) C dX6_howMany_34 (of_sp h).1 (of_sp h).2
set_option maxRecDepth 100000 in
set_option maxHeartbeats 4000000 in
theorem c_X6_image {l : Launch} {G : zz_G} {L : Ly} {b : Nat} (hO : isGu L) (S : Sg) (rf : Int32) (Sf : Sg) (h : f_X6_image S = some (rf, Sf)) : Met l yX6_image (Cond.code yX6_image cX6_image 1 (some .int) :: zz_all) (rmz 3 70) (PC G L b S [.ref (b + 0)]) (QC G L b Sf (some (.int rf)) True) 0 0 (fun q => b ≤ q) := by
  refine x_met [.ref (b + 0)] (by decide +kernel) (Nat.le_of_ble_eq_true rfl) fun p e s m args below meth c C => ?_
  unfold f_X6_image at h
  refine x_aload_n (pc := 0) C 0 dX6_image_0 rfl ?_
  refine x_getr (pc := 1) C (k := 2) 87 hO.1 rfl rfl wd_222 dX6_image_1 (Nat.le_of_ble_eq_true rfl) rfl ?_
  refine x_aload_n (pc := 4) C 0 dX6_image_4 rfl ?_
  refine x_getr (pc := 5) C (k := 0) 1 hO.1 rfl rfl wd_220 dX6_image_5 (Nat.le_of_ble_eq_true rfl) rfl ?_
  obtain ⟨S_1, hc_1, h⟩ := of_bd h
  refine x_callV_ (pc := 8) C (o := 87) [.ref (b + 1)] [] (c_X5_copyFrom (b := b) 87 1 hO.2.2.2.1 hO.2.1 S _ hc_1) cw_X6_56 vi_X5_copyFrom ⟨rfl, rfl, Nat.le_of_ble_eq_true rfl, Nat.le_of_ble_eq_true rfl⟩ ⟨Nat.le_refl _, Nat.le_refl _⟩ hO.2.2.2.1.1 ⟨rfl, rfl, rfl⟩ rfl ⟨rfl, Nat.le_of_ble_eq_true rfl⟩ dX6_image_8 (fun hx_1 => ?_)
  refine x_aload_n (pc := 11) C 0 dX6_image_11 rfl ?_
  refine x_iconst (pc := 12) C (v := (1 : Int32)) dX6_image_12 rfl ?_
  obtain ⟨S_2, eS_2, h⟩ := of_lt h
  refine x_putz (pc := 13) C (k := 3) hO.1 rfl rfl wd_223 dX6_image_13 ⟨Nat.le_of_ble_eq_true rfl, rfl⟩ (isb_of (by decide)) eS_2 ?_
  refine x_aload_n (pc := 16) C 0 dX6_image_16 rfl ?_
  refine x_getr (pc := 17) C (k := 0) 1 hO.1 rfl rfl wd_220 dX6_image_17 (Nat.le_of_ble_eq_true rfl) rfl ?_
  refine x_geti (pc := 20) C (k := 9) hO.2.1.1 rfl rfl wd_142 dX6_image_20 ⟨Nat.le_of_ble_eq_true rfl, rfl⟩ ?_
  exact x_ireturn (pc := 23) C dX6_image_23 (of_sp h).1 (of_sp h).2
set_option maxRecDepth 100000 in
set_option maxHeartbeats 4000000 in
theorem l_X6_isMetBy_2 {p : Program} {l : Launch} {e : Env} {s : State} {m : MethodId} {args : Array Value} {below : List Frame} {meth : Method} {c : Code} {G : zz_G} {L : Ly} {b : Nat} (C : CX p G s m args meth c cX6_isMetBy yX6_isMetBy 4 (some .boolean)) (hO : isGu L) (v1 : Int32) (v2 : Int32) (rf : Int32) (Sf : Sg) : ∀ (n : Nat) (v3 : Int32) (S : Sg) {z}, L_X6_isMetBy_2 v1 v2 n v3 S = some z → (∀ q, z = .inl q → q.1 = rf ∧ q.2 = Sf) → (∀ (S_o : Sg), z = .inr S_o → X p l e (rmz 3 74) s m args below meth c 0 0 (RQ G L b Sf below args s (some (.int rf)) (rf = 0 ∨ rf = 1)) 4 G L b S_o 64 [] []) → X p l e (rmz 3 74) s m args below meth c 0 0 (RQ G L b Sf below args s (some (.int rf)) (rf = 0 ∨ rf = 1)) 4 G L b S 2 [(0, .ref (b + 0)), (1, .int v1), (2, .int v2), (3, .int v3)] [] := by
  intro n
  induction n with
  | zero =>
    intro v3 S z h
    exact of_none h
  | succ n ih =>
    intro v3 S z h hr hx
    rw [L_X6_isMetBy_2] at h
    refine x_iload_n (pc := 2) C 3 dX6_isMetBy_2 rfl ?_
    refine x_aload_n (pc := 3) C 0 dX6_isMetBy_3 rfl ?_
    refine x_getr (pc := 4) C (k := 7) 137 hO.1 rfl rfl wd_227 dX6_isMetBy_4 (Nat.le_of_ble_eq_true rfl) rfl ?_
    refine x_geti (pc := 7) C (k := 0) hO.2.2.2.2.2.2.2.1.1 rfl rfl wd_213 dX6_isMetBy_7 ⟨Nat.le_of_ble_eq_true rfl, rfl⟩ ?_
    refine x_icmp_ge (pc := 10) C 64 dX6_isMetBy_10 rfl (fun c_1 => ?_) (fun c_1 => ?_)
    · replace h := of_ifn c_1 h
      exact x_sub [] rfl (hx _ (of_s1 h).symm)
    · replace h := of_ifp c_1 h
      refine x_aload_n (pc := 13) C 0 dX6_isMetBy_13 rfl ?_
      refine x_getr (pc := 14) C (k := 4) 130 hO.1 rfl rfl wd_224 dX6_isMetBy_14 (Nat.le_of_ble_eq_true rfl) rfl ?_
      refine x_iconst (pc := 17) C (v := (0 : Int32)) dX6_isMetBy_17 rfl ?_
      refine x_aload_n (pc := 18) C 0 dX6_isMetBy_18 rfl ?_
      refine x_getr (pc := 19) C (k := 7) 137 hO.1 rfl rfl wd_227 dX6_isMetBy_19 (Nat.le_of_ble_eq_true rfl) rfl ?_
      refine x_iload_n (pc := 22) C 3 dX6_isMetBy_22 rfl ?_
      obtain ⟨r_1, hc_1, h⟩ := of_bd h
      refine x_callV1 (pc := 23) C (o := 137) [.int v3] [.int (0 : Int32), .ref (b + 130)] (c_X1_at (b := b) 137 32 v3 hO.2.2.2.2.2.2.2.1 S _ hc_1) cw_X6_267 vi_X1_at ⟨rfl, rfl, Nat.le_of_ble_eq_true rfl, Nat.le_of_ble_eq_true rfl⟩ ⟨Nat.le_refl _, Nat.le_refl _⟩ hO.2.2.2.2.2.2.2.1.1 ⟨rfl, rfl, rfl⟩ rfl ⟨rfl, Nat.le_of_ble_eq_true rfl⟩ dX6_isMetBy_23 (fun hx_1 => ?_)
      refine x_iconst (pc := 26) C (v := (0 : Int32)) dX6_isMetBy_26 rfl ?_
      obtain ⟨S_1, hc_2, h⟩ := of_bd h
      refine x_callV_ (pc := 27) C (o := 130) [.int (0 : Int32), .int r_1, .int (0 : Int32)] [] (c_X2_make (b := b) 130 (0 : Int32) r_1 (0 : Int32) hO.2.2.2.2.1 S _ hc_2) cw_X6_150 vi_X2_make ⟨rfl, rfl, Nat.le_of_ble_eq_true rfl, Nat.le_of_ble_eq_true rfl⟩ ⟨Nat.le_refl _, Nat.le_refl _⟩ hO.2.2.2.2.1.1 ⟨rfl, rfl, rfl⟩ rfl ⟨rfl, Nat.le_of_ble_eq_true rfl⟩ dX6_isMetBy_27 (fun hx_2 => ?_)
      refine x_aload_n (pc := 30) C 0 dX6_isMetBy_30 rfl ?_
      refine x_getr (pc := 31) C (k := 0) 1 hO.1 rfl rfl wd_220 dX6_isMetBy_31 (Nat.le_of_ble_eq_true rfl) rfl ?_
      refine x_aload_n (pc := 34) C 0 dX6_isMetBy_34 rfl ?_
      refine x_getr (pc := 35) C (k := 4) 130 hO.1 rfl rfl wd_224 dX6_isMetBy_35 (Nat.le_of_ble_eq_true rfl) rfl ?_
      refine x_iload_n (pc := 38) C 1 dX6_isMetBy_38 rfl ?_
      refine x_iload_n (pc := 39) C 2 dX6_isMetBy_39 rfl ?_
      obtain ⟨⟨r_2, S_2⟩, hc_3, h⟩ := of_bd h
      replace h := of_u2 h
      refine x_callV1 (pc := 40) C (o := 1) [.ref (b + 130), .int v1, .int v2] [] (c_X5_meetingBy (b := b) 1 130 v1 v2 hO.2.1 hO.2.2.2.2.1 S_1 _ _ hc_3) cw_X6_161 vi_X5_meetingBy ⟨rfl, rfl, Nat.le_of_ble_eq_true rfl, Nat.le_of_ble_eq_true rfl⟩ ⟨Nat.le_refl _, Nat.le_refl _⟩ hO.2.1.1 ⟨rfl, rfl, rfl⟩ rfl ⟨rfl, Nat.le_of_ble_eq_true rfl⟩ dX6_isMetBy_40 (fun hx_3 => ?_)
      refine x_aload_n (pc := 43) C 0 dX6_isMetBy_43 rfl ?_
      refine x_getr (pc := 44) C (k := 7) 137 hO.1 rfl rfl wd_227 dX6_isMetBy_44 (Nat.le_of_ble_eq_true rfl) rfl ?_
      refine x_iload_n (pc := 47) C 3 dX6_isMetBy_47 rfl ?_
      refine x_iconst (pc := 48) C (v := (1 : Int32)) dX6_isMetBy_48 rfl ?_
      refine x_iadd (pc := 49) C dX6_isMetBy_49 ?_
      obtain ⟨r_3, hc_4, h⟩ := of_bd h
      refine x_callV1 (pc := 50) C (o := 137) [.int (v3 + (1 : Int32))] [.int r_2] (c_X1_at (b := b) 137 32 (v3 + (1 : Int32)) hO.2.2.2.2.2.2.2.1 S_2 _ hc_4) cw_X6_267 vi_X1_at ⟨rfl, rfl, Nat.le_of_ble_eq_true rfl, Nat.le_of_ble_eq_true rfl⟩ ⟨Nat.le_refl _, Nat.le_refl _⟩ hO.2.2.2.2.2.2.2.1.1 ⟨rfl, rfl, rfl⟩ rfl ⟨rfl, Nat.le_of_ble_eq_true rfl⟩ dX6_isMetBy_50 (fun hx_4 => ?_)
      refine x_icmp_eq (pc := 53) C 58 dX6_isMetBy_53 rfl (fun c_2 => ?_) (fun c_2 => ?_)
      · replace h := of_ifp c_2 h
        obtain ⟨v3_1, ev3_1, h⟩ := of_lt h
        refine x_iinc (pc := 58) C (w := (2 : Int32)) 3 [(3, .int v3_1), (0, .ref (b + 0)), (1, .int v1), (2, .int v2)] dX6_isMetBy_58 rfl rfl (Nat.le_of_ble_eq_true rfl) ev3_1 rfl ?_
        refine x_goto (pc := 61) C 2 dX6_isMetBy_61 rfl ?_
        exact x_sub [1, 2, 3, 0] rfl (ih _ _ h hr hx)
      · replace h := of_ifn c_2 h
        refine x_iconst (pc := 56) C (v := (0 : Int32)) dX6_isMetBy_56 rfl ?_
        have hq := hr _ (of_s1 h).symm
        exact x_zreturn (pc := 57) C (by decide) dX6_isMetBy_57 hq.1 hq.2
set_option maxRecDepth 100000 in
set_option maxHeartbeats 4000000 in
theorem c_X6_isMetBy {l : Launch} {G : zz_G} {L : Ly} {b : Nat} (p1 : Int32) (p2 : Int32) (hO : isGu L) (S : Sg) (rf : Int32) (Sf : Sg) (h : f_X6_isMetBy p1 p2 S = some (rf, Sf)) : Met l yX6_isMetBy (Cond.code yX6_isMetBy cX6_isMetBy 4 (some .boolean) :: zz_all) (rmz 3 74) (PC G L b S [.ref (b + 0), .int p1, .int p2]) (QC G L b Sf (some (.int rf)) (rf = 0 ∨ rf = 1)) 0 0 (fun q => b ≤ q) := by
  refine x_met [.ref (b + 0), .int p1, .int p2] (by decide +kernel) (Nat.le_of_ble_eq_true rfl) fun p e s m args below meth c C => ?_
  unfold f_X6_isMetBy at h
  refine x_iconst (pc := 0) C (v := (0 : Int32)) dX6_isMetBy_0 rfl ?_
  refine x_istore_n (pc := 1) C 3 [(3, .int (0 : Int32)), (0, .ref (b + 0)), (1, .int p1), (2, .int p2)] dX6_isMetBy_1 rfl (Nat.le_of_ble_eq_true rfl) rfl rfl ?_
  refine x_sub [1, 2, 3, 0] rfl ?_
  obtain ⟨z_hz_1, hz_1, hl, hrr⟩ := of_bs h
  refine l_X6_isMetBy_2 C hO p1 p2 rf Sf 400 _ _ hz_1 (fun q ez => of_sp (x := q.1) (u := q.2) (hl _ ez)) (fun S_1 ez => ?_)
  replace h := hrr _ ez
  clear hl hrr
  refine x_iconst (pc := 64) C (v := (1 : Int32)) dX6_isMetBy_64 rfl ?_
  exact x_zreturn (pc := 65) C (by decide) dX6_isMetBy_65 (of_sp h).1 (of_sp h).2
set_option maxRecDepth 100000 in
set_option maxHeartbeats 4000000 in
theorem l_X6_isRowOfPairs_2 {p : Program} {l : Launch} {e : Env} {s : State} {m : MethodId} {args : Array Value} {below : List Frame} {meth : Method} {c : Code} {G : zz_G} {L : Ly} {b : Nat} (C : CX p G s m args meth c cX6_isRowOfPairs yX6_isRowOfPairs 2 (some .boolean)) (hO : isGu L) (S : Sg) (rf : Int32) : ∀ (n : Nat) (v1 : Int32) {z}, L_X6_isRowOfPairs_2 S n v1 = some z → (∀ q, z = .inl q → q = rf) → (z = .inr () → X p l e (rmz 2 42) s m args below meth c 0 0 (RQ G L b S below args s (some (.int rf)) (rf = 0 ∨ rf = 1)) 2 G L b S 32 [(0, .ref (b + 0))] []) → X p l e (rmz 2 42) s m args below meth c 0 0 (RQ G L b S below args s (some (.int rf)) (rf = 0 ∨ rf = 1)) 2 G L b S 2 [(0, .ref (b + 0)), (1, .int v1)] [] := by
  intro n
  induction n with
  | zero =>
    intro v1 z h
    exact of_none h
  | succ n ih =>
    intro v1 z h hr hx
    rw [L_X6_isRowOfPairs_2] at h
    refine x_iload_n (pc := 2) C 1 dX6_isRowOfPairs_2 rfl ?_
    refine x_aload_n (pc := 3) C 0 dX6_isRowOfPairs_3 rfl ?_
    refine x_getr (pc := 4) C (k := 7) 137 hO.1 rfl rfl wd_227 dX6_isRowOfPairs_4 (Nat.le_of_ble_eq_true rfl) rfl ?_
    refine x_geti (pc := 7) C (k := 0) hO.2.2.2.2.2.2.2.1.1 rfl rfl wd_213 dX6_isRowOfPairs_7 ⟨Nat.le_of_ble_eq_true rfl, rfl⟩ ?_
    refine x_icmp_ge (pc := 10) C 32 dX6_isRowOfPairs_10 rfl (fun c_1 => ?_) (fun c_1 => ?_)
    · replace h := of_ifn c_1 h
      exact x_sub [0] rfl (hx (of_s1 h).symm)
    · replace h := of_ifp c_1 h
      refine x_aload_n (pc := 13) C 0 dX6_isRowOfPairs_13 rfl ?_
      refine x_getr (pc := 14) C (k := 7) 137 hO.1 rfl rfl wd_227 dX6_isRowOfPairs_14 (Nat.le_of_ble_eq_true rfl) rfl ?_
      refine x_iload_n (pc := 17) C 1 dX6_isRowOfPairs_17 rfl ?_
      obtain ⟨r_1, hc_1, h⟩ := of_bd h
      refine x_callV1 (pc := 18) C (o := 137) [.int v1] [] (c_X1_at (b := b) 137 32 v1 hO.2.2.2.2.2.2.2.1 S _ hc_1) cw_X6_267 vi_X1_at ⟨rfl, rfl, Nat.le_of_ble_eq_true rfl, Nat.le_of_ble_eq_true rfl⟩ ⟨Nat.le_refl _, Nat.le_refl _⟩ hO.2.2.2.2.2.2.2.1.1 ⟨rfl, rfl, rfl⟩ rfl ⟨rfl, Nat.le_of_ble_eq_true rfl⟩ dX6_isRowOfPairs_18 (fun hx_1 => ?_)
      refine x_if_ne (pc := 21) C 26 dX6_isRowOfPairs_21 rfl (fun c_2 => ?_) (fun c_2 => ?_)
      · replace h := of_ifn c_2 h
        obtain ⟨v1_1, ev1_1, h⟩ := of_lt h
        refine x_iinc (pc := 26) C (w := (2 : Int32)) 1 [(1, .int v1_1), (0, .ref (b + 0))] dX6_isRowOfPairs_26 rfl rfl (Nat.le_of_ble_eq_true rfl) ev1_1 rfl ?_
        refine x_goto (pc := 29) C 2 dX6_isRowOfPairs_29 rfl ?_
        exact x_sub [1, 0] rfl (ih _ h hr hx)
      · replace h := of_ifp c_2 h
        refine x_iconst (pc := 24) C (v := (0 : Int32)) dX6_isRowOfPairs_24 rfl ?_
        have hq := hr _ (of_s1 h).symm
        exact x_zreturn (pc := 25) C (by decide) dX6_isRowOfPairs_25 hq rfl
set_option maxRecDepth 100000 in
set_option maxHeartbeats 4000000 in
theorem c_X6_isRowOfPairs {l : Launch} {G : zz_G} {L : Ly} {b : Nat} (hO : isGu L) (S : Sg) (rf : Int32) (h : f_X6_isRowOfPairs S = some rf) : Met l yX6_isRowOfPairs (Cond.code yX6_isRowOfPairs cX6_isRowOfPairs 2 (some .boolean) :: zz_all) (rmz 2 42) (PC G L b S [.ref (b + 0)]) (QC G L b S (some (.int rf)) (rf = 0 ∨ rf = 1)) 0 0 (fun q => b ≤ q) := by
  refine x_met [.ref (b + 0)] (by decide +kernel) (Nat.le_of_ble_eq_true rfl) fun p e s m args below meth c C => ?_
  unfold f_X6_isRowOfPairs at h
  refine x_iconst (pc := 0) C (v := (0 : Int32)) dX6_isRowOfPairs_0 rfl ?_
  refine x_istore_n (pc := 1) C 1 [(1, .int (0 : Int32)), (0, .ref (b + 0))] dX6_isRowOfPairs_1 rfl (Nat.le_of_ble_eq_true rfl) rfl rfl ?_
  refine x_sub [1, 0] rfl ?_
  obtain ⟨z_hz_1, hz_1, hl, hrr⟩ := of_bs h
  refine l_X6_isRowOfPairs_2 C hO S rf 400 _ hz_1 (fun q ez => of_s1 (hl _ ez)) (fun ez => ?_)
  replace h := hrr _ ez
  clear hl hrr
  refine x_aload_n (pc := 32) C 0 dX6_isRowOfPairs_32 rfl ?_
  refine x_getr (pc := 33) C (k := 7) 137 hO.1 rfl rfl wd_227 dX6_isRowOfPairs_33 (Nat.le_of_ble_eq_true rfl) rfl ?_
  refine x_geti (pc := 36) C (k := 0) hO.2.2.2.2.2.2.2.1.1 rfl rfl wd_213 dX6_isRowOfPairs_36 ⟨Nat.le_of_ble_eq_true rfl, rfl⟩ ?_
  refine x_iconst (pc := 39) C (v := (2 : Int32)) dX6_isRowOfPairs_39 rfl ?_
  refine x_irem (pc := 40) C dX6_isRowOfPairs_40 (by decide) ?_
  obtain ⟨x_1, ex_1, h⟩ := of_lt h
  have kd_1 : X p l e (rmz 2 42) s m args below meth c 0 0 (RQ G L b S below args s (some (.int rf)) (rf = 0 ∨ rf = 1)) 2 G L b S 49 [] [.int x_1] := by
    exact x_zreturn (pc := 49) C (ex_1 ▸ (if01 (by decide) (by decide))) dX6_isRowOfPairs_49 (of_s1 h) rfl
  refine x_if_ne (pc := 41) C 48 dX6_isRowOfPairs_41 rfl (fun c_1 => ?_) (fun c_1 => ?_)
  · refine x_iconst (pc := 48) C (v := (0 : Int32)) dX6_isRowOfPairs_48 rfl ?_
    refine x_sub [] rfl ?_
    rw [show x_1 = (0 : Int32) from (ex_1.trans (if_neg c_1))] at kd_1
    exact kd_1
  · refine x_iconst (pc := 44) C (v := (1 : Int32)) dX6_isRowOfPairs_44 rfl ?_
    refine x_goto (pc := 45) C 49 dX6_isRowOfPairs_45 rfl ?_
    refine x_sub [] rfl ?_
    rw [show x_1 = (1 : Int32) from (ex_1.trans (if_pos c_1))] at kd_1
    exact kd_1
set_option maxRecDepth 100000 in
set_option maxHeartbeats 4000000 in
theorem c_X6_takeSum {l : Launch} {G : zz_G} {L : Ly} {b : Nat} (o1 : Nat) (p2 : Int32) (hO : isGu L) (h1 : isW L o1) (S : Sg) (rf : Int32) (Sf : Sg) (h : f_X6_takeSum o1 p2 S = some (rf, Sf)) : Met l yX6_takeSum (Cond.code yX6_takeSum cX6_takeSum 3 (some .int) :: zz_all) (rmz 4 96) (PC G L b S [.ref (b + 0), .ref (b + o1), .int p2]) (QC G L b Sf (some (.int rf)) True) 0 0 (fun q => b ≤ q) := by
  refine x_met [.ref (b + 0), .ref (b + o1), .int p2] (by decide +kernel) (Nat.le_of_ble_eq_true rfl) fun p e s m args below meth c C => ?_
  unfold f_X6_takeSum at h
  refine x_aload_n (pc := 0) C 0 dX6_takeSum_0 rfl ?_
  refine x_getr (pc := 1) C (k := 4) 130 hO.1 rfl rfl wd_224 dX6_takeSum_1 (Nat.le_of_ble_eq_true rfl) rfl ?_
  refine x_iconst (pc := 4) C (v := (0 : Int32)) dX6_takeSum_4 rfl ?_
  refine x_iload_n (pc := 5) C 2 dX6_takeSum_5 rfl ?_
  refine x_iconst (pc := 6) C (v := (0 : Int32)) dX6_takeSum_6 rfl ?_
  obtain ⟨S_1, hc_1, h⟩ := of_bd h
  refine x_callV_ (pc := 7) C (o := 130) [.int (0 : Int32), .int p2, .int (0 : Int32)] [] (c_X2_make (b := b) 130 (0 : Int32) p2 (0 : Int32) hO.2.2.2.2.1 S _ hc_1) cw_X6_150 vi_X2_make ⟨rfl, rfl, Nat.le_of_ble_eq_true rfl, Nat.le_of_ble_eq_true rfl⟩ ⟨Nat.le_refl _, Nat.le_refl _⟩ hO.2.2.2.2.1.1 ⟨rfl, rfl, rfl⟩ rfl ⟨rfl, Nat.le_of_ble_eq_true rfl⟩ dX6_takeSum_7 (fun hx_1 => ?_)
  refine x_aload_n (pc := 10) C 1 dX6_takeSum_10 rfl ?_
  refine x_aload_n (pc := 11) C 0 dX6_takeSum_11 rfl ?_
  refine x_getr (pc := 12) C (k := 4) 130 hO.1 rfl rfl wd_224 dX6_takeSum_12 (Nat.le_of_ble_eq_true rfl) rfl ?_
  obtain ⟨⟨r_1, S_2⟩, hc_2, h⟩ := of_bd h
  replace h := of_u2 h
  refine x_callV1 (pc := 15) C (o := o1) [.ref (b + 130)] [] (c_X5_takeQuestion (b := b) o1 130 h1 hO.2.2.2.2.1 S_1 _ _ hc_2) cw_X6_154 vi_X5_takeQuestion ⟨rfl, rfl, Nat.le_of_ble_eq_true rfl, Nat.le_of_ble_eq_true rfl⟩ ⟨Nat.le_refl _, Nat.le_refl _⟩ h1.1 ⟨rfl, rfl, rfl⟩ rfl ⟨rfl, Nat.le_of_ble_eq_true rfl⟩ dX6_takeSum_15 (fun hx_2 => ?_)
  exact x_ireturn (pc := 18) C dX6_takeSum_18 (of_sp h).1 (of_sp h).2
set_option maxRecDepth 100000 in
set_option maxHeartbeats 4000000 in
theorem c_X6_joinedInTurn {l : Launch} {G : zz_G} {L : Ly} {b : Nat} (p1 : Int32) (p2 : Int32) (p3 : Int32) (hO : isGu L) (S : Sg) (rf : Int32) (Sf : Sg) (h : f_X6_joinedInTurn p1 p2 p3 S = some (rf, Sf)) : Met l yX6_joinedInTurn (Cond.code yX6_joinedInTurn cX6_joinedInTurn 4 (some .int) :: zz_all) (rmz 5 118) (PC G L b S [.ref (b + 0), .int p1, .int p2, .int p3]) (QC G L b Sf (some (.int rf)) True) 0 0 (fun q => b ≤ q) := by
  refine x_met [.ref (b + 0), .int p1, .int p2, .int p3] (by decide +kernel) (Nat.le_of_ble_eq_true rfl) fun p e s m args below meth c C => ?_
  unfold f_X6_joinedInTurn at h
  refine x_aload_n (pc := 0) C 0 dX6_joinedInTurn_0 rfl ?_
  refine x_getr (pc := 1) C (k := 1) 44 hO.1 rfl rfl wd_221 dX6_joinedInTurn_1 (Nat.le_of_ble_eq_true rfl) rfl ?_
  refine x_aload_n (pc := 4) C 0 dX6_joinedInTurn_4 rfl ?_
  refine x_getr (pc := 5) C (k := 0) 1 hO.1 rfl rfl wd_220 dX6_joinedInTurn_5 (Nat.le_of_ble_eq_true rfl) rfl ?_
  obtain ⟨S_1, hc_1, h⟩ := of_bd h
  refine x_callV_ (pc := 8) C (o := 44) [.ref (b + 1)] [] (c_X5_copyFrom (b := b) 44 1 hO.2.2.1 hO.2.1 S _ hc_1) cw_X6_56 vi_X5_copyFrom ⟨rfl, rfl, Nat.le_of_ble_eq_true rfl, Nat.le_of_ble_eq_true rfl⟩ ⟨Nat.le_refl _, Nat.le_refl _⟩ hO.2.2.1.1 ⟨rfl, rfl, rfl⟩ rfl ⟨rfl, Nat.le_of_ble_eq_true rfl⟩ dX6_joinedInTurn_8 (fun hx_1 => ?_)
  refine x_aload_n (pc := 11) C 0 dX6_joinedInTurn_11 rfl ?_
  refine x_aload_n (pc := 12) C 0 dX6_joinedInTurn_12 rfl ?_
  refine x_getr (pc := 13) C (k := 1) 44 hO.1 rfl rfl wd_221 dX6_joinedInTurn_13 (Nat.le_of_ble_eq_true rfl) rfl ?_
  refine x_iload_n (pc := 16) C 1 dX6_joinedInTurn_16 rfl ?_
  obtain ⟨⟨r_1, S_2⟩, hc_2, h⟩ := of_bd h
  replace h := of_u2 h
  refine x_callV1 (pc := 17) C (o := 0) [.ref (b + 44), .int p1] [] (c_X6_takeSum (b := b) 44 p1 hO hO.2.2.1 S_1 _ _ hc_2) cw_X6_246 vi_X6_takeSum ⟨rfl, rfl, Nat.le_of_ble_eq_true rfl, Nat.le_of_ble_eq_true rfl⟩ ⟨Nat.le_refl _, Nat.le_refl _⟩ hO.1 ⟨rfl, rfl, rfl⟩ rfl ⟨rfl, Nat.le_of_ble_eq_true rfl⟩ dX6_joinedInTurn_17 (fun hx_2 => ?_)
  refine x_iconst (pc := 20) C (v := (1 : Int32)) dX6_joinedInTurn_20 rfl ?_
  obtain ⟨x_1, ex_1, h⟩ := of_lt h
  have kd_1 : X p l e (rmz 5 118) s m args below meth c 0 0 (RQ G L b Sf below args s (some (.int rf)) True) 4 G L b S_2 29 [(0, .ref (b + 0)), (2, .int p2), (3, .int p3)] [.int x_1] := by
    refine x_callS1 (pc := 29) C [.int x_1] [] (c_X6_asNumber (b := b) x_1 S_2) cw_X6_87 vs_X6_asNumber ⟨rfl, rfl, Nat.le_of_ble_eq_true rfl, Nat.le_of_ble_eq_true rfl⟩ ⟨Nat.le_refl _, Nat.le_refl _⟩ rfl ⟨rfl, Nat.le_of_ble_eq_true rfl⟩ dX6_joinedInTurn_29 (fun hx_3 => ?_)
    refine x_aload_n (pc := 32) C 0 dX6_joinedInTurn_32 rfl ?_
    refine x_aload_n (pc := 33) C 0 dX6_joinedInTurn_33 rfl ?_
    refine x_getr (pc := 34) C (k := 1) 44 hO.1 rfl rfl wd_221 dX6_joinedInTurn_34 (Nat.le_of_ble_eq_true rfl) rfl ?_
    refine x_iload_n (pc := 37) C 1 dX6_joinedInTurn_37 rfl ?_
    obtain ⟨⟨r_2, S_3⟩, hc_3, h⟩ := of_bd h
    replace h := of_u2 h
    refine x_callV1 (pc := 38) C (o := 0) [.ref (b + 44), .int p2] [.int (f_X6_asNumber x_1)] (c_X6_takeSum (b := b) 44 p2 hO hO.2.2.1 S_2 _ _ hc_3) cw_X6_246 vi_X6_takeSum ⟨rfl, rfl, Nat.le_of_ble_eq_true rfl, Nat.le_of_ble_eq_true rfl⟩ ⟨Nat.le_refl _, Nat.le_refl _⟩ hO.1 ⟨rfl, rfl, rfl⟩ rfl ⟨rfl, Nat.le_of_ble_eq_true rfl⟩ dX6_joinedInTurn_38 (fun hx_4 => ?_)
    refine x_iconst (pc := 41) C (v := (1 : Int32)) dX6_joinedInTurn_41 rfl ?_
    obtain ⟨x_2, ex_2, h⟩ := of_lt h
    have kd_2 : X p l e (rmz 5 118) s m args below meth c 0 0 (RQ G L b Sf below args s (some (.int rf)) True) 4 G L b S_3 50 [(0, .ref (b + 0)), (3, .int p3)] [.int x_2, .int (f_X6_asNumber x_1)] := by
      refine x_callS1 (pc := 50) C [.int x_2] [.int (f_X6_asNumber x_1)] (c_X6_asNumber (b := b) x_2 S_3) cw_X6_87 vs_X6_asNumber ⟨rfl, rfl, Nat.le_of_ble_eq_true rfl, Nat.le_of_ble_eq_true rfl⟩ ⟨Nat.le_refl _, Nat.le_refl _⟩ rfl ⟨rfl, Nat.le_of_ble_eq_true rfl⟩ dX6_joinedInTurn_50 (fun hx_5 => ?_)
      refine x_iadd (pc := 53) C dX6_joinedInTurn_53 ?_
      refine x_aload_n (pc := 54) C 0 dX6_joinedInTurn_54 rfl ?_
      refine x_aload_n (pc := 55) C 0 dX6_joinedInTurn_55 rfl ?_
      refine x_getr (pc := 56) C (k := 1) 44 hO.1 rfl rfl wd_221 dX6_joinedInTurn_56 (Nat.le_of_ble_eq_true rfl) rfl ?_
      refine x_iload_n (pc := 59) C 1 dX6_joinedInTurn_59 rfl ?_
      obtain ⟨⟨r_3, S_4⟩, hc_4, h⟩ := of_bd h
      replace h := of_u2 h
      refine x_callV1 (pc := 60) C (o := 0) [.ref (b + 44), .int p3] [.int ((f_X6_asNumber x_1) + (f_X6_asNumber x_2))] (c_X6_takeSum (b := b) 44 p3 hO hO.2.2.1 S_3 _ _ hc_4) cw_X6_246 vi_X6_takeSum ⟨rfl, rfl, Nat.le_of_ble_eq_true rfl, Nat.le_of_ble_eq_true rfl⟩ ⟨Nat.le_refl _, Nat.le_refl _⟩ hO.1 ⟨rfl, rfl, rfl⟩ rfl ⟨rfl, Nat.le_of_ble_eq_true rfl⟩ dX6_joinedInTurn_60 (fun hx_6 => ?_)
      refine x_iconst (pc := 63) C (v := (1 : Int32)) dX6_joinedInTurn_63 rfl ?_
      obtain ⟨x_3, ex_3, h⟩ := of_lt h
      have kd_3 : X p l e (rmz 5 118) s m args below meth c 0 0 (RQ G L b Sf below args s (some (.int rf)) True) 4 G L b S_4 72 [] [.int x_3, .int ((f_X6_asNumber x_1) + (f_X6_asNumber x_2))] := by
        refine x_callS1 (pc := 72) C [.int x_3] [.int ((f_X6_asNumber x_1) + (f_X6_asNumber x_2))] (c_X6_asNumber (b := b) x_3 S_4) cw_X6_87 vs_X6_asNumber ⟨rfl, rfl, Nat.le_of_ble_eq_true rfl, Nat.le_of_ble_eq_true rfl⟩ ⟨Nat.le_refl _, Nat.le_refl _⟩ rfl ⟨rfl, Nat.le_of_ble_eq_true rfl⟩ dX6_joinedInTurn_72 (fun hx_7 => ?_)
        refine x_iadd (pc := 75) C dX6_joinedInTurn_75 ?_
        exact x_ireturn (pc := 76) C dX6_joinedInTurn_76 (of_sp h).1 (of_sp h).2
      refine x_icmp_ne (pc := 64) C 71 dX6_joinedInTurn_64 rfl (fun c_1 => ?_) (fun c_1 => ?_)
      · refine x_iconst (pc := 71) C (v := (0 : Int32)) dX6_joinedInTurn_71 rfl ?_
        refine x_sub [] rfl ?_
        rw [show x_3 = (0 : Int32) from (ex_3.trans (if_neg c_1))] at kd_3
        exact kd_3
      · refine x_iconst (pc := 67) C (v := (1 : Int32)) dX6_joinedInTurn_67 rfl ?_
        refine x_goto (pc := 68) C 72 dX6_joinedInTurn_68 rfl ?_
        refine x_sub [] rfl ?_
        rw [show x_3 = (1 : Int32) from (ex_3.trans (if_pos c_1))] at kd_3
        exact kd_3
    refine x_icmp_ne (pc := 42) C 49 dX6_joinedInTurn_42 rfl (fun c_2 => ?_) (fun c_2 => ?_)
    · refine x_iconst (pc := 49) C (v := (0 : Int32)) dX6_joinedInTurn_49 rfl ?_
      refine x_sub [0, 2] rfl ?_
      rw [show x_2 = (0 : Int32) from (ex_2.trans (if_neg c_2))] at kd_2
      exact kd_2
    · refine x_iconst (pc := 45) C (v := (1 : Int32)) dX6_joinedInTurn_45 rfl ?_
      refine x_goto (pc := 46) C 50 dX6_joinedInTurn_46 rfl ?_
      refine x_sub [0, 2] rfl ?_
      rw [show x_2 = (1 : Int32) from (ex_2.trans (if_pos c_2))] at kd_2
      exact kd_2
  refine x_icmp_ne (pc := 21) C 28 dX6_joinedInTurn_21 rfl (fun c_3 => ?_) (fun c_3 => ?_)
  · refine x_iconst (pc := 28) C (v := (0 : Int32)) dX6_joinedInTurn_28 rfl ?_
    refine x_sub [0, 2, 3] rfl ?_
    rw [show x_1 = (0 : Int32) from (ex_1.trans (if_neg c_3))] at kd_1
    exact kd_1
  · refine x_iconst (pc := 24) C (v := (1 : Int32)) dX6_joinedInTurn_24 rfl ?_
    refine x_goto (pc := 25) C 29 dX6_joinedInTurn_25 rfl ?_
    refine x_sub [0, 2, 3] rfl ?_
    rw [show x_1 = (1 : Int32) from (ex_1.trans (if_pos c_3))] at kd_1
    exact kd_1
set_option maxRecDepth 100000 in
set_option maxHeartbeats 4000000 in
theorem l_X6_judge_13 {p : Program} {l : Launch} {e : Env} {s : State} {m : MethodId} {args : Array Value} {below : List Frame} {meth : Method} {c : Code} {G : zz_G} {L : Ly} {b : Nat} {Q : State → Prop} (C : CX p G s m args meth c cX6_judge yX6_judge 3 (some .int)) (hO : isGu L) (S : Sg) : ∀ (n : Nat) (v1 : Int32) (v2 : Int32) {z}, L_X6_judge_13 S n v1 v2 = some z → (∀ (v1_o : Int32), z = v1_o → X p l e (rmz 4 88) s m args below meth c 0 0 Q 3 G L b S 48 [(0, .ref (b + 0)), (1, .int v1_o)] []) → X p l e (rmz 4 88) s m args below meth c 0 0 Q 3 G L b S 13 [(0, .ref (b + 0)), (1, .int v1), (2, .int v2)] [] := by
  intro n
  induction n with
  | zero =>
    intro v1 v2 z h
    exact of_none h
  | succ n ih =>
    intro v1 v2 z h hx
    rw [L_X6_judge_13] at h
    refine x_iload_n (pc := 13) C 2 dX6_judge_13 rfl ?_
    refine x_if_lt (pc := 14) C 48 dX6_judge_14 rfl (fun c_1 => ?_) (fun c_1 => ?_)
    · replace h := of_ifp c_1 h
      exact x_sub [0, 1] rfl (hx _ (of_s1 h).symm)
    · replace h := of_ifn c_1 h
      refine x_aload_n (pc := 17) C 0 dX6_judge_17 rfl ?_
      refine x_getr (pc := 18) C (k := 0) 1 hO.1 rfl rfl wd_220 dX6_judge_18 (Nat.le_of_ble_eq_true rfl) rfl ?_
      refine x_iload_n (pc := 21) C 2 dX6_judge_21 rfl ?_
      refine x_aload_n (pc := 22) C 0 dX6_judge_22 rfl ?_
      refine x_getr (pc := 23) C (k := 7) 137 hO.1 rfl rfl wd_227 dX6_judge_23 (Nat.le_of_ble_eq_true rfl) rfl ?_
      obtain ⟨r_1, hc_1, h⟩ := of_bd h
      refine x_callV1 (pc := 26) C (o := 1) [.int v2, .ref (b + 137)] [] (c_X5_answerByTold (b := b) 1 v2 137 32 hO.2.1 hO.2.2.2.2.2.2.2.1 S _ hc_1) cw_X6_270 vi_X5_answerByTold ⟨rfl, rfl, Nat.le_of_ble_eq_true rfl, Nat.le_of_ble_eq_true rfl⟩ ⟨Nat.le_refl _, Nat.le_refl _⟩ hO.2.1.1 ⟨rfl, rfl, rfl⟩ rfl ⟨rfl, Nat.le_of_ble_eq_true rfl⟩ dX6_judge_26 (fun hx_1 => ?_)
      refine x_aload_n (pc := 29) C 0 dX6_judge_29 rfl ?_
      refine x_getr (pc := 30) C (k := 0) 1 hO.1 rfl rfl wd_220 dX6_judge_30 (Nat.le_of_ble_eq_true rfl) rfl ?_
      refine x_iload_n (pc := 33) C 2 dX6_judge_33 rfl ?_
      obtain ⟨r_2, hc_2, h⟩ := of_bd h
      refine x_callV1 (pc := 34) C (o := 1) [.int v2] [.int r_1] (c_X5_answerOf (b := b) 1 v2 hO.2.1 S _ hc_2) cw_X6_184 vi_X5_answerOf ⟨rfl, rfl, Nat.le_of_ble_eq_true rfl, Nat.le_of_ble_eq_true rfl⟩ ⟨Nat.le_refl _, Nat.le_refl _⟩ hO.2.1.1 ⟨rfl, rfl, rfl⟩ rfl ⟨rfl, Nat.le_of_ble_eq_true rfl⟩ dX6_judge_34 (fun hx_2 => ?_)
      obtain ⟨v1_1, ev1_1, h⟩ := of_lt h
      have kd_1 : X p l e (rmz 4 88) s m args below meth c 0 0 Q 3 G L b S 42 [(0, .ref (b + 0)), (1, .int v1_1), (2, .int v2)] [] := by
        obtain ⟨v2_1, ev2_1, h⟩ := of_lt h
        refine x_iinc (pc := 42) C (w := (-1 : Int32)) 2 [(2, .int v2_1), (0, .ref (b + 0)), (1, .int v1_1)] dX6_judge_42 rfl rfl (Nat.le_of_ble_eq_true rfl) ev2_1 rfl ?_
        refine x_goto (pc := 45) C 13 dX6_judge_45 rfl ?_
        exact x_sub [1, 2, 0] rfl (ih _ _ h hx)
      refine x_icmp_eq (pc := 37) C 42 dX6_judge_37 rfl (fun c_2 => ?_) (fun c_2 => ?_)
      · refine x_sub [0, 1, 2] rfl ?_
        rw [show v1_1 = v1 from (ev1_1.trans (if_pos c_2))] at kd_1
        exact kd_1
      · refine x_iload_n (pc := 40) C 2 dX6_judge_40 rfl ?_
        refine x_istore_n (pc := 41) C 1 [(1, .int v2), (0, .ref (b + 0)), (2, .int v2)] dX6_judge_41 rfl (Nat.le_of_ble_eq_true rfl) rfl rfl ?_
        refine x_sub [1, 0, 2] rfl ?_
        rw [show v1_1 = v2 from (ev1_1.trans (if_neg c_2))] at kd_1
        exact kd_1
set_option maxRecDepth 100000 in
set_option maxHeartbeats 4000000 in
theorem c_X6_judge {l : Launch} {G : zz_G} {L : Ly} {b : Nat} (hO : isGu L) (S : Sg) (rf : Int32) (Sf : Sg) (h : f_X6_judge S = some (rf, Sf)) : Met l yX6_judge (Cond.code yX6_judge cX6_judge 3 (some .int) :: zz_all) (rmz 4 88) (PC G L b S [.ref (b + 0)]) (QC G L b Sf (some (.int rf)) True) 0 0 (fun q => b ≤ q) := by
  refine x_met [.ref (b + 0)] (by decide +kernel) (Nat.le_of_ble_eq_true rfl) fun p e s m args below meth c C => ?_
  unfold f_X6_judge at h
  refine x_bipush (pc := 0) C (v := (-9 : Int32)) dX6_judge_0 rfl ?_
  refine x_istore_n (pc := 2) C 1 [(1, .int (-9 : Int32)), (0, .ref (b + 0))] dX6_judge_2 rfl (Nat.le_of_ble_eq_true rfl) rfl rfl ?_
  refine x_aload_n (pc := 3) C 1 dX6_judge_3 rfl ?_
  refine x_getr (pc := 4) C (k := 0) 1 hO.1 rfl rfl wd_220 dX6_judge_4 (Nat.le_of_ble_eq_true rfl) rfl ?_
  refine x_geti (pc := 7) C (k := 9) hO.2.1.1 rfl rfl wd_142 dX6_judge_7 ⟨Nat.le_of_ble_eq_true rfl, rfl⟩ ?_
  refine x_iconst (pc := 10) C (v := (1 : Int32)) dX6_judge_10 rfl ?_
  refine x_isub (pc := 11) C dX6_judge_11 ?_
  obtain ⟨v2_1, ev2_1, h⟩ := of_lt h
  refine x_istore_n (pc := 12) C 2 [(2, .int v2_1), (1, .int (-9 : Int32)), (0, .ref (b + 0))] dX6_judge_12 rfl (Nat.le_of_ble_eq_true rfl) ev2_1 rfl ?_
  refine x_sub [2, 1, 0] rfl ?_
  obtain ⟨z_hz_1, hz_1, h⟩ := of_bd h
  refine l_X6_judge_13 C hO S 400 _ _ hz_1 (fun v1_1 ez => ?_)
  subst z_hz_1
  refine x_aload_n (pc := 48) C 0 dX6_judge_48 rfl ?_
  refine x_getr (pc := 49) C (k := 7) 137 hO.1 rfl rfl wd_227 dX6_judge_49 (Nat.le_of_ble_eq_true rfl) rfl ?_
  obtain ⟨S_1, hc_1, h⟩ := of_bd h
  refine x_callV_ (pc := 52) C (o := 137) [] [] (c_X1_forget (b := b) 137 32 hO.2.2.2.2.2.2.2.1 S _ hc_1) cw_X6_66 vi_X1_forget ⟨rfl, rfl, Nat.le_of_ble_eq_true rfl, Nat.le_of_ble_eq_true rfl⟩ ⟨Nat.le_refl _, Nat.le_refl _⟩ hO.2.2.2.2.2.2.2.1.1 ⟨rfl, rfl, rfl⟩ rfl ⟨rfl, Nat.le_of_ble_eq_true rfl⟩ dX6_judge_52 (fun hx_1 => ?_)
  refine x_iload_n (pc := 55) C 1 dX6_judge_55 rfl ?_
  exact x_ireturn (pc := 56) C dX6_judge_56 (of_sp h).1 (of_sp h).2
set_option maxRecDepth 100000 in
set_option maxHeartbeats 4000000 in
theorem c_X6_known {l : Launch} {G : zz_G} {L : Ly} {b : Nat} (hO : isGu L) (S : Sg) (rf : Int32) (Sf : Sg) (h : f_X6_known S = some (rf, Sf)) : Met l yX6_known (Cond.code yX6_known cX6_known 1 (some .int) :: zz_all) (rmz 5 118) (PC G L b S [.ref (b + 0)]) (QC G L b Sf (some (.int rf)) True) 0 0 (fun q => b ≤ q) := by
  refine x_met [.ref (b + 0)] (by decide +kernel) (Nat.le_of_ble_eq_true rfl) fun p e s m args below meth c C => ?_
  unfold f_X6_known at h
  refine x_aload_n (pc := 0) C 0 dX6_known_0 rfl ?_
  refine x_getr (pc := 1) C (k := 5) 132 hO.1 rfl rfl wd_225 dX6_known_1 (Nat.le_of_ble_eq_true rfl) rfl ?_
  refine x_aload_n (pc := 4) C 0 dX6_known_4 rfl ?_
  refine x_getr (pc := 5) C (k := 0) 1 hO.1 rfl rfl wd_220 dX6_known_5 (Nat.le_of_ble_eq_true rfl) rfl ?_
  obtain ⟨S_1, hc_1, h⟩ := of_bd h
  refine x_callV_ (pc := 8) C (o := 132) [.ref (b + 1)] [] (c_X0_narrow (b := b) 132 1 hO.2.2.2.2.2.1 hO.2.1 S _ hc_1) cw_X6_104 vi_X0_narrow ⟨rfl, rfl, Nat.le_of_ble_eq_true rfl, Nat.le_of_ble_eq_true rfl⟩ ⟨Nat.le_refl _, Nat.le_refl _⟩ hO.2.2.2.2.2.1.1 ⟨rfl, rfl, rfl⟩ rfl ⟨rfl, Nat.le_of_ble_eq_true rfl⟩ dX6_known_8 (fun hx_1 => ?_)
  refine x_aload_n (pc := 11) C 0 dX6_known_11 rfl ?_
  refine x_getr (pc := 12) C (k := 5) 132 hO.1 rfl rfl wd_225 dX6_known_12 (Nat.le_of_ble_eq_true rfl) rfl ?_
  obtain ⟨r_1, hc_2, h⟩ := of_bd h
  refine x_callV1 (pc := 15) C (o := 132) [] [] (c_X0_knownBits (b := b) 132 hO.2.2.2.2.2.1 S_1 _ hc_2) cw_X6_203 vi_X0_knownBits ⟨rfl, rfl, Nat.le_of_ble_eq_true rfl, Nat.le_of_ble_eq_true rfl⟩ ⟨Nat.le_refl _, Nat.le_refl _⟩ hO.2.2.2.2.2.1.1 ⟨rfl, rfl, rfl⟩ rfl ⟨rfl, Nat.le_of_ble_eq_true rfl⟩ dX6_known_15 (fun hx_2 => ?_)
  exact x_ireturn (pc := 18) C dX6_known_18 (of_sp h).1 (of_sp h).2
set_option maxRecDepth 100000 in
set_option maxHeartbeats 4000000 in
theorem c_X6_learns {l : Launch} {G : zz_G} {L : Ly} {b : Nat} (p1 : Int32) (p2 : Int32) (p3 : Int32) (p4 : Int32) (hO : isGu L) (S : Sg) (rf : Int32) (Sf : Sg) (h : f_X6_learns p1 p2 p3 p4 S = some (rf, Sf)) : Met l yX6_learns (Cond.code yX6_learns cX6_learns 7 (some .int) :: zz_all) (rmz 5 118) (PC G L b S [.ref (b + 0), .int p1, .int p2, .int p3, .int p4]) (QC G L b Sf (some (.int rf)) True) 0 0 (fun q => b ≤ q) := by
  refine x_met [.ref (b + 0), .int p1, .int p2, .int p3, .int p4] (by decide +kernel) (Nat.le_of_ble_eq_true rfl) fun p e s m args below meth c C => ?_
  unfold f_X6_learns at h
  refine x_iload_n (pc := 0) C 1 dX6_learns_0 rfl ?_
  refine x_iload_n (pc := 1) C 2 dX6_learns_1 rfl ?_
  refine x_iload_n (pc := 2) C 3 dX6_learns_2 rfl ?_
  refine x_callS1 (pc := 3) C [.int p1, .int p2, .int p3] [] (c_X2_misfitOf (b := b) p1 p2 p3 S) cw_X6_146 vs_X2_misfitOf ⟨rfl, rfl, Nat.le_of_ble_eq_true rfl, Nat.le_of_ble_eq_true rfl⟩ ⟨Nat.le_refl _, Nat.le_refl _⟩ rfl ⟨rfl, Nat.le_of_ble_eq_true rfl⟩ dX6_learns_3 (fun hx_1 => ?_)
  obtain ⟨v5_1, ev5_1, h⟩ := of_lt h
  refine x_istore (pc := 6) C [(5, .int v5_1), (0, .ref (b + 0)), (1, .int p1), (2, .int p2), (3, .int p3), (4, .int p4)] dX6_learns_6 (Nat.le_of_ble_eq_true rfl) ev5_1 rfl ?_
  refine x_iload (pc := 8) C 0 dX6_learns_8 rfl ?_
  refine x_if_eq (pc := 10) C 20 dX6_learns_10 rfl (fun c_1 => ?_) (fun c_1 => ?_)
  · replace h := of_ifp c_1 h
    refine x_iload (pc := 20) C 5 dX6_learns_20 rfl ?_
    refine x_iconst (pc := 22) C (v := (3 : Int32)) dX6_learns_22 rfl ?_
    refine x_callS1 (pc := 23) C [.int p4, .int (3 : Int32)] [] (c_X6_isWithin (b := b) p4 (3 : Int32) S) cw_X6_69 vs_X6_isWithin ⟨rfl, rfl, Nat.le_of_ble_eq_true rfl, Nat.le_of_ble_eq_true rfl⟩ ⟨Nat.le_refl _, Nat.le_refl _⟩ rfl ⟨rfl, Nat.le_of_ble_eq_true rfl⟩ dX6_learns_23 (fun hx_2 => ?_)
    refine x_if_ne (pc := 26) C 36 dX6_learns_26 rfl (fun c_2 => ?_) (fun c_2 => ?_)
    · replace h := of_ifn c_2 h
      refine x_aload_n (pc := 36) C 1 dX6_learns_36 rfl ?_
      refine x_getr (pc := 37) C (k := 1) 44 hO.1 rfl rfl wd_221 dX6_learns_37 (Nat.le_of_ble_eq_true rfl) rfl ?_
      refine x_aload_n (pc := 40) C 1 dX6_learns_40 rfl ?_
      refine x_getr (pc := 41) C (k := 0) 1 hO.1 rfl rfl wd_220 dX6_learns_41 (Nat.le_of_ble_eq_true rfl) rfl ?_
      obtain ⟨S_1, hc_1, h⟩ := of_bd h
      refine x_callV_ (pc := 44) C (o := 44) [.ref (b + 1)] [] (c_X5_copyFrom (b := b) 44 1 hO.2.2.1 hO.2.1 S _ hc_1) cw_X6_56 vi_X5_copyFrom ⟨rfl, rfl, Nat.le_of_ble_eq_true rfl, Nat.le_of_ble_eq_true rfl⟩ ⟨Nat.le_refl _, Nat.le_refl _⟩ hO.2.2.1.1 ⟨rfl, rfl, rfl⟩ rfl ⟨rfl, Nat.le_of_ble_eq_true rfl⟩ dX6_learns_44 (fun hx_3 => ?_)
      refine x_aload_n (pc := 47) C 1 dX6_learns_47 rfl ?_
      refine x_getr (pc := 48) C (k := 4) 130 hO.1 rfl rfl wd_224 dX6_learns_48 (Nat.le_of_ble_eq_true rfl) rfl ?_
      refine x_iload_n (pc := 51) C 2 dX6_learns_51 rfl ?_
      refine x_iload_n (pc := 52) C 3 dX6_learns_52 rfl ?_
      refine x_iload_n (pc := 53) C 4 dX6_learns_53 rfl ?_
      obtain ⟨S_2, hc_2, h⟩ := of_bd h
      refine x_callV_ (pc := 54) C (o := 130) [.int p1, .int p2, .int p3] [] (c_X2_make (b := b) 130 p1 p2 p3 hO.2.2.2.2.1 S_1 _ hc_2) cw_X6_150 vi_X2_make ⟨rfl, rfl, Nat.le_of_ble_eq_true rfl, Nat.le_of_ble_eq_true rfl⟩ ⟨Nat.le_refl _, Nat.le_refl _⟩ hO.2.2.2.2.1.1 ⟨rfl, rfl, rfl⟩ rfl ⟨rfl, Nat.le_of_ble_eq_true rfl⟩ dX6_learns_54 (fun hx_4 => ?_)
      refine x_aload_n (pc := 57) C 1 dX6_learns_57 rfl ?_
      refine x_getr (pc := 58) C (k := 1) 44 hO.1 rfl rfl wd_221 dX6_learns_58 (Nat.le_of_ble_eq_true rfl) rfl ?_
      refine x_aload_n (pc := 61) C 1 dX6_learns_61 rfl ?_
      refine x_getr (pc := 62) C (k := 4) 130 hO.1 rfl rfl wd_224 dX6_learns_62 (Nat.le_of_ble_eq_true rfl) rfl ?_
      obtain ⟨S_3, hc_3, h⟩ := of_bd h
      refine x_callV_ (pc := 65) C (o := 44) [.ref (b + 130)] [] (c_X5_join (b := b) 44 130 hO.2.2.1 hO.2.2.2.2.1 S_2 _ hc_3) cw_X6_206 vi_X5_join ⟨rfl, rfl, Nat.le_of_ble_eq_true rfl, Nat.le_of_ble_eq_true rfl⟩ ⟨Nat.le_refl _, Nat.le_refl _⟩ hO.2.2.1.1 ⟨rfl, rfl, rfl⟩ rfl ⟨rfl, Nat.le_of_ble_eq_true rfl⟩ dX6_learns_65 (fun hx_5 => ?_)
      refine x_aload_n (pc := 68) C 1 dX6_learns_68 rfl ?_
      refine x_getr (pc := 69) C (k := 5) 132 hO.1 rfl rfl wd_225 dX6_learns_69 (Nat.le_of_ble_eq_true rfl) rfl ?_
      refine x_aload_n (pc := 72) C 1 dX6_learns_72 rfl ?_
      refine x_getr (pc := 73) C (k := 1) 44 hO.1 rfl rfl wd_221 dX6_learns_73 (Nat.le_of_ble_eq_true rfl) rfl ?_
      obtain ⟨S_4, hc_4, h⟩ := of_bd h
      refine x_callV_ (pc := 76) C (o := 132) [.ref (b + 44)] [] (c_X0_narrow (b := b) 132 44 hO.2.2.2.2.2.1 hO.2.2.1 S_3 _ hc_4) cw_X6_104 vi_X0_narrow ⟨rfl, rfl, Nat.le_of_ble_eq_true rfl, Nat.le_of_ble_eq_true rfl⟩ ⟨Nat.le_refl _, Nat.le_refl _⟩ hO.2.2.2.2.2.1.1 ⟨rfl, rfl, rfl⟩ rfl ⟨rfl, Nat.le_of_ble_eq_true rfl⟩ dX6_learns_76 (fun hx_6 => ?_)
      refine x_aload_n (pc := 79) C 1 dX6_learns_79 rfl ?_
      refine x_getr (pc := 80) C (k := 5) 132 hO.1 rfl rfl wd_225 dX6_learns_80 (Nat.le_of_ble_eq_true rfl) rfl ?_
      obtain ⟨r_1, hc_5, h⟩ := of_bd h
      refine x_callV1 (pc := 83) C (o := 132) [] [] (c_X0_narrowest (b := b) 132 hO.2.2.2.2.2.1 S_4 _ hc_5) cw_X6_210 vi_X0_narrowest ⟨rfl, rfl, Nat.le_of_ble_eq_true rfl, Nat.le_of_ble_eq_true rfl⟩ ⟨Nat.le_refl _, Nat.le_refl _⟩ hO.2.2.2.2.2.1.1 ⟨rfl, rfl, rfl⟩ rfl ⟨rfl, Nat.le_of_ble_eq_true rfl⟩ dX6_learns_83 (fun hx_7 => ?_)
      refine x_istore (pc := 86) C [(6, .int r_1), (5, .int v5_1), (0, .ref (b + 0)), (1, .int p1), (2, .int p2), (3, .int p3), (4, .int p4)] dX6_learns_86 (Nat.le_of_ble_eq_true rfl) rfl rfl ?_
      refine x_iload (pc := 88) C 6 dX6_learns_88 rfl ?_
      refine x_if_ne (pc := 90) C 105 dX6_learns_90 rfl (fun c_3 => ?_) (fun c_3 => ?_)
      · replace h := of_ifn c_3 h
        refine x_iload (pc := 105) C 6 dX6_learns_105 rfl ?_
        refine x_iconst (pc := 107) C (v := (1 : Int32)) dX6_learns_107 rfl ?_
        refine x_icmp_ne (pc := 108) C 116 dX6_learns_108 rfl (fun c_4 => ?_) (fun c_4 => ?_)
        · replace h := of_ifn c_4 h
          refine x_aload_n (pc := 116) C 2 dX6_learns_116 rfl ?_
          refine x_getr (pc := 117) C (k := 5) 132 hO.1 rfl rfl wd_225 dX6_learns_117 (Nat.le_of_ble_eq_true rfl) rfl ?_
          obtain ⟨r_2, hc_6, h⟩ := of_bd h
          refine x_callV1 (pc := 120) C (o := 132) [] [] (c_X0_knownBits (b := b) 132 hO.2.2.2.2.2.1 S_4 _ hc_6) cw_X6_203 vi_X0_knownBits ⟨rfl, rfl, Nat.le_of_ble_eq_true rfl, Nat.le_of_ble_eq_true rfl⟩ ⟨Nat.le_refl _, Nat.le_refl _⟩ hO.2.2.2.2.2.1.1 ⟨rfl, rfl, rfl⟩ rfl ⟨rfl, Nat.le_of_ble_eq_true rfl⟩ dX6_learns_120 (fun hx_8 => ?_)
          refine x_callS1 (pc := 123) C [.int r_2] [] (c_J6_bitCount_0f7a4 (b := b) r_2 S_4) cw_X6_213 vs_J6_bitCount_0f7a4 ⟨rfl, rfl, Nat.le_of_ble_eq_true rfl, Nat.le_of_ble_eq_true rfl⟩ ⟨Nat.le_refl _, Nat.le_refl _⟩ rfl ⟨rfl, Nat.le_of_ble_eq_true rfl⟩ dX6_learns_123 (fun hx_9 => ?_)
          exact x_ireturn (pc := 126) C dX6_learns_126 (of_sp h).1 (of_sp h).2
        · replace h := of_ifp c_4 h
          refine x_iload (pc := 111) C 0 dX6_learns_111 rfl ?_
          refine x_goto (pc := 113) C 126 dX6_learns_113 rfl ?_
          exact x_ireturn (pc := 126) C dX6_learns_126 (of_sp h).1 (of_sp h).2
      · replace h := of_ifp c_3 h
        refine x_aload_n (pc := 93) C 2 dX6_learns_93 rfl ?_
        refine x_getr (pc := 94) C (k := 5) 132 hO.1 rfl rfl wd_225 dX6_learns_94 (Nat.le_of_ble_eq_true rfl) rfl ?_
        refine x_iload (pc := 97) C 0 dX6_learns_97 rfl ?_
        obtain ⟨r_3, hc_7, h⟩ := of_bd h
        refine x_callV1 (pc := 99) C (o := 132) [.int r_1] [] (c_X0_widthOf (b := b) 132 r_1 hO.2.2.2.2.2.1 S_4 _ hc_7) cw_X6_113 vi_X0_widthOf ⟨rfl, rfl, Nat.le_of_ble_eq_true rfl, Nat.le_of_ble_eq_true rfl⟩ ⟨Nat.le_refl _, Nat.le_refl _⟩ hO.2.2.2.2.2.1.1 ⟨rfl, rfl, rfl⟩ rfl ⟨rfl, Nat.le_of_ble_eq_true rfl⟩ dX6_learns_99 (fun hx_10 => ?_)
        refine x_goto (pc := 102) C 126 dX6_learns_102 rfl ?_
        exact x_ireturn (pc := 126) C dX6_learns_126 (of_sp h).1 (of_sp h).2
    · replace h := of_ifp c_2 h
      refine x_aload_n (pc := 29) C 1 dX6_learns_29 rfl ?_
      refine x_bipush (pc := 30) C (v := (-2 : Int32)) dX6_learns_30 rfl ?_
      obtain ⟨⟨r_4, S_5⟩, hc_8, h⟩ := of_bd h
      replace h := of_u2 h
      refine x_callV1 (pc := 32) C (o := 0) [.int (-2 : Int32)] [] (c_X6_refuse (b := b) (-2 : Int32) hO S _ _ hc_8) cw_X6_73 vi_X6_refuse ⟨rfl, rfl, Nat.le_of_ble_eq_true rfl, Nat.le_of_ble_eq_true rfl⟩ ⟨Nat.le_refl _, Nat.le_refl _⟩ hO.1 ⟨rfl, rfl, rfl⟩ rfl ⟨rfl, Nat.le_of_ble_eq_true rfl⟩ dX6_learns_32 (fun hx_11 => ?_)
      exact x_ireturn (pc := 35) C dX6_learns_35 (of_sp h).1 (of_sp h).2
  · replace h := of_ifn c_1 h
    refine x_aload_n (pc := 13) C 1 dX6_learns_13 rfl ?_
    refine x_iload (pc := 14) C 0 dX6_learns_14 rfl ?_
    obtain ⟨⟨r_5, S_6⟩, hc_9, h⟩ := of_bd h
    replace h := of_u2 h
    refine x_callV1 (pc := 16) C (o := 0) [.int v5_1] [] (c_X6_refuse (b := b) v5_1 hO S _ _ hc_9) cw_X6_73 vi_X6_refuse ⟨rfl, rfl, Nat.le_of_ble_eq_true rfl, Nat.le_of_ble_eq_true rfl⟩ ⟨Nat.le_refl _, Nat.le_refl _⟩ hO.1 ⟨rfl, rfl, rfl⟩ rfl ⟨rfl, Nat.le_of_ble_eq_true rfl⟩ dX6_learns_16 (fun hx_12 => ?_)
    exact x_ireturn (pc := 19) C dX6_learns_19 (of_sp h).1 (of_sp h).2
set_option maxRecDepth 100000 in
set_option maxHeartbeats 4000000 in
theorem l_X6_leastJoining_2 {p : Program} {l : Launch} {e : Env} {s : State} {m : MethodId} {args : Array Value} {below : List Frame} {meth : Method} {c : Code} {G : zz_G} {L : Ly} {b : Nat} (C : CX p G s m args meth c cX6_leastJoining yX6_leastJoining 2 (some .int)) (hO : isGu L) (rf : Int32) (Sf : Sg) : ∀ (n : Nat) (v1 : Int32) (S : Sg) {z}, L_X6_leastJoining_2 n v1 S = some z → (∀ q, z = .inl q → q.1 = rf ∧ q.2 = Sf) → (∀ (S_o : Sg), z = .inr S_o → X p l e (rmz 4 96) s m args below meth c 0 0 (RQ G L b Sf below args s (some (.int rf)) True) 2 G L b S_o 30 [] []) → X p l e (rmz 4 96) s m args below meth c 0 0 (RQ G L b Sf below args s (some (.int rf)) True) 2 G L b S 2 [(0, .ref (b + 0)), (1, .int v1)] [] := by
  intro n
  induction n with
  | zero =>
    intro v1 S z h
    exact of_none h
  | succ n ih =>
    intro v1 S z h hr hx
    rw [L_X6_leastJoining_2] at h
    refine x_iload_n (pc := 2) C 1 dX6_leastJoining_2 rfl ?_
    refine x_sipush (pc := 3) C (v := (255 : Int32)) dX6_leastJoining_3 rfl ?_
    refine x_icmp_gt (pc := 6) C 30 dX6_leastJoining_6 rfl (fun c_1 => ?_) (fun c_1 => ?_)
    · replace h := of_ifp c_1 h
      exact x_sub [] rfl (hx _ (of_s1 h).symm)
    · replace h := of_ifn c_1 h
      refine x_aload_n (pc := 9) C 0 dX6_leastJoining_9 rfl ?_
      refine x_aload_n (pc := 10) C 0 dX6_leastJoining_10 rfl ?_
      refine x_getr (pc := 11) C (k := 0) 1 hO.1 rfl rfl wd_220 dX6_leastJoining_11 (Nat.le_of_ble_eq_true rfl) rfl ?_
      refine x_iload_n (pc := 14) C 1 dX6_leastJoining_14 rfl ?_
      obtain ⟨⟨r_1, S_1⟩, hc_1, h⟩ := of_bd h
      replace h := of_u2 h
      refine x_callV1 (pc := 15) C (o := 0) [.ref (b + 1), .int v1] [] (c_X6_meetingOfSum (b := b) 1 v1 hO hO.2.1 S _ _ hc_1) cw_X6_172 vi_X6_meetingOfSum ⟨rfl, rfl, Nat.le_of_ble_eq_true rfl, Nat.le_of_ble_eq_true rfl⟩ ⟨Nat.le_refl _, Nat.le_refl _⟩ hO.1 ⟨rfl, rfl, rfl⟩ rfl ⟨rfl, Nat.le_of_ble_eq_true rfl⟩ dX6_leastJoining_15 (fun hx_1 => ?_)
      refine x_iconst (pc := 18) C (v := (1 : Int32)) dX6_leastJoining_18 rfl ?_
      refine x_icmp_ne (pc := 19) C 24 dX6_leastJoining_19 rfl (fun c_2 => ?_) (fun c_2 => ?_)
      · replace h := of_ifn c_2 h
        obtain ⟨v1_1, ev1_1, h⟩ := of_lt h
        refine x_iinc (pc := 24) C (w := (1 : Int32)) 1 [(1, .int v1_1), (0, .ref (b + 0))] dX6_leastJoining_24 rfl rfl (Nat.le_of_ble_eq_true rfl) ev1_1 rfl ?_
        refine x_goto (pc := 27) C 2 dX6_leastJoining_27 rfl ?_
        exact x_sub [1, 0] rfl (ih _ _ h hr hx)
      · replace h := of_ifp c_2 h
        refine x_iload_n (pc := 22) C 1 dX6_leastJoining_22 rfl ?_
        have hq := hr _ (of_s1 h).symm
        exact x_ireturn (pc := 23) C dX6_leastJoining_23 hq.1 hq.2
set_option maxRecDepth 100000 in
set_option maxHeartbeats 4000000 in
theorem c_X6_leastJoining {l : Launch} {G : zz_G} {L : Ly} {b : Nat} (hO : isGu L) (S : Sg) (rf : Int32) (Sf : Sg) (h : f_X6_leastJoining S = some (rf, Sf)) : Met l yX6_leastJoining (Cond.code yX6_leastJoining cX6_leastJoining 2 (some .int) :: zz_all) (rmz 4 96) (PC G L b S [.ref (b + 0)]) (QC G L b Sf (some (.int rf)) True) 0 0 (fun q => b ≤ q) := by
  refine x_met [.ref (b + 0)] (by decide +kernel) (Nat.le_of_ble_eq_true rfl) fun p e s m args below meth c C => ?_
  unfold f_X6_leastJoining at h
  refine x_iconst (pc := 0) C (v := (1 : Int32)) dX6_leastJoining_0 rfl ?_
  refine x_istore_n (pc := 1) C 1 [(1, .int (1 : Int32)), (0, .ref (b + 0))] dX6_leastJoining_1 rfl (Nat.le_of_ble_eq_true rfl) rfl rfl ?_
  refine x_sub [1, 0] rfl ?_
  obtain ⟨z_hz_1, hz_1, hl, hrr⟩ := of_bs h
  refine l_X6_leastJoining_2 C hO rf Sf 400 _ _ hz_1 (fun q ez => of_sp (x := q.1) (u := q.2) (hl _ ez)) (fun S_1 ez => ?_)
  replace h := hrr _ ez
  clear hl hrr
  refine x_bipush (pc := 30) C (v := (-9 : Int32)) dX6_leastJoining_30 rfl ?_
  exact x_ireturn (pc := 32) C dX6_leastJoining_32 (of_sp h).1 (of_sp h).2
set_option maxRecDepth 100000 in
set_option maxHeartbeats 4000000 in
theorem c_X6_ledger {l : Launch} {G : zz_G} {L : Ly} {b : Nat} (p1 : Int32) (p2 : Int32) (hO : isGu L) (S : Sg) (rf : Int32) (Sf : Sg) (h : f_X6_ledger p1 p2 S = some (rf, Sf)) : Met l yX6_ledger (Cond.code yX6_ledger cX6_ledger 3 (some .int) :: zz_all) (rmz 2 43) (PC G L b S [.ref (b + 0), .int p1, .int p2]) (QC G L b Sf (some (.int rf)) True) 0 0 (fun q => b ≤ q) := by
  refine x_met [.ref (b + 0), .int p1, .int p2] (by decide +kernel) (Nat.le_of_ble_eq_true rfl) fun p e s m args below meth c C => ?_
  unfold f_X6_ledger at h
  refine x_iload_n (pc := 0) C 1 dX6_ledger_0 rfl ?_
  refine x_aload_n (pc := 1) C 0 dX6_ledger_1 rfl ?_
  refine x_getr (pc := 2) C (k := 0) 1 hO.1 rfl rfl wd_220 dX6_ledger_2 (Nat.le_of_ble_eq_true rfl) rfl ?_
  refine x_geti (pc := 5) C (k := 9) hO.2.1.1 rfl rfl wd_142 dX6_ledger_5 ⟨Nat.le_of_ble_eq_true rfl, rfl⟩ ?_
  refine x_callS1 (pc := 8) C [.int p1, .int (S.1 1 9)] [] (c_X6_isWithin (b := b) p1 (S.1 1 9) S) cw_X6_69 vs_X6_isWithin ⟨rfl, rfl, Nat.le_of_ble_eq_true rfl, Nat.le_of_ble_eq_true rfl⟩ ⟨Nat.le_refl _, Nat.le_refl _⟩ rfl ⟨rfl, Nat.le_of_ble_eq_true rfl⟩ dX6_ledger_8 (fun hx_1 => ?_)
  refine x_if_eq (pc := 11) C 25 dX6_ledger_11 rfl (fun c_1 => ?_) (fun c_1 => ?_)
  · replace h := of_ifp c_1 h
    refine x_aload_n (pc := 25) C 0 dX6_ledger_25 rfl ?_
    refine x_iconst (pc := 26) C (v := (-1 : Int32)) dX6_ledger_26 rfl ?_
    obtain ⟨⟨r_1, S_1⟩, hc_1, h⟩ := of_bd h
    replace h := of_u2 h
    refine x_callV1 (pc := 27) C (o := 0) [.int (-1 : Int32)] [] (c_X6_refuse (b := b) (-1 : Int32) hO S _ _ hc_1) cw_X6_73 vi_X6_refuse ⟨rfl, rfl, Nat.le_of_ble_eq_true rfl, Nat.le_of_ble_eq_true rfl⟩ ⟨Nat.le_refl _, Nat.le_refl _⟩ hO.1 ⟨rfl, rfl, rfl⟩ rfl ⟨rfl, Nat.le_of_ble_eq_true rfl⟩ dX6_ledger_27 (fun hx_2 => ?_)
    exact x_ireturn (pc := 30) C dX6_ledger_30 (of_sp h).1 (of_sp h).2
  · replace h := of_ifn c_1 h
    refine x_aload_n (pc := 14) C 0 dX6_ledger_14 rfl ?_
    refine x_getr (pc := 15) C (k := 0) 1 hO.1 rfl rfl wd_220 dX6_ledger_15 (Nat.le_of_ble_eq_true rfl) rfl ?_
    refine x_iload_n (pc := 18) C 2 dX6_ledger_18 rfl ?_
    refine x_callV1 (pc := 19) C (o := 1) [.int p2] [] (c_X5_has (b := b) 1 p2 hO.2.1 S) cw_X6_91 vi_X5_has ⟨rfl, rfl, Nat.le_of_ble_eq_true rfl, Nat.le_of_ble_eq_true rfl⟩ ⟨Nat.le_refl _, Nat.le_refl _⟩ hO.2.1.1 ⟨rfl, rfl, rfl⟩ rfl ⟨rfl, Nat.le_of_ble_eq_true rfl⟩ dX6_ledger_19 (fun hx_3 => ?_)
    refine x_if_ne (pc := 22) C 31 dX6_ledger_22 rfl (fun c_2 => ?_) (fun c_2 => ?_)
    · replace h := of_ifn c_2 h
      refine x_bipush (pc := 31) C (v := (100 : Int32)) dX6_ledger_31 rfl ?_
      refine x_aload_n (pc := 33) C 0 dX6_ledger_33 rfl ?_
      refine x_getr (pc := 34) C (k := 0) 1 hO.1 rfl rfl wd_220 dX6_ledger_34 (Nat.le_of_ble_eq_true rfl) rfl ?_
      refine x_iload_n (pc := 37) C 1 dX6_ledger_37 rfl ?_
      refine x_iload_n (pc := 38) C 2 dX6_ledger_38 rfl ?_
      obtain ⟨r_2, hc_2, h⟩ := of_bd h
      refine x_callV1 (pc := 39) C (o := 1) [.int p1, .int p2] [.int (100 : Int32)] (c_X5_coefficient (b := b) 1 p1 p2 hO.2.1 S _ hc_2) cw_X6_179 vi_X5_coefficient ⟨rfl, rfl, Nat.le_of_ble_eq_true rfl, Nat.le_of_ble_eq_true rfl⟩ ⟨Nat.le_refl _, Nat.le_refl _⟩ hO.2.1.1 ⟨rfl, rfl, rfl⟩ rfl ⟨rfl, Nat.le_of_ble_eq_true rfl⟩ dX6_ledger_39 (fun hx_4 => ?_)
      refine x_iadd (pc := 42) C dX6_ledger_42 ?_
      exact x_ireturn (pc := 43) C dX6_ledger_43 (of_sp h).1 (of_sp h).2
    · replace h := of_ifp c_2 h
      refine x_aload_n (pc := 25) C 0 dX6_ledger_25 rfl ?_
      refine x_iconst (pc := 26) C (v := (-1 : Int32)) dX6_ledger_26 rfl ?_
      obtain ⟨⟨r_3, S_2⟩, hc_3, h⟩ := of_bd h
      replace h := of_u2 h
      refine x_callV1 (pc := 27) C (o := 0) [.int (-1 : Int32)] [] (c_X6_refuse (b := b) (-1 : Int32) hO S _ _ hc_3) cw_X6_73 vi_X6_refuse ⟨rfl, rfl, Nat.le_of_ble_eq_true rfl, Nat.le_of_ble_eq_true rfl⟩ ⟨Nat.le_refl _, Nat.le_refl _⟩ hO.1 ⟨rfl, rfl, rfl⟩ rfl ⟨rfl, Nat.le_of_ble_eq_true rfl⟩ dX6_ledger_27 (fun hx_5 => ?_)
      exact x_ireturn (pc := 30) C dX6_ledger_30 (of_sp h).1 (of_sp h).2
set_option maxRecDepth 100000 in
set_option maxHeartbeats 4000000 in
theorem c_X6_letter {l : Launch} {G : zz_G} {L : Ly} {b : Nat} (p1 : Int32) (hO : isGu L) (S : Sg) (rf : Int32) (Sf : Sg) (h : f_X6_letter p1 S = some (rf, Sf)) : Met l yX6_letter (Cond.code yX6_letter cX6_letter 2 (some .int) :: zz_all) (rmz 3 66) (PC G L b S [.ref (b + 0), .int p1]) (QC G L b Sf (some (.int rf)) True) 0 0 (fun q => b ≤ q) := by
  refine x_met [.ref (b + 0), .int p1] (by decide +kernel) (Nat.le_of_ble_eq_true rfl) fun p e s m args below meth c C => ?_
  unfold f_X6_letter at h
  refine x_aload_n (pc := 0) C 0 dX6_letter_0 rfl ?_
  refine x_aload_n (pc := 1) C 0 dX6_letter_1 rfl ?_
  refine x_getr (pc := 2) C (k := 6) 135 hO.1 rfl rfl wd_226 dX6_letter_2 (Nat.le_of_ble_eq_true rfl) rfl ?_
  refine x_iload_n (pc := 5) C 1 dX6_letter_5 rfl ?_
  obtain ⟨⟨r_1, S_1⟩, hc_1, h⟩ := of_bd h
  replace h := of_u2 h
  refine x_callV1 (pc := 6) C (o := 0) [.ref (b + 135), .int p1] [] (c_X6_append (b := b) 135 96 p1 hO hO.2.2.2.2.2.2.1 S _ _ hc_1) cw_X6_52 vi_X6_append ⟨rfl, rfl, Nat.le_of_ble_eq_true rfl, Nat.le_of_ble_eq_true rfl⟩ ⟨Nat.le_refl _, Nat.le_refl _⟩ hO.1 ⟨rfl, rfl, rfl⟩ rfl ⟨rfl, Nat.le_of_ble_eq_true rfl⟩ dX6_letter_6 (fun hx_1 => ?_)
  exact x_ireturn (pc := 9) C dX6_letter_9 (of_sp h).1 (of_sp h).2
set_option maxRecDepth 100000 in
set_option maxHeartbeats 4000000 in
theorem c_X6_limit {l : Launch} {G : zz_G} {L : Ly} {b : Nat} (p1 : Int32) (hO : isGu L) (S : Sg) (rf : Int32) (Sf : Sg) (h : f_X6_limit p1 S = some (rf, Sf)) : Met l yX6_limit (Cond.code yX6_limit cX6_limit 4 (some .int) :: zz_all) (rmz 2 43) (PC G L b S [.ref (b + 0), .int p1]) (QC G L b Sf (some (.int rf)) True) 0 0 (fun q => b ≤ q) := by
  refine x_met [.ref (b + 0), .int p1] (by decide +kernel) (Nat.le_of_ble_eq_true rfl) fun p e s m args below meth c C => ?_
  unfold f_X6_limit at h
  refine x_iload_n (pc := 0) C 1 dX6_limit_0 rfl ?_
  refine x_iconst (pc := 1) C (v := (0 : Int32)) dX6_limit_1 rfl ?_
  refine x_bipush (pc := 2) C (v := (10 : Int32)) dX6_limit_2 rfl ?_
  refine x_callS1 (pc := 4) C [.int p1, .int (0 : Int32), .int (10 : Int32)] [] (c_X6_misfit (b := b) p1 (0 : Int32) (10 : Int32) S) cw_X6_125 vs_X6_misfit ⟨rfl, rfl, Nat.le_of_ble_eq_true rfl, Nat.le_of_ble_eq_true rfl⟩ ⟨Nat.le_refl _, Nat.le_refl _⟩ rfl ⟨rfl, Nat.le_of_ble_eq_true rfl⟩ dX6_limit_4 (fun hx_1 => ?_)
  obtain ⟨v2_1, ev2_1, h⟩ := of_lt h
  refine x_istore_n (pc := 7) C 2 [(2, .int v2_1), (0, .ref (b + 0)), (1, .int p1)] dX6_limit_7 rfl (Nat.le_of_ble_eq_true rfl) ev2_1 rfl ?_
  refine x_iload_n (pc := 8) C 0 dX6_limit_8 rfl ?_
  refine x_if_eq (pc := 9) C 18 dX6_limit_9 rfl (fun c_1 => ?_) (fun c_1 => ?_)
  · replace h := of_ifp c_1 h
    refine x_aload_n (pc := 18) C 1 dX6_limit_18 rfl ?_
    refine x_getr (pc := 19) C (k := 0) 1 hO.1 rfl rfl wd_220 dX6_limit_19 (Nat.le_of_ble_eq_true rfl) rfl ?_
    refine x_geti (pc := 22) C (k := 6) hO.2.1.1 rfl rfl wd_137 dX6_limit_22 ⟨Nat.le_of_ble_eq_true rfl, rfl⟩ ?_
    obtain ⟨v3_1, ev3_1, h⟩ := of_lt h
    refine x_istore_n (pc := 25) C 3 [(3, .int v3_1), (2, .int v2_1), (0, .ref (b + 0)), (1, .int p1)] dX6_limit_25 rfl (Nat.le_of_ble_eq_true rfl) ev3_1 rfl ?_
    refine x_aload_n (pc := 26) C 2 dX6_limit_26 rfl ?_
    refine x_getr (pc := 27) C (k := 0) 1 hO.1 rfl rfl wd_220 dX6_limit_27 (Nat.le_of_ble_eq_true rfl) rfl ?_
    refine x_iload_n (pc := 30) C 3 dX6_limit_30 rfl ?_
    obtain ⟨⟨r_1, S_1⟩, hc_1, h⟩ := of_bd h
    replace h := of_u2 h
    refine x_callV1 (pc := 31) C (o := 1) [.int p1] [] (c_X5_takeLimit (b := b) 1 p1 hO.2.1 S _ _ hc_1) cw_X6_143 vi_X5_takeLimit ⟨rfl, rfl, Nat.le_of_ble_eq_true rfl, Nat.le_of_ble_eq_true rfl⟩ ⟨Nat.le_refl _, Nat.le_refl _⟩ hO.2.1.1 ⟨rfl, rfl, rfl⟩ rfl ⟨rfl, Nat.le_of_ble_eq_true rfl⟩ dX6_limit_31 (fun hx_2 => ?_)
    refine x_pop (pc := 34) C dX6_limit_34 rfl ?_
    refine x_iload_n (pc := 35) C 0 dX6_limit_35 rfl ?_
    exact x_ireturn (pc := 36) C dX6_limit_36 (of_sp h).1 (of_sp h).2
  · replace h := of_ifn c_1 h
    refine x_aload_n (pc := 12) C 1 dX6_limit_12 rfl ?_
    refine x_iload_n (pc := 13) C 0 dX6_limit_13 rfl ?_
    obtain ⟨⟨r_2, S_2⟩, hc_2, h⟩ := of_bd h
    replace h := of_u2 h
    refine x_callV1 (pc := 14) C (o := 0) [.int v2_1] [] (c_X6_refuse (b := b) v2_1 hO S _ _ hc_2) cw_X6_73 vi_X6_refuse ⟨rfl, rfl, Nat.le_of_ble_eq_true rfl, Nat.le_of_ble_eq_true rfl⟩ ⟨Nat.le_refl _, Nat.le_refl _⟩ hO.1 ⟨rfl, rfl, rfl⟩ rfl ⟨rfl, Nat.le_of_ble_eq_true rfl⟩ dX6_limit_14 (fun hx_3 => ?_)
    exact x_ireturn (pc := 17) C dX6_limit_17 (of_sp h).1 (of_sp h).2
set_option maxRecDepth 100000 in
set_option maxHeartbeats 4000000 in
theorem l_X6_lots_76 {p : Program} {l : Launch} {e : Env} {s : State} {m : MethodId} {args : Array Value} {below : List Frame} {meth : Method} {c : Code} {G : zz_G} {L : Ly} {b : Nat} {Q : State → Prop} (C : CX p G s m args meth c cX6_lots yX6_lots 11 (some .int)) (hO : isGu L) (v1 : Int32) (v5 : Int32) (v8 : Int32) : ∀ (n : Nat) (v6 : Int32) (v7 : Int32) (v9 : Int32) (S : Sg) {z}, L_X6_lots_76 v1 v5 v8 n v6 v7 v9 S = some z → (∀ (v6_o : Int32) (v7_o : Int32) (S_o : Sg), z = (v6_o, v7_o, S_o) → X p l e (rmz 5 118) s m args below meth c 0 0 Q 11 G L b S_o 135 [(0, .ref (b + 0)), (1, .int v1), (5, .int v5), (6, .int v6_o), (7, .int v7_o), (8, .int v8)] []) → X p l e (rmz 5 118) s m args below meth c 0 0 Q 11 G L b S 76 [(0, .ref (b + 0)), (1, .int v1), (5, .int v5), (6, .int v6), (7, .int v7), (8, .int v8), (9, .int v9)] [] := by
  intro n
  induction n with
  | zero =>
    intro v6 v7 v9 S z h
    exact of_none h
  | succ n ih =>
    intro v6 v7 v9 S z h hx
    rw [L_X6_lots_76] at h
    refine x_iload (pc := 76) C 6 dX6_lots_76 rfl ?_
    refine x_bipush (pc := 78) C (v := (8 : Int32)) dX6_lots_78 rfl ?_
    refine x_icmp_ge (pc := 80) C 135 dX6_lots_80 rfl (fun c_1 => ?_) (fun c_1 => ?_)
    · replace h := of_ifn c_1 h
      exact x_sub [0, 1, 2, 3, 4, 5] rfl (hx _ _ _ (of_s1 h).symm)
    · replace h := of_ifp c_1 h
      refine x_iload (pc := 83) C 3 dX6_lots_83 rfl ?_
      refine x_ldc (pc := 85) C wd_668 dX6_lots_85 ?_
      refine x_imul (pc := 87) C dX6_lots_87 ?_
      refine x_ldc (pc := 88) C wd_669 dX6_lots_88 ?_
      refine x_iadd (pc := 90) C dX6_lots_90 ?_
      obtain ⟨v6_1, ev6_1, h⟩ := of_lt h
      refine x_istore (pc := 91) C [(6, .int v6_1), (0, .ref (b + 0)), (1, .int v1), (5, .int v5), (7, .int v7), (8, .int v8), (9, .int v9)] dX6_lots_91 (Nat.le_of_ble_eq_true rfl) ev6_1 rfl ?_
      refine x_iload (pc := 93) C 0 dX6_lots_93 rfl ?_
      refine x_ldcw (pc := 95) C wd_670 dX6_lots_95 ?_
      refine x_iand (pc := 98) C dX6_lots_98 ?_
      refine x_sipush (pc := 99) C (v := (256 : Int32)) dX6_lots_99 rfl ?_
      refine x_idiv (pc := 102) C dX6_lots_102 (by decide) ?_
      refine x_sipush (pc := 103) C (v := (255 : Int32)) dX6_lots_103 rfl ?_
      refine x_irem (pc := 106) C dX6_lots_106 (by decide) ?_
      obtain ⟨v10_1, ev10_1, h⟩ := of_lt h
      refine x_istore (pc := 107) C [(10, .int v10_1), (6, .int v6_1), (0, .ref (b + 0)), (1, .int v1), (5, .int v5), (7, .int v7), (8, .int v8), (9, .int v9)] dX6_lots_107 (Nat.le_of_ble_eq_true rfl) ev10_1 rfl ?_
      refine x_aload_n (pc := 109) C 2 dX6_lots_109 rfl ?_
      refine x_aload_n (pc := 110) C 2 dX6_lots_110 rfl ?_
      refine x_getr (pc := 111) C (k := 1) 44 hO.1 rfl rfl wd_221 dX6_lots_111 (Nat.le_of_ble_eq_true rfl) rfl ?_
      refine x_iconst (pc := 114) C (v := (1 : Int32)) dX6_lots_114 rfl ?_
      refine x_iload (pc := 115) C 0 dX6_lots_115 rfl ?_
      refine x_iadd (pc := 117) C dX6_lots_117 ?_
      obtain ⟨⟨r_1, S_1⟩, hc_1, h⟩ := of_bd h
      replace h := of_u2 h
      refine x_callV1 (pc := 118) C (o := 0) [.ref (b + 44), .int ((1 : Int32) + v10_1)] [] (c_X6_takeSum (b := b) 44 ((1 : Int32) + v10_1) hO hO.2.2.1 S _ _ hc_1) cw_X6_246 vi_X6_takeSum ⟨rfl, rfl, Nat.le_of_ble_eq_true rfl, Nat.le_of_ble_eq_true rfl⟩ ⟨Nat.le_refl _, Nat.le_refl _⟩ hO.1 ⟨rfl, rfl, rfl⟩ rfl ⟨rfl, Nat.le_of_ble_eq_true rfl⟩ dX6_lots_118 (fun hx_1 => ?_)
      refine x_iload (pc := 121) C 4 dX6_lots_121 rfl ?_
      obtain ⟨v7_1, ev7_1, h⟩ := of_lt h
      have kd_1 : X p l e (rmz 5 118) s m args below meth c 0 0 Q 11 G L b S_1 129 [(0, .ref (b + 0)), (1, .int v1), (5, .int v5), (6, .int v6_1), (7, .int v7_1), (8, .int v8), (9, .int v9)] [] := by
        obtain ⟨v9_1, ev9_1, h⟩ := of_lt h
        refine x_iinc (pc := 129) C (w := (1 : Int32)) 6 [(9, .int v9_1), (0, .ref (b + 0)), (1, .int v1), (5, .int v5), (6, .int v6_1), (7, .int v7_1), (8, .int v8)] dX6_lots_129 rfl rfl (Nat.le_of_ble_eq_true rfl) ev9_1 rfl ?_
        refine x_goto (pc := 132) C 76 dX6_lots_132 rfl ?_
        exact x_sub [1, 2, 3, 4, 5, 6, 0] rfl (ih _ _ _ _ h hx)
      refine x_icmp_ne (pc := 123) C 129 dX6_lots_123 rfl (fun c_2 => ?_) (fun c_2 => ?_)
      · refine x_sub [2, 3, 4, 1, 5, 6, 7] rfl ?_
        rw [show v7_1 = v7 from (ev7_1.trans (if_neg c_2))] at kd_1
        exact kd_1
      · refine x_iinc (pc := 126) C (w := (1 : Int32)) 5 [(7, .int (v7 + (1 : Int32))), (10, .int v10_1), (6, .int v6_1), (0, .ref (b + 0)), (1, .int v1), (5, .int v5), (8, .int v8), (9, .int v9)] dX6_lots_126 rfl rfl (Nat.le_of_ble_eq_true rfl) rfl rfl ?_
        refine x_sub [3, 4, 5, 2, 0, 6, 7] rfl ?_
        rw [show v7_1 = (v7 + (1 : Int32)) from (ev7_1.trans (if_pos c_2))] at kd_1
        exact kd_1
set_option maxRecDepth 100000 in
set_option maxHeartbeats 4000000 in
theorem l_X6_lots_56 {p : Program} {l : Launch} {e : Env} {s : State} {m : MethodId} {args : Array Value} {below : List Frame} {meth : Method} {c : Code} {G : zz_G} {L : Ly} {b : Nat} {Q : State → Prop} (C : CX p G s m args meth c cX6_lots yX6_lots 11 (some .int)) (hO : isGu L) (v1 : Int32) (v5 : Int32) : ∀ (n : Nat) (v6 : Int32) (v7 : Int32) (v8 : Int32) (S : Sg) {z}, L_X6_lots_56 v1 v5 n v6 v7 v8 S = some z → (∀ (v7_o : Int32) (S_o : Sg), z = (v7_o, S_o) → X p l e (rmz 5 118) s m args below meth c 0 0 Q 11 G L b S_o 141 [(7, .int v7_o)] []) → X p l e (rmz 5 118) s m args below meth c 0 0 Q 11 G L b S 56 [(0, .ref (b + 0)), (1, .int v1), (5, .int v5), (6, .int v6), (7, .int v7), (8, .int v8)] [] := by
  intro n
  induction n with
  | zero =>
    intro v6 v7 v8 S z h
    exact of_none h
  | succ n ih =>
    intro v6 v7 v8 S z h hx
    rw [L_X6_lots_56] at h
    refine x_iload (pc := 56) C 5 dX6_lots_56 rfl ?_
    refine x_iload_n (pc := 58) C 1 dX6_lots_58 rfl ?_
    refine x_icmp_ge (pc := 59) C 141 dX6_lots_59 rfl (fun c_1 => ?_) (fun c_1 => ?_)
    · replace h := of_ifn c_1 h
      exact x_sub [4] rfl (hx _ _ (of_s1 h).symm)
    · replace h := of_ifp c_1 h
      refine x_aload_n (pc := 62) C 0 dX6_lots_62 rfl ?_
      refine x_getr (pc := 63) C (k := 1) 44 hO.1 rfl rfl wd_221 dX6_lots_63 (Nat.le_of_ble_eq_true rfl) rfl ?_
      refine x_aload_n (pc := 66) C 0 dX6_lots_66 rfl ?_
      refine x_getr (pc := 67) C (k := 0) 1 hO.1 rfl rfl wd_220 dX6_lots_67 (Nat.le_of_ble_eq_true rfl) rfl ?_
      obtain ⟨S_1, hc_1, h⟩ := of_bd h
      refine x_callV_ (pc := 70) C (o := 44) [.ref (b + 1)] [] (c_X5_copyFrom (b := b) 44 1 hO.2.2.1 hO.2.1 S _ hc_1) cw_X6_56 vi_X5_copyFrom ⟨rfl, rfl, Nat.le_of_ble_eq_true rfl, Nat.le_of_ble_eq_true rfl⟩ ⟨Nat.le_refl _, Nat.le_refl _⟩ hO.2.2.1.1 ⟨rfl, rfl, rfl⟩ rfl ⟨rfl, Nat.le_of_ble_eq_true rfl⟩ dX6_lots_70 (fun hx_1 => ?_)
      refine x_iconst (pc := 73) C (v := (0 : Int32)) dX6_lots_73 rfl ?_
      refine x_istore (pc := 74) C [(9, .int (0 : Int32)), (0, .ref (b + 0)), (1, .int v1), (5, .int v5), (6, .int v6), (7, .int v7), (8, .int v8)] dX6_lots_74 (Nat.le_of_ble_eq_true rfl) rfl rfl ?_
      refine x_sub [1, 2, 3, 4, 5, 6, 0] rfl ?_
      obtain ⟨z_hz_1, hz_1, h⟩ := of_bd h
      refine l_X6_lots_76 C hO v1 v5 v8 400 _ _ _ _ hz_1 (fun v6_1 v7_1 S_2 ez => ?_)
      subst z_hz_1
      replace h := of_u3 h
      obtain ⟨v8_1, ev8_1, h⟩ := of_lt h
      refine x_iinc (pc := 135) C (w := (1 : Int32)) 5 [(8, .int v8_1), (0, .ref (b + 0)), (1, .int v1), (5, .int v5), (6, .int v6_1), (7, .int v7_1)] dX6_lots_135 rfl rfl (Nat.le_of_ble_eq_true rfl) ev8_1 rfl ?_
      refine x_goto (pc := 138) C 56 dX6_lots_138 rfl ?_
      exact x_sub [1, 2, 3, 4, 5, 0] rfl (ih _ _ _ _ h hx)
set_option maxRecDepth 100000 in
set_option maxHeartbeats 4000000 in
theorem c_X6_lots {l : Launch} {G : zz_G} {L : Ly} {b : Nat} (p1 : Int32) (p2 : Int32) (p3 : Int32) (hO : isGu L) (S : Sg) (rf : Int32) (Sf : Sg) (h : f_X6_lots p1 p2 p3 S = some (rf, Sf)) : Met l yX6_lots (Cond.code yX6_lots cX6_lots 11 (some .int) :: zz_all) (rmz 5 118) (PC G L b S [.ref (b + 0), .int p1, .int p2, .int p3]) (QC G L b Sf (some (.int rf)) True) 0 0 (fun q => b ≤ q) := by
  refine x_met [.ref (b + 0), .int p1, .int p2, .int p3] (by decide +kernel) (Nat.le_of_ble_eq_true rfl) fun p e s m args below meth c C => ?_
  unfold f_X6_lots at h
  refine x_iload_n (pc := 0) C 1 dX6_lots_0 rfl ?_
  refine x_iconst (pc := 1) C (v := (1 : Int32)) dX6_lots_1 rfl ?_
  refine x_bipush (pc := 2) C (v := (20 : Int32)) dX6_lots_2 rfl ?_
  refine x_callS1 (pc := 4) C [.int p1, .int (1 : Int32), .int (20 : Int32)] [] (c_X6_misfit (b := b) p1 (1 : Int32) (20 : Int32) S) cw_X6_125 vs_X6_misfit ⟨rfl, rfl, Nat.le_of_ble_eq_true rfl, Nat.le_of_ble_eq_true rfl⟩ ⟨Nat.le_refl _, Nat.le_refl _⟩ rfl ⟨rfl, Nat.le_of_ble_eq_true rfl⟩ dX6_lots_4 (fun hx_1 => ?_)
  obtain ⟨v4_1, ev4_1, h⟩ := of_lt h
  refine x_istore (pc := 7) C [(4, .int v4_1), (0, .ref (b + 0)), (1, .int p1), (2, .int p2), (3, .int p3)] dX6_lots_7 (Nat.le_of_ble_eq_true rfl) ev4_1 rfl ?_
  refine x_iload (pc := 9) C 0 dX6_lots_9 rfl ?_
  refine x_if_eq (pc := 11) C 21 dX6_lots_11 rfl (fun c_1 => ?_) (fun c_1 => ?_)
  · replace h := of_ifp c_1 h
    refine x_iload_n (pc := 21) C 4 dX6_lots_21 rfl ?_
    refine x_iconst (pc := 22) C (v := (2 : Int32)) dX6_lots_22 rfl ?_
    refine x_callS1 (pc := 23) C [.int p3, .int (2 : Int32)] [] (c_X6_isWithin (b := b) p3 (2 : Int32) S) cw_X6_69 vs_X6_isWithin ⟨rfl, rfl, Nat.le_of_ble_eq_true rfl, Nat.le_of_ble_eq_true rfl⟩ ⟨Nat.le_refl _, Nat.le_refl _⟩ rfl ⟨rfl, Nat.le_of_ble_eq_true rfl⟩ dX6_lots_23 (fun hx_2 => ?_)
    refine x_if_ne (pc := 26) C 36 dX6_lots_26 rfl (fun c_2 => ?_) (fun c_2 => ?_)
    · replace h := of_ifn c_2 h
      refine x_iload_n (pc := 36) C 4 dX6_lots_36 rfl ?_
      obtain ⟨x_1, ex_1, h⟩ := of_lt h
      have kd_1 : X p l e (rmz 5 118) s m args below meth c 0 0 (RQ G L b Sf below args s (some (.int rf)) True) 11 G L b S 45 [(0, .ref (b + 0)), (1, .int p1), (2, .int p2)] [.int x_1] := by
        refine x_istore (pc := 45) C [(5, .int x_1), (0, .ref (b + 0)), (1, .int p1), (2, .int p2)] dX6_lots_45 (Nat.le_of_ble_eq_true rfl) rfl rfl ?_
        refine x_iload_n (pc := 47) C 3 dX6_lots_47 rfl ?_
        refine x_istore (pc := 48) C [(6, .int p2), (5, .int x_1), (0, .ref (b + 0)), (1, .int p1), (2, .int p2)] dX6_lots_48 (Nat.le_of_ble_eq_true rfl) rfl rfl ?_
        refine x_iconst (pc := 50) C (v := (0 : Int32)) dX6_lots_50 rfl ?_
        refine x_istore (pc := 51) C [(7, .int (0 : Int32)), (6, .int p2), (5, .int x_1), (0, .ref (b + 0)), (1, .int p1), (2, .int p2)] dX6_lots_51 (Nat.le_of_ble_eq_true rfl) rfl rfl ?_
        refine x_iconst (pc := 53) C (v := (0 : Int32)) dX6_lots_53 rfl ?_
        refine x_istore (pc := 54) C [(8, .int (0 : Int32)), (7, .int (0 : Int32)), (6, .int p2), (5, .int x_1), (0, .ref (b + 0)), (1, .int p1), (2, .int p2)] dX6_lots_54 (Nat.le_of_ble_eq_true rfl) rfl rfl ?_
        refine x_sub [4, 5, 3, 2, 1, 0] rfl ?_
        obtain ⟨z_hz_1, hz_1, h⟩ := of_bd h
        refine l_X6_lots_56 C hO p1 x_1 400 _ _ _ _ hz_1 (fun v7_1 S_1 ez => ?_)
        subst z_hz_1
        replace h := of_u2 h
        refine x_iload (pc := 141) C 0 dX6_lots_141 rfl ?_
        exact x_ireturn (pc := 143) C dX6_lots_143 (of_sp h).1 (of_sp h).2
      refine x_if_ne (pc := 37) C 44 dX6_lots_37 rfl (fun c_3 => ?_) (fun c_3 => ?_)
      · refine x_iconst (pc := 44) C (v := (2 : Int32)) dX6_lots_44 rfl ?_
        refine x_sub [1, 2, 3] rfl ?_
        rw [show x_1 = (2 : Int32) from (ex_1.trans (if_neg c_3))] at kd_1
        exact kd_1
      · refine x_iconst (pc := 40) C (v := (1 : Int32)) dX6_lots_40 rfl ?_
        refine x_goto (pc := 41) C 45 dX6_lots_41 rfl ?_
        refine x_sub [1, 2, 3] rfl ?_
        rw [show x_1 = (1 : Int32) from (ex_1.trans (if_pos c_3))] at kd_1
        exact kd_1
    · replace h := of_ifp c_2 h
      refine x_aload_n (pc := 29) C 1 dX6_lots_29 rfl ?_
      refine x_bipush (pc := 30) C (v := (-2 : Int32)) dX6_lots_30 rfl ?_
      obtain ⟨⟨r_1, S_2⟩, hc_1, h⟩ := of_bd h
      replace h := of_u2 h
      refine x_callV1 (pc := 32) C (o := 0) [.int (-2 : Int32)] [] (c_X6_refuse (b := b) (-2 : Int32) hO S _ _ hc_1) cw_X6_73 vi_X6_refuse ⟨rfl, rfl, Nat.le_of_ble_eq_true rfl, Nat.le_of_ble_eq_true rfl⟩ ⟨Nat.le_refl _, Nat.le_refl _⟩ hO.1 ⟨rfl, rfl, rfl⟩ rfl ⟨rfl, Nat.le_of_ble_eq_true rfl⟩ dX6_lots_32 (fun hx_3 => ?_)
      exact x_ireturn (pc := 35) C dX6_lots_35 (of_sp h).1 (of_sp h).2
  · replace h := of_ifn c_1 h
    refine x_aload_n (pc := 14) C 1 dX6_lots_14 rfl ?_
    refine x_iload (pc := 15) C 0 dX6_lots_15 rfl ?_
    obtain ⟨⟨r_2, S_3⟩, hc_2, h⟩ := of_bd h
    replace h := of_u2 h
    refine x_callV1 (pc := 17) C (o := 0) [.int v4_1] [] (c_X6_refuse (b := b) v4_1 hO S _ _ hc_2) cw_X6_73 vi_X6_refuse ⟨rfl, rfl, Nat.le_of_ble_eq_true rfl, Nat.le_of_ble_eq_true rfl⟩ ⟨Nat.le_refl _, Nat.le_refl _⟩ hO.1 ⟨rfl, rfl, rfl⟩ rfl ⟨rfl, Nat.le_of_ble_eq_true rfl⟩ dX6_lots_17 (fun hx_4 => ?_)
    exact x_ireturn (pc := 20) C dX6_lots_20 (of_sp h).1 (of_sp h).2
