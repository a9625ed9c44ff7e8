set_option maxRecDepth 100000 in
set_option maxHeartbeats 4000000 in
theorem l_X7_order_108 {p : Program} {l : Launch} {e : Env} {s : State} {m : MethodId} {args : Array Value} {below : List Frame} {meth : Method} {c : Code} {G : zz_G} {L : Ly} {b : Nat} {Q : State → Prop} (C : CX p G s m args meth c cX7_order yX7_order 10 (some .int)) (hO : isMo L) (v4 : Int32) : ∀ (n : Nat) (v6 : Int32) (v7 : Int32) (v8 : Int32) (S : Sg) {z}, L_X7_order_108 v4 n v6 v7 v8 S = some z → (∀ (v6_o : Int32) (v7_o : Int32) (S_o : Sg), z = (v6_o, v7_o, S_o) → X p l e (rmz 11 260) s m args below meth c 0 0 Q 10 G L b S_o 161 [(4, .int v4), (6, .int v6_o), (7, .int v7_o)] []) → X p l e (rmz 11 260) s m args below meth c 0 0 Q 10 G L b S 108 [(0, .ref (b + 140)), (4, .int v4), (6, .int v6), (7, .int v7), (8, .int v8)] [] := by
  intro n
  induction n with
  | zero =>
    intro v6 v7 v8 S z h
    exact of_none h
  | succ n ih =>
    intro v6 v7 v8 S z h hx
    rw [L_X7_order_108] at h
    refine x_iload (pc := 108) C 4 dX7_order_108 rfl ?_
    refine x_sipush (pc := 110) C (v := (300 : Int32)) dX7_order_110 rfl ?_
    refine x_icmp_ge (pc := 113) C 161 dX7_order_113 rfl (fun c_1 => ?_) (fun c_1 => ?_)
    · replace h := of_ifn c_1 h
      exact x_sub [1, 2, 3] rfl (hx _ _ _ (of_s1 h).symm)
    · replace h := of_ifp c_1 h
      refine x_iload (pc := 116) C 4 dX7_order_116 rfl ?_
      obtain ⟨r_1, hc_1, h⟩ := of_bd h
      refine x_callS1 (pc := 118) C [.int v8] [] (c_X7_isOrder (b := b) v8 S _ hc_1) cw_X7_353 vs_X7_isOrder ⟨rfl, rfl, Nat.le_of_ble_eq_true rfl, Nat.le_of_ble_eq_true rfl⟩ ⟨Nat.le_refl _, Nat.le_refl _⟩ rfl ⟨rfl, Nat.le_of_ble_eq_true rfl⟩ dX7_order_118 (fun hx_1 => ?_)
      obtain ⟨J_1, eJ_1, h⟩ := of_lt h
      have kJ_1 : ∀ (x_1 : Int32) (S_1 : Sg), J_1 x_1 S_1 = some z → X p l e (rmz 11 260) s m args below meth c 0 0 Q 10 G L b S_1 135 [(0, .ref (b + 140)), (4, .int v4), (6, .int v6), (7, .int v7), (8, .int v8)] [.int x_1] := by
        intro x_1 S_1 h
        replace h := of_J2 eJ_1 h
        refine x_istore (pc := 135) C [(9, .int x_1), (0, .ref (b + 140)), (4, .int v4), (6, .int v6), (7, .int v7), (8, .int v8)] dX7_order_135 (Nat.le_of_ble_eq_true rfl) rfl rfl ?_
        refine x_iload (pc := 137) C 0 dX7_order_137 rfl ?_
        refine x_iload (pc := 139) C 4 dX7_order_139 rfl ?_
        obtain ⟨v6_1, ev6_1, h⟩ := of_lt h
        obtain ⟨v7_1, ev7_1, h⟩ := of_lt h
        have kd_1 : X p l e (rmz 11 260) s m args below meth c 0 0 Q 10 G L b S_1 155 [(0, .ref (b + 140)), (4, .int v4), (6, .int v6_1), (7, .int v7_1), (8, .int v8)] [] := by
          obtain ⟨v8_1, ev8_1, h⟩ := of_lt h
          refine x_iinc (pc := 155) C (w := (1 : Int32)) 4 [(8, .int v8_1), (0, .ref (b + 140)), (4, .int v4), (6, .int v6_1), (7, .int v7_1)] dX7_order_155 rfl rfl (Nat.le_of_ble_eq_true rfl) ev8_1 rfl ?_
          refine x_goto (pc := 158) C 108 dX7_order_158 rfl ?_
          exact x_sub [1, 2, 3, 4, 0] rfl (ih _ _ _ _ h hx)
        refine x_icmp_gt (pc := 141) C 147 dX7_order_141 rfl (fun c_2 => ?_) (fun c_2 => ?_)
        · refine x_iload (pc := 147) C 5 dX7_order_147 rfl ?_
          refine x_istore (pc := 149) C [(6, .int v8), (9, .int x_1), (0, .ref (b + 140)), (4, .int v4), (7, .int v7), (8, .int v8)] dX7_order_149 (Nat.le_of_ble_eq_true rfl) rfl rfl ?_
          refine x_iload (pc := 151) C 1 dX7_order_151 rfl ?_
          refine x_istore (pc := 153) C [(7, .int x_1), (6, .int v8), (9, .int x_1), (0, .ref (b + 140)), (4, .int v4), (8, .int v8)] dX7_order_153 (Nat.le_of_ble_eq_true rfl) rfl rfl ?_
          refine x_sub [3, 4, 1, 0, 5] rfl ?_
          rw [show v6_1 = v8 from (ev6_1.trans (if_pos c_2))] at kd_1
          rw [show v7_1 = x_1 from (ev7_1.trans (if_pos c_2))] at kd_1
          exact kd_1
        · refine x_goto (pc := 144) C 155 dX7_order_144 rfl ?_
          refine x_sub [1, 2, 3, 4, 5] rfl ?_
          rw [show v6_1 = v6 from (ev6_1.trans (if_neg c_2))] at kd_1
          rw [show v7_1 = v7 from (ev7_1.trans (if_neg c_2))] at kd_1
          exact kd_1
      refine x_if_eq (pc := 121) C 133 dX7_order_121 rfl (fun c_3 => ?_) (fun c_3 => ?_)
      · replace h := of_ifp c_3 h
        refine x_bipush (pc := 133) C (v := (-9 : Int32)) dX7_order_133 rfl ?_
        exact x_sub [0, 1, 2, 3, 4] rfl (kJ_1 _ _ h)
      · replace h := of_ifn c_3 h
        refine x_aload_n (pc := 124) C 0 dX7_order_124 rfl ?_
        refine x_iload (pc := 125) C 4 dX7_order_125 rfl ?_
        obtain ⟨⟨r_2, S_2⟩, hc_2, h⟩ := of_bd h
        replace h := of_u2 h
        refine x_callV1 (pc := 127) C (o := 140) [.int v8] [] (c_X7_joinsIn (b := b) v8 hO S _ _ hc_2) cw_X7_356 vi_X7_joinsIn ⟨rfl, rfl, Nat.le_of_ble_eq_true rfl, Nat.le_of_ble_eq_true rfl⟩ ⟨Nat.le_refl _, Nat.le_refl _⟩ hO.1 ⟨rfl, rfl, rfl⟩ rfl ⟨rfl, Nat.le_of_ble_eq_true rfl⟩ dX7_order_127 (fun hx_2 => ?_)
        refine x_goto (pc := 130) C 135 dX7_order_130 rfl ?_
        exact x_sub [0, 1, 2, 3, 4] rfl (kJ_1 _ _ h)
set_option maxRecDepth 100000 in
set_option maxHeartbeats 4000000 in
theorem c_X7_order {l : Launch} {G : zz_G} {L : Ly} {b : Nat} (p1 : Int32) (p2 : Int32) (p3 : Int32) (p4 : Int32) (hO : isMo L) (S : Sg) (rf : Int32) (Sf : Sg) (h : f_X7_order p1 p2 p3 p4 S = some (rf, Sf)) : Met l yX7_order (Cond.code yX7_order cX7_order 10 (some .int) :: zz_all) (rmz 11 260) (PC G L b S [.ref (b + 140), .int p1, .int p2, .int p3, .int p4]) (QC G L b Sf (some (.int rf)) True) 0 0 (fun q => b ≤ q) := by
  refine x_met [.ref (b + 140), .int p1, .int p2, .int p3, .int p4] (by decide +kernel) (Nat.le_of_ble_eq_true rfl) fun p e s m args below meth c C => ?_
  unfold f_X7_order at h
  refine x_iload_n (pc := 0) C 1 dX7_order_0 rfl ?_
  refine x_iconst (pc := 1) C (v := (1 : Int32)) dX7_order_1 rfl ?_
  obtain ⟨x_1, ex_1, h⟩ := of_lt h
  have kd_1 : X p l e (rmz 11 260) s m args below meth c 0 0 (RQ G L b Sf below args s (some (.int rf)) True) 10 G L b S 62 [(0, .ref (b + 140)), (1, .int p1), (2, .int p2), (3, .int p3), (4, .int p4)] [.int x_1] := by
    refine x_istore (pc := 62) C [(5, .int x_1), (0, .ref (b + 140)), (1, .int p1), (2, .int p2), (3, .int p3), (4, .int p4)] dX7_order_62 (Nat.le_of_ble_eq_true rfl) rfl rfl ?_
    refine x_iload (pc := 64) C 0 dX7_order_64 rfl ?_
    refine x_if_eq (pc := 66) C 76 dX7_order_66 rfl (fun c_1 => ?_) (fun c_1 => ?_)
    · replace h := of_ifp c_1 h
      refine x_aload_n (pc := 76) C 1 dX7_order_76 rfl ?_
      refine x_getr (pc := 77) C (k := 36) 163 hO.1 rfl rfl wd_764 dX7_order_77 (Nat.le_of_ble_eq_true rfl) rfl ?_
      refine x_iconst (pc := 80) C (v := (0 : Int32)) dX7_order_80 rfl ?_
      refine x_iload_n (pc := 81) C 2 dX7_order_81 rfl ?_
      obtain ⟨S_1, eS_1, h⟩ := of_lt h
      refine x_iastore (pc := 82) C hO.2.2.2.2.2.2.2.2.2.2.2.2.2.2.2.2.2.2.2.2.2.2.2.1 (by decide) eS_1 dX7_order_82 ?_
      refine x_aload_n (pc := 83) C 1 dX7_order_83 rfl ?_
      refine x_getr (pc := 84) C (k := 36) 163 hO.1 rfl rfl wd_764 dX7_order_84 (Nat.le_of_ble_eq_true rfl) rfl ?_
      refine x_iconst (pc := 87) C (v := (1 : Int32)) dX7_order_87 rfl ?_
      refine x_iload_n (pc := 88) C 3 dX7_order_88 rfl ?_
      obtain ⟨S_2, eS_2, h⟩ := of_lt h
      refine x_iastore (pc := 89) C hO.2.2.2.2.2.2.2.2.2.2.2.2.2.2.2.2.2.2.2.2.2.2.2.1 (by decide) eS_2 dX7_order_89 ?_
      refine x_aload_n (pc := 90) C 1 dX7_order_90 rfl ?_
      refine x_getr (pc := 91) C (k := 36) 163 hO.1 rfl rfl wd_764 dX7_order_91 (Nat.le_of_ble_eq_true rfl) rfl ?_
      refine x_iconst (pc := 94) C (v := (2 : Int32)) dX7_order_94 rfl ?_
      refine x_iload_n (pc := 95) C 4 dX7_order_95 rfl ?_
      obtain ⟨S_3, eS_3, h⟩ := of_lt h
      refine x_iastore (pc := 96) C hO.2.2.2.2.2.2.2.2.2.2.2.2.2.2.2.2.2.2.2.2.2.2.2.1 (by decide) eS_3 dX7_order_96 ?_
      refine x_bipush (pc := 97) C (v := (-9 : Int32)) dX7_order_97 rfl ?_
      refine x_istore (pc := 99) C [(6, .int (-9 : Int32)), (5, .int x_1), (0, .ref (b + 140)), (1, .int p1), (2, .int p2), (3, .int p3), (4, .int p4)] dX7_order_99 (Nat.le_of_ble_eq_true rfl) rfl rfl ?_
      refine x_bipush (pc := 101) C (v := (-9 : Int32)) dX7_order_101 rfl ?_
      refine x_istore (pc := 103) C [(7, .int (-9 : Int32)), (6, .int (-9 : Int32)), (5, .int x_1), (0, .ref (b + 140)), (1, .int p1), (2, .int p2), (3, .int p3), (4, .int p4)] dX7_order_103 (Nat.le_of_ble_eq_true rfl) rfl rfl ?_
      refine x_iconst (pc := 105) C (v := (0 : Int32)) dX7_order_105 rfl ?_
      refine x_istore (pc := 106) C [(8, .int (0 : Int32)), (7, .int (-9 : Int32)), (6, .int (-9 : Int32)), (5, .int x_1), (0, .ref (b + 140)), (1, .int p1), (2, .int p2), (3, .int p3), (4, .int p4)] dX7_order_106 (Nat.le_of_ble_eq_true rfl) rfl rfl ?_
      refine x_sub [4, 8, 2, 1, 0] rfl ?_
      obtain ⟨z_hz_1, hz_1, h⟩ := of_bd h
      refine l_X7_order_108 C hO p4 400 _ _ _ _ hz_1 (fun v6_1 v7_1 S_4 ez => ?_)
      subst z_hz_1
      replace h := of_u3 h
      refine x_iload (pc := 161) C 0 dX7_order_161 rfl ?_
      obtain ⟨x_2, ex_2, h⟩ := of_lt h
      have kd_2 : X p l e (rmz 11 260) s m args below meth c 0 0 (RQ G L b Sf below args s (some (.int rf)) True) 10 G L b S_4 173 [] [.int x_2] := by
        exact x_ireturn (pc := 173) C dX7_order_173 (of_sp h).1 (of_sp h).2
      refine x_if_ne (pc := 163) C 171 dX7_order_163 rfl (fun c_2 => ?_) (fun c_2 => ?_)
      · refine x_iload (pc := 171) C 2 dX7_order_171 rfl ?_
        refine x_sub [] rfl ?_
        rw [show x_2 = v7_1 from (ex_2.trans (if_neg c_2))] at kd_2
        exact kd_2
      · refine x_iload (pc := 166) C 1 dX7_order_166 rfl ?_
        refine x_goto (pc := 168) C 173 dX7_order_168 rfl ?_
        refine x_sub [] rfl ?_
        rw [show x_2 = v6_1 from (ex_2.trans (if_pos c_2))] at kd_2
        exact kd_2
    · replace h := of_ifn c_1 h
      refine x_aload_n (pc := 69) C 1 dX7_order_69 rfl ?_
      refine x_iload (pc := 70) C 0 dX7_order_70 rfl ?_
      obtain ⟨⟨r_1, S_5⟩, hc_1, h⟩ := of_bd h
      replace h := of_u2 h
      refine x_callV1 (pc := 72) C (o := 140) [.int x_1] [] (c_X7_no (b := b) x_1 hO S _ _ hc_1) cw_X7_213 vi_X7_no ⟨rfl, rfl, Nat.le_of_ble_eq_true rfl, Nat.le_of_ble_eq_true rfl⟩ ⟨Nat.le_refl _, Nat.le_refl _⟩ hO.1 ⟨rfl, rfl, rfl⟩ rfl ⟨rfl, Nat.le_of_ble_eq_true rfl⟩ dX7_order_72 (fun hx_2 => ?_)
      exact x_ireturn (pc := 75) C dX7_order_75 (of_sp h).1 (of_sp h).2
  refine x_icmp_lt (pc := 2) C 15 dX7_order_2 rfl (fun c_3 => ?_) (fun c_3 => ?_)
  · refine x_bipush (pc := 15) C (v := (-4 : Int32)) dX7_order_15 rfl ?_
    refine x_goto (pc := 17) C 62 dX7_order_17 rfl ?_
    refine x_sub [0, 1, 2, 3, 4] rfl ?_
    rw [show x_1 = (-4 : Int32) from (ex_1.trans (if_pos c_3))] at kd_1
    exact kd_1
  · refine x_iload_n (pc := 5) C 2 dX7_order_5 rfl ?_
    refine x_iconst (pc := 6) C (v := (1 : Int32)) dX7_order_6 rfl ?_
    refine x_icmp_lt (pc := 7) C 15 dX7_order_7 rfl (fun c_4 => ?_) (fun c_4 => ?_)
    · refine x_bipush (pc := 15) C (v := (-4 : Int32)) dX7_order_15 rfl ?_
      refine x_goto (pc := 17) C 62 dX7_order_17 rfl ?_
      refine x_sub [0, 1, 2, 3, 4] rfl ?_
      rw [show x_1 = (-4 : Int32) from ((ex_1.trans (if_neg c_3)).trans (if_pos c_4))] at kd_1
      exact kd_1
    · refine x_iload_n (pc := 10) C 3 dX7_order_10 rfl ?_
      refine x_iconst (pc := 11) C (v := (1 : Int32)) dX7_order_11 rfl ?_
      refine x_icmp_ge (pc := 12) C 20 dX7_order_12 rfl (fun c_5 => ?_) (fun c_5 => ?_)
      · refine x_iload_n (pc := 20) C 1 dX7_order_20 rfl ?_
        refine x_sipush (pc := 21) C (v := (255 : Int32)) dX7_order_21 rfl ?_
        refine x_icmp_gt (pc := 24) C 41 dX7_order_24 rfl (fun c_6 => ?_) (fun c_6 => ?_)
        · refine x_bipush (pc := 41) C (v := (-6 : Int32)) dX7_order_41 rfl ?_
          refine x_goto (pc := 43) C 62 dX7_order_43 rfl ?_
          refine x_sub [0, 1, 2, 3, 4] rfl ?_
          rw [show x_1 = (-6 : Int32) from ((((ex_1.trans (if_neg c_3)).trans (if_neg c_4)).trans (if_neg c_5)).trans (if_pos c_6))] at kd_1
          exact kd_1
        · refine x_iload_n (pc := 27) C 2 dX7_order_27 rfl ?_
          refine x_sipush (pc := 28) C (v := (255 : Int32)) dX7_order_28 rfl ?_
          refine x_icmp_gt (pc := 31) C 41 dX7_order_31 rfl (fun c_7 => ?_) (fun c_7 => ?_)
          · refine x_bipush (pc := 41) C (v := (-6 : Int32)) dX7_order_41 rfl ?_
            refine x_goto (pc := 43) C 62 dX7_order_43 rfl ?_
            refine x_sub [0, 1, 2, 3, 4] rfl ?_
            rw [show x_1 = (-6 : Int32) from (((((ex_1.trans (if_neg c_3)).trans (if_neg c_4)).trans (if_neg c_5)).trans (if_neg c_6)).trans (if_pos c_7))] at kd_1
            exact kd_1
          · refine x_iload_n (pc := 34) C 3 dX7_order_34 rfl ?_
            refine x_sipush (pc := 35) C (v := (255 : Int32)) dX7_order_35 rfl ?_
            refine x_icmp_le (pc := 38) C 46 dX7_order_38 rfl (fun c_8 => ?_) (fun c_8 => ?_)
            · refine x_iload (pc := 46) C 4 dX7_order_46 rfl ?_
              refine x_iconst (pc := 48) C (v := (0 : Int32)) dX7_order_48 rfl ?_
              refine x_iconst (pc := 49) C (v := (1 : Int32)) dX7_order_49 rfl ?_
              refine x_callS1 (pc := 50) C [.int p4, .int (0 : Int32), .int (1 : Int32)] [] (c_X7_isIn (b := b) p4 (0 : Int32) (1 : Int32) S) cw_X7_96 vs_X7_isIn ⟨rfl, rfl, Nat.le_of_ble_eq_true rfl, Nat.le_of_ble_eq_true rfl⟩ ⟨Nat.le_refl _, Nat.le_refl _⟩ rfl ⟨rfl, Nat.le_of_ble_eq_true rfl⟩ dX7_order_50 (fun hx_1 => ?_)
              refine x_if_ne (pc := 53) C 61 dX7_order_53 rfl (fun c_9 => ?_) (fun c_9 => ?_)
              · refine x_iconst (pc := 61) C (v := (0 : Int32)) dX7_order_61 rfl ?_
                refine x_sub [0, 1, 2, 3, 4] rfl ?_
                rw [show x_1 = (0 : Int32) from (((((((ex_1.trans (if_neg c_3)).trans (if_neg c_4)).trans (if_neg c_5)).trans (if_neg c_6)).trans (if_neg c_7)).trans (if_neg c_8)).trans (if_neg c_9))] at kd_1
                exact kd_1
              · refine x_bipush (pc := 56) C (v := (-2 : Int32)) dX7_order_56 rfl ?_
                refine x_goto (pc := 58) C 62 dX7_order_58 rfl ?_
                refine x_sub [0, 1, 2, 3, 4] rfl ?_
                rw [show x_1 = (-2 : Int32) from (((((((ex_1.trans (if_neg c_3)).trans (if_neg c_4)).trans (if_neg c_5)).trans (if_neg c_6)).trans (if_neg c_7)).trans (if_neg c_8)).trans (if_pos c_9))] at kd_1
                exact kd_1
            · refine x_bipush (pc := 41) C (v := (-6 : Int32)) dX7_order_41 rfl ?_
              refine x_goto (pc := 43) C 62 dX7_order_43 rfl ?_
              refine x_sub [0, 1, 2, 3, 4] rfl ?_
              rw [show x_1 = (-6 : Int32) from ((((((ex_1.trans (if_neg c_3)).trans (if_neg c_4)).trans (if_neg c_5)).trans (if_neg c_6)).trans (if_neg c_7)).trans (if_pos c_8))] at kd_1
              exact kd_1
      · refine x_bipush (pc := 15) C (v := (-4 : Int32)) dX7_order_15 rfl ?_
        refine x_goto (pc := 17) C 62 dX7_order_17 rfl ?_
        refine x_sub [0, 1, 2, 3, 4] rfl ?_
        rw [show x_1 = (-4 : Int32) from (((ex_1.trans (if_neg c_3)).trans (if_neg c_4)).trans (if_pos c_5))] at kd_1
        exact kd_1
set_option maxRecDepth 100000 in
set_option maxHeartbeats 4000000 in
theorem c_X7_person {l : Launch} {G : zz_G} {L : Ly} {b : Nat} (p1 : Int32) (p2 : Int32) (hO : isMo L) (S : Sg) (rf : Int32) (Sf : Sg) (h : f_X7_person p1 p2 S = some (rf, Sf)) : Met l yX7_person (Cond.code yX7_person cX7_person 4 (some .int) :: zz_all) (rmz 2 42) (PC G L b S [.ref (b + 140), .int p1, .int p2]) (QC G L b Sf (some (.int rf)) True) 0 0 (fun q => b ≤ q) := by
  refine x_met [.ref (b + 140), .int p1, .int p2] (by decide +kernel) (Nat.le_of_ble_eq_true rfl) fun p e s m args below meth c C => ?_
  unfold f_X7_person at h
  refine x_iload_n (pc := 0) C 1 dX7_person_0 rfl ?_
  refine x_callS1 (pc := 1) C [.int p1] [] (c_X7_isPerson (b := b) p1 S) cw_X7_244 vs_X7_isPerson ⟨rfl, rfl, Nat.le_of_ble_eq_true rfl, Nat.le_of_ble_eq_true rfl⟩ ⟨Nat.le_refl _, Nat.le_refl _⟩ rfl ⟨rfl, Nat.le_of_ble_eq_true rfl⟩ dX7_person_1 (fun hx_1 => ?_)
  refine x_if_ne (pc := 4) C 13 dX7_person_4 rfl (fun c_1 => ?_) (fun c_1 => ?_)
  · replace h := of_ifn c_1 h
    refine x_aload_n (pc := 13) C 0 dX7_person_13 rfl ?_
    refine x_getr (pc := 14) C (k := 4) 145 hO.1 rfl rfl wd_732 dX7_person_14 (Nat.le_of_ble_eq_true rfl) rfl ?_
    refine x_iload_n (pc := 17) C 1 dX7_person_17 rfl ?_
    obtain ⟨g_1, h⟩ := of_gd h
    refine x_iaload (pc := 18) C hO.2.2.2.2.2.1 g_1 dX7_person_18 ?_
    obtain ⟨v3_1, ev3_1, h⟩ := of_lt h
    refine x_istore_n (pc := 19) C 3 [(3, .int v3_1), (0, .ref (b + 140)), (1, .int p1), (2, .int p2)] dX7_person_19 rfl (Nat.le_of_ble_eq_true rfl) ev3_1 rfl ?_
    refine x_iload_n (pc := 20) C 3 dX7_person_20 rfl ?_
    by_cases c_2 : p2 = (0 : Int32)
    · replace h := of_ifp c_2 h
      refine x_tabIn (pc := 21) C 48 dX7_person_21 c_2 (by decide) (by decide) rfl rfl ?_
      refine x_aload_n (pc := 48) C 1 dX7_person_48 rfl ?_
      refine x_getr (pc := 49) C (k := 1) 142 hO.1 rfl rfl wd_729 dX7_person_49 (Nat.le_of_ble_eq_true rfl) rfl ?_
      refine x_iload_n (pc := 52) C 0 dX7_person_52 rfl ?_
      obtain ⟨g_2, h⟩ := of_gd h
      refine x_iaload (pc := 53) C hO.2.2.1 g_2 dX7_person_53 ?_
      exact x_ireturn (pc := 54) C dX7_person_54 (of_sp h).1 (of_sp h).2
    replace h := of_ifn c_2 h
    by_cases c_3 : p2 = (1 : Int32)
    · replace h := of_ifp c_3 h
      refine x_tabIn (pc := 21) C 55 dX7_person_21 c_3 (by decide) (by decide) rfl rfl ?_
      refine x_iload_n (pc := 55) C 0 dX7_person_55 rfl ?_
      exact x_ireturn (pc := 56) C dX7_person_56 (of_sp h).1 (of_sp h).2
    replace h := of_ifn c_3 h
    by_cases c_4 : p2 = (2 : Int32)
    · replace h := of_ifp c_4 h
      refine x_tabIn (pc := 21) C 57 dX7_person_21 c_4 (by decide) (by decide) rfl rfl ?_
      refine x_aload_n (pc := 57) C 1 dX7_person_57 rfl ?_
      refine x_iload_n (pc := 58) C 0 dX7_person_58 rfl ?_
      obtain ⟨r_1, hc_1, h⟩ := of_bd h
      refine x_callV1 (pc := 59) C (o := 140) [.int v3_1] [] (c_X7_isFree (b := b) v3_1 hO S _ hc_1) cw_X7_247 vi_X7_isFree ⟨rfl, rfl, Nat.le_of_ble_eq_true rfl, Nat.le_of_ble_eq_true rfl⟩ ⟨Nat.le_refl _, Nat.le_refl _⟩ hO.1 ⟨rfl, rfl, rfl⟩ rfl ⟨rfl, Nat.le_of_ble_eq_true rfl⟩ dX7_person_59 (fun hx_2 => ?_)
      obtain ⟨x_1, ex_1, h⟩ := of_lt h
      have kd_1 : X p l e (rmz 2 42) s m args below meth c 0 0 (RQ G L b Sf below args s (some (.int rf)) True) 4 G L b S 70 [] [.int x_1] := by
        exact x_ireturn (pc := 70) C dX7_person_70 (of_sp h).1 (of_sp h).2
      refine x_if_eq (pc := 62) C 69 dX7_person_62 rfl (fun c_5 => ?_) (fun c_5 => ?_)
      · refine x_iconst (pc := 69) C (v := (0 : Int32)) dX7_person_69 rfl ?_
        refine x_sub [] rfl ?_
        rw [show x_1 = (0 : Int32) from (ex_1.trans (if_pos c_5))] at kd_1
        exact kd_1
      · refine x_iconst (pc := 65) C (v := (1 : Int32)) dX7_person_65 rfl ?_
        refine x_goto (pc := 66) C 70 dX7_person_66 rfl ?_
        refine x_sub [] rfl ?_
        rw [show x_1 = (1 : Int32) from (ex_1.trans (if_neg c_5))] at kd_1
        exact kd_1
    replace h := of_ifn c_4 h
    refine x_tabOut (pc := 21) C 71 dX7_person_21 (by have := lv_neT c_2 (show ((0 : Int32)).toInt = 0 from rfl); have := lv_neT c_3 (show ((1 : Int32)).toInt = 1 from rfl); have := lv_neT c_4 (show ((2 : Int32)).toInt = 2 from rfl); omega) rfl ?_
    refine x_aload_n (pc := 71) C 1 dX7_person_71 rfl ?_
    refine x_bipush (pc := 72) C (v := (-2 : Int32)) dX7_person_72 rfl ?_
    obtain ⟨⟨r_2, S_1⟩, hc_2, h⟩ := of_bd h
    replace h := of_u2 h
    refine x_callV1 (pc := 74) C (o := 140) [.int (-2 : Int32)] [] (c_X7_no (b := b) (-2 : Int32) hO S _ _ hc_2) cw_X7_213 vi_X7_no ⟨rfl, rfl, Nat.le_of_ble_eq_true rfl, Nat.le_of_ble_eq_true rfl⟩ ⟨Nat.le_refl _, Nat.le_refl _⟩ hO.1 ⟨rfl, rfl, rfl⟩ rfl ⟨rfl, Nat.le_of_ble_eq_true rfl⟩ dX7_person_74 (fun hx_3 => ?_)
    exact x_ireturn (pc := 77) C dX7_person_77 (of_sp h).1 (of_sp h).2
  · replace h := of_ifp c_1 h
    refine x_aload_n (pc := 7) C 0 dX7_person_7 rfl ?_
    refine x_iconst (pc := 8) C (v := (-1 : Int32)) dX7_person_8 rfl ?_
    obtain ⟨⟨r_3, S_2⟩, hc_3, h⟩ := of_bd h
    replace h := of_u2 h
    refine x_callV1 (pc := 9) C (o := 140) [.int (-1 : Int32)] [] (c_X7_no (b := b) (-1 : Int32) hO S _ _ hc_3) cw_X7_213 vi_X7_no ⟨rfl, rfl, Nat.le_of_ble_eq_true rfl, Nat.le_of_ble_eq_true rfl⟩ ⟨Nat.le_refl _, Nat.le_refl _⟩ hO.1 ⟨rfl, rfl, rfl⟩ rfl ⟨rfl, Nat.le_of_ble_eq_true rfl⟩ dX7_person_9 (fun hx_4 => ?_)
    exact x_ireturn (pc := 12) C dX7_person_12 (of_sp h).1 (of_sp h).2
set_option maxRecDepth 100000 in
set_option maxHeartbeats 4000000 in
theorem l_X7_pivots_8 {p : Program} {l : Launch} {e : Env} {s : State} {m : MethodId} {args : Array Value} {below : List Frame} {meth : Method} {c : Code} {G : zz_G} {L : Ly} {b : Nat} {Q : State → Prop} (C : CX p G s m args meth c cX7_pivots yX7_pivots 3 (some .int)) (hO : isMo L) (S : Sg) : ∀ (n : Nat) (v1 : Int32) (v2 : Int32) {z}, L_X7_pivots_8 S n v1 v2 = some z → (∀ (v1_o : Int32), z = v1_o → X p l e (rmz 7 175) s m args below meth c 0 0 Q 3 G L b S 33 [(1, .int v1_o)] []) → X p l e (rmz 7 175) s m args below meth c 0 0 Q 3 G L b S 8 [(0, .ref (b + 140)), (1, .int v1), (2, .int v2)] [] := by
  intro n
  induction n with
  | zero =>
    intro v1 v2 z h
    exact of_none h
  | succ n ih =>
    intro v1 v2 z h hx
    rw [L_X7_pivots_8] at h
    refine x_iload_n (pc := 8) C 2 dX7_pivots_8 rfl ?_
    refine x_aload_n (pc := 9) C 0 dX7_pivots_9 rfl ?_
    refine x_geti (pc := 10) C (k := 19) hO.1 rfl rfl wd_747 dX7_pivots_10 ⟨Nat.le_of_ble_eq_true rfl, rfl⟩ ?_
    refine x_icmp_ge (pc := 13) C 33 dX7_pivots_13 rfl (fun c_1 => ?_) (fun c_1 => ?_)
    · replace h := of_ifn c_1 h
      exact x_sub [1] rfl (hx _ (of_s1 h).symm)
    · replace h := of_ifp c_1 h
      refine x_iload_n (pc := 16) C 1 dX7_pivots_16 rfl ?_
      refine x_iconst (pc := 17) C (v := (1 : Int32)) dX7_pivots_17 rfl ?_
      refine x_aload_n (pc := 18) C 0 dX7_pivots_18 rfl ?_
      refine x_getr (pc := 19) C (k := 17) 153 hO.1 rfl rfl wd_745 dX7_pivots_19 (Nat.le_of_ble_eq_true rfl) rfl ?_
      refine x_iload_n (pc := 22) C 2 dX7_pivots_22 rfl ?_
      obtain ⟨g_1, h⟩ := of_gd h
      refine x_iaload (pc := 23) C hO.2.2.2.2.2.2.2.2.2.2.2.2.2.1 g_1 dX7_pivots_23 ?_
      refine x_ishl (pc := 24) C dX7_pivots_24 ?_
      refine x_ior (pc := 25) C dX7_pivots_25 ?_
      obtain ⟨v1_1, ev1_1, h⟩ := of_lt h
      refine x_istore_n (pc := 26) C 1 [(1, .int v1_1), (0, .ref (b + 140)), (2, .int v2)] dX7_pivots_26 rfl (Nat.le_of_ble_eq_true rfl) ev1_1 rfl ?_
      obtain ⟨v2_1, ev2_1, h⟩ := of_lt h
      refine x_iinc (pc := 27) C (w := (1 : Int32)) 2 [(2, .int v2_1), (1, .int v1_1), (0, .ref (b + 140))] dX7_pivots_27 rfl rfl (Nat.le_of_ble_eq_true rfl) ev2_1 rfl ?_
      refine x_goto (pc := 30) C 8 dX7_pivots_30 rfl ?_
      exact x_sub [2, 1, 0] rfl (ih _ _ h hx)
set_option maxRecDepth 100000 in
set_option maxHeartbeats 4000000 in
theorem c_X7_pivots {l : Launch} {G : zz_G} {L : Ly} {b : Nat} (hO : isMo L) (S : Sg) (rf : Int32) (Sf : Sg) (h : f_X7_pivots S = some (rf, Sf)) : Met l yX7_pivots (Cond.code yX7_pivots cX7_pivots 3 (some .int) :: zz_all) (rmz 7 175) (PC G L b S [.ref (b + 140)]) (QC G L b Sf (some (.int rf)) True) 0 0 (fun q => b ≤ q) := by
  refine x_met [.ref (b + 140)] (by decide +kernel) (Nat.le_of_ble_eq_true rfl) fun p e s m args below meth c C => ?_
  unfold f_X7_pivots at h
  refine x_aload_n (pc := 0) C 0 dX7_pivots_0 rfl ?_
  obtain ⟨S_1, hc_1, h⟩ := of_bd h
  refine x_callV_ (pc := 1) C (o := 140) [] [] (c_X7_builds (b := b) hO S _ hc_1) cw_X7_173 vi_X7_builds ⟨rfl, rfl, Nat.le_of_ble_eq_true rfl, Nat.le_of_ble_eq_true rfl⟩ ⟨Nat.le_refl _, Nat.le_refl _⟩ hO.1 ⟨rfl, rfl, rfl⟩ rfl ⟨rfl, Nat.le_of_ble_eq_true rfl⟩ dX7_pivots_1 (fun hx_1 => ?_)
  refine x_iconst (pc := 4) C (v := (0 : Int32)) dX7_pivots_4 rfl ?_
  refine x_istore_n (pc := 5) C 1 [(1, .int (0 : Int32)), (0, .ref (b + 140))] dX7_pivots_5 rfl (Nat.le_of_ble_eq_true rfl) rfl rfl ?_
  refine x_iconst (pc := 6) C (v := (0 : Int32)) dX7_pivots_6 rfl ?_
  refine x_istore_n (pc := 7) C 2 [(2, .int (0 : Int32)), (1, .int (0 : Int32)), (0, .ref (b + 140))] dX7_pivots_7 rfl (Nat.le_of_ble_eq_true rfl) rfl rfl ?_
  refine x_sub [2, 1, 0] rfl ?_
  obtain ⟨z_hz_1, hz_1, h⟩ := of_bd h
  refine l_X7_pivots_8 C hO S_1 400 _ _ hz_1 (fun v1_1 ez => ?_)
  subst z_hz_1
  refine x_iload_n (pc := 33) C 0 dX7_pivots_33 rfl ?_
  exact x_ireturn (pc := 34) C dX7_pivots_34 (of_sp h).1 (of_sp h).2
set_option maxRecDepth 100000 in
set_option maxHeartbeats 4000000 in
theorem c_X7_reduced {l : Launch} {G : zz_G} {L : Ly} {b : Nat} (p1 : Int32) (p2 : Int32) (p3 : Int32) (hO : isMo L) (S : Sg) (rf : Int64) (Sf : Sg) (h : f_X7_reduced p1 p2 p3 S = some (rf, Sf)) : Met l yX7_reduced (Cond.code yX7_reduced cX7_reduced 6 (some .long) :: zz_all) (rmz 7 175) (PC G L b S [.ref (b + 140), .int p1, .int p2, .int p3]) (QC G L b Sf (some (.long rf)) True) 0 0 (fun q => b ≤ q) := by
  refine x_met [.ref (b + 140), .int p1, .int p2, .int p3] (by decide +kernel) (Nat.le_of_ble_eq_true rfl) fun p e s m args below meth c C => ?_
  unfold f_X7_reduced at h
  refine x_aload_n (pc := 0) C 0 dX7_reduced_0 rfl ?_
  refine x_iload_n (pc := 1) C 1 dX7_reduced_1 rfl ?_
  refine x_callV1 (pc := 2) C (o := 140) [.int p1] [] (c_X7_isRow (b := b) p1 hO S) cw_X7_306 vi_X7_isRow ⟨rfl, rfl, Nat.le_of_ble_eq_true rfl, Nat.le_of_ble_eq_true rfl⟩ ⟨Nat.le_refl _, Nat.le_refl _⟩ hO.1 ⟨rfl, rfl, rfl⟩ rfl ⟨rfl, Nat.le_of_ble_eq_true rfl⟩ dX7_reduced_2 (fun hx_1 => ?_)
  obtain ⟨x_1, ex_1, h⟩ := of_lt h
  have kd_1 : X p l e (rmz 7 175) s m args below meth c 0 0 (RQ G L b Sf below args s (some (.long rf)) True) 6 G L b S 35 [(0, .ref (b + 140)), (1, .int p1), (2, .int p2), (3, .int p3)] [.int x_1] := by
    refine x_istore (pc := 35) C [(4, .int x_1), (0, .ref (b + 140)), (1, .int p1), (2, .int p2), (3, .int p3)] dX7_reduced_35 (Nat.le_of_ble_eq_true rfl) rfl rfl ?_
    refine x_iload (pc := 37) C 0 dX7_reduced_37 rfl ?_
    refine x_if_eq (pc := 39) C 49 dX7_reduced_39 rfl (fun c_1 => ?_) (fun c_1 => ?_)
    · replace h := of_ifp c_1 h
      refine x_aload_n (pc := 49) C 1 dX7_reduced_49 rfl ?_
      obtain ⟨S_1, hc_1, h⟩ := of_bd h
      refine x_callV_ (pc := 50) C (o := 140) [] [] (c_X7_builds (b := b) hO S _ hc_1) cw_X7_173 vi_X7_builds ⟨rfl, rfl, Nat.le_of_ble_eq_true rfl, Nat.le_of_ble_eq_true rfl⟩ ⟨Nat.le_refl _, Nat.le_refl _⟩ hO.1 ⟨rfl, rfl, rfl⟩ rfl ⟨rfl, Nat.le_of_ble_eq_true rfl⟩ dX7_reduced_50 (fun hx_4 => ?_)
      refine x_aload_n (pc := 53) C 1 dX7_reduced_53 rfl ?_
      refine x_iload_n (pc := 54) C 2 dX7_reduced_54 rfl ?_
      obtain ⟨r_1, hc_2, h⟩ := of_bd h
      refine x_callV1 (pc := 55) C (o := 140) [.int p1] [] (c_X7_byPivots (b := b) p1 hO S_1 _ hc_2) cw_X7_313 vi_X7_byPivots ⟨rfl, rfl, Nat.le_of_ble_eq_true rfl, Nat.le_of_ble_eq_true rfl⟩ ⟨Nat.le_refl _, Nat.le_refl _⟩ hO.1 ⟨rfl, rfl, rfl⟩ rfl ⟨rfl, Nat.le_of_ble_eq_true rfl⟩ dX7_reduced_55 (fun hx_5 => ?_)
      refine x_istore (pc := 58) C [(5, .int r_1), (4, .int x_1), (0, .ref (b + 140)), (1, .int p1), (2, .int p2), (3, .int p3)] dX7_reduced_58 (Nat.le_of_ble_eq_true rfl) rfl rfl ?_
      refine x_aload_n (pc := 60) C 2 dX7_reduced_60 rfl ?_
      refine x_getr (pc := 61) C (k := 14) 150 hO.1 rfl rfl wd_742 dX7_reduced_61 (Nat.le_of_ble_eq_true rfl) rfl ?_
      refine x_bipush (pc := 64) C (v := (10 : Int32)) dX7_reduced_64 rfl ?_
      refine x_iload (pc := 66) C 0 dX7_reduced_66 rfl ?_
      refine x_imul (pc := 68) C dX7_reduced_68 ?_
      refine x_iload_n (pc := 69) C 4 dX7_reduced_69 rfl ?_
      refine x_iadd (pc := 70) C dX7_reduced_70 ?_
      obtain ⟨g_1, h⟩ := of_gd h
      refine x_laload (pc := 71) C hO.2.2.2.2.2.2.2.2.2.2.1 g_1 dX7_reduced_71 ?_
      refine x_aload_n (pc := 72) C 2 dX7_reduced_72 rfl ?_
      refine x_getr (pc := 73) C (k := 14) 150 hO.1 rfl rfl wd_742 dX7_reduced_73 (Nat.le_of_ble_eq_true rfl) rfl ?_
      refine x_bipush (pc := 76) C (v := (10 : Int32)) dX7_reduced_76 rfl ?_
      refine x_iload (pc := 78) C 0 dX7_reduced_78 rfl ?_
      refine x_imul (pc := 80) C dX7_reduced_80 ?_
      refine x_aload_n (pc := 81) C 2 dX7_reduced_81 rfl ?_
      refine x_getr (pc := 82) C (k := 17) 153 hO.1 rfl rfl wd_745 dX7_reduced_82 (Nat.le_of_ble_eq_true rfl) rfl ?_
      refine x_iload (pc := 85) C 0 dX7_reduced_85 rfl ?_
      obtain ⟨g_2, h⟩ := of_gd h
      refine x_iaload (pc := 87) C hO.2.2.2.2.2.2.2.2.2.2.2.2.2.1 g_2 dX7_reduced_87 ?_
      refine x_iadd (pc := 88) C dX7_reduced_88 ?_
      obtain ⟨g_3, h⟩ := of_gd h
      refine x_laload (pc := 89) C hO.2.2.2.2.2.2.2.2.2.2.1 g_3 dX7_reduced_89 ?_
      refine x_iload_n (pc := 90) C 5 dX7_reduced_90 rfl ?_
      obtain ⟨r_2, hc_3, h⟩ := of_bd h
      refine x_callS1 (pc := 91) C [.long (S_1.2 150 (ix (((10 : Int32) * r_1) + p2))), .long (S_1.2 150 (ix (((10 : Int32) * r_1) + (S_1.1 153 (ix r_1))))), .int p3] [] (c_X7_partOf (b := b) (S_1.2 150 (ix (((10 : Int32) * r_1) + p2))) (S_1.2 150 (ix (((10 : Int32) * r_1) + (S_1.1 153 (ix r_1))))) p3 S_1 _ hc_3) cw_X7_316 vs_X7_partOf ⟨rfl, rfl, Nat.le_of_ble_eq_true rfl, Nat.le_of_ble_eq_true rfl⟩ ⟨Nat.le_refl _, Nat.le_refl _⟩ rfl ⟨rfl, Nat.le_of_ble_eq_true rfl⟩ dX7_reduced_91 (fun hx_6 => ?_)
      exact x_lreturn (pc := 94) C dX7_reduced_94 (of_sp h).1 (of_sp h).2
    · replace h := of_ifn c_1 h
      refine x_aload_n (pc := 42) C 1 dX7_reduced_42 rfl ?_
      refine x_iload (pc := 43) C 0 dX7_reduced_43 rfl ?_
      obtain ⟨⟨r_3, S_2⟩, hc_4, h⟩ := of_bd h
      replace h := of_u2 h
      refine x_callV1 (pc := 45) C (o := 140) [.int x_1] [] (c_X7_lowestOf (b := b) x_1 hO S _ _ hc_4) cw_X7_309 vi_X7_lowestOf ⟨rfl, rfl, Nat.le_of_ble_eq_true rfl, Nat.le_of_ble_eq_true rfl⟩ ⟨Nat.le_refl _, Nat.le_refl _⟩ hO.1 ⟨rfl, rfl, rfl⟩ rfl ⟨rfl, Nat.le_of_ble_eq_true rfl⟩ dX7_reduced_45 (fun hx_7 => ?_)
      exact x_lreturn (pc := 48) C dX7_reduced_48 (of_sp h).1 (of_sp h).2
  refine x_if_eq (pc := 5) C 16 dX7_reduced_5 rfl (fun c_2 => ?_) (fun c_2 => ?_)
  · refine x_iconst (pc := 16) C (v := (-1 : Int32)) dX7_reduced_16 rfl ?_
    refine x_goto (pc := 17) C 35 dX7_reduced_17 rfl ?_
    refine x_sub [0, 1, 2, 3] rfl ?_
    rw [show x_1 = (-1 : Int32) from (ex_1.trans (if_pos c_2))] at kd_1
    exact kd_1
  · refine x_aload_n (pc := 8) C 0 dX7_reduced_8 rfl ?_
    refine x_iload_n (pc := 9) C 2 dX7_reduced_9 rfl ?_
    refine x_callV1 (pc := 10) C (o := 140) [.int p2] [] (c_X7_isVariable (b := b) p2 hO S) cw_X7_257 vi_X7_isVariable ⟨rfl, rfl, Nat.le_of_ble_eq_true rfl, Nat.le_of_ble_eq_true rfl⟩ ⟨Nat.le_refl _, Nat.le_refl _⟩ hO.1 ⟨rfl, rfl, rfl⟩ rfl ⟨rfl, Nat.le_of_ble_eq_true rfl⟩ dX7_reduced_10 (fun hx_2 => ?_)
    refine x_if_ne (pc := 13) C 20 dX7_reduced_13 rfl (fun c_3 => ?_) (fun c_3 => ?_)
    · refine x_iload_n (pc := 20) C 3 dX7_reduced_20 rfl ?_
      refine x_iconst (pc := 21) C (v := (0 : Int32)) dX7_reduced_21 rfl ?_
      refine x_iconst (pc := 22) C (v := (1 : Int32)) dX7_reduced_22 rfl ?_
      refine x_callS1 (pc := 23) C [.int p3, .int (0 : Int32), .int (1 : Int32)] [] (c_X7_isIn (b := b) p3 (0 : Int32) (1 : Int32) S) cw_X7_96 vs_X7_isIn ⟨rfl, rfl, Nat.le_of_ble_eq_true rfl, Nat.le_of_ble_eq_true rfl⟩ ⟨Nat.le_refl _, Nat.le_refl _⟩ rfl ⟨rfl, Nat.le_of_ble_eq_true rfl⟩ dX7_reduced_23 (fun hx_3 => ?_)
      refine x_if_ne (pc := 26) C 34 dX7_reduced_26 rfl (fun c_4 => ?_) (fun c_4 => ?_)
      · refine x_iconst (pc := 34) C (v := (0 : Int32)) dX7_reduced_34 rfl ?_
        refine x_sub [0, 1, 2, 3] rfl ?_
        rw [show x_1 = (0 : Int32) from (((ex_1.trans (if_neg c_2)).trans (if_neg c_3)).trans (if_neg c_4))] at kd_1
        exact kd_1
      · refine x_bipush (pc := 29) C (v := (-2 : Int32)) dX7_reduced_29 rfl ?_
        refine x_goto (pc := 31) C 35 dX7_reduced_31 rfl ?_
        refine x_sub [0, 1, 2, 3] rfl ?_
        rw [show x_1 = (-2 : Int32) from (((ex_1.trans (if_neg c_2)).trans (if_neg c_3)).trans (if_pos c_4))] at kd_1
        exact kd_1
    · refine x_iconst (pc := 16) C (v := (-1 : Int32)) dX7_reduced_16 rfl ?_
      refine x_goto (pc := 17) C 35 dX7_reduced_17 rfl ?_
      refine x_sub [0, 1, 2, 3] rfl ?_
      rw [show x_1 = (-1 : Int32) from ((ex_1.trans (if_neg c_2)).trans (if_pos c_3))] at kd_1
      exact kd_1
set_option maxRecDepth 100000 in
set_option maxHeartbeats 4000000 in
theorem c_X7_row {l : Launch} {G : zz_G} {L : Ly} {b : Nat} (p1 : Int32) (hO : isMo L) (S : Sg) (rf : Int32) (Sf : Sg) (h : f_X7_row p1 S = some (rf, Sf)) : Met l yX7_row (Cond.code yX7_row cX7_row 3 (some .int) :: zz_all) (rmz 1 22) (PC G L b S [.ref (b + 140), .int p1]) (QC G L b Sf (some (.int rf)) True) 0 0 (fun q => b ≤ q) := by
  refine x_met [.ref (b + 140), .int p1] (by decide +kernel) (Nat.le_of_ble_eq_true rfl) fun p e s m args below meth c C => ?_
  unfold f_X7_row at h
  refine x_iload_n (pc := 0) C 1 dX7_row_0 rfl ?_
  refine x_iconst (pc := 1) C (v := (0 : Int32)) dX7_row_1 rfl ?_
  refine x_sipush (pc := 2) C (v := (255 : Int32)) dX7_row_2 rfl ?_
  refine x_callS1 (pc := 5) C [.int p1, .int (0 : Int32), .int (255 : Int32)] [] (c_X7_bound (b := b) p1 (0 : Int32) (255 : Int32) S) cw_X7_216 vs_X7_bound ⟨rfl, rfl, Nat.le_of_ble_eq_true rfl, Nat.le_of_ble_eq_true rfl⟩ ⟨Nat.le_refl _, Nat.le_refl _⟩ rfl ⟨rfl, Nat.le_of_ble_eq_true rfl⟩ dX7_row_5 (fun hx_1 => ?_)
  obtain ⟨v2_1, ev2_1, h⟩ := of_lt h
  refine x_istore_n (pc := 8) C 2 [(2, .int v2_1), (0, .ref (b + 140)), (1, .int p1)] dX7_row_8 rfl (Nat.le_of_ble_eq_true rfl) ev2_1 rfl ?_
  refine x_iload_n (pc := 9) C 0 dX7_row_9 rfl ?_
  obtain ⟨v2_2, ev2_2, h⟩ := of_lt h
  have kd_1 : X p l e (rmz 1 22) s m args below meth c 0 0 (RQ G L b Sf below args s (some (.int rf)) True) 3 G L b S 25 [(0, .ref (b + 140)), (1, .int p1), (2, .int v2_2)] [] := by
    refine x_iload_n (pc := 25) C 2 dX7_row_25 rfl ?_
    refine x_if_eq (pc := 26) C 35 dX7_row_26 rfl (fun c_1 => ?_) (fun c_1 => ?_)
    · replace h := of_ifp c_1 h
      refine x_aload_n (pc := 35) C 0 dX7_row_35 rfl ?_
      refine x_getr (pc := 36) C (k := 38) 165 hO.1 rfl rfl wd_766 dX7_row_36 (Nat.le_of_ble_eq_true rfl) rfl ?_
      refine x_aload_n (pc := 39) C 0 dX7_row_39 rfl ?_
      refine x_geti (pc := 40) C (k := 39) hO.1 rfl rfl wd_767 dX7_row_40 ⟨Nat.le_of_ble_eq_true rfl, rfl⟩ ?_
      refine x_iload_n (pc := 43) C 1 dX7_row_43 rfl ?_
      obtain ⟨g_1, h⟩ := of_gd h
      obtain ⟨S_1, eS_1, h⟩ := of_lt h
      refine x_iastore (pc := 44) C hO.2.2.2.2.2.2.2.2.2.2.2.2.2.2.2.2.2.2.2.2.2.2.2.2.2 g_1 eS_1 dX7_row_44 ?_
      refine x_aload_n (pc := 45) C 0 dX7_row_45 rfl ?_
      refine x_dup (pc := 46) C dX7_row_46 rfl ?_
      refine x_geti (pc := 47) C (k := 39) hO.1 rfl rfl wd_767 dX7_row_47 ⟨Nat.le_of_ble_eq_true rfl, rfl⟩ ?_
      refine x_iconst (pc := 50) C (v := (1 : Int32)) dX7_row_50 rfl ?_
      refine x_iadd (pc := 51) C dX7_row_51 ?_
      obtain ⟨S_2, eS_2, h⟩ := of_lt h
      refine x_puti (pc := 52) C (k := 39) hO.1 rfl rfl wd_767 dX7_row_52 ⟨Nat.le_of_ble_eq_true rfl, rfl⟩ eS_2 ?_
      refine x_aload_n (pc := 55) C 0 dX7_row_55 rfl ?_
      refine x_geti (pc := 56) C (k := 39) hO.1 rfl rfl wd_767 dX7_row_56 ⟨Nat.le_of_ble_eq_true rfl, rfl⟩ ?_
      exact x_ireturn (pc := 59) C dX7_row_59 (of_sp h).1 (of_sp h).2
    · replace h := of_ifn c_1 h
      refine x_aload_n (pc := 29) C 0 dX7_row_29 rfl ?_
      refine x_iload_n (pc := 30) C 2 dX7_row_30 rfl ?_
      obtain ⟨⟨r_1, S_3⟩, hc_1, h⟩ := of_bd h
      replace h := of_u2 h
      refine x_callV1 (pc := 31) C (o := 140) [.int v2_2] [] (c_X7_no (b := b) v2_2 hO S _ _ hc_1) cw_X7_213 vi_X7_no ⟨rfl, rfl, Nat.le_of_ble_eq_true rfl, Nat.le_of_ble_eq_true rfl⟩ ⟨Nat.le_refl _, Nat.le_refl _⟩ hO.1 ⟨rfl, rfl, rfl⟩ rfl ⟨rfl, Nat.le_of_ble_eq_true rfl⟩ dX7_row_31 (fun hx_2 => ?_)
      exact x_ireturn (pc := 34) C dX7_row_34 (of_sp h).1 (of_sp h).2
  refine x_if_ne (pc := 10) C 25 dX7_row_10 rfl (fun c_2 => ?_) (fun c_2 => ?_)
  · refine x_sub [1, 2, 0] rfl ?_
    rw [show v2_2 = v2_1 from (ev2_2.trans (if_neg c_2))] at kd_1
    exact kd_1
  · refine x_aload_n (pc := 13) C 1 dX7_row_13 rfl ?_
    refine x_geti (pc := 14) C (k := 39) hO.1 rfl rfl wd_767 dX7_row_14 ⟨Nat.le_of_ble_eq_true rfl, rfl⟩ ?_
    refine x_bipush (pc := 17) C (v := (32 : Int32)) dX7_row_17 rfl ?_
    refine x_icmp_ne (pc := 19) C 25 dX7_row_19 rfl (fun c_3 => ?_) (fun c_3 => ?_)
    · refine x_sub [1, 2, 0] rfl ?_
      rw [show v2_2 = v2_1 from ((ev2_2.trans (if_pos c_2)).trans (if_neg c_3))] at kd_1
      exact kd_1
    · refine x_bipush (pc := 22) C (v := (-6 : Int32)) dX7_row_22 rfl ?_
      refine x_istore_n (pc := 24) C 2 [(2, .int (-6 : Int32)), (0, .ref (b + 140)), (1, .int p1)] dX7_row_24 rfl (Nat.le_of_ble_eq_true rfl) rfl rfl ?_
      refine x_sub [1, 2, 0] rfl ?_
      rw [show v2_2 = (-6 : Int32) from ((ev2_2.trans (if_pos c_2)).trans (if_pos c_3))] at kd_1
      exact kd_1
set_option maxRecDepth 100000 in
set_option maxHeartbeats 4000000 in
theorem c_X7_rule {l : Launch} {G : zz_G} {L : Ly} {b : Nat} (p1 : Int32) (hO : isMo L) (S : Sg) (rf : Int32) (Sf : Sg) (h : f_X7_rule p1 S = some (rf, Sf)) : Met l yX7_rule (Cond.code yX7_rule cX7_rule 3 (some .int) :: zz_all) (rmz 1 22) (PC G L b S [.ref (b + 140), .int p1]) (QC G L b Sf (some (.int rf)) True) 0 0 (fun q => b ≤ q) := by
  refine x_met [.ref (b + 140), .int p1] (by decide +kernel) (Nat.le_of_ble_eq_true rfl) fun p e s m args below meth c C => ?_
  unfold f_X7_rule at h
  refine x_iload_n (pc := 0) C 1 dX7_rule_0 rfl ?_
  refine x_iconst (pc := 1) C (v := (0 : Int32)) dX7_rule_1 rfl ?_
  refine x_iconst (pc := 2) C (v := (3 : Int32)) dX7_rule_2 rfl ?_
  refine x_callS1 (pc := 3) C [.int p1, .int (0 : Int32), .int (3 : Int32)] [] (c_X7_isIn (b := b) p1 (0 : Int32) (3 : Int32) S) cw_X7_96 vs_X7_isIn ⟨rfl, rfl, Nat.le_of_ble_eq_true rfl, Nat.le_of_ble_eq_true rfl⟩ ⟨Nat.le_refl _, Nat.le_refl _⟩ rfl ⟨rfl, Nat.le_of_ble_eq_true rfl⟩ dX7_rule_3 (fun hx_1 => ?_)
  refine x_if_ne (pc := 6) C 16 dX7_rule_6 rfl (fun c_1 => ?_) (fun c_1 => ?_)
  · replace h := of_ifn c_1 h
    refine x_aload_n (pc := 16) C 0 dX7_rule_16 rfl ?_
    refine x_geti (pc := 17) C (k := 9) hO.1 rfl rfl wd_737 dX7_rule_17 ⟨Nat.le_of_ble_eq_true rfl, rfl⟩ ?_
    obtain ⟨v2_1, ev2_1, h⟩ := of_lt h
    refine x_istore_n (pc := 20) C 2 [(2, .int v2_1), (0, .ref (b + 140)), (1, .int p1)] dX7_rule_20 rfl (Nat.le_of_ble_eq_true rfl) ev2_1 rfl ?_
    refine x_aload_n (pc := 21) C 1 dX7_rule_21 rfl ?_
    refine x_iload_n (pc := 22) C 2 dX7_rule_22 rfl ?_
    obtain ⟨S_1, eS_1, h⟩ := of_lt h
    refine x_puti (pc := 23) C (k := 9) hO.1 rfl rfl wd_737 dX7_rule_23 ⟨Nat.le_of_ble_eq_true rfl, rfl⟩ eS_1 ?_
    refine x_iload_n (pc := 26) C 0 dX7_rule_26 rfl ?_
    exact x_ireturn (pc := 27) C dX7_rule_27 (of_sp h).1 (of_sp h).2
  · replace h := of_ifp c_1 h
    refine x_aload_n (pc := 9) C 0 dX7_rule_9 rfl ?_
    refine x_bipush (pc := 10) C (v := (-2 : Int32)) dX7_rule_10 rfl ?_
    obtain ⟨⟨r_1, S_2⟩, hc_1, h⟩ := of_bd h
    replace h := of_u2 h
    refine x_callV1 (pc := 12) C (o := 140) [.int (-2 : Int32)] [] (c_X7_no (b := b) (-2 : Int32) hO S _ _ hc_1) cw_X7_213 vi_X7_no ⟨rfl, rfl, Nat.le_of_ble_eq_true rfl, Nat.le_of_ble_eq_true rfl⟩ ⟨Nat.le_refl _, Nat.le_refl _⟩ hO.1 ⟨rfl, rfl, rfl⟩ rfl ⟨rfl, Nat.le_of_ble_eq_true rfl⟩ dX7_rule_12 (fun hx_2 => ?_)
    exact x_ireturn (pc := 15) C dX7_rule_15 (of_sp h).1 (of_sp h).2
set_option maxRecDepth 100000 in
set_option maxHeartbeats 4000000 in
theorem c_X7_share {l : Launch} {G : zz_G} {L : Ly} {b : Nat} (p1 : Int32) (hO : isMo L) (S : Sg) (rf : Int64) (Sf : Sg) (h : f_X7_share p1 S = some (rf, Sf)) : Met l yX7_share (Cond.code yX7_share cX7_share 2 (some .long) :: zz_all) (rmz 8 197) (PC G L b S [.ref (b + 140), .int p1]) (QC G L b Sf (some (.long rf)) True) 0 0 (fun q => b ≤ q) := by
  refine x_met [.ref (b + 140), .int p1] (by decide +kernel) (Nat.le_of_ble_eq_true rfl) fun p e s m args below meth c C => ?_
  unfold f_X7_share at h
  refine x_iload_n (pc := 0) C 1 dX7_share_0 rfl ?_
  refine x_iconst (pc := 1) C (v := (0 : Int32)) dX7_share_1 rfl ?_
  refine x_iconst (pc := 2) C (v := (1 : Int32)) dX7_share_2 rfl ?_
  refine x_callS1 (pc := 3) C [.int p1, .int (0 : Int32), .int (1 : Int32)] [] (c_X7_isIn (b := b) p1 (0 : Int32) (1 : Int32) S) cw_X7_96 vs_X7_isIn ⟨rfl, rfl, Nat.le_of_ble_eq_true rfl, Nat.le_of_ble_eq_true rfl⟩ ⟨Nat.le_refl _, Nat.le_refl _⟩ rfl ⟨rfl, Nat.le_of_ble_eq_true rfl⟩ dX7_share_3 (fun hx_1 => ?_)
  refine x_if_ne (pc := 6) C 16 dX7_share_6 rfl (fun c_1 => ?_) (fun c_1 => ?_)
  · replace h := of_ifn c_1 h
    refine x_aload_n (pc := 16) C 0 dX7_share_16 rfl ?_
    obtain ⟨S_1, hc_1, h⟩ := of_bd h
    refine x_callV_ (pc := 17) C (o := 140) [] [] (c_X7_findSums (b := b) hO S _ hc_1) cw_X7_297 vi_X7_findSums ⟨rfl, rfl, Nat.le_of_ble_eq_true rfl, Nat.le_of_ble_eq_true rfl⟩ ⟨Nat.le_refl _, Nat.le_refl _⟩ hO.1 ⟨rfl, rfl, rfl⟩ rfl ⟨rfl, Nat.le_of_ble_eq_true rfl⟩ dX7_share_17 (fun hx_2 => ?_)
    refine x_sipush (pc := 20) C (v := (255 : Int32)) dX7_share_20 rfl ?_
    refine x_aload_n (pc := 23) C 0 dX7_share_23 rfl ?_
    refine x_getr (pc := 24) C (k := 33) 160 hO.1 rfl rfl wd_761 dX7_share_24 (Nat.le_of_ble_eq_true rfl) rfl ?_
    refine x_iconst (pc := 27) C (v := (2 : Int32)) dX7_share_27 rfl ?_
    refine x_iaload (pc := 28) C hO.2.2.2.2.2.2.2.2.2.2.2.2.2.2.2.2.2.2.2.2.1 (by decide) dX7_share_28 ?_
    refine x_isub (pc := 29) C dX7_share_29 ?_
    refine x_i2l (pc := 30) C dX7_share_30 ?_
    refine x_ldc2 (pc := 31) C wd_1224 dX7_share_31 ?_
    refine x_iload_n (pc := 34) C 1 dX7_share_34 rfl ?_
    obtain ⟨r_1, hc_2, h⟩ := of_bd h
    refine x_callS1 (pc := 35) C [.long ((255 : Int32) - (S_1.1 160 (ix (2 : Int32)))).toInt64, .long (255 : Int64), .int p1] [] (c_X7_partOf (b := b) (((255 : Int32) - (S_1.1 160 (ix (2 : Int32)))).toInt64) (255 : Int64) p1 S_1 _ hc_2) cw_X7_316 vs_X7_partOf ⟨rfl, rfl, Nat.le_of_ble_eq_true rfl, Nat.le_of_ble_eq_true rfl⟩ ⟨Nat.le_refl _, Nat.le_refl _⟩ rfl ⟨rfl, Nat.le_of_ble_eq_true rfl⟩ dX7_share_35 (fun hx_3 => ?_)
    exact x_lreturn (pc := 38) C dX7_share_38 (of_sp h).1 (of_sp h).2
  · replace h := of_ifp c_1 h
    refine x_aload_n (pc := 9) C 0 dX7_share_9 rfl ?_
    refine x_bipush (pc := 10) C (v := (-2 : Int32)) dX7_share_10 rfl ?_
    obtain ⟨⟨r_2, S_2⟩, hc_3, h⟩ := of_bd h
    replace h := of_u2 h
    refine x_callV1 (pc := 12) C (o := 140) [.int (-2 : Int32)] [] (c_X7_lowestOf (b := b) (-2 : Int32) hO S _ _ hc_3) cw_X7_309 vi_X7_lowestOf ⟨rfl, rfl, Nat.le_of_ble_eq_true rfl, Nat.le_of_ble_eq_true rfl⟩ ⟨Nat.le_refl _, Nat.le_refl _⟩ hO.1 ⟨rfl, rfl, rfl⟩ rfl ⟨rfl, Nat.le_of_ble_eq_true rfl⟩ dX7_share_12 (fun hx_4 => ?_)
    exact x_lreturn (pc := 15) C dX7_share_15 (of_sp h).1 (of_sp h).2
set_option maxRecDepth 100000 in
set_option maxHeartbeats 4000000 in
theorem c_X7_sums {l : Launch} {G : zz_G} {L : Ly} {b : Nat} (p1 : Int32) (hO : isMo L) (S : Sg) (rf : Int32) (Sf : Sg) (h : f_X7_sums p1 S = some (rf, Sf)) : Met l yX7_sums (Cond.code yX7_sums cX7_sums 2 (some .int) :: zz_all) (rmz 8 197) (PC G L b S [.ref (b + 140), .int p1]) (QC G L b Sf (some (.int rf)) True) 0 0 (fun q => b ≤ q) := by
  refine x_met [.ref (b + 140), .int p1] (by decide +kernel) (Nat.le_of_ble_eq_true rfl) fun p e s m args below meth c C => ?_
  unfold f_X7_sums at h
  refine x_iload_n (pc := 0) C 1 dX7_sums_0 rfl ?_
  refine x_iconst (pc := 1) C (v := (0 : Int32)) dX7_sums_1 rfl ?_
  refine x_iconst (pc := 2) C (v := (3 : Int32)) dX7_sums_2 rfl ?_
  refine x_callS1 (pc := 3) C [.int p1, .int (0 : Int32), .int (3 : Int32)] [] (c_X7_isIn (b := b) p1 (0 : Int32) (3 : Int32) S) cw_X7_96 vs_X7_isIn ⟨rfl, rfl, Nat.le_of_ble_eq_true rfl, Nat.le_of_ble_eq_true rfl⟩ ⟨Nat.le_refl _, Nat.le_refl _⟩ rfl ⟨rfl, Nat.le_of_ble_eq_true rfl⟩ dX7_sums_3 (fun hx_1 => ?_)
  refine x_if_ne (pc := 6) C 16 dX7_sums_6 rfl (fun c_1 => ?_) (fun c_1 => ?_)
  · replace h := of_ifn c_1 h
    refine x_aload_n (pc := 16) C 0 dX7_sums_16 rfl ?_
    obtain ⟨S_1, hc_1, h⟩ := of_bd h
    refine x_callV_ (pc := 17) C (o := 140) [] [] (c_X7_findSums (b := b) hO S _ hc_1) cw_X7_297 vi_X7_findSums ⟨rfl, rfl, Nat.le_of_ble_eq_true rfl, Nat.le_of_ble_eq_true rfl⟩ ⟨Nat.le_refl _, Nat.le_refl _⟩ hO.1 ⟨rfl, rfl, rfl⟩ rfl ⟨rfl, Nat.le_of_ble_eq_true rfl⟩ dX7_sums_17 (fun hx_2 => ?_)
    refine x_iload_n (pc := 20) C 1 dX7_sums_20 rfl ?_
    refine x_if_ne (pc := 21) C 31 dX7_sums_21 rfl (fun c_2 => ?_) (fun c_2 => ?_)
    · replace h := of_ifn c_2 h
      refine x_iload_n (pc := 31) C 1 dX7_sums_31 rfl ?_
      refine x_iconst (pc := 32) C (v := (1 : Int32)) dX7_sums_32 rfl ?_
      obtain ⟨x_1, ex_1, h⟩ := of_lt h
      have kd_1 : X p l e (rmz 8 197) s m args below meth c 0 0 (RQ G L b Sf below args s (some (.int rf)) True) 2 G L b S_1 65 [] [.int x_1] := by
        exact x_ireturn (pc := 65) C dX7_sums_65 (of_sp h).1 (of_sp h).2
      refine x_icmp_ne (pc := 33) C 45 dX7_sums_33 rfl (fun c_3 => ?_) (fun c_3 => ?_)
      · refine x_iload_n (pc := 45) C 1 dX7_sums_45 rfl ?_
        refine x_iconst (pc := 46) C (v := (2 : Int32)) dX7_sums_46 rfl ?_
        refine x_icmp_ne (pc := 47) C 59 dX7_sums_47 rfl (fun c_4 => ?_) (fun c_4 => ?_)
        · refine x_aload_n (pc := 59) C 0 dX7_sums_59 rfl ?_
          refine x_getr (pc := 60) C (k := 33) 160 hO.1 rfl rfl wd_761 dX7_sums_60 (Nat.le_of_ble_eq_true rfl) rfl ?_
          refine x_iconst (pc := 63) C (v := (0 : Int32)) dX7_sums_63 rfl ?_
          refine x_iaload (pc := 64) C hO.2.2.2.2.2.2.2.2.2.2.2.2.2.2.2.2.2.2.2.2.1 (by decide) dX7_sums_64 ?_
          refine x_sub [] rfl ?_
          rw [show x_1 = (S_1.1 160 (ix (0 : Int32))) from ((ex_1.trans (if_neg c_3)).trans (if_neg c_4))] at kd_1
          exact kd_1
        · refine x_aload_n (pc := 50) C 0 dX7_sums_50 rfl ?_
          refine x_getr (pc := 51) C (k := 33) 160 hO.1 rfl rfl wd_761 dX7_sums_51 (Nat.le_of_ble_eq_true rfl) rfl ?_
          refine x_iconst (pc := 54) C (v := (2 : Int32)) dX7_sums_54 rfl ?_
          refine x_iaload (pc := 55) C hO.2.2.2.2.2.2.2.2.2.2.2.2.2.2.2.2.2.2.2.2.1 (by decide) dX7_sums_55 ?_
          refine x_goto (pc := 56) C 65 dX7_sums_56 rfl ?_
          refine x_sub [] rfl ?_
          rw [show x_1 = (S_1.1 160 (ix (2 : Int32))) from ((ex_1.trans (if_neg c_3)).trans (if_pos c_4))] at kd_1
          exact kd_1
      · refine x_aload_n (pc := 36) C 0 dX7_sums_36 rfl ?_
        refine x_getr (pc := 37) C (k := 33) 160 hO.1 rfl rfl wd_761 dX7_sums_37 (Nat.le_of_ble_eq_true rfl) rfl ?_
        refine x_iconst (pc := 40) C (v := (1 : Int32)) dX7_sums_40 rfl ?_
        refine x_iaload (pc := 41) C hO.2.2.2.2.2.2.2.2.2.2.2.2.2.2.2.2.2.2.2.2.1 (by decide) dX7_sums_41 ?_
        refine x_goto (pc := 42) C 65 dX7_sums_42 rfl ?_
        refine x_sub [] rfl ?_
        rw [show x_1 = (S_1.1 160 (ix (1 : Int32))) from (ex_1.trans (if_pos c_3))] at kd_1
        exact kd_1
    · replace h := of_ifp c_2 h
      refine x_aload_n (pc := 24) C 0 dX7_sums_24 rfl ?_
      obtain ⟨r_1, hc_2, h⟩ := of_bd h
      refine x_callV1 (pc := 25) C (o := 140) [] [] (c_X7_firstToJoin (b := b) hO S_1 _ hc_2) cw_X7_300 vi_X7_firstToJoin ⟨rfl, rfl, Nat.le_of_ble_eq_true rfl, Nat.le_of_ble_eq_true rfl⟩ ⟨Nat.le_refl _, Nat.le_refl _⟩ hO.1 ⟨rfl, rfl, rfl⟩ rfl ⟨rfl, Nat.le_of_ble_eq_true rfl⟩ dX7_sums_25 (fun hx_3 => ?_)
      refine x_goto (pc := 28) C 65 dX7_sums_28 rfl ?_
      exact x_ireturn (pc := 65) C dX7_sums_65 (of_sp h).1 (of_sp h).2
  · replace h := of_ifp c_1 h
    refine x_aload_n (pc := 9) C 0 dX7_sums_9 rfl ?_
    refine x_bipush (pc := 10) C (v := (-2 : Int32)) dX7_sums_10 rfl ?_
    obtain ⟨⟨r_2, S_2⟩, hc_3, h⟩ := of_bd h
    replace h := of_u2 h
    refine x_callV1 (pc := 12) C (o := 140) [.int (-2 : Int32)] [] (c_X7_no (b := b) (-2 : Int32) hO S _ _ hc_3) cw_X7_213 vi_X7_no ⟨rfl, rfl, Nat.le_of_ble_eq_true rfl, Nat.le_of_ble_eq_true rfl⟩ ⟨Nat.le_refl _, Nat.le_refl _⟩ hO.1 ⟨rfl, rfl, rfl⟩ rfl ⟨rfl, Nat.le_of_ble_eq_true rfl⟩ dX7_sums_12 (fun hx_4 => ?_)
    exact x_ireturn (pc := 15) C dX7_sums_15 (of_sp h).1 (of_sp h).2
set_option maxRecDepth 100000 in
set_option maxHeartbeats 4000000 in
theorem c_X7_tells {l : Launch} {G : zz_G} {L : Ly} {b : Nat} (p1 : Int32) (p2 : Int32) (hO : isMo L) (S : Sg) (rf : Int32) (Sf : Sg) (h : f_X7_tells p1 p2 S = some (rf, Sf)) : Met l yX7_tells (Cond.code yX7_tells cX7_tells 5 (some .int) :: zz_all) (rmz 2 42) (PC G L b S [.ref (b + 140), .int p1, .int p2]) (QC G L b Sf (some (.int rf)) True) 0 0 (fun q => b ≤ q) := by
  refine x_met [.ref (b + 140), .int p1, .int p2] (by decide +kernel) (Nat.le_of_ble_eq_true rfl) fun p e s m args below meth c C => ?_
  unfold f_X7_tells at h
  refine x_iload_n (pc := 0) C 1 dX7_tells_0 rfl ?_
  refine x_callS1 (pc := 1) C [.int p1] [] (c_X7_isPerson (b := b) p1 S) cw_X7_244 vs_X7_isPerson ⟨rfl, rfl, Nat.le_of_ble_eq_true rfl, Nat.le_of_ble_eq_true rfl⟩ ⟨Nat.le_refl _, Nat.le_refl _⟩ rfl ⟨rfl, Nat.le_of_ble_eq_true rfl⟩ dX7_tells_1 (fun hx_1 => ?_)
  obtain ⟨x_1, ex_1, h⟩ := of_lt h
  have kd_1 : X p l e (rmz 2 42) s m args below meth c 0 0 (RQ G L b Sf below args s (some (.int rf)) True) 5 G L b S 18 [(0, .ref (b + 140)), (1, .int p1), (2, .int p2)] [.int x_1] := by
    refine x_istore_n (pc := 18) C 3 [(3, .int x_1), (0, .ref (b + 140)), (1, .int p1), (2, .int p2)] dX7_tells_18 rfl (Nat.le_of_ble_eq_true rfl) rfl rfl ?_
    refine x_iload_n (pc := 19) C 0 dX7_tells_19 rfl ?_
    obtain ⟨J_1, eJ_1, h⟩ := of_lt h
    have kJ_1 : ∀ (v3_1 : Int32), J_1 v3_1 = some (rf, Sf) → X p l e (rmz 2 42) s m args below meth c 0 0 (RQ G L b Sf below args s (some (.int rf)) True) 5 G L b S 39 [(0, .ref (b + 140)), (1, .int p1), (2, .int p2), (3, .int v3_1)] [] := by
      intro v3_1 h
      replace h := of_J1 eJ_1 h
      refine x_iload_n (pc := 39) C 3 dX7_tells_39 rfl ?_
      refine x_if_eq (pc := 40) C 49 dX7_tells_40 rfl (fun c_1 => ?_) (fun c_1 => ?_)
      · replace h := of_ifp c_1 h
        refine x_aload_n (pc := 49) C 0 dX7_tells_49 rfl ?_
        refine x_getr (pc := 50) C (k := 1) 142 hO.1 rfl rfl wd_729 dX7_tells_50 (Nat.le_of_ble_eq_true rfl) rfl ?_
        refine x_aload_n (pc := 53) C 0 dX7_tells_53 rfl ?_
        refine x_getr (pc := 54) C (k := 4) 145 hO.1 rfl rfl wd_732 dX7_tells_54 (Nat.le_of_ble_eq_true rfl) rfl ?_
        refine x_iload_n (pc := 57) C 1 dX7_tells_57 rfl ?_
        obtain ⟨g_1, h⟩ := of_gd h
        refine x_iaload (pc := 58) C hO.2.2.2.2.2.1 g_1 dX7_tells_58 ?_
        obtain ⟨g_2, h⟩ := of_gd h
        refine x_iaload (pc := 59) C hO.2.2.1 g_2 dX7_tells_59 ?_
        obtain ⟨v4_1, ev4_1, h⟩ := of_lt h
        refine x_istore (pc := 60) C [(4, .int v4_1), (0, .ref (b + 140)), (1, .int p1), (2, .int p2), (3, .int v3_1)] dX7_tells_60 (Nat.le_of_ble_eq_true rfl) ev4_1 rfl ?_
        refine x_aload_n (pc := 62) C 1 dX7_tells_62 rfl ?_
        refine x_iload_n (pc := 63) C 2 dX7_tells_63 rfl ?_
        refine x_iload_n (pc := 64) C 3 dX7_tells_64 rfl ?_
        obtain ⟨S_1, hc_1, h⟩ := of_bd h
        refine x_callV_ (pc := 65) C (o := 140) [.int p1, .int p2] [] (c_X7_isTold (b := b) p1 p2 hO S _ hc_1) cw_X7_250 vi_X7_isTold ⟨rfl, rfl, Nat.le_of_ble_eq_true rfl, Nat.le_of_ble_eq_true rfl⟩ ⟨Nat.le_refl _, Nat.le_refl _⟩ hO.1 ⟨rfl, rfl, rfl⟩ rfl ⟨rfl, Nat.le_of_ble_eq_true rfl⟩ dX7_tells_65 (fun hx_3 => ?_)
        refine x_iload (pc := 68) C 0 dX7_tells_68 rfl ?_
        exact x_ireturn (pc := 70) C dX7_tells_70 (of_sp h).1 (of_sp h).2
      · replace h := of_ifn c_1 h
        refine x_aload_n (pc := 43) C 0 dX7_tells_43 rfl ?_
        refine x_iload_n (pc := 44) C 3 dX7_tells_44 rfl ?_
        obtain ⟨⟨r_1, S_2⟩, hc_2, h⟩ := of_bd h
        replace h := of_u2 h
        refine x_callV1 (pc := 45) C (o := 140) [.int v3_1] [] (c_X7_no (b := b) v3_1 hO S _ _ hc_2) cw_X7_213 vi_X7_no ⟨rfl, rfl, Nat.le_of_ble_eq_true rfl, Nat.le_of_ble_eq_true rfl⟩ ⟨Nat.le_refl _, Nat.le_refl _⟩ hO.1 ⟨rfl, rfl, rfl⟩ rfl ⟨rfl, Nat.le_of_ble_eq_true rfl⟩ dX7_tells_45 (fun hx_4 => ?_)
        exact x_ireturn (pc := 48) C dX7_tells_48 (of_sp h).1 (of_sp h).2
    refine x_if_ne (pc := 20) C 39 dX7_tells_20 rfl (fun c_2 => ?_) (fun c_2 => ?_)
    · replace h := of_ifn c_2 h
      exact x_sub [1, 2, 3, 0] rfl (kJ_1 _ h)
    · replace h := of_ifp c_2 h
      refine x_aload_n (pc := 23) C 1 dX7_tells_23 rfl ?_
      refine x_aload_n (pc := 24) C 1 dX7_tells_24 rfl ?_
      refine x_getr (pc := 25) C (k := 4) 145 hO.1 rfl rfl wd_732 dX7_tells_25 (Nat.le_of_ble_eq_true rfl) rfl ?_
      refine x_iload_n (pc := 28) C 2 dX7_tells_28 rfl ?_
      obtain ⟨g_3, h⟩ := of_gd h
      refine x_iaload (pc := 29) C hO.2.2.2.2.2.1 g_3 dX7_tells_29 ?_
      obtain ⟨r_2, hc_3, h⟩ := of_bd h
      refine x_callV1 (pc := 30) C (o := 140) [.int (S.1 145 (ix p1))] [] (c_X7_isFree (b := b) (S.1 145 (ix p1)) hO S _ hc_3) cw_X7_247 vi_X7_isFree ⟨rfl, rfl, Nat.le_of_ble_eq_true rfl, Nat.le_of_ble_eq_true rfl⟩ ⟨Nat.le_refl _, Nat.le_refl _⟩ hO.1 ⟨rfl, rfl, rfl⟩ rfl ⟨rfl, Nat.le_of_ble_eq_true rfl⟩ dX7_tells_30 (fun hx_5 => ?_)
      obtain ⟨v3_2, ev3_2, h⟩ := of_lt h
      have kd_2 : X p l e (rmz 2 42) s m args below meth c 0 0 (RQ G L b Sf below args s (some (.int rf)) True) 5 G L b S 39 [(0, .ref (b + 140)), (1, .int p1), (2, .int p2), (3, .int v3_2)] [] := by
        exact x_sub [0, 1, 2, 3] rfl (kJ_1 _ h)
      refine x_if_ne (pc := 33) C 39 dX7_tells_33 rfl (fun c_3 => ?_) (fun c_3 => ?_)
      · refine x_sub [1, 2, 3, 0] rfl ?_
        rw [show v3_2 = x_1 from (ev3_2.trans (if_neg c_3))] at kd_2
        exact kd_2
      · refine x_bipush (pc := 36) C (v := (-3 : Int32)) dX7_tells_36 rfl ?_
        refine x_istore_n (pc := 38) C 3 [(3, .int (-3 : Int32)), (0, .ref (b + 140)), (1, .int p1), (2, .int p2)] dX7_tells_38 rfl (Nat.le_of_ble_eq_true rfl) rfl rfl ?_
        refine x_sub [1, 2, 3, 0] rfl ?_
        rw [show v3_2 = (-3 : Int32) from (ev3_2.trans (if_pos c_3))] at kd_2
        exact kd_2
  refine x_if_ne (pc := 4) C 11 dX7_tells_4 rfl (fun c_4 => ?_) (fun c_4 => ?_)
  · refine x_iload_n (pc := 11) C 2 dX7_tells_11 rfl ?_
    refine x_iconst (pc := 12) C (v := (0 : Int32)) dX7_tells_12 rfl ?_
    refine x_bipush (pc := 13) C (v := (99 : Int32)) dX7_tells_13 rfl ?_
    refine x_callS1 (pc := 15) C [.int p2, .int (0 : Int32), .int (99 : Int32)] [] (c_X7_bound (b := b) p2 (0 : Int32) (99 : Int32) S) cw_X7_216 vs_X7_bound ⟨rfl, rfl, Nat.le_of_ble_eq_true rfl, Nat.le_of_ble_eq_true rfl⟩ ⟨Nat.le_refl _, Nat.le_refl _⟩ rfl ⟨rfl, Nat.le_of_ble_eq_true rfl⟩ dX7_tells_15 (fun hx_2 => ?_)
    refine x_sub [0, 1, 2] rfl ?_
    rw [show x_1 = (f_X7_bound p2 (0 : Int32) (99 : Int32)) from (ex_1.trans (if_neg c_4))] at kd_1
    exact kd_1
  · refine x_iconst (pc := 7) C (v := (-1 : Int32)) dX7_tells_7 rfl ?_
    refine x_goto (pc := 8) C 18 dX7_tells_8 rfl ?_
    refine x_sub [0, 1, 2] rfl ?_
    rw [show x_1 = (-1 : Int32) from (ex_1.trans (if_pos c_4))] at kd_1
    exact kd_1
set_option maxRecDepth 100000 in
set_option maxHeartbeats 4000000 in
theorem l_X7_two_55 {p : Program} {l : Launch} {e : Env} {s : State} {m : MethodId} {args : Array Value} {below : List Frame} {meth : Method} {c : Code} {G : zz_G} {L : Ly} {b : Nat} (C : CX p G s m args meth c cX7_two yX7_two 5 (some .int)) (hO : isMo L) (S : Sg) (rf : Int32) (Sf : Sg) : ∀ (n : Nat) (v4 : Int32) {z}, L_X7_two_55 S n v4 = some z → (∀ q, z = .inl q → q.1 = rf ∧ q.2 = Sf) → (z = .inr () → X p l e (rmz 12 283) s m args below meth c 0 0 (RQ G L b Sf below args s (some (.int rf)) True) 5 G L b S 130 [] []) → X p l e (rmz 12 283) s m args below meth c 0 0 (RQ G L b Sf below args s (some (.int rf)) True) 5 G L b S 55 [(0, .ref (b + 140)), (4, .int v4)] [] := by
  intro n
  induction n with
  | zero =>
    intro v4 z h
    exact of_none h
  | succ n ih =>
    intro v4 z h hr hx
    rw [L_X7_two_55] at h
    refine x_iload (pc := 55) C 1 dX7_two_55 rfl ?_
    refine x_iconst (pc := 57) C (v := (4 : Int32)) dX7_two_57 rfl ?_
    refine x_icmp_ge (pc := 58) C 130 dX7_two_58 rfl (fun c_1 => ?_) (fun c_1 => ?_)
    · replace h := of_ifn c_1 h
      exact x_sub [] rfl (hx (of_s1 h).symm)
    · replace h := of_ifp c_1 h
      refine x_aload_n (pc := 61) C 0 dX7_two_61 rfl ?_
      refine x_getr (pc := 62) C (k := 37) 164 hO.1 rfl rfl wd_765 dX7_two_62 (Nat.le_of_ble_eq_true rfl) rfl ?_
      refine x_iconst (pc := 65) C (v := (2 : Int32)) dX7_two_65 rfl ?_
      refine x_iload (pc := 66) C 1 dX7_two_66 rfl ?_
      refine x_iconst (pc := 68) C (v := (2 : Int32)) dX7_two_68 rfl ?_
      refine x_ixor (pc := 69) C dX7_two_69 ?_
      refine x_imul (pc := 70) C dX7_two_70 ?_
      obtain ⟨g_1, h⟩ := of_gd h
      refine x_iaload (pc := 71) C hO.2.2.2.2.2.2.2.2.2.2.2.2.2.2.2.2.2.2.2.2.2.2.2.2.1 g_1 dX7_two_71 ?_
      refine x_aload_n (pc := 72) C 0 dX7_two_72 rfl ?_
      refine x_getr (pc := 73) C (k := 37) 164 hO.1 rfl rfl wd_765 dX7_two_73 (Nat.le_of_ble_eq_true rfl) rfl ?_
      refine x_iconst (pc := 76) C (v := (2 : Int32)) dX7_two_76 rfl ?_
      refine x_iload (pc := 77) C 1 dX7_two_77 rfl ?_
      refine x_imul (pc := 79) C dX7_two_79 ?_
      obtain ⟨g_2, h⟩ := of_gd h
      refine x_iaload (pc := 80) C hO.2.2.2.2.2.2.2.2.2.2.2.2.2.2.2.2.2.2.2.2.2.2.2.2.1 g_2 dX7_two_80 ?_
      refine x_icmp_gt (pc := 81) C 124 dX7_two_81 rfl (fun c_2 => ?_) (fun c_2 => ?_)
      · replace h := of_ifp c_2 h
        obtain ⟨v4_1, ev4_1, h⟩ := of_lt h
        refine x_iinc (pc := 124) C (w := (1 : Int32)) 1 [(4, .int v4_1), (0, .ref (b + 140))] dX7_two_124 rfl rfl (Nat.le_of_ble_eq_true rfl) ev4_1 rfl ?_
        refine x_goto (pc := 127) C 55 dX7_two_127 rfl ?_
        exact x_sub [1, 0] rfl (ih _ h hr hx)
      · replace h := of_ifn c_2 h
        refine x_aload_n (pc := 84) C 0 dX7_two_84 rfl ?_
        refine x_getr (pc := 85) C (k := 37) 164 hO.1 rfl rfl wd_765 dX7_two_85 (Nat.le_of_ble_eq_true rfl) rfl ?_
        refine x_iconst (pc := 88) C (v := (2 : Int32)) dX7_two_88 rfl ?_
        refine x_iload (pc := 89) C 1 dX7_two_89 rfl ?_
        refine x_iconst (pc := 91) C (v := (1 : Int32)) dX7_two_91 rfl ?_
        refine x_ixor (pc := 92) C dX7_two_92 ?_
        refine x_imul (pc := 93) C dX7_two_93 ?_
        refine x_iconst (pc := 94) C (v := (1 : Int32)) dX7_two_94 rfl ?_
        refine x_iadd (pc := 95) C dX7_two_95 ?_
        obtain ⟨g_3, h⟩ := of_gd h
        refine x_iaload (pc := 96) C hO.2.2.2.2.2.2.2.2.2.2.2.2.2.2.2.2.2.2.2.2.2.2.2.2.1 g_3 dX7_two_96 ?_
        refine x_aload_n (pc := 97) C 0 dX7_two_97 rfl ?_
        refine x_getr (pc := 98) C (k := 37) 164 hO.1 rfl rfl wd_765 dX7_two_98 (Nat.le_of_ble_eq_true rfl) rfl ?_
        refine x_iconst (pc := 101) C (v := (2 : Int32)) dX7_two_101 rfl ?_
        refine x_iload (pc := 102) C 1 dX7_two_102 rfl ?_
        refine x_imul (pc := 104) C dX7_two_104 ?_
        refine x_iconst (pc := 105) C (v := (1 : Int32)) dX7_two_105 rfl ?_
        refine x_iadd (pc := 106) C dX7_two_106 ?_
        obtain ⟨g_4, h⟩ := of_gd h
        refine x_iaload (pc := 107) C hO.2.2.2.2.2.2.2.2.2.2.2.2.2.2.2.2.2.2.2.2.2.2.2.2.1 g_4 dX7_two_107 ?_
        refine x_icmp_gt (pc := 108) C 124 dX7_two_108 rfl (fun c_3 => ?_) (fun c_3 => ?_)
        · replace h := of_ifp c_3 h
          obtain ⟨v4_2, ev4_2, h⟩ := of_lt h
          refine x_iinc (pc := 124) C (w := (1 : Int32)) 1 [(4, .int v4_2), (0, .ref (b + 140))] dX7_two_124 rfl rfl (Nat.le_of_ble_eq_true rfl) ev4_2 rfl ?_
          refine x_goto (pc := 127) C 55 dX7_two_127 rfl ?_
          exact x_sub [1, 0] rfl (ih _ h hr hx)
        · replace h := of_ifn c_3 h
          refine x_bipush (pc := 111) C (v := (10 : Int32)) dX7_two_111 rfl ?_
          refine x_iload (pc := 113) C 1 dX7_two_113 rfl ?_
          refine x_iconst (pc := 115) C (v := (2 : Int32)) dX7_two_115 rfl ?_
          refine x_idiv (pc := 116) C dX7_two_116 (by decide) ?_
          refine x_imul (pc := 117) C dX7_two_117 ?_
          refine x_iload (pc := 118) C 1 dX7_two_118 rfl ?_
          refine x_iconst (pc := 120) C (v := (2 : Int32)) dX7_two_120 rfl ?_
          refine x_irem (pc := 121) C dX7_two_121 (by decide) ?_
          refine x_iadd (pc := 122) C dX7_two_122 ?_
          have hq := hr _ (of_s1 h).symm
          exact x_ireturn (pc := 123) C dX7_two_123 hq.1 hq.2
set_option maxRecDepth 100000 in
set_option maxHeartbeats 4000000 in
theorem c_X7_two {l : Launch} {G : zz_G} {L : Ly} {b : Nat} (p1 : Int32) (p2 : Int32) (hO : isMo L) (S : Sg) (rf : Int32) (Sf : Sg) (h : f_X7_two p1 p2 S = some (rf, Sf)) : Met l yX7_two (Cond.code yX7_two cX7_two 5 (some .int) :: zz_all) (rmz 12 283) (PC G L b S [.ref (b + 140), .int p1, .int p2]) (QC G L b Sf (some (.int rf)) True) 0 0 (fun q => b ≤ q) := by
  refine x_met [.ref (b + 140), .int p1, .int p2] (by decide +kernel) (Nat.le_of_ble_eq_true rfl) fun p e s m args below meth c C => ?_
  unfold f_X7_two at h
  refine x_iload_n (pc := 0) C 1 dX7_two_0 rfl ?_
  refine x_iconst (pc := 1) C (v := (1 : Int32)) dX7_two_1 rfl ?_
  obtain ⟨x_1, ex_1, h⟩ := of_lt h
  have kd_1 : X p l e (rmz 12 283) s m args below meth c 0 0 (RQ G L b Sf below args s (some (.int rf)) True) 5 G L b S 35 [(0, .ref (b + 140)), (1, .int p1), (2, .int p2)] [.int x_1] := by
    refine x_istore_n (pc := 35) C 3 [(3, .int x_1), (0, .ref (b + 140)), (1, .int p1), (2, .int p2)] dX7_two_35 rfl (Nat.le_of_ble_eq_true rfl) rfl rfl ?_
    refine x_iload_n (pc := 36) C 0 dX7_two_36 rfl ?_
    refine x_if_eq (pc := 37) C 46 dX7_two_37 rfl (fun c_1 => ?_) (fun c_1 => ?_)
    · replace h := of_ifp c_1 h
      refine x_aload_n (pc := 46) C 1 dX7_two_46 rfl ?_
      refine x_iload_n (pc := 47) C 2 dX7_two_47 rfl ?_
      refine x_iload_n (pc := 48) C 3 dX7_two_48 rfl ?_
      obtain ⟨S_1, hc_1, h⟩ := of_bd h
      refine x_callV_ (pc := 49) C (o := 140) [.int p1, .int p2] [] (c_X7_findEnds (b := b) p1 p2 hO S _ hc_1) cw_X7_362 vi_X7_findEnds ⟨rfl, rfl, Nat.le_of_ble_eq_true rfl, Nat.le_of_ble_eq_true rfl⟩ ⟨Nat.le_refl _, Nat.le_refl _⟩ hO.1 ⟨rfl, rfl, rfl⟩ rfl ⟨rfl, Nat.le_of_ble_eq_true rfl⟩ dX7_two_49 (fun hx_1 => ?_)
      refine x_iconst (pc := 52) C (v := (0 : Int32)) dX7_two_52 rfl ?_
      refine x_istore (pc := 53) C [(4, .int (0 : Int32)), (3, .int x_1), (0, .ref (b + 140)), (1, .int p1), (2, .int p2)] dX7_two_53 (Nat.le_of_ble_eq_true rfl) rfl rfl ?_
      refine x_sub [2, 0] rfl ?_
      obtain ⟨z_hz_1, hz_1, hl, hrr⟩ := of_bs h
      refine l_X7_two_55 C hO S_1 rf Sf 400 _ hz_1 (fun q ez => of_sp (x := q.1) (u := q.2) (hl _ ez)) (fun ez => ?_)
      replace h := hrr _ ez
      clear hl hrr
      refine x_bipush (pc := 130) C (v := (-9 : Int32)) dX7_two_130 rfl ?_
      exact x_ireturn (pc := 132) C dX7_two_132 (of_sp h).1 (of_sp h).2
    · replace h := of_ifn c_1 h
      refine x_aload_n (pc := 40) C 1 dX7_two_40 rfl ?_
      refine x_iload_n (pc := 41) C 0 dX7_two_41 rfl ?_
      obtain ⟨⟨r_1, S_2⟩, hc_2, h⟩ := of_bd h
      replace h := of_u2 h
      refine x_callV1 (pc := 42) C (o := 140) [.int x_1] [] (c_X7_no (b := b) x_1 hO S _ _ hc_2) cw_X7_213 vi_X7_no ⟨rfl, rfl, Nat.le_of_ble_eq_true rfl, Nat.le_of_ble_eq_true rfl⟩ ⟨Nat.le_refl _, Nat.le_refl _⟩ hO.1 ⟨rfl, rfl, rfl⟩ rfl ⟨rfl, Nat.le_of_ble_eq_true rfl⟩ dX7_two_42 (fun hx_2 => ?_)
      exact x_ireturn (pc := 45) C dX7_two_45 (of_sp h).1 (of_sp h).2
  refine x_icmp_lt (pc := 2) C 10 dX7_two_2 rfl (fun c_2 => ?_) (fun c_2 => ?_)
  · refine x_bipush (pc := 10) C (v := (-4 : Int32)) dX7_two_10 rfl ?_
    refine x_goto (pc := 12) C 35 dX7_two_12 rfl ?_
    refine x_sub [0, 1, 2] rfl ?_
    rw [show x_1 = (-4 : Int32) from (ex_1.trans (if_pos c_2))] at kd_1
    exact kd_1
  · refine x_iload_n (pc := 5) C 2 dX7_two_5 rfl ?_
    refine x_iconst (pc := 6) C (v := (1 : Int32)) dX7_two_6 rfl ?_
    refine x_icmp_ge (pc := 7) C 15 dX7_two_7 rfl (fun c_3 => ?_) (fun c_3 => ?_)
    · refine x_iload_n (pc := 15) C 1 dX7_two_15 rfl ?_
      refine x_sipush (pc := 16) C (v := (255 : Int32)) dX7_two_16 rfl ?_
      refine x_icmp_gt (pc := 19) C 29 dX7_two_19 rfl (fun c_4 => ?_) (fun c_4 => ?_)
      · refine x_bipush (pc := 29) C (v := (-6 : Int32)) dX7_two_29 rfl ?_
        refine x_goto (pc := 31) C 35 dX7_two_31 rfl ?_
        refine x_sub [0, 1, 2] rfl ?_
        rw [show x_1 = (-6 : Int32) from (((ex_1.trans (if_neg c_2)).trans (if_neg c_3)).trans (if_pos c_4))] at kd_1
        exact kd_1
      · refine x_iload_n (pc := 22) C 2 dX7_two_22 rfl ?_
        refine x_sipush (pc := 23) C (v := (255 : Int32)) dX7_two_23 rfl ?_
        refine x_icmp_le (pc := 26) C 34 dX7_two_26 rfl (fun c_5 => ?_) (fun c_5 => ?_)
        · refine x_iconst (pc := 34) C (v := (0 : Int32)) dX7_two_34 rfl ?_
          refine x_sub [0, 1, 2] rfl ?_
          rw [show x_1 = (0 : Int32) from ((((ex_1.trans (if_neg c_2)).trans (if_neg c_3)).trans (if_neg c_4)).trans (if_neg c_5))] at kd_1
          exact kd_1
        · refine x_bipush (pc := 29) C (v := (-6 : Int32)) dX7_two_29 rfl ?_
          refine x_goto (pc := 31) C 35 dX7_two_31 rfl ?_
          refine x_sub [0, 1, 2] rfl ?_
          rw [show x_1 = (-6 : Int32) from ((((ex_1.trans (if_neg c_2)).trans (if_neg c_3)).trans (if_neg c_4)).trans (if_pos c_5))] at kd_1
          exact kd_1
    · refine x_bipush (pc := 10) C (v := (-4 : Int32)) dX7_two_10 rfl ?_
      refine x_goto (pc := 12) C 35 dX7_two_12 rfl ?_
      refine x_sub [0, 1, 2] rfl ?_
      rw [show x_1 = (-4 : Int32) from ((ex_1.trans (if_neg c_2)).trans (if_pos c_3))] at kd_1
      exact kd_1
set_option maxRecDepth 100000 in
set_option maxHeartbeats 4000000 in
theorem c_X7_variable {l : Launch} {G : zz_G} {L : Ly} {b : Nat} (p1 : Int32) (p2 : Int32) (hO : isMo L) (S : Sg) (rf : Int32) (Sf : Sg) (h : f_X7_variable p1 p2 S = some (rf, Sf)) : Met l yX7_variable (Cond.code yX7_variable cX7_variable 3 (some .int) :: zz_all) (rmz 4 96) (PC G L b S [.ref (b + 140), .int p1, .int p2]) (QC G L b Sf (some (.int rf)) True) 0 0 (fun q => b ≤ q) := by
  refine x_met [.ref (b + 140), .int p1, .int p2] (by decide +kernel) (Nat.le_of_ble_eq_true rfl) fun p e s m args below meth c C => ?_
  unfold f_X7_variable at h
  refine x_aload_n (pc := 0) C 0 dX7_variable_0 rfl ?_
  refine x_iload_n (pc := 1) C 1 dX7_variable_1 rfl ?_
  refine x_callV1 (pc := 2) C (o := 140) [.int p1] [] (c_X7_isVariable (b := b) p1 hO S) cw_X7_257 vi_X7_isVariable ⟨rfl, rfl, Nat.le_of_ble_eq_true rfl, Nat.le_of_ble_eq_true rfl⟩ ⟨Nat.le_refl _, Nat.le_refl _⟩ hO.1 ⟨rfl, rfl, rfl⟩ rfl ⟨rfl, Nat.le_of_ble_eq_true rfl⟩ dX7_variable_2 (fun hx_1 => ?_)
  refine x_if_ne (pc := 5) C 14 dX7_variable_5 rfl (fun c_1 => ?_) (fun c_1 => ?_)
  · replace h := of_ifn c_1 h
    refine x_aload_n (pc := 14) C 0 dX7_variable_14 rfl ?_
    obtain ⟨S_1, hc_1, h⟩ := of_bd h
    refine x_callV_ (pc := 15) C (o := 140) [] [] (c_X7_narrows (b := b) hO S _ hc_1) cw_X7_332 vi_X7_narrows ⟨rfl, rfl, Nat.le_of_ble_eq_true rfl, Nat.le_of_ble_eq_true rfl⟩ ⟨Nat.le_refl _, Nat.le_refl _⟩ hO.1 ⟨rfl, rfl, rfl⟩ rfl ⟨rfl, Nat.le_of_ble_eq_true rfl⟩ dX7_variable_15 (fun hx_2 => ?_)
    refine x_iload_n (pc := 18) C 2 dX7_variable_18 rfl ?_
    by_cases c_2 : p2 = (0 : Int32)
    · replace h := of_ifp c_2 h
      refine x_tabIn (pc := 19) C 60 dX7_variable_19 c_2 (by decide) (by decide) rfl rfl ?_
      refine x_aload_n (pc := 60) C 0 dX7_variable_60 rfl ?_
      refine x_getr (pc := 61) C (k := 1) 142 hO.1 rfl rfl wd_729 dX7_variable_61 (Nat.le_of_ble_eq_true rfl) rfl ?_
      refine x_iload_n (pc := 64) C 1 dX7_variable_64 rfl ?_
      obtain ⟨g_1, h⟩ := of_gd h
      refine x_iaload (pc := 65) C hO.2.2.1 g_1 dX7_variable_65 ?_
      exact x_ireturn (pc := 66) C dX7_variable_66 (of_sp h).1 (of_sp h).2
    replace h := of_ifn c_2 h
    by_cases c_3 : p2 = (1 : Int32)
    · replace h := of_ifp c_3 h
      refine x_tabIn (pc := 19) C 67 dX7_variable_19 c_3 (by decide) (by decide) rfl rfl ?_
      refine x_aload_n (pc := 67) C 0 dX7_variable_67 rfl ?_
      refine x_getr (pc := 68) C (k := 2) 143 hO.1 rfl rfl wd_730 dX7_variable_68 (Nat.le_of_ble_eq_true rfl) rfl ?_
      refine x_iload_n (pc := 71) C 1 dX7_variable_71 rfl ?_
      obtain ⟨g_2, h⟩ := of_gd h
      refine x_iaload (pc := 72) C hO.2.2.2.1 g_2 dX7_variable_72 ?_
      exact x_ireturn (pc := 73) C dX7_variable_73 (of_sp h).1 (of_sp h).2
    replace h := of_ifn c_3 h
    by_cases c_4 : p2 = (2 : Int32)
    · replace h := of_ifp c_4 h
      refine x_tabIn (pc := 19) C 74 dX7_variable_19 c_4 (by decide) (by decide) rfl rfl ?_
      refine x_aload_n (pc := 74) C 0 dX7_variable_74 rfl ?_
      refine x_getr (pc := 75) C (k := 3) 144 hO.1 rfl rfl wd_731 dX7_variable_75 (Nat.le_of_ble_eq_true rfl) rfl ?_
      refine x_iload_n (pc := 78) C 1 dX7_variable_78 rfl ?_
      obtain ⟨g_3, h⟩ := of_gd h
      refine x_iaload (pc := 79) C hO.2.2.2.2.1 g_3 dX7_variable_79 ?_
      exact x_ireturn (pc := 80) C dX7_variable_80 (of_sp h).1 (of_sp h).2
    replace h := of_ifn c_4 h
    by_cases c_5 : p2 = (3 : Int32)
    · replace h := of_ifp c_5 h
      refine x_tabIn (pc := 19) C 81 dX7_variable_19 c_5 (by decide) (by decide) rfl rfl ?_
      refine x_aload_n (pc := 81) C 0 dX7_variable_81 rfl ?_
      refine x_getr (pc := 82) C (k := 34) 161 hO.1 rfl rfl wd_762 dX7_variable_82 (Nat.le_of_ble_eq_true rfl) rfl ?_
      refine x_iload_n (pc := 85) C 1 dX7_variable_85 rfl ?_
      obtain ⟨g_4, h⟩ := of_gd h
      refine x_iaload (pc := 86) C hO.2.2.2.2.2.2.2.2.2.2.2.2.2.2.2.2.2.2.2.2.2.1 g_4 dX7_variable_86 ?_
      exact x_ireturn (pc := 87) C dX7_variable_87 (of_sp h).1 (of_sp h).2
    replace h := of_ifn c_5 h
    by_cases c_6 : p2 = (4 : Int32)
    · replace h := of_ifp c_6 h
      refine x_tabIn (pc := 19) C 88 dX7_variable_19 c_6 (by decide) (by decide) rfl rfl ?_
      refine x_aload_n (pc := 88) C 0 dX7_variable_88 rfl ?_
      refine x_getr (pc := 89) C (k := 35) 162 hO.1 rfl rfl wd_763 dX7_variable_89 (Nat.le_of_ble_eq_true rfl) rfl ?_
      refine x_iload_n (pc := 92) C 1 dX7_variable_92 rfl ?_
      obtain ⟨g_5, h⟩ := of_gd h
      refine x_iaload (pc := 93) C hO.2.2.2.2.2.2.2.2.2.2.2.2.2.2.2.2.2.2.2.2.2.2.1 g_5 dX7_variable_93 ?_
      exact x_ireturn (pc := 94) C dX7_variable_94 (of_sp h).1 (of_sp h).2
    replace h := of_ifn c_6 h
    by_cases c_7 : p2 = (5 : Int32)
    · replace h := of_ifp c_7 h
      refine x_tabIn (pc := 19) C 95 dX7_variable_19 c_7 (by decide) (by decide) rfl rfl ?_
      refine x_aload_n (pc := 95) C 0 dX7_variable_95 rfl ?_
      refine x_iload_n (pc := 96) C 1 dX7_variable_96 rfl ?_
      obtain ⟨r_1, hc_2, h⟩ := of_bd h
      refine x_callV1 (pc := 97) C (o := 140) [.int p1] [] (c_X7_width (b := b) p1 hO S_1 _ hc_2) cw_X7_335 vi_X7_width ⟨rfl, rfl, Nat.le_of_ble_eq_true rfl, Nat.le_of_ble_eq_true rfl⟩ ⟨Nat.le_refl _, Nat.le_refl _⟩ hO.1 ⟨rfl, rfl, rfl⟩ rfl ⟨rfl, Nat.le_of_ble_eq_true rfl⟩ dX7_variable_97 (fun hx_3 => ?_)
      exact x_ireturn (pc := 100) C dX7_variable_100 (of_sp h).1 (of_sp h).2
    replace h := of_ifn c_7 h
    by_cases c_8 : p2 = (6 : Int32)
    · replace h := of_ifp c_8 h
      refine x_tabIn (pc := 19) C 101 dX7_variable_19 c_8 (by decide) (by decide) rfl rfl ?_
      refine x_aload_n (pc := 101) C 0 dX7_variable_101 rfl ?_
      refine x_iload_n (pc := 102) C 1 dX7_variable_102 rfl ?_
      obtain ⟨r_2, hc_3, h⟩ := of_bd h
      refine x_callV1 (pc := 103) C (o := 140) [.int p1] [] (c_X7_isFree (b := b) p1 hO S_1 _ hc_3) cw_X7_247 vi_X7_isFree ⟨rfl, rfl, Nat.le_of_ble_eq_true rfl, Nat.le_of_ble_eq_true rfl⟩ ⟨Nat.le_refl _, Nat.le_refl _⟩ hO.1 ⟨rfl, rfl, rfl⟩ rfl ⟨rfl, Nat.le_of_ble_eq_true rfl⟩ dX7_variable_103 (fun hx_4 => ?_)
      obtain ⟨x_1, ex_1, h⟩ := of_lt h
      have kd_1 : X p l e (rmz 4 96) s m args below meth c 0 0 (RQ G L b Sf below args s (some (.int rf)) True) 3 G L b S_1 114 [] [.int x_1] := by
        exact x_ireturn (pc := 114) C dX7_variable_114 (of_sp h).1 (of_sp h).2
      refine x_if_eq (pc := 106) C 113 dX7_variable_106 rfl (fun c_9 => ?_) (fun c_9 => ?_)
      · refine x_iconst (pc := 113) C (v := (0 : Int32)) dX7_variable_113 rfl ?_
        refine x_sub [] rfl ?_
        rw [show x_1 = (0 : Int32) from (ex_1.trans (if_pos c_9))] at kd_1
        exact kd_1
      · refine x_iconst (pc := 109) C (v := (1 : Int32)) dX7_variable_109 rfl ?_
        refine x_goto (pc := 110) C 114 dX7_variable_110 rfl ?_
        refine x_sub [] rfl ?_
        rw [show x_1 = (1 : Int32) from (ex_1.trans (if_neg c_9))] at kd_1
        exact kd_1
    replace h := of_ifn c_8 h
    refine x_tabOut (pc := 19) C 115 dX7_variable_19 (by have := lv_neT c_2 (show ((0 : Int32)).toInt = 0 from rfl); have := lv_neT c_3 (show ((1 : Int32)).toInt = 1 from rfl); have := lv_neT c_4 (show ((2 : Int32)).toInt = 2 from rfl); have := lv_neT c_5 (show ((3 : Int32)).toInt = 3 from rfl); have := lv_neT c_6 (show ((4 : Int32)).toInt = 4 from rfl); have := lv_neT c_7 (show ((5 : Int32)).toInt = 5 from rfl); have := lv_neT c_8 (show ((6 : Int32)).toInt = 6 from rfl); omega) rfl ?_
    refine x_aload_n (pc := 115) C 0 dX7_variable_115 rfl ?_
    refine x_bipush (pc := 116) C (v := (-2 : Int32)) dX7_variable_116 rfl ?_
    obtain ⟨⟨r_3, S_2⟩, hc_4, h⟩ := of_bd h
    replace h := of_u2 h
    refine x_callV1 (pc := 118) C (o := 140) [.int (-2 : Int32)] [] (c_X7_no (b := b) (-2 : Int32) hO S_1 _ _ hc_4) cw_X7_213 vi_X7_no ⟨rfl, rfl, Nat.le_of_ble_eq_true rfl, Nat.le_of_ble_eq_true rfl⟩ ⟨Nat.le_refl _, Nat.le_refl _⟩ hO.1 ⟨rfl, rfl, rfl⟩ rfl ⟨rfl, Nat.le_of_ble_eq_true rfl⟩ dX7_variable_118 (fun hx_5 => ?_)
    exact x_ireturn (pc := 121) C dX7_variable_121 (of_sp h).1 (of_sp h).2
  · replace h := of_ifp c_1 h
    refine x_aload_n (pc := 8) C 0 dX7_variable_8 rfl ?_
    refine x_iconst (pc := 9) C (v := (-1 : Int32)) dX7_variable_9 rfl ?_
    obtain ⟨⟨r_4, S_3⟩, hc_5, h⟩ := of_bd h
    replace h := of_u2 h
    refine x_callV1 (pc := 10) C (o := 140) [.int (-1 : Int32)] [] (c_X7_no (b := b) (-1 : Int32) hO S _ _ hc_5) cw_X7_213 vi_X7_no ⟨rfl, rfl, Nat.le_of_ble_eq_true rfl, Nat.le_of_ble_eq_true rfl⟩ ⟨Nat.le_refl _, Nat.le_refl _⟩ hO.1 ⟨rfl, rfl, rfl⟩ rfl ⟨rfl, Nat.le_of_ble_eq_true rfl⟩ dX7_variable_10 (fun hx_6 => ?_)
    exact x_ireturn (pc := 13) C dX7_variable_13 (of_sp h).1 (of_sp h).2
set_option maxRecDepth 100000 in
set_option maxHeartbeats 4000000 in
theorem l_X7_which_47 {p : Program} {l : Launch} {e : Env} {s : State} {m : MethodId} {args : Array Value} {below : List Frame} {meth : Method} {c : Code} {G : zz_G} {L : Ly} {b : Nat} {Q : State → Prop} (C : CX p G s m args meth c cX7_which yX7_which 6 (some .int)) (hO : isMo L) (v1 : Int32) : ∀ (n : Nat) (v3 : Int32) (v4 : Int32) (S : Sg) {z}, L_X7_which_47 v1 n v3 v4 S = some z → (∀ (v3_o : Int32) (S_o : Sg), z = (v3_o, S_o) → X p l e (rmz 8 199) s m args below meth c 0 0 Q 6 G L b S_o 113 [(3, .int v3_o)] []) → X p l e (rmz 8 199) s m args below meth c 0 0 Q 6 G L b S 47 [(0, .ref (b + 140)), (1, .int v1), (3, .int v3), (4, .int v4)] [] := by
  intro n
  induction n with
  | zero =>
    intro v3 v4 S z h
    exact of_none h
  | succ n ih =>
    intro v3 v4 S z h hx
    rw [L_X7_which_47] at h
    refine x_iload (pc := 47) C 3 dX7_which_47 rfl ?_
    refine x_iload_n (pc := 49) C 1 dX7_which_49 rfl ?_
    obtain ⟨x_1, ex_1, h⟩ := of_lt h
    have kd_1 : X p l e (rmz 8 199) s m args below meth c 0 0 Q 6 G L b S 59 [(0, .ref (b + 140)), (1, .int v1), (3, .int v3), (4, .int v4)] [.int x_1, .int v4] := by
      refine x_icmp_ge (pc := 59) C 113 dX7_which_59 rfl (fun c_1 => ?_) (fun c_1 => ?_)
      · replace h := of_ifn c_1 h
        exact x_sub [2] rfl (hx _ _ (of_s1 h).symm)
      · replace h := of_ifp c_1 h
        refine x_iload_n (pc := 62) C 1 dX7_which_62 rfl ?_
        obtain ⟨J_1, eJ_1, h⟩ := of_lt h
        have kJ_1 : ∀ (x_2 : Int32) (S_1 : Sg), J_1 x_2 S_1 = some z → X p l e (rmz 8 199) s m args below meth c 0 0 Q 6 G L b S_1 89 [(0, .ref (b + 140)), (1, .int v1), (3, .int v3), (4, .int v4)] [.int x_2] := by
          intro x_2 S_1 h
          replace h := of_J2 eJ_1 h
          refine x_istore (pc := 89) C [(5, .int x_2), (0, .ref (b + 140)), (1, .int v1), (3, .int v3), (4, .int v4)] dX7_which_89 (Nat.le_of_ble_eq_true rfl) rfl rfl ?_
          refine x_iload_n (pc := 91) C 3 dX7_which_91 rfl ?_
          refine x_iload (pc := 92) C 0 dX7_which_92 rfl ?_
          obtain ⟨x_3, ex_3, h⟩ := of_lt h
          have kd_2 : X p l e (rmz 8 199) s m args below meth c 0 0 Q 6 G L b S_1 105 [(0, .ref (b + 140)), (1, .int v1), (4, .int v4)] [.int x_3, .int v3] := by
            refine x_ior (pc := 105) C dX7_which_105 ?_
            obtain ⟨v3_1, ev3_1, h⟩ := of_lt h
            refine x_istore_n (pc := 106) C 3 [(3, .int v3_1), (0, .ref (b + 140)), (1, .int v1), (4, .int v4)] dX7_which_106 rfl (Nat.le_of_ble_eq_true rfl) ev3_1 rfl ?_
            obtain ⟨v4_1, ev4_1, h⟩ := of_lt h
            refine x_iinc (pc := 107) C (w := (1 : Int32)) 3 [(4, .int v4_1), (3, .int v3_1), (0, .ref (b + 140)), (1, .int v1)] dX7_which_107 rfl rfl (Nat.le_of_ble_eq_true rfl) ev4_1 rfl ?_
            refine x_goto (pc := 110) C 47 dX7_which_110 rfl ?_
            exact x_sub [2, 3, 1, 0] rfl (ih _ _ _ h hx)
          refine x_if_eq (pc := 94) C 104 dX7_which_94 rfl (fun c_2 => ?_) (fun c_2 => ?_)
          · refine x_iconst (pc := 104) C (v := (0 : Int32)) dX7_which_104 rfl ?_
            refine x_sub [1, 2, 4] rfl ?_
            rw [show x_3 = (0 : Int32) from (ex_3.trans (if_pos c_2))] at kd_2
            exact kd_2
          · refine x_iconst (pc := 97) C (v := (1 : Int32)) dX7_which_97 rfl ?_
            refine x_iload (pc := 98) C 4 dX7_which_98 rfl ?_
            refine x_ishl (pc := 100) C dX7_which_100 ?_
            refine x_goto (pc := 101) C 105 dX7_which_101 rfl ?_
            refine x_sub [1, 2, 4] rfl ?_
            rw [show x_3 = (isl (1 : Int32) v4) from (ex_3.trans (if_neg c_2))] at kd_2
            exact kd_2
        refine x_if_ne (pc := 63) C 79 dX7_which_63 rfl (fun c_3 => ?_) (fun c_3 => ?_)
        · replace h := of_ifn c_3 h
          refine x_aload_n (pc := 79) C 0 dX7_which_79 rfl ?_
          refine x_aload_n (pc := 80) C 0 dX7_which_80 rfl ?_
          refine x_geti (pc := 81) C (k := 9) hO.1 rfl rfl wd_737 dX7_which_81 ⟨Nat.le_of_ble_eq_true rfl, rfl⟩ ?_
          refine x_iload (pc := 84) C 3 dX7_which_84 rfl ?_
          obtain ⟨⟨r_1, S_2⟩, hc_1, h⟩ := of_bd h
          replace h := of_u2 h
          refine x_callV1 (pc := 86) C (o := 140) [.int (S.1 140 9), .int v4] [] (c_X7_isMetSo (b := b) (S.1 140 9) v4 hO S _ _ hc_1) cw_X7_373 vi_X7_isMetSo ⟨rfl, rfl, Nat.le_of_ble_eq_true rfl, Nat.le_of_ble_eq_true rfl⟩ ⟨Nat.le_refl _, Nat.le_refl _⟩ hO.1 ⟨rfl, rfl, rfl⟩ rfl ⟨rfl, Nat.le_of_ble_eq_true rfl⟩ dX7_which_86 (fun hx_1 => ?_)
          exact x_sub [0, 1, 2, 3] rfl (kJ_1 _ _ h)
        · replace h := of_ifp c_3 h
          refine x_aload_n (pc := 66) C 0 dX7_which_66 rfl ?_
          refine x_iload (pc := 67) C 3 dX7_which_67 rfl ?_
          refine x_aload_n (pc := 69) C 0 dX7_which_69 rfl ?_
          refine x_geti (pc := 70) C (k := 10) hO.1 rfl rfl wd_738 dX7_which_70 ⟨Nat.le_of_ble_eq_true rfl, rfl⟩ ?_
          obtain ⟨⟨r_2, S_3⟩, hc_2, h⟩ := of_bd h
          replace h := of_u2 h
          refine x_callV1 (pc := 73) C (o := 140) [.int v4, .int (S.1 140 10)] [] (c_X7_isMetSo (b := b) v4 (S.1 140 10) hO S _ _ hc_2) cw_X7_373 vi_X7_isMetSo ⟨rfl, rfl, Nat.le_of_ble_eq_true rfl, Nat.le_of_ble_eq_true rfl⟩ ⟨Nat.le_refl _, Nat.le_refl _⟩ hO.1 ⟨rfl, rfl, rfl⟩ rfl ⟨rfl, Nat.le_of_ble_eq_true rfl⟩ dX7_which_73 (fun hx_2 => ?_)
          refine x_goto (pc := 76) C 89 dX7_which_76 rfl ?_
          exact x_sub [0, 1, 2, 3] rfl (kJ_1 _ _ h)
    refine x_if_ne (pc := 50) C 57 dX7_which_50 rfl (fun c_4 => ?_) (fun c_4 => ?_)
    · refine x_bipush (pc := 57) C (v := (11 : Int32)) dX7_which_57 rfl ?_
      refine x_sub [0, 1, 2, 3] rfl ?_
      rw [show x_1 = (11 : Int32) from (ex_1.trans (if_neg c_4))] at kd_1
      exact kd_1
    · refine x_iconst (pc := 53) C (v := (4 : Int32)) dX7_which_53 rfl ?_
      refine x_goto (pc := 54) C 59 dX7_which_54 rfl ?_
      refine x_sub [0, 1, 2, 3] rfl ?_
      rw [show x_1 = (4 : Int32) from (ex_1.trans (if_pos c_4))] at kd_1
      exact kd_1
set_option maxRecDepth 100000 in
set_option maxHeartbeats 4000000 in
theorem c_X7_which {l : Launch} {G : zz_G} {L : Ly} {b : Nat} (p1 : Int32) (hO : isMo L) (S : Sg) (rf : Int32) (Sf : Sg) (h : f_X7_which p1 S = some (rf, Sf)) : Met l yX7_which (Cond.code yX7_which cX7_which 6 (some .int) :: zz_all) (rmz 8 199) (PC G L b S [.ref (b + 140), .int p1]) (QC G L b Sf (some (.int rf)) True) 0 0 (fun q => b ≤ q) := by
  refine x_met [.ref (b + 140), .int p1] (by decide +kernel) (Nat.le_of_ble_eq_true rfl) fun p e s m args below meth c C => ?_
  unfold f_X7_which at h
  refine x_iload_n (pc := 0) C 1 dX7_which_0 rfl ?_
  refine x_iconst (pc := 1) C (v := (0 : Int32)) dX7_which_1 rfl ?_
  refine x_iconst (pc := 2) C (v := (1 : Int32)) dX7_which_2 rfl ?_
  refine x_callS1 (pc := 3) C [.int p1, .int (0 : Int32), .int (1 : Int32)] [] (c_X7_isIn (b := b) p1 (0 : Int32) (1 : Int32) S) cw_X7_96 vs_X7_isIn ⟨rfl, rfl, Nat.le_of_ble_eq_true rfl, Nat.le_of_ble_eq_true rfl⟩ ⟨Nat.le_refl _, Nat.le_refl _⟩ rfl ⟨rfl, Nat.le_of_ble_eq_true rfl⟩ dX7_which_3 (fun hx_1 => ?_)
  obtain ⟨J_1, eJ_1, h⟩ := of_lt h
  have kJ_1 : ∀ (x_1 : Int32), J_1 x_1 = some (rf, Sf) → X p l e (rmz 8 199) s m args below meth c 0 0 (RQ G L b Sf below args s (some (.int rf)) True) 6 G L b S 27 [(0, .ref (b + 140)), (1, .int p1)] [.int x_1] := by
    intro x_1 h
    replace h := of_J1 eJ_1 h
    refine x_istore_n (pc := 27) C 2 [(2, .int x_1), (0, .ref (b + 140)), (1, .int p1)] dX7_which_27 rfl (Nat.le_of_ble_eq_true rfl) rfl rfl ?_
    refine x_iload_n (pc := 28) C 0 dX7_which_28 rfl ?_
    refine x_if_eq (pc := 29) C 38 dX7_which_29 rfl (fun c_1 => ?_) (fun c_1 => ?_)
    · replace h := of_ifp c_1 h
      refine x_aload_n (pc := 38) C 1 dX7_which_38 rfl ?_
      obtain ⟨S_1, hc_1, h⟩ := of_bd h
      refine x_callV_ (pc := 39) C (o := 140) [] [] (c_X7_builds (b := b) hO S _ hc_1) cw_X7_173 vi_X7_builds ⟨rfl, rfl, Nat.le_of_ble_eq_true rfl, Nat.le_of_ble_eq_true rfl⟩ ⟨Nat.le_refl _, Nat.le_refl _⟩ hO.1 ⟨rfl, rfl, rfl⟩ rfl ⟨rfl, Nat.le_of_ble_eq_true rfl⟩ dX7_which_39 (fun hx_2 => ?_)
      refine x_iconst (pc := 42) C (v := (0 : Int32)) dX7_which_42 rfl ?_
      refine x_istore_n (pc := 43) C 3 [(3, .int (0 : Int32)), (2, .int x_1), (0, .ref (b + 140)), (1, .int p1)] dX7_which_43 rfl (Nat.le_of_ble_eq_true rfl) rfl rfl ?_
      refine x_iconst (pc := 44) C (v := (0 : Int32)) dX7_which_44 rfl ?_
      refine x_istore (pc := 45) C [(4, .int (0 : Int32)), (3, .int (0 : Int32)), (2, .int x_1), (0, .ref (b + 140)), (1, .int p1)] dX7_which_45 (Nat.le_of_ble_eq_true rfl) rfl rfl ?_
      refine x_sub [3, 4, 1, 0] rfl ?_
      obtain ⟨z_hz_1, hz_1, h⟩ := of_bd h
      refine l_X7_which_47 C hO p1 400 _ _ _ hz_1 (fun v3_1 S_2 ez => ?_)
      subst z_hz_1
      replace h := of_u2 h
      refine x_iload_n (pc := 113) C 0 dX7_which_113 rfl ?_
      exact x_ireturn (pc := 114) C dX7_which_114 (of_sp h).1 (of_sp h).2
    · replace h := of_ifn c_1 h
      refine x_aload_n (pc := 32) C 1 dX7_which_32 rfl ?_
      refine x_iload_n (pc := 33) C 0 dX7_which_33 rfl ?_
      obtain ⟨⟨r_1, S_3⟩, hc_2, h⟩ := of_bd h
      replace h := of_u2 h
      refine x_callV1 (pc := 34) C (o := 140) [.int x_1] [] (c_X7_no (b := b) x_1 hO S _ _ hc_2) cw_X7_213 vi_X7_no ⟨rfl, rfl, Nat.le_of_ble_eq_true rfl, Nat.le_of_ble_eq_true rfl⟩ ⟨Nat.le_refl _, Nat.le_refl _⟩ hO.1 ⟨rfl, rfl, rfl⟩ rfl ⟨rfl, Nat.le_of_ble_eq_true rfl⟩ dX7_which_34 (fun hx_3 => ?_)
      exact x_ireturn (pc := 37) C dX7_which_37 (of_sp h).1 (of_sp h).2
  refine x_if_ne (pc := 6) C 14 dX7_which_6 rfl (fun c_2 => ?_) (fun c_2 => ?_)
  · replace h := of_ifn c_2 h
    refine x_aload_n (pc := 14) C 0 dX7_which_14 rfl ?_
    obtain ⟨r_2, hc_3, h⟩ := of_bd h
    refine x_callV1 (pc := 15) C (o := 140) [] [] (c_X7_isRowQuestions (b := b) hO S _ hc_3) cw_X7_370 vi_X7_isRowQuestions ⟨rfl, rfl, Nat.le_of_ble_eq_true rfl, Nat.le_of_ble_eq_true rfl⟩ ⟨Nat.le_refl _, Nat.le_refl _⟩ hO.1 ⟨rfl, rfl, rfl⟩ rfl ⟨rfl, Nat.le_of_ble_eq_true rfl⟩ dX7_which_15 (fun hx_4 => ?_)
    obtain ⟨x_2, ex_2, h⟩ := of_lt h
    have kd_1 : X p l e (rmz 8 199) s m args below meth c 0 0 (RQ G L b Sf below args s (some (.int rf)) True) 6 G L b S 27 [(0, .ref (b + 140)), (1, .int p1)] [.int x_2] := by
      exact x_sub [0, 1] rfl (kJ_1 _ h)
    refine x_if_ne (pc := 18) C 26 dX7_which_18 rfl (fun c_3 => ?_) (fun c_3 => ?_)
    · refine x_iconst (pc := 26) C (v := (0 : Int32)) dX7_which_26 rfl ?_
      refine x_sub [0, 1] rfl ?_
      rw [show x_2 = (0 : Int32) from (ex_2.trans (if_neg c_3))] at kd_1
      exact kd_1
    · refine x_bipush (pc := 21) C (v := (-3 : Int32)) dX7_which_21 rfl ?_
      refine x_goto (pc := 23) C 27 dX7_which_23 rfl ?_
      refine x_sub [0, 1] rfl ?_
      rw [show x_2 = (-3 : Int32) from (ex_2.trans (if_pos c_3))] at kd_1
      exact kd_1
  · replace h := of_ifp c_2 h
    refine x_bipush (pc := 9) C (v := (-2 : Int32)) dX7_which_9 rfl ?_
    refine x_goto (pc := 11) C 27 dX7_which_11 rfl ?_
    exact x_sub [0, 1] rfl (kJ_1 _ h)
set_option maxRecDepth 100000 in
set_option maxHeartbeats 4000000 in
theorem c_X7_would {l : Launch} {G : zz_G} {L : Ly} {b : Nat} (p1 : Int32) (p2 : Int32) (p3 : Int32) (hO : isMo L) (S : Sg) (rf : Int32) (Sf : Sg) (h : f_X7_would p1 p2 p3 S = some (rf, Sf)) : Met l yX7_would (Cond.code yX7_would cX7_would 5 (some .int) :: zz_all) (rmz 8 196) (PC G L b S [.ref (b + 140), .int p1, .int p2, .int p3]) (QC G L b Sf (some (.int rf)) True) 0 0 (fun q => b ≤ q) := by
  refine x_met [.ref (b + 140), .int p1, .int p2, .int p3] (by decide +kernel) (Nat.le_of_ble_eq_true rfl) fun p e s m args below meth c C => ?_
  unfold f_X7_would at h
  refine x_iload_n (pc := 0) C 1 dX7_would_0 rfl ?_
  refine x_iload_n (pc := 1) C 2 dX7_would_1 rfl ?_
  refine x_iload_n (pc := 2) C 3 dX7_would_2 rfl ?_
  refine x_callS1 (pc := 3) C [.int p1, .int p2, .int p3] [] (c_X7_notQuestion (b := b) p1 p2 p3 S) cw_X7_263 vs_X7_notQuestion ⟨rfl, rfl, Nat.le_of_ble_eq_true rfl, Nat.le_of_ble_eq_true rfl⟩ ⟨Nat.le_refl _, Nat.le_refl _⟩ rfl ⟨rfl, Nat.le_of_ble_eq_true rfl⟩ dX7_would_3 (fun hx_1 => ?_)
  obtain ⟨v4_1, ev4_1, h⟩ := of_lt h
  refine x_istore (pc := 6) C [(4, .int v4_1), (0, .ref (b + 140)), (1, .int p1), (2, .int p2), (3, .int p3)] dX7_would_6 (Nat.le_of_ble_eq_true rfl) ev4_1 rfl ?_
  refine x_iload (pc := 8) C 0 dX7_would_8 rfl ?_
  refine x_if_eq (pc := 10) C 20 dX7_would_10 rfl (fun c_1 => ?_) (fun c_1 => ?_)
  · replace h := of_ifp c_1 h
    refine x_aload_n (pc := 20) C 1 dX7_would_20 rfl ?_
    refine x_iload_n (pc := 21) C 2 dX7_would_21 rfl ?_
    refine x_iload_n (pc := 22) C 3 dX7_would_22 rfl ?_
    refine x_iload_n (pc := 23) C 4 dX7_would_23 rfl ?_
    obtain ⟨S_1, hc_1, h⟩ := of_bd h
    refine x_callV_ (pc := 24) C (o := 140) [.int p1, .int p2, .int p3] [] (c_X7_asks (b := b) p1 p2 p3 hO S _ hc_1) cw_X7_266 vi_X7_asks ⟨rfl, rfl, Nat.le_of_ble_eq_true rfl, Nat.le_of_ble_eq_true rfl⟩ ⟨Nat.le_refl _, Nat.le_refl _⟩ hO.1 ⟨rfl, rfl, rfl⟩ rfl ⟨rfl, Nat.le_of_ble_eq_true rfl⟩ dX7_would_24 (fun hx_2 => ?_)
    refine x_aload_n (pc := 27) C 1 dX7_would_27 rfl ?_
    obtain ⟨⟨r_1, S_2⟩, hc_2, h⟩ := of_bd h
    replace h := of_u2 h
    refine x_callV1 (pc := 28) C (o := 140) [] [] (c_X7_meetsNow (b := b) hO S_1 _ _ hc_2) cw_X7_186 vi_X7_meetsNow ⟨rfl, rfl, Nat.le_of_ble_eq_true rfl, Nat.le_of_ble_eq_true rfl⟩ ⟨Nat.le_refl _, Nat.le_refl _⟩ hO.1 ⟨rfl, rfl, rfl⟩ rfl ⟨rfl, Nat.le_of_ble_eq_true rfl⟩ dX7_would_28 (fun hx_3 => ?_)
    exact x_ireturn (pc := 31) C dX7_would_31 (of_sp h).1 (of_sp h).2
  · replace h := of_ifn c_1 h
    refine x_aload_n (pc := 13) C 1 dX7_would_13 rfl ?_
    refine x_iload (pc := 14) C 0 dX7_would_14 rfl ?_
    obtain ⟨⟨r_2, S_3⟩, hc_3, h⟩ := of_bd h
    replace h := of_u2 h
    refine x_callV1 (pc := 16) C (o := 140) [.int v4_1] [] (c_X7_no (b := b) v4_1 hO S _ _ hc_3) cw_X7_213 vi_X7_no ⟨rfl, rfl, Nat.le_of_ble_eq_true rfl, Nat.le_of_ble_eq_true rfl⟩ ⟨Nat.le_refl _, Nat.le_refl _⟩ hO.1 ⟨rfl, rfl, rfl⟩ rfl ⟨rfl, Nat.le_of_ble_eq_true rfl⟩ dX7_would_16 (fun hx_4 => ?_)
    exact x_ireturn (pc := 19) C dX7_would_19 (of_sp h).1 (of_sp h).2
