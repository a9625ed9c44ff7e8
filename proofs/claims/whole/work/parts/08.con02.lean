set_option maxRecDepth 100000 in
set_option maxHeartbeats 4000000 in
theorem c_X5_meetingBy {l : Launch} {G : zz_G} {L : Ly} {b : Nat} (o : Nat) (o1 : Nat) (p2 : Int32) (p3 : Int32) (hO : isW L o) (h1 : isQ L o1) (S : Sg) (rf : Int32) (Sf : Sg) (h : f_X5_meetingBy o o1 p2 p3 S = some (rf, Sf)) : Met l yX5_meetingBy (Cond.code yX5_meetingBy cX5_meetingBy 6 (some .int) :: zz_all) (rmz 2 49) (PC G L b S [.ref (b + o), .ref (b + o1), .int p2, .int p3]) (QC G L b Sf (some (.int rf)) True) 0 0 (fun q => b ≤ q) := by
  refine x_met [.ref (b + o), .ref (b + o1), .int p2, .int p3] (by decide +kernel) (Nat.le_of_ble_eq_true rfl) fun p e s m args below meth c C => ?_
  unfold f_X5_meetingBy at h
  refine x_aload_n (pc := 0) C 0 dX5_meetingBy_0 rfl ?_
  refine x_aload_n (pc := 1) C 1 dX5_meetingBy_1 rfl ?_
  obtain ⟨S_1, hc_1, h⟩ := of_bd h
  refine x_callV_ (pc := 2) C (o := o) [.ref (b + o1)] [] (c_X5_findRest (b := b) o o1 hO h1 S _ hc_1) cw_X5_114 vi_X5_findRest ⟨rfl, rfl, Nat.le_of_ble_eq_true rfl, Nat.le_of_ble_eq_true rfl⟩ ⟨Nat.le_refl _, Nat.le_refl _⟩ hO.1 ⟨rfl, rfl, rfl⟩ rfl ⟨rfl, Nat.le_of_ble_eq_true rfl⟩ dX5_meetingBy_2 (fun hx_1 => ?_)
  refine x_aload_n (pc := 5) C 0 dX5_meetingBy_5 rfl ?_
  refine x_getr (pc := 6) C (k := 13) (o + 42) hO.1 rfl rfl wd_147 dX5_meetingBy_6 (Nat.le_of_ble_eq_true rfl) rfl ?_
  obtain ⟨r_1, hc_2, h⟩ := of_bd h
  refine x_callS1 (pc := 9) C [.ref (b + (o + 42))] [] (c_X4_firstIn (b := b) (o + 42) 10 hO.2.2.2.2.2.2.2.2.2.2.2 S_1 _ hc_2) cw_X5_117 vs_X4_firstIn ⟨rfl, rfl, Nat.le_of_ble_eq_true rfl, Nat.le_of_ble_eq_true rfl⟩ ⟨Nat.le_refl _, Nat.le_refl _⟩ rfl ⟨rfl, Nat.le_of_ble_eq_true rfl⟩ dX5_meetingBy_9 (fun hx_2 => ?_)
  refine x_if_ge (pc := 12) C 17 dX5_meetingBy_12 rfl (fun c_1 => ?_) (fun c_1 => ?_)
  · replace h := of_ifn c_1 h
    refine x_aload_n (pc := 17) C 0 dX5_meetingBy_17 rfl ?_
    refine x_getr (pc := 18) C (k := 10) (o + 17) hO.1 rfl rfl wd_143 dX5_meetingBy_18 (Nat.le_of_ble_eq_true rfl) rfl ?_
    refine x_aload_n (pc := 21) C 0 dX5_meetingBy_21 rfl ?_
    refine x_getr (pc := 22) C (k := 13) (o + 42) hO.1 rfl rfl wd_147 dX5_meetingBy_22 (Nat.le_of_ble_eq_true rfl) rfl ?_
    obtain ⟨r_2, hc_3, h⟩ := of_bd h
    refine x_callV1 (pc := 25) C (o := (o + 17)) [.ref (b + (o + 42))] [] (c_X4_fixedBitsWith (b := b) (o + 17) (o + 42) 10 hO.2.2.2.2.2.2.2.2.1 hO.2.2.2.2.2.2.2.2.2.2.2 S_1 _ hc_3) cw_X5_121 vi_X4_fixedBitsWith ⟨rfl, rfl, Nat.le_of_ble_eq_true rfl, Nat.le_of_ble_eq_true rfl⟩ ⟨Nat.le_refl _, Nat.le_refl _⟩ hO.2.2.2.2.2.2.2.2.1.1 ⟨rfl, rfl, rfl⟩ rfl ⟨rfl, Nat.le_of_ble_eq_true rfl⟩ dX5_meetingBy_25 (fun hx_3 => ?_)
    refine x_if_eq (pc := 28) C 33 dX5_meetingBy_28 rfl (fun c_2 => ?_) (fun c_2 => ?_)
    · replace h := of_ifp c_2 h
      refine x_iconst (pc := 33) C (v := (0 : Int32)) dX5_meetingBy_33 rfl ?_
      refine x_istore (pc := 34) C [(4, .int (0 : Int32)), (0, .ref (b + o)), (1, .ref (b + o1)), (2, .int p2), (3, .int p3)] dX5_meetingBy_34 (Nat.le_of_ble_eq_true rfl) rfl rfl ?_
      refine x_iload_n (pc := 36) C 3 dX5_meetingBy_36 rfl ?_
      refine x_iconst (pc := 37) C (v := (1 : Int32)) dX5_meetingBy_37 rfl ?_
      obtain ⟨J_1, eJ_1, h⟩ := of_lt h
      have kJ_1 : ∀ (v4_1 : Int32) (S_2 : Sg), J_1 v4_1 S_2 = some (rf, Sf) → X p l e (rmz 2 49) s m args below meth c 0 0 (RQ G L b Sf below args s (some (.int rf)) True) 6 G L b S_2 131 [(4, .int v4_1)] [] := by
        intro v4_1 S_2 h
        replace h := of_J2 eJ_1 h
        refine x_iload (pc := 131) C 0 dX5_meetingBy_131 rfl ?_
        obtain ⟨x_1, ex_1, h⟩ := of_lt h
        have kd_1 : X p l e (rmz 2 49) s m args below meth c 0 0 (RQ G L b Sf below args s (some (.int rf)) True) 6 G L b S_2 141 [] [.int x_1] := by
          exact x_ireturn (pc := 141) C dX5_meetingBy_141 (of_sp h).1 (of_sp h).2
        refine x_if_eq (pc := 133) C 140 dX5_meetingBy_133 rfl (fun c_3 => ?_) (fun c_3 => ?_)
        · refine x_iconst (pc := 140) C (v := (1 : Int32)) dX5_meetingBy_140 rfl ?_
          refine x_sub [] rfl ?_
          rw [show x_1 = (1 : Int32) from (ex_1.trans (if_pos c_3))] at kd_1
          exact kd_1
        · refine x_iconst (pc := 136) C (v := (2 : Int32)) dX5_meetingBy_136 rfl ?_
          refine x_goto (pc := 137) C 141 dX5_meetingBy_137 rfl ?_
          refine x_sub [] rfl ?_
          rw [show x_1 = (2 : Int32) from (ex_1.trans (if_neg c_3))] at kd_1
          exact kd_1
      refine x_icmp_ne (pc := 38) C 70 dX5_meetingBy_38 rfl (fun c_4 => ?_) (fun c_4 => ?_)
      · replace h := of_ifn c_4 h
        refine x_iload_n (pc := 70) C 3 dX5_meetingBy_70 rfl ?_
        refine x_iconst (pc := 71) C (v := (2 : Int32)) dX5_meetingBy_71 rfl ?_
        refine x_icmp_ne (pc := 72) C 109 dX5_meetingBy_72 rfl (fun c_5 => ?_) (fun c_5 => ?_)
        · replace h := of_ifn c_5 h
          refine x_iload_n (pc := 109) C 3 dX5_meetingBy_109 rfl ?_
          refine x_iconst (pc := 110) C (v := (3 : Int32)) dX5_meetingBy_110 rfl ?_
          refine x_icmp_ne (pc := 111) C 131 dX5_meetingBy_111 rfl (fun c_6 => ?_) (fun c_6 => ?_)
          · replace h := of_ifn c_6 h
            exact x_sub [0] rfl (kJ_1 _ _ h)
          · replace h := of_ifp c_6 h
            refine x_aload_n (pc := 114) C 1 dX5_meetingBy_114 rfl ?_
            refine x_geti (pc := 115) C (k := 9) hO.1 rfl rfl wd_141 dX5_meetingBy_115 ⟨Nat.le_of_ble_eq_true rfl, rfl⟩ ?_
            refine x_iconst (pc := 118) C (v := (1 : Int32)) dX5_meetingBy_118 rfl ?_
            refine x_iadd (pc := 119) C dX5_meetingBy_119 ?_
            refine x_iload_n (pc := 120) C 4 dX5_meetingBy_120 rfl ?_
            obtain ⟨x_2, ex_2, h⟩ := of_lt h
            have kd_2 : X p l e (rmz 2 49) s m args below meth c 0 0 (RQ G L b Sf below args s (some (.int rf)) True) 6 G L b S_1 129 [] [.int x_2] := by
              refine x_istore (pc := 129) C [(4, .int x_2)] dX5_meetingBy_129 (Nat.le_of_ble_eq_true rfl) rfl rfl ?_
              exact x_sub [0] rfl (kJ_1 _ _ h)
            refine x_icmp_le (pc := 121) C 128 dX5_meetingBy_121 rfl (fun c_7 => ?_) (fun c_7 => ?_)
            · refine x_iconst (pc := 128) C (v := (0 : Int32)) dX5_meetingBy_128 rfl ?_
              refine x_sub [] rfl ?_
              rw [show x_2 = (0 : Int32) from (ex_2.trans (if_neg c_7))] at kd_2
              exact kd_2
            · refine x_iconst (pc := 124) C (v := (1 : Int32)) dX5_meetingBy_124 rfl ?_
              refine x_goto (pc := 125) C 129 dX5_meetingBy_125 rfl ?_
              refine x_sub [] rfl ?_
              rw [show x_2 = (1 : Int32) from (ex_2.trans (if_pos c_7))] at kd_2
              exact kd_2
        · replace h := of_ifp c_5 h
          refine x_aload_n (pc := 75) C 1 dX5_meetingBy_75 rfl ?_
          refine x_getr (pc := 76) C (k := 11) (o + 29) hO.1 rfl rfl wd_145 dX5_meetingBy_76 (Nat.le_of_ble_eq_true rfl) rfl ?_
          refine x_aload_n (pc := 79) C 1 dX5_meetingBy_79 rfl ?_
          refine x_getr (pc := 80) C (k := 10) (o + 17) hO.1 rfl rfl wd_143 dX5_meetingBy_80 (Nat.le_of_ble_eq_true rfl) rfl ?_
          obtain ⟨S_3, hc_4, h⟩ := of_bd h
          refine x_callV_ (pc := 83) C (o := (o + 29)) [.ref (b + (o + 17))] [] (c_X4_copyFrom (b := b) (o + 29) (o + 17) hO.2.2.2.2.2.2.2.2.2.1 hO.2.2.2.2.2.2.2.2.1 S_1 _ hc_4) cw_X5_68 vi_X4_copyFrom ⟨rfl, rfl, Nat.le_of_ble_eq_true rfl, Nat.le_of_ble_eq_true rfl⟩ ⟨Nat.le_refl _, Nat.le_refl _⟩ hO.2.2.2.2.2.2.2.2.2.1.1 ⟨rfl, rfl, rfl⟩ rfl ⟨rfl, Nat.le_of_ble_eq_true rfl⟩ dX5_meetingBy_83 (fun hx_4 => ?_)
          refine x_aload_n (pc := 86) C 1 dX5_meetingBy_86 rfl ?_
          refine x_getr (pc := 87) C (k := 11) (o + 29) hO.1 rfl rfl wd_145 dX5_meetingBy_87 (Nat.le_of_ble_eq_true rfl) rfl ?_
          refine x_aload_n (pc := 90) C 1 dX5_meetingBy_90 rfl ?_
          refine x_getr (pc := 91) C (k := 13) (o + 42) hO.1 rfl rfl wd_147 dX5_meetingBy_91 (Nat.le_of_ble_eq_true rfl) rfl ?_
          obtain ⟨S_4, hc_5, h⟩ := of_bd h
          refine x_callV_ (pc := 94) C (o := (o + 29)) [.ref (b + (o + 42))] [] (c_X4_join (b := b) (o + 29) (o + 42) 10 hO.2.2.2.2.2.2.2.2.2.1 hO.2.2.2.2.2.2.2.2.2.2.2 S_3 _ hc_5) cw_X5_129 vi_X4_join ⟨rfl, rfl, Nat.le_of_ble_eq_true rfl, Nat.le_of_ble_eq_true rfl⟩ ⟨Nat.le_refl _, Nat.le_refl _⟩ hO.2.2.2.2.2.2.2.2.2.1.1 ⟨rfl, rfl, rfl⟩ rfl ⟨rfl, Nat.le_of_ble_eq_true rfl⟩ dX5_meetingBy_94 (fun hx_5 => ?_)
          refine x_aload_n (pc := 97) C 1 dX5_meetingBy_97 rfl ?_
          refine x_getr (pc := 98) C (k := 11) (o + 29) hO.1 rfl rfl wd_145 dX5_meetingBy_98 (Nat.le_of_ble_eq_true rfl) rfl ?_
          obtain ⟨r_3, hc_6, h⟩ := of_bd h
          refine x_callV1 (pc := 101) C (o := (o + 29)) [] [] (c_X4_hasPair (b := b) (o + 29) hO.2.2.2.2.2.2.2.2.2.1 S_4 _ hc_6) cw_X5_132 vi_X4_hasPair ⟨rfl, rfl, Nat.le_of_ble_eq_true rfl, Nat.le_of_ble_eq_true rfl⟩ ⟨Nat.le_refl _, Nat.le_refl _⟩ hO.2.2.2.2.2.2.2.2.2.1.1 ⟨rfl, rfl, rfl⟩ rfl ⟨rfl, Nat.le_of_ble_eq_true rfl⟩ dX5_meetingBy_101 (fun hx_6 => ?_)
          refine x_istore (pc := 104) C [(4, .int r_3), (0, .ref (b + o)), (1, .ref (b + o1)), (2, .int p2), (3, .int p3)] dX5_meetingBy_104 (Nat.le_of_ble_eq_true rfl) rfl rfl ?_
          refine x_goto (pc := 106) C 131 dX5_meetingBy_106 rfl ?_
          exact x_sub [0] rfl (kJ_1 _ _ h)
      · replace h := of_ifp c_4 h
        refine x_aload_n (pc := 41) C 2 dX5_meetingBy_41 rfl ?_
        obtain ⟨r_4, hc_7, h⟩ := of_bd h
        refine x_callV1 (pc := 42) C (o := o1) [] [] (c_X2_size (b := b) o1 h1 S_1 _ hc_7) cw_X5_124 vi_X2_size ⟨rfl, rfl, Nat.le_of_ble_eq_true rfl, Nat.le_of_ble_eq_true rfl⟩ ⟨Nat.le_refl _, Nat.le_refl _⟩ h1.1 ⟨rfl, rfl, rfl⟩ rfl ⟨rfl, Nat.le_of_ble_eq_true rfl⟩ dX5_meetingBy_42 (fun hx_7 => ?_)
        refine x_istore (pc := 45) C [(5, .int r_4), (4, .int (0 : Int32)), (0, .ref (b + o)), (1, .ref (b + o1)), (2, .int p2), (3, .int p3)] dX5_meetingBy_45 (Nat.le_of_ble_eq_true rfl) rfl rfl ?_
        refine x_iload (pc := 47) C 0 dX5_meetingBy_47 rfl ?_
        refine x_iconst (pc := 49) C (v := (2 : Int32)) dX5_meetingBy_49 rfl ?_
        obtain ⟨x_3, ex_3, h⟩ := of_lt h
        have kd_3 : X p l e (rmz 2 49) s m args below meth c 0 0 (RQ G L b Sf below args s (some (.int rf)) True) 6 G L b S_1 65 [] [.int x_3] := by
          refine x_istore (pc := 65) C [(4, .int x_3)] dX5_meetingBy_65 (Nat.le_of_ble_eq_true rfl) rfl rfl ?_
          refine x_goto (pc := 67) C 131 dX5_meetingBy_67 rfl ?_
          exact x_sub [0] rfl (kJ_1 _ _ h)
        refine x_icmp_lt (pc := 50) C 60 dX5_meetingBy_50 rfl (fun c_8 => ?_) (fun c_8 => ?_)
        · refine x_iconst (pc := 60) C (v := (1 : Int32)) dX5_meetingBy_60 rfl ?_
          refine x_goto (pc := 61) C 65 dX5_meetingBy_61 rfl ?_
          refine x_sub [] rfl ?_
          rw [show x_3 = (1 : Int32) from (ex_3.trans (if_pos c_8))] at kd_3
          exact kd_3
        · refine x_iload (pc := 53) C 0 dX5_meetingBy_53 rfl ?_
          refine x_bipush (pc := 55) C (v := (6 : Int32)) dX5_meetingBy_55 rfl ?_
          refine x_icmp_le (pc := 57) C 64 dX5_meetingBy_57 rfl (fun c_9 => ?_) (fun c_9 => ?_)
          · refine x_iconst (pc := 64) C (v := (0 : Int32)) dX5_meetingBy_64 rfl ?_
            refine x_sub [] rfl ?_
            rw [show x_3 = (0 : Int32) from ((ex_3.trans (if_neg c_8)).trans (if_neg c_9))] at kd_3
            exact kd_3
          · refine x_iconst (pc := 60) C (v := (1 : Int32)) dX5_meetingBy_60 rfl ?_
            refine x_goto (pc := 61) C 65 dX5_meetingBy_61 rfl ?_
            refine x_sub [] rfl ?_
            rw [show x_3 = (1 : Int32) from ((ex_3.trans (if_neg c_8)).trans (if_pos c_9))] at kd_3
            exact kd_3
    · replace h := of_ifn c_2 h
      refine x_iconst (pc := 31) C (v := (2 : Int32)) dX5_meetingBy_31 rfl ?_
      exact x_ireturn (pc := 32) C dX5_meetingBy_32 (of_sp h).1 (of_sp h).2
  · replace h := of_ifp c_1 h
    refine x_iconst (pc := 15) C (v := (0 : Int32)) dX5_meetingBy_15 rfl ?_
    exact x_ireturn (pc := 16) C dX5_meetingBy_16 (of_sp h).1 (of_sp h).2
set_option maxRecDepth 100000 in
set_option maxHeartbeats 4000000 in
theorem c_X5_takeQuestion {l : Launch} {G : zz_G} {L : Ly} {b : Nat} (o : Nat) (o1 : Nat) (hO : isW L o) (h1 : isQ L o1) (S : Sg) (rf : Int32) (Sf : Sg) (h : f_X5_takeQuestion o o1 S = some (rf, Sf)) : Met l yX5_takeQuestion (Cond.code yX5_takeQuestion cX5_takeQuestion 3 (some .int) :: zz_all) (rmz 3 74) (PC G L b S [.ref (b + o), .ref (b + o1)]) (QC G L b Sf (some (.int rf)) True) 0 0 (fun q => b ≤ q) := by
  refine x_met [.ref (b + o), .ref (b + o1)] (by decide +kernel) (Nat.le_of_ble_eq_true rfl) fun p e s m args below meth c C => ?_
  unfold f_X5_takeQuestion at h
  refine x_aload_n (pc := 0) C 0 dX5_takeQuestion_0 rfl ?_
  refine x_aload_n (pc := 1) C 1 dX5_takeQuestion_1 rfl ?_
  refine x_aload_n (pc := 2) C 0 dX5_takeQuestion_2 rfl ?_
  refine x_geti (pc := 3) C (k := 5) hO.1 rfl rfl wd_134 dX5_takeQuestion_3 ⟨Nat.le_of_ble_eq_true rfl, rfl⟩ ?_
  refine x_aload_n (pc := 6) C 0 dX5_takeQuestion_6 rfl ?_
  refine x_geti (pc := 7) C (k := 6) hO.1 rfl rfl wd_136 dX5_takeQuestion_7 ⟨Nat.le_of_ble_eq_true rfl, rfl⟩ ?_
  obtain ⟨⟨r_1, S_1⟩, hc_1, h⟩ := of_bd h
  replace h := of_u2 h
  refine x_callV1 (pc := 10) C (o := o) [.ref (b + o1), .int (S.1 o 5), .int (S.1 o 6)] [] (c_X5_meetingBy (b := b) o o1 (S.1 o 5) (S.1 o 6) hO h1 S _ _ hc_1) cw_X5_106 vi_X5_meetingBy ⟨rfl, rfl, Nat.le_of_ble_eq_true rfl, Nat.le_of_ble_eq_true rfl⟩ ⟨Nat.le_refl _, Nat.le_refl _⟩ hO.1 ⟨rfl, rfl, rfl⟩ rfl ⟨rfl, Nat.le_of_ble_eq_true rfl⟩ dX5_takeQuestion_10 (fun hx_1 => ?_)
  refine x_istore_n (pc := 13) C 2 [(2, .int r_1), (0, .ref (b + o)), (1, .ref (b + o1))] dX5_takeQuestion_13 rfl (Nat.le_of_ble_eq_true rfl) rfl rfl ?_
  refine x_iload_n (pc := 14) C 0 dX5_takeQuestion_14 rfl ?_
  refine x_iconst (pc := 15) C (v := (1 : Int32)) dX5_takeQuestion_15 rfl ?_
  refine x_icmp_ne (pc := 16) C 24 dX5_takeQuestion_16 rfl (fun c_1 => ?_) (fun c_1 => ?_)
  · replace h := of_ifn c_1 h
    refine x_iload_n (pc := 24) C 0 dX5_takeQuestion_24 rfl ?_
    exact x_ireturn (pc := 25) C dX5_takeQuestion_25 (of_sp h).1 (of_sp h).2
  · replace h := of_ifp c_1 h
    refine x_aload_n (pc := 19) C 1 dX5_takeQuestion_19 rfl ?_
    refine x_aload_n (pc := 20) C 2 dX5_takeQuestion_20 rfl ?_
    obtain ⟨S_2, hc_2, h⟩ := of_bd h
    refine x_callV_ (pc := 21) C (o := o) [.ref (b + o1)] [] (c_X5_join (b := b) o o1 hO h1 S_1 _ hc_2) cw_X5_110 vi_X5_join ⟨rfl, rfl, Nat.le_of_ble_eq_true rfl, Nat.le_of_ble_eq_true rfl⟩ ⟨Nat.le_refl _, Nat.le_refl _⟩ hO.1 ⟨rfl, rfl, rfl⟩ rfl ⟨rfl, Nat.le_of_ble_eq_true rfl⟩ dX5_takeQuestion_21 (fun hx_2 => ?_)
    refine x_iload_n (pc := 24) C 0 dX5_takeQuestion_24 rfl ?_
    exact x_ireturn (pc := 25) C dX5_takeQuestion_25 (of_sp h).1 (of_sp h).2
set_option maxRecDepth 100000 in
set_option maxHeartbeats 4000000 in
theorem c_X5_takeRule {l : Launch} {G : zz_G} {L : Ly} {b : Nat} (o : Nat) (p1 : Int32) (hO : isW L o) (S : Sg) (rf : Int32) (Sf : Sg) (h : f_X5_takeRule o p1 S = some (rf, Sf)) : Met l yX5_takeRule (Cond.code yX5_takeRule cX5_takeRule 2 (some .boolean) :: zz_all) (rmz 1 21) (PC G L b S [.ref (b + o), .int p1]) (QC G L b Sf (some (.int rf)) (rf = 0 ∨ rf = 1)) 0 0 (fun q => b ≤ q) := by
  refine x_met [.ref (b + o), .int p1] (by decide +kernel) (Nat.le_of_ble_eq_true rfl) fun p e s m args below meth c C => ?_
  unfold f_X5_takeRule at h
  refine x_iload_n (pc := 0) C 1 dX5_takeRule_0 rfl ?_
  refine x_iconst (pc := 1) C (v := (4 : Int32)) dX5_takeRule_1 rfl ?_
  refine x_callSN1 (pc := 2) C [.int p1, .int (4 : Int32)] [] (c_X6_isWithin (b := b) p1 (4 : Int32) S) cn_X5_72 vs_X6_isWithin ⟨rfl, rfl, Nat.le_of_ble_eq_true rfl, Nat.le_of_ble_eq_true rfl⟩ ⟨Nat.le_refl _, Nat.le_refl _⟩ rfl ⟨rfl, Nat.le_of_ble_eq_true rfl⟩ dX5_takeRule_2 (fun hx_1 => ?_)
  refine x_if_ne (pc := 5) C 10 dX5_takeRule_5 rfl (fun c_1 => ?_) (fun c_1 => ?_)
  · replace h := of_ifn c_1 h
    refine x_aload_n (pc := 10) C 0 dX5_takeRule_10 rfl ?_
    refine x_iload_n (pc := 11) C 1 dX5_takeRule_11 rfl ?_
    obtain ⟨S_1, eS_1, h⟩ := of_lt h
    refine x_puti (pc := 12) C (k := 5) hO.1 rfl rfl wd_134 dX5_takeRule_12 ⟨Nat.le_of_ble_eq_true rfl, rfl⟩ eS_1 ?_
    refine x_iconst (pc := 15) C (v := (1 : Int32)) dX5_takeRule_15 rfl ?_
    exact x_zreturn (pc := 16) C (by decide) dX5_takeRule_16 (of_sp h).1 (of_sp h).2
  · replace h := of_ifp c_1 h
    refine x_iconst (pc := 8) C (v := (0 : Int32)) dX5_takeRule_8 rfl ?_
    exact x_zreturn (pc := 9) C (by decide) dX5_takeRule_9 (of_sp h).1 (of_sp h).2
set_option maxRecDepth 100000 in
set_option maxHeartbeats 4000000 in
theorem l_X5_isFree_2 {p : Program} {l : Launch} {e : Env} {s : State} {m : MethodId} {args : Array Value} {below : List Frame} {meth : Method} {c : Code} {G : zz_G} {L : Ly} {b : Nat} (C : CX p G s m args meth c cX5_isFree yX5_isFree 3 (some .boolean)) (o : Nat) (hO : isW L o) (v1 : Int32) (S : Sg) (rf : Int32) : ∀ (n : Nat) (v2 : Int32) {z}, L_X5_isFree_2 o v1 S n v2 = some z → (∀ q, z = .inl q → q = rf) → (z = .inr () → X p l e (rmz 2 43) s m args below meth c 0 0 (RQ G L b S below args s (some (.int rf)) (rf = 0 ∨ rf = 1)) 3 G L b S 27 [] []) → X p l e (rmz 2 43) s m args below meth c 0 0 (RQ G L b S below args s (some (.int rf)) (rf = 0 ∨ rf = 1)) 3 G L b S 2 [(0, .ref (b + o)), (1, .int v1), (2, .int v2)] [] := by
  intro n
  induction n with
  | zero =>
    intro v2 z h
    exact of_none h
  | succ n ih =>
    intro v2 z h hr hx
    rw [L_X5_isFree_2] at h
    refine x_iload_n (pc := 2) C 2 dX5_isFree_2 rfl ?_
    refine x_aload_n (pc := 3) C 0 dX5_isFree_3 rfl ?_
    refine x_geti (pc := 4) C (k := 9) hO.1 rfl rfl wd_141 dX5_isFree_4 ⟨Nat.le_of_ble_eq_true rfl, rfl⟩ ?_
    refine x_icmp_ge (pc := 7) C 27 dX5_isFree_7 rfl (fun c_1 => ?_) (fun c_1 => ?_)
    · replace h := of_ifn c_1 h
      exact x_sub [] rfl (hx (of_s1 h).symm)
    · replace h := of_ifp c_1 h
      refine x_aload_n (pc := 10) C 0 dX5_isFree_10 rfl ?_
      refine x_iload_n (pc := 11) C 2 dX5_isFree_11 rfl ?_
      refine x_iload_n (pc := 12) C 1 dX5_isFree_12 rfl ?_
      obtain ⟨r_1, hc_1, h⟩ := of_bd h
      refine x_callV1 (pc := 13) C (o := o) [.int v2, .int v1] [] (c_X5_coefficient (b := b) o v2 v1 hO S _ hc_1) cw_X5_80 vi_X5_coefficient ⟨rfl, rfl, Nat.le_of_ble_eq_true rfl, Nat.le_of_ble_eq_true rfl⟩ ⟨Nat.le_refl _, Nat.le_refl _⟩ hO.1 ⟨rfl, rfl, rfl⟩ rfl ⟨rfl, Nat.le_of_ble_eq_true rfl⟩ dX5_isFree_13 (fun hx_1 => ?_)
      refine x_if_eq (pc := 16) C 21 dX5_isFree_16 rfl (fun c_2 => ?_) (fun c_2 => ?_)
      · replace h := of_ifp c_2 h
        obtain ⟨v2_1, ev2_1, h⟩ := of_lt h
        refine x_iinc (pc := 21) C (w := (1 : Int32)) 2 [(2, .int v2_1), (0, .ref (b + o)), (1, .int v1)] dX5_isFree_21 rfl rfl (Nat.le_of_ble_eq_true rfl) ev2_1 rfl ?_
        refine x_goto (pc := 24) C 2 dX5_isFree_24 rfl ?_
        exact x_sub [1, 2, 0] rfl (ih _ h hr hx)
      · replace h := of_ifn c_2 h
        refine x_iconst (pc := 19) C (v := (0 : Int32)) dX5_isFree_19 rfl ?_
        have hq := hr _ (of_s1 h).symm
        exact x_zreturn (pc := 20) C (by decide) dX5_isFree_20 hq rfl
set_option maxRecDepth 100000 in
set_option maxHeartbeats 4000000 in
theorem c_X5_isFree {l : Launch} {G : zz_G} {L : Ly} {b : Nat} (o : Nat) (p1 : Int32) (hO : isW L o) (S : Sg) (rf : Int32) (h : f_X5_isFree o p1 S = some rf) : Met l yX5_isFree (Cond.code yX5_isFree cX5_isFree 3 (some .boolean) :: zz_all) (rmz 2 43) (PC G L b S [.ref (b + o), .int p1]) (QC G L b S (some (.int rf)) (rf = 0 ∨ rf = 1)) 0 0 (fun q => b ≤ q) := by
  refine x_met [.ref (b + o), .int p1] (by decide +kernel) (Nat.le_of_ble_eq_true rfl) fun p e s m args below meth c C => ?_
  unfold f_X5_isFree at h
  refine x_iconst (pc := 0) C (v := (0 : Int32)) dX5_isFree_0 rfl ?_
  refine x_istore_n (pc := 1) C 2 [(2, .int (0 : Int32)), (0, .ref (b + o)), (1, .int p1)] dX5_isFree_1 rfl (Nat.le_of_ble_eq_true rfl) rfl rfl ?_
  refine x_sub [1, 2, 0] rfl ?_
  obtain ⟨z_hz_1, hz_1, hl, hrr⟩ := of_bs h
  refine l_X5_isFree_2 C o hO p1 S rf 400 _ hz_1 (fun q ez => of_s1 (hl _ ez)) (fun ez => ?_)
  replace h := hrr _ ez
  clear hl hrr
  refine x_iconst (pc := 27) C (v := (1 : Int32)) dX5_isFree_27 rfl ?_
  exact x_zreturn (pc := 28) C (by decide) dX5_isFree_28 (of_s1 h) rfl
set_option maxRecDepth 100000 in
set_option maxHeartbeats 4000000 in
theorem c_X5_variableOf {l : Launch} {G : zz_G} {L : Ly} {b : Nat} (o : Nat) (p1 : Int32) (hO : isW L o) (S : Sg) (rf : Int32) (h : f_X5_variableOf o p1 S = some rf) : Met l yX5_variableOf (Cond.code yX5_variableOf cX5_variableOf 2 (some .int) :: zz_all) (rmz 1 21) (PC G L b S [.ref (b + o), .int p1]) (QC G L b S (some (.int rf)) True) 0 0 (fun q => b ≤ q) := by
  refine x_met [.ref (b + o), .int p1] (by decide +kernel) (Nat.le_of_ble_eq_true rfl) fun p e s m args below meth c C => ?_
  unfold f_X5_variableOf at h
  refine x_iload_n (pc := 0) C 1 dX5_variableOf_0 rfl ?_
  refine x_bipush (pc := 1) C (v := (8 : Int32)) dX5_variableOf_1 rfl ?_
  refine x_callSN1 (pc := 3) C [.int p1, .int (8 : Int32)] [] (c_X6_isWithin (b := b) p1 (8 : Int32) S) cn_X5_72 vs_X6_isWithin ⟨rfl, rfl, Nat.le_of_ble_eq_true rfl, Nat.le_of_ble_eq_true rfl⟩ ⟨Nat.le_refl _, Nat.le_refl _⟩ rfl ⟨rfl, Nat.le_of_ble_eq_true rfl⟩ dX5_variableOf_3 (fun hx_1 => ?_)
  refine x_if_eq (pc := 6) C 18 dX5_variableOf_6 rfl (fun c_1 => ?_) (fun c_1 => ?_)
  · replace h := of_ifp c_1 h
    refine x_bipush (pc := 18) C (v := (-9 : Int32)) dX5_variableOf_18 rfl ?_
    exact x_ireturn (pc := 20) C dX5_variableOf_20 (of_s1 h) rfl
  · replace h := of_ifn c_1 h
    refine x_aload_n (pc := 9) C 0 dX5_variableOf_9 rfl ?_
    refine x_getr (pc := 10) C (k := 0) (o + 1) hO.1 rfl rfl wd_127 dX5_variableOf_10 (Nat.le_of_ble_eq_true rfl) rfl ?_
    refine x_iload_n (pc := 13) C 1 dX5_variableOf_13 rfl ?_
    obtain ⟨g_1, h⟩ := of_gd h
    refine x_iaload (pc := 14) C hO.2.1 g_1 dX5_variableOf_14 ?_
    refine x_goto (pc := 15) C 20 dX5_variableOf_15 rfl ?_
    exact x_ireturn (pc := 20) C dX5_variableOf_20 (of_s1 h) rfl
set_option maxRecDepth 100000 in
set_option maxHeartbeats 4000000 in
theorem c_X5_takeTold {l : Launch} {G : zz_G} {L : Ly} {b : Nat} (o : Nat) (p1 : Int32) (p2 : Int32) (hO : isW L o) (S : Sg) (rf : Int32) (Sf : Sg) (h : f_X5_takeTold o p1 p2 S = some (rf, Sf)) : Met l yX5_takeTold (Cond.code yX5_takeTold cX5_takeTold 4 (some .boolean) :: zz_all) (rmz 3 65) (PC G L b S [.ref (b + o), .int p1, .int p2]) (QC G L b Sf (some (.int rf)) (rf = 0 ∨ rf = 1)) 0 0 (fun q => b ≤ q) := by
  refine x_met [.ref (b + o), .int p1, .int p2] (by decide +kernel) (Nat.le_of_ble_eq_true rfl) fun p e s m args below meth c C => ?_
  unfold f_X5_takeTold at h
  refine x_aload_n (pc := 0) C 0 dX5_takeTold_0 rfl ?_
  refine x_iload_n (pc := 1) C 1 dX5_takeTold_1 rfl ?_
  obtain ⟨r_1, hc_1, h⟩ := of_bd h
  refine x_callV1 (pc := 2) C (o := o) [.int p1] [] (c_X5_variableOf (b := b) o p1 hO S _ hc_1) cw_X5_99 vi_X5_variableOf ⟨rfl, rfl, Nat.le_of_ble_eq_true rfl, Nat.le_of_ble_eq_true rfl⟩ ⟨Nat.le_refl _, Nat.le_refl _⟩ hO.1 ⟨rfl, rfl, rfl⟩ rfl ⟨rfl, Nat.le_of_ble_eq_true rfl⟩ dX5_takeTold_2 (fun hx_1 => ?_)
  refine x_istore_n (pc := 5) C 3 [(3, .int r_1), (0, .ref (b + o)), (1, .int p1), (2, .int p2)] dX5_takeTold_5 rfl (Nat.le_of_ble_eq_true rfl) rfl rfl ?_
  refine x_aload_n (pc := 6) C 1 dX5_takeTold_6 rfl ?_
  refine x_iload_n (pc := 7) C 0 dX5_takeTold_7 rfl ?_
  refine x_callV1 (pc := 8) C (o := o) [.int r_1] [] (c_X5_has (b := b) o r_1 hO S) cw_X5_76 vi_X5_has ⟨rfl, rfl, Nat.le_of_ble_eq_true rfl, Nat.le_of_ble_eq_true rfl⟩ ⟨Nat.le_refl _, Nat.le_refl _⟩ hO.1 ⟨rfl, rfl, rfl⟩ rfl ⟨rfl, Nat.le_of_ble_eq_true rfl⟩ dX5_takeTold_8 (fun hx_2 => ?_)
  refine x_if_eq (pc := 11) C 22 dX5_takeTold_11 rfl (fun c_1 => ?_) (fun c_1 => ?_)
  · replace h := of_ifp c_1 h
    refine x_iconst (pc := 22) C (v := (0 : Int32)) dX5_takeTold_22 rfl ?_
    exact x_zreturn (pc := 23) C (by decide) dX5_takeTold_23 (of_sp h).1 (of_sp h).2
  · replace h := of_ifn c_1 h
    refine x_aload_n (pc := 14) C 1 dX5_takeTold_14 rfl ?_
    refine x_iload_n (pc := 15) C 0 dX5_takeTold_15 rfl ?_
    obtain ⟨r_2, hc_2, h⟩ := of_bd h
    refine x_callV1 (pc := 16) C (o := o) [.int r_1] [] (c_X5_isFree (b := b) o r_1 hO S _ hc_2) cw_X5_84 vi_X5_isFree ⟨rfl, rfl, Nat.le_of_ble_eq_true rfl, Nat.le_of_ble_eq_true rfl⟩ ⟨Nat.le_refl _, Nat.le_refl _⟩ hO.1 ⟨rfl, rfl, rfl⟩ rfl ⟨rfl, Nat.le_of_ble_eq_true rfl⟩ dX5_takeTold_16 (fun hx_3 => ?_)
    refine x_if_ne (pc := 19) C 24 dX5_takeTold_19 rfl (fun c_2 => ?_) (fun c_2 => ?_)
    · replace h := of_ifn c_2 h
      refine x_aload_n (pc := 24) C 1 dX5_takeTold_24 rfl ?_
      refine x_iload_n (pc := 25) C 0 dX5_takeTold_25 rfl ?_
      refine x_iload_n (pc := 26) C 3 dX5_takeTold_26 rfl ?_
      obtain ⟨S_1, hc_3, h⟩ := of_bd h
      refine x_callV_ (pc := 27) C (o := o) [.int r_1, .int p2] [] (c_X5_set (b := b) o r_1 p2 hO S _ hc_3) cw_X5_102 vi_X5_set ⟨rfl, rfl, Nat.le_of_ble_eq_true rfl, Nat.le_of_ble_eq_true rfl⟩ ⟨Nat.le_refl _, Nat.le_refl _⟩ hO.1 ⟨rfl, rfl, rfl⟩ rfl ⟨rfl, Nat.le_of_ble_eq_true rfl⟩ dX5_takeTold_27 (fun hx_4 => ?_)
      refine x_iconst (pc := 30) C (v := (1 : Int32)) dX5_takeTold_30 rfl ?_
      exact x_zreturn (pc := 31) C (by decide) dX5_takeTold_31 (of_sp h).1 (of_sp h).2
    · replace h := of_ifp c_2 h
      refine x_iconst (pc := 22) C (v := (0 : Int32)) dX5_takeTold_22 rfl ?_
      exact x_zreturn (pc := 23) C (by decide) dX5_takeTold_23 (of_sp h).1 (of_sp h).2
set_option maxRecDepth 100000 in
set_option maxHeartbeats 4000000 in
theorem c_X3_performOne {l : Launch} {G : zz_G} {L : Ly} {b : Nat} (o0 : Nat) (n0 : Nat) (p1 : Int32) (o2 : Nat) (o3 : Nat) (h0 : isNum L o0 n0) (h2 : isW L o2) (h3 : isQ L o3) (S : Sg) (rf : Int32) (Sf : Sg) (h : f_X3_performOne o0 n0 p1 o2 o3 S = some (rf, Sf)) : Met l yX3_performOne (Cond.code yX3_performOne cX3_performOne 4 (some .boolean) :: zz_all) (rmz 4 96) (PC G L b S [.ref (b + o0), .int p1, .ref (b + o2), .ref (b + o3)]) (QC G L b Sf (some (.int rf)) (rf = 0 ∨ rf = 1)) 0 0 (fun q => b ≤ q) := by
  refine x_met [.ref (b + o0), .int p1, .ref (b + o2), .ref (b + o3)] (by decide +kernel) (Nat.le_of_ble_eq_true rfl) fun p e s m args below meth c C => ?_
  unfold f_X3_performOne at h
  refine x_aload_n (pc := 0) C 0 dX3_performOne_0 rfl ?_
  refine x_iload_n (pc := 1) C 1 dX3_performOne_1 rfl ?_
  obtain ⟨r_1, hc_1, h⟩ := of_bd h
  refine x_callV1 (pc := 2) C (o := o0) [.int p1] [] (c_X1_at (b := b) o0 n0 p1 h0 S _ hc_1) cw_X3_25 vi_X1_at ⟨rfl, rfl, Nat.le_of_ble_eq_true rfl, Nat.le_of_ble_eq_true rfl⟩ ⟨Nat.le_refl _, Nat.le_refl _⟩ h0.1 ⟨rfl, rfl, rfl⟩ rfl ⟨rfl, Nat.le_of_ble_eq_true rfl⟩ dX3_performOne_2 (fun hx_1 => ?_)
  by_cases c_1 : r_1 = (98 : Int32)
  · replace h := of_ifp c_1 h
    refine x_look (pc := 5) C 94 dX3_performOne_5 rfl (by rw [c_1] <;> rfl) rfl ?_
    refine x_aload_n (pc := 94) C 2 dX3_performOne_94 rfl ?_
    refine x_aload_n (pc := 95) C 0 dX3_performOne_95 rfl ?_
    refine x_iload_n (pc := 96) C 1 dX3_performOne_96 rfl ?_
    refine x_iconst (pc := 97) C (v := (1 : Int32)) dX3_performOne_97 rfl ?_
    refine x_iadd (pc := 98) C dX3_performOne_98 ?_
    obtain ⟨r_2, hc_2, h⟩ := of_bd h
    refine x_callS1 (pc := 99) C [.ref (b + o0), .int (p1 + (1 : Int32))] [.ref (b + o2)] (c_X3_pair (b := b) o0 n0 (p1 + (1 : Int32)) h0 S _ hc_2) cw_X3_36 vs_X3_pair ⟨rfl, rfl, Nat.le_of_ble_eq_true rfl, Nat.le_of_ble_eq_true rfl⟩ ⟨Nat.le_refl _, Nat.le_refl _⟩ rfl ⟨rfl, Nat.le_of_ble_eq_true rfl⟩ dX3_performOne_99 (fun hx_2 => ?_)
    refine x_aload_n (pc := 102) C 0 dX3_performOne_102 rfl ?_
    refine x_iload_n (pc := 103) C 1 dX3_performOne_103 rfl ?_
    refine x_iconst (pc := 104) C (v := (3 : Int32)) dX3_performOne_104 rfl ?_
    refine x_iadd (pc := 105) C dX3_performOne_105 ?_
    obtain ⟨r_3, hc_3, h⟩ := of_bd h
    refine x_callS1 (pc := 106) C [.ref (b + o0), .int (p1 + (3 : Int32))] [.int r_2, .ref (b + o2)] (c_X3_pair (b := b) o0 n0 (p1 + (3 : Int32)) h0 S _ hc_3) cw_X3_36 vs_X3_pair ⟨rfl, rfl, Nat.le_of_ble_eq_true rfl, Nat.le_of_ble_eq_true rfl⟩ ⟨Nat.le_refl _, Nat.le_refl _⟩ rfl ⟨rfl, Nat.le_of_ble_eq_true rfl⟩ dX3_performOne_106 (fun hx_3 => ?_)
    refine x_aload_n (pc := 109) C 0 dX3_performOne_109 rfl ?_
    refine x_iload_n (pc := 110) C 1 dX3_performOne_110 rfl ?_
    refine x_iconst (pc := 111) C (v := (5 : Int32)) dX3_performOne_111 rfl ?_
    refine x_iadd (pc := 112) C dX3_performOne_112 ?_
    obtain ⟨r_4, hc_4, h⟩ := of_bd h
    refine x_callS1 (pc := 113) C [.ref (b + o0), .int (p1 + (5 : Int32))] [.int r_3, .int r_2, .ref (b + o2)] (c_X3_pair (b := b) o0 n0 (p1 + (5 : Int32)) h0 S _ hc_4) cw_X3_36 vs_X3_pair ⟨rfl, rfl, Nat.le_of_ble_eq_true rfl, Nat.le_of_ble_eq_true rfl⟩ ⟨Nat.le_refl _, Nat.le_refl _⟩ rfl ⟨rfl, Nat.le_of_ble_eq_true rfl⟩ dX3_performOne_113 (fun hx_4 => ?_)
    obtain ⟨⟨r_5, S_1⟩, hc_5, h⟩ := of_bd h
    replace h := of_u2 h
    refine x_callV1 (pc := 116) C (o := o2) [.int r_2, .int r_3, .int r_4] [] (c_X5_takeBounds (b := b) o2 r_2 r_3 r_4 h2 S _ _ hc_5) cw_X3_48 vi_X5_takeBounds ⟨rfl, rfl, Nat.le_of_ble_eq_true rfl, Nat.le_of_ble_eq_true rfl⟩ ⟨Nat.le_refl _, Nat.le_refl _⟩ h2.1 ⟨rfl, rfl, rfl⟩ rfl ⟨rfl, Nat.le_of_ble_eq_true rfl⟩ dX3_performOne_116 (fun hx_5 => ?_)
    exact x_zreturn (pc := 119) C hx_5 dX3_performOne_119 (of_sp h).1 (of_sp h).2
  replace h := of_ifn c_1 h
  by_cases c_2 : r_1 = (99 : Int32)
  · replace h := of_ifp c_2 h
    refine x_look (pc := 5) C 75 dX3_performOne_5 rfl (by rw [c_2] <;> rfl) rfl ?_
    refine x_aload_n (pc := 75) C 2 dX3_performOne_75 rfl ?_
    refine x_aload_n (pc := 76) C 0 dX3_performOne_76 rfl ?_
    refine x_iload_n (pc := 77) C 1 dX3_performOne_77 rfl ?_
    refine x_iconst (pc := 78) C (v := (1 : Int32)) dX3_performOne_78 rfl ?_
    refine x_iadd (pc := 79) C dX3_performOne_79 ?_
    obtain ⟨r_6, hc_6, h⟩ := of_bd h
    refine x_callS1 (pc := 80) C [.ref (b + o0), .int (p1 + (1 : Int32))] [.ref (b + o2)] (c_X3_digit (b := b) o0 n0 (p1 + (1 : Int32)) h0 S _ hc_6) cw_X3_32 vs_X3_digit ⟨rfl, rfl, Nat.le_of_ble_eq_true rfl, Nat.le_of_ble_eq_true rfl⟩ ⟨Nat.le_refl _, Nat.le_refl _⟩ rfl ⟨rfl, Nat.le_of_ble_eq_true rfl⟩ dX3_performOne_80 (fun hx_6 => ?_)
    refine x_aload_n (pc := 83) C 0 dX3_performOne_83 rfl ?_
    refine x_iload_n (pc := 84) C 1 dX3_performOne_84 rfl ?_
    refine x_iconst (pc := 85) C (v := (2 : Int32)) dX3_performOne_85 rfl ?_
    refine x_iadd (pc := 86) C dX3_performOne_86 ?_
    obtain ⟨r_7, hc_7, h⟩ := of_bd h
    refine x_callS1 (pc := 87) C [.ref (b + o0), .int (p1 + (2 : Int32))] [.int r_6, .ref (b + o2)] (c_X3_pair (b := b) o0 n0 (p1 + (2 : Int32)) h0 S _ hc_7) cw_X3_36 vs_X3_pair ⟨rfl, rfl, Nat.le_of_ble_eq_true rfl, Nat.le_of_ble_eq_true rfl⟩ ⟨Nat.le_refl _, Nat.le_refl _⟩ rfl ⟨rfl, Nat.le_of_ble_eq_true rfl⟩ dX3_performOne_87 (fun hx_7 => ?_)
    obtain ⟨⟨r_8, S_2⟩, hc_8, h⟩ := of_bd h
    replace h := of_u2 h
    refine x_callV1 (pc := 90) C (o := o2) [.int r_6, .int r_7] [] (c_X5_takeChange (b := b) o2 r_6 r_7 h2 S _ _ hc_8) cw_X3_45 vi_X5_takeChange ⟨rfl, rfl, Nat.le_of_ble_eq_true rfl, Nat.le_of_ble_eq_true rfl⟩ ⟨Nat.le_refl _, Nat.le_refl _⟩ h2.1 ⟨rfl, rfl, rfl⟩ rfl ⟨rfl, Nat.le_of_ble_eq_true rfl⟩ dX3_performOne_90 (fun hx_8 => ?_)
    exact x_zreturn (pc := 93) C hx_8 dX3_performOne_93 (of_sp h).1 (of_sp h).2
  replace h := of_ifn c_2 h
  by_cases c_3 : r_1 = (108 : Int32)
  · replace h := of_ifp c_3 h
    refine x_look (pc := 5) C 132 dX3_performOne_5 rfl (by rw [c_3] <;> rfl) rfl ?_
    refine x_aload_n (pc := 132) C 2 dX3_performOne_132 rfl ?_
    refine x_aload_n (pc := 133) C 0 dX3_performOne_133 rfl ?_
    refine x_iload_n (pc := 134) C 1 dX3_performOne_134 rfl ?_
    refine x_iconst (pc := 135) C (v := (1 : Int32)) dX3_performOne_135 rfl ?_
    refine x_iadd (pc := 136) C dX3_performOne_136 ?_
    obtain ⟨r_9, hc_9, h⟩ := of_bd h
    refine x_callS1 (pc := 137) C [.ref (b + o0), .int (p1 + (1 : Int32))] [.ref (b + o2)] (c_X3_pair (b := b) o0 n0 (p1 + (1 : Int32)) h0 S _ hc_9) cw_X3_36 vs_X3_pair ⟨rfl, rfl, Nat.le_of_ble_eq_true rfl, Nat.le_of_ble_eq_true rfl⟩ ⟨Nat.le_refl _, Nat.le_refl _⟩ rfl ⟨rfl, Nat.le_of_ble_eq_true rfl⟩ dX3_performOne_137 (fun hx_9 => ?_)
    obtain ⟨⟨r_10, S_3⟩, hc_10, h⟩ := of_bd h
    replace h := of_u2 h
    refine x_callV1 (pc := 140) C (o := o2) [.int r_9] [] (c_X5_takeLimit (b := b) o2 r_9 h2 S _ _ hc_10) cw_X3_56 vi_X5_takeLimit ⟨rfl, rfl, Nat.le_of_ble_eq_true rfl, Nat.le_of_ble_eq_true rfl⟩ ⟨Nat.le_refl _, Nat.le_refl _⟩ h2.1 ⟨rfl, rfl, rfl⟩ rfl ⟨rfl, Nat.le_of_ble_eq_true rfl⟩ dX3_performOne_140 (fun hx_10 => ?_)
    exact x_zreturn (pc := 143) C hx_10 dX3_performOne_143 (of_sp h).1 (of_sp h).2
  replace h := of_ifn c_3 h
  by_cases c_4 : r_1 = (114 : Int32)
  · replace h := of_ifp c_4 h
    refine x_look (pc := 5) C 120 dX3_performOne_5 rfl (by rw [c_4] <;> rfl) rfl ?_
    refine x_aload_n (pc := 120) C 2 dX3_performOne_120 rfl ?_
    refine x_aload_n (pc := 121) C 0 dX3_performOne_121 rfl ?_
    refine x_iload_n (pc := 122) C 1 dX3_performOne_122 rfl ?_
    refine x_iconst (pc := 123) C (v := (1 : Int32)) dX3_performOne_123 rfl ?_
    refine x_iadd (pc := 124) C dX3_performOne_124 ?_
    obtain ⟨r_11, hc_11, h⟩ := of_bd h
    refine x_callS1 (pc := 125) C [.ref (b + o0), .int (p1 + (1 : Int32))] [.ref (b + o2)] (c_X3_digit (b := b) o0 n0 (p1 + (1 : Int32)) h0 S _ hc_11) cw_X3_32 vs_X3_digit ⟨rfl, rfl, Nat.le_of_ble_eq_true rfl, Nat.le_of_ble_eq_true rfl⟩ ⟨Nat.le_refl _, Nat.le_refl _⟩ rfl ⟨rfl, Nat.le_of_ble_eq_true rfl⟩ dX3_performOne_125 (fun hx_11 => ?_)
    obtain ⟨⟨r_12, S_4⟩, hc_12, h⟩ := of_bd h
    replace h := of_u2 h
    refine x_callV1 (pc := 128) C (o := o2) [.int r_11] [] (c_X5_takeRule (b := b) o2 r_11 h2 S _ _ hc_12) cw_X3_52 vi_X5_takeRule ⟨rfl, rfl, Nat.le_of_ble_eq_true rfl, Nat.le_of_ble_eq_true rfl⟩ ⟨Nat.le_refl _, Nat.le_refl _⟩ h2.1 ⟨rfl, rfl, rfl⟩ rfl ⟨rfl, Nat.le_of_ble_eq_true rfl⟩ dX3_performOne_128 (fun hx_12 => ?_)
    exact x_zreturn (pc := 131) C hx_12 dX3_performOne_131 (of_sp h).1 (of_sp h).2
  replace h := of_ifn c_4 h
  by_cases c_5 : r_1 = (118 : Int32)
  · replace h := of_ifp c_5 h
    refine x_look (pc := 5) C 56 dX3_performOne_5 rfl (by rw [c_5] <;> rfl) rfl ?_
    refine x_aload_n (pc := 56) C 2 dX3_performOne_56 rfl ?_
    refine x_aload_n (pc := 57) C 0 dX3_performOne_57 rfl ?_
    refine x_iload_n (pc := 58) C 1 dX3_performOne_58 rfl ?_
    refine x_iconst (pc := 59) C (v := (1 : Int32)) dX3_performOne_59 rfl ?_
    refine x_iadd (pc := 60) C dX3_performOne_60 ?_
    obtain ⟨r_13, hc_13, h⟩ := of_bd h
    refine x_callS1 (pc := 61) C [.ref (b + o0), .int (p1 + (1 : Int32))] [.ref (b + o2)] (c_X3_digit (b := b) o0 n0 (p1 + (1 : Int32)) h0 S _ hc_13) cw_X3_32 vs_X3_digit ⟨rfl, rfl, Nat.le_of_ble_eq_true rfl, Nat.le_of_ble_eq_true rfl⟩ ⟨Nat.le_refl _, Nat.le_refl _⟩ rfl ⟨rfl, Nat.le_of_ble_eq_true rfl⟩ dX3_performOne_61 (fun hx_13 => ?_)
    refine x_aload_n (pc := 64) C 0 dX3_performOne_64 rfl ?_
    refine x_iload_n (pc := 65) C 1 dX3_performOne_65 rfl ?_
    refine x_iconst (pc := 66) C (v := (2 : Int32)) dX3_performOne_66 rfl ?_
    refine x_iadd (pc := 67) C dX3_performOne_67 ?_
    obtain ⟨r_14, hc_14, h⟩ := of_bd h
    refine x_callS1 (pc := 68) C [.ref (b + o0), .int (p1 + (2 : Int32))] [.int r_13, .ref (b + o2)] (c_X3_pair (b := b) o0 n0 (p1 + (2 : Int32)) h0 S _ hc_14) cw_X3_36 vs_X3_pair ⟨rfl, rfl, Nat.le_of_ble_eq_true rfl, Nat.le_of_ble_eq_true rfl⟩ ⟨Nat.le_refl _, Nat.le_refl _⟩ rfl ⟨rfl, Nat.le_of_ble_eq_true rfl⟩ dX3_performOne_68 (fun hx_14 => ?_)
    obtain ⟨⟨r_15, S_5⟩, hc_15, h⟩ := of_bd h
    replace h := of_u2 h
    refine x_callV1 (pc := 71) C (o := o2) [.int r_13, .int r_14] [] (c_X5_takeTold (b := b) o2 r_13 r_14 h2 S _ _ hc_15) cw_X3_39 vi_X5_takeTold ⟨rfl, rfl, Nat.le_of_ble_eq_true rfl, Nat.le_of_ble_eq_true rfl⟩ ⟨Nat.le_refl _, Nat.le_refl _⟩ h2.1 ⟨rfl, rfl, rfl⟩ rfl ⟨rfl, Nat.le_of_ble_eq_true rfl⟩ dX3_performOne_71 (fun hx_15 => ?_)
    exact x_zreturn (pc := 74) C hx_15 dX3_performOne_74 (of_sp h).1 (of_sp h).2
  replace h := of_ifn c_5 h
  refine x_look (pc := 5) C 144 dX3_performOne_5 rfl (by rw [lv_osw c_1 (show ((98 : Int32)).toInt = 98 from rfl), lv_osw c_2 (show ((99 : Int32)).toInt = 99 from rfl), lv_osw c_3 (show ((108 : Int32)).toInt = 108 from rfl), lv_osw c_4 (show ((114 : Int32)).toInt = 114 from rfl), lv_osw c_5 (show ((118 : Int32)).toInt = 118 from rfl)] <;> rfl) rfl ?_
  refine x_aload_n (pc := 144) C 0 dX3_performOne_144 rfl ?_
  refine x_iload_n (pc := 145) C 1 dX3_performOne_145 rfl ?_
  refine x_aload_n (pc := 146) C 3 dX3_performOne_146 rfl ?_
  obtain ⟨⟨r_16, S_6⟩, hc_16, h⟩ := of_bd h
  replace h := of_u2 h
  refine x_callS1 (pc := 147) C [.ref (b + o0), .int p1, .ref (b + o3)] [] (c_X3_readQuestion (b := b) o0 n0 p1 o3 h0 h3 S _ _ hc_16) cw_X3_59 vs_X3_readQuestion ⟨rfl, rfl, Nat.le_of_ble_eq_true rfl, Nat.le_of_ble_eq_true rfl⟩ ⟨Nat.le_refl _, Nat.le_refl _⟩ rfl ⟨rfl, Nat.le_of_ble_eq_true rfl⟩ dX3_performOne_147 (fun hx_16 => ?_)
  refine x_if_eq (pc := 150) C 166 dX3_performOne_150 rfl (fun c_6 => ?_) (fun c_6 => ?_)
  · replace h := of_ifp c_6 h
    refine x_iconst (pc := 166) C (v := (0 : Int32)) dX3_performOne_166 rfl ?_
    exact x_zreturn (pc := 167) C (by decide) dX3_performOne_167 (of_sp h).1 (of_sp h).2
  · replace h := of_ifn c_6 h
    refine x_aload_n (pc := 153) C 2 dX3_performOne_153 rfl ?_
    refine x_aload_n (pc := 154) C 3 dX3_performOne_154 rfl ?_
    obtain ⟨⟨r_17, S_7⟩, hc_17, h⟩ := of_bd h
    replace h := of_u2 h
    refine x_callV1 (pc := 155) C (o := o2) [.ref (b + o3)] [] (c_X5_takeQuestion (b := b) o2 o3 h2 h3 S_6 _ _ hc_17) cw_X3_63 vi_X5_takeQuestion ⟨rfl, rfl, Nat.le_of_ble_eq_true rfl, Nat.le_of_ble_eq_true rfl⟩ ⟨Nat.le_refl _, Nat.le_refl _⟩ h2.1 ⟨rfl, rfl, rfl⟩ rfl ⟨rfl, Nat.le_of_ble_eq_true rfl⟩ dX3_performOne_155 (fun hx_17 => ?_)
    refine x_iconst (pc := 158) C (v := (2 : Int32)) dX3_performOne_158 rfl ?_
    obtain ⟨x_1, ex_1, h⟩ := of_lt h
    have kd_1 : X p l e (rmz 4 96) s m args below meth c 0 0 (RQ G L b Sf below args s (some (.int rf)) (rf = 0 ∨ rf = 1)) 4 G L b S_7 167 [] [.int x_1] := by
      exact x_zreturn (pc := 167) C (ex_1 ▸ (if01 (by decide) (by decide))) dX3_performOne_167 (of_sp h).1 (of_sp h).2
    refine x_icmp_eq (pc := 159) C 166 dX3_performOne_159 rfl (fun c_7 => ?_) (fun c_7 => ?_)
    · refine x_iconst (pc := 166) C (v := (0 : Int32)) dX3_performOne_166 rfl ?_
      refine x_sub [] rfl ?_
      rw [show x_1 = (0 : Int32) from (ex_1.trans (if_pos c_7))] at kd_1
      exact kd_1
    · refine x_iconst (pc := 162) C (v := (1 : Int32)) dX3_performOne_162 rfl ?_
      refine x_goto (pc := 163) C 167 dX3_performOne_163 rfl ?_
      refine x_sub [] rfl ?_
      rw [show x_1 = (1 : Int32) from (ex_1.trans (if_neg c_7))] at kd_1
      exact kd_1
set_option maxRecDepth 100000 in
set_option maxHeartbeats 4000000 in
theorem l_X3_perform_24 {p : Program} {l : Launch} {e : Env} {s : State} {m : MethodId} {args : Array Value} {below : List Frame} {meth : Method} {c : Code} {G : zz_G} {L : Ly} {b : Nat} (C : CX p G s m args meth c cX3_perform yX3_perform 7 (some .int)) (o0 : Nat) (n0 : Nat) (o1 : Nat) (o2 : Nat) (h0 : isNum L o0 n0) (h1 : isW L o1) (h2 : isQ L o2) (rf : Int32) (Sf : Sg) : ∀ (n : Nat) (v4 : Int32) (v5 : Int32) (v6 : Int32) (S : Sg) {z}, L_X3_perform_24 o0 n0 o1 o2 n v4 v5 v6 S = some z → (∀ q, z = .inl q → q.1 = rf ∧ q.2 = Sf) → (∀ (v5_o : Int32) (S_o : Sg), z = .inr (v5_o, S_o) → X p l e (rmz 5 119) s m args below meth c 0 0 (RQ G L b Sf below args s (some (.int rf)) True) 7 G L b S_o 83 [(5, .int v5_o)] []) → X p l e (rmz 5 119) s m args below meth c 0 0 (RQ G L b Sf below args s (some (.int rf)) True) 7 G L b S 24 [(0, .ref (b + o0)), (1, .ref (b + o1)), (2, .ref (b + o2)), (4, .int v4), (5, .int v5), (6, .int v6)] [] := by
  intro n
  induction n with
  | zero =>
    intro v4 v5 v6 S z h
    exact of_none h
  | succ n ih =>
    intro v4 v5 v6 S z h hr hx
    rw [L_X3_perform_24] at h
    refine x_iload (pc := 24) C 5 dX3_perform_24 rfl ?_
    refine x_bipush (pc := 26) C (v := (96 : Int32)) dX3_perform_26 rfl ?_
    refine x_icmp_ge (pc := 28) C 83 dX3_perform_28 rfl (fun c_1 => ?_) (fun c_1 => ?_)
    · replace h := of_ifn c_1 h
      exact x_sub [4] rfl (hx _ _ (of_s1 h).symm)
    · replace h := of_ifp c_1 h
      refine x_iload (pc := 31) C 3 dX3_perform_31 rfl ?_
      refine x_aload_n (pc := 33) C 0 dX3_perform_33 rfl ?_
      refine x_geti (pc := 34) C (k := 0) h0.1 rfl rfl wd_211 dX3_perform_34 ⟨Nat.le_of_ble_eq_true rfl, rfl⟩ ?_
      refine x_icmp_ge (pc := 37) C 83 dX3_perform_37 rfl (fun c_2 => ?_) (fun c_2 => ?_)
      · replace h := of_ifn c_2 h
        exact x_sub [4] rfl (hx _ _ (of_s1 h).symm)
      · replace h := of_ifp c_2 h
        refine x_aload_n (pc := 40) C 0 dX3_perform_40 rfl ?_
        refine x_iload (pc := 41) C 3 dX3_perform_41 rfl ?_
        refine x_aload_n (pc := 43) C 1 dX3_perform_43 rfl ?_
        refine x_aload_n (pc := 44) C 2 dX3_perform_44 rfl ?_
        obtain ⟨⟨r_1, S_1⟩, hc_1, h⟩ := of_bd h
        replace h := of_u2 h
        refine x_callS1 (pc := 45) C [.ref (b + o0), .int v4, .ref (b + o1), .ref (b + o2)] [] (c_X3_performOne (b := b) o0 n0 v4 o1 o2 h0 h1 h2 S _ _ hc_1) cw_X3_21 vs_X3_performOne ⟨rfl, rfl, Nat.le_of_ble_eq_true rfl, Nat.le_of_ble_eq_true rfl⟩ ⟨Nat.le_refl _, Nat.le_refl _⟩ rfl ⟨rfl, Nat.le_of_ble_eq_true rfl⟩ dX3_perform_45 (fun hx_1 => ?_)
        refine x_if_ne (pc := 48) C 58 dX3_perform_48 rfl (fun c_3 => ?_) (fun c_3 => ?_)
        · replace h := of_ifn c_3 h
          refine x_iload (pc := 58) C 3 dX3_perform_58 rfl ?_
          refine x_aload_n (pc := 60) C 0 dX3_perform_60 rfl ?_
          refine x_iload (pc := 61) C 3 dX3_perform_61 rfl ?_
          obtain ⟨r_2, hc_2, h⟩ := of_bd h
          refine x_callV1 (pc := 63) C (o := o0) [.int v4] [.int v4] (c_X1_at (b := b) o0 n0 v4 h0 S_1 _ hc_2) cw_X3_25 vi_X1_at ⟨rfl, rfl, Nat.le_of_ble_eq_true rfl, Nat.le_of_ble_eq_true rfl⟩ ⟨Nat.le_refl _, Nat.le_refl _⟩ h0.1 ⟨rfl, rfl, rfl⟩ rfl ⟨rfl, Nat.le_of_ble_eq_true rfl⟩ dX3_perform_63 (fun hx_2 => ?_)
          refine x_callS1 (pc := 66) C [.int r_2] [.int v4] (c_X3_digitsBehind (b := b) r_2 S_1) cw_X3_29 vs_X3_digitsBehind ⟨rfl, rfl, Nat.le_of_ble_eq_true rfl, Nat.le_of_ble_eq_true rfl⟩ ⟨Nat.le_refl _, Nat.le_refl _⟩ rfl ⟨rfl, Nat.le_of_ble_eq_true rfl⟩ dX3_perform_66 (fun hx_3 => ?_)
          refine x_iconst (pc := 69) C (v := (2 : Int32)) dX3_perform_69 rfl ?_
          refine x_iadd (pc := 70) C dX3_perform_70 ?_
          refine x_iadd (pc := 71) C dX3_perform_71 ?_
          obtain ⟨v4_1, ev4_1, h⟩ := of_lt h
          refine x_istore (pc := 72) C [(4, .int v4_1), (0, .ref (b + o0)), (1, .ref (b + o1)), (2, .ref (b + o2)), (5, .int v5), (6, .int v6)] dX3_perform_72 (Nat.le_of_ble_eq_true rfl) ev4_1 rfl ?_
          obtain ⟨v5_1, ev5_1, h⟩ := of_lt h
          refine x_iinc (pc := 74) C (w := (1 : Int32)) 4 [(5, .int v5_1), (4, .int v4_1), (0, .ref (b + o0)), (1, .ref (b + o1)), (2, .ref (b + o2)), (6, .int v6)] dX3_perform_74 rfl rfl (Nat.le_of_ble_eq_true rfl) ev5_1 rfl ?_
          obtain ⟨v6_1, ev6_1, h⟩ := of_lt h
          refine x_iinc (pc := 77) C (w := (1 : Int32)) 5 [(6, .int v6_1), (5, .int v5_1), (4, .int v4_1), (0, .ref (b + o0)), (1, .ref (b + o1)), (2, .ref (b + o2))] dX3_perform_77 rfl rfl (Nat.le_of_ble_eq_true rfl) ev6_1 rfl ?_
          refine x_goto (pc := 80) C 24 dX3_perform_80 rfl ?_
          exact x_sub [3, 4, 5, 2, 1, 0] rfl (ih _ _ _ _ h hr hx)
        · replace h := of_ifp c_3 h
          refine x_sipush (pc := 51) C (v := (-2000 : Int32)) dX3_perform_51 rfl ?_
          refine x_iload (pc := 54) C 3 dX3_perform_54 rfl ?_
          refine x_isub (pc := 56) C dX3_perform_56 ?_
          have hq := hr _ (of_s1 h).symm
          exact x_ireturn (pc := 57) C dX3_perform_57 hq.1 hq.2
set_option maxRecDepth 100000 in
set_option maxHeartbeats 4000000 in
theorem c_X3_perform {l : Launch} {G : zz_G} {L : Ly} {b : Nat} (o0 : Nat) (n0 : Nat) (o1 : Nat) (o2 : Nat) (h0 : isNum L o0 n0) (h1 : isW L o1) (h2 : isQ L o2) (S : Sg) (rf : Int32) (Sf : Sg) (h : f_X3_perform o0 n0 o1 o2 S = some (rf, Sf)) : Met l yX3_perform (Cond.code yX3_perform cX3_perform 7 (some .int) :: zz_all) (rmz 5 119) (PC G L b S [.ref (b + o0), .ref (b + o1), .ref (b + o2)]) (QC G L b Sf (some (.int rf)) True) 0 0 (fun q => b ≤ q) := by
  refine x_met [.ref (b + o0), .ref (b + o1), .ref (b + o2)] (by decide +kernel) (Nat.le_of_ble_eq_true rfl) fun p e s m args below meth c C => ?_
  unfold f_X3_perform at h
  refine x_aload_n (pc := 0) C 0 dX3_perform_0 rfl ?_
  obtain ⟨r_1, hc_1, h⟩ := of_bd h
  refine x_callS1 (pc := 1) C [.ref (b + o0)] [] (c_X3_firstMisfit (b := b) o0 n0 h0 S _ hc_1) cw_X3_9 vs_X3_firstMisfit ⟨rfl, rfl, Nat.le_of_ble_eq_true rfl, Nat.le_of_ble_eq_true rfl⟩ ⟨Nat.le_refl _, Nat.le_refl _⟩ rfl ⟨rfl, Nat.le_of_ble_eq_true rfl⟩ dX3_perform_1 (fun hx_1 => ?_)
  refine x_istore_n (pc := 4) C 3 [(3, .int r_1), (0, .ref (b + o0)), (1, .ref (b + o1)), (2, .ref (b + o2))] dX3_perform_4 rfl (Nat.le_of_ble_eq_true rfl) rfl rfl ?_
  refine x_iload_n (pc := 5) C 0 dX3_perform_5 rfl ?_
  refine x_if_lt (pc := 6) C 15 dX3_perform_6 rfl (fun c_1 => ?_) (fun c_1 => ?_)
  · replace h := of_ifp c_1 h
    refine x_iconst (pc := 15) C (v := (0 : Int32)) dX3_perform_15 rfl ?_
    refine x_istore (pc := 16) C [(4, .int (0 : Int32)), (3, .int r_1), (0, .ref (b + o0)), (1, .ref (b + o1)), (2, .ref (b + o2))] dX3_perform_16 (Nat.le_of_ble_eq_true rfl) rfl rfl ?_
    refine x_iconst (pc := 18) C (v := (0 : Int32)) dX3_perform_18 rfl ?_
    refine x_istore (pc := 19) C [(5, .int (0 : Int32)), (4, .int (0 : Int32)), (3, .int r_1), (0, .ref (b + o0)), (1, .ref (b + o1)), (2, .ref (b + o2))] dX3_perform_19 (Nat.le_of_ble_eq_true rfl) rfl rfl ?_
    refine x_iconst (pc := 21) C (v := (0 : Int32)) dX3_perform_21 rfl ?_
    refine x_istore (pc := 22) C [(6, .int (0 : Int32)), (5, .int (0 : Int32)), (4, .int (0 : Int32)), (3, .int r_1), (0, .ref (b + o0)), (1, .ref (b + o1)), (2, .ref (b + o2))] dX3_perform_22 (Nat.le_of_ble_eq_true rfl) rfl rfl ?_
    refine x_sub [4, 5, 6, 2, 1, 0] rfl ?_
    obtain ⟨z_hz_1, hz_1, hl, hrr⟩ := of_bs h
    refine l_X3_perform_24 C o0 n0 o1 o2 h0 h1 h2 rf Sf 400 _ _ _ _ hz_1 (fun q ez => of_sp (x := q.1) (u := q.2) (hl _ ez)) (fun v5_1 S_1 ez => ?_)
    replace h := hrr _ ez
    clear hl hrr
    replace h := of_u2 h
    refine x_iload (pc := 83) C 0 dX3_perform_83 rfl ?_
    exact x_ireturn (pc := 85) C dX3_perform_85 (of_sp h).1 (of_sp h).2
  · replace h := of_ifn c_1 h
    refine x_sipush (pc := 9) C (v := (-1000 : Int32)) dX3_perform_9 rfl ?_
    refine x_iload_n (pc := 12) C 0 dX3_perform_12 rfl ?_
    refine x_isub (pc := 13) C dX3_perform_13 ?_
    exact x_ireturn (pc := 14) C dX3_perform_14 (of_sp h).1 (of_sp h).2
set_option maxRecDepth 100000 in
set_option maxHeartbeats 4000000 in
theorem l_X4_pivotOf_4 {p : Program} {l : Launch} {e : Env} {s : State} {m : MethodId} {args : Array Value} {below : List Frame} {meth : Method} {c : Code} {G : zz_G} {L : Ly} {b : Nat} (C : CX p G s m args meth c cX4_pivotOf yX4_pivotOf 4 (some .int)) (o : Nat) (hO : isSp L o) (v1 : Int32) (S : Sg) (rf : Int32) : ∀ (n : Nat) (v2 : Int32) (v3 : Int32) {z}, L_X4_pivotOf_4 o v1 S n v2 v3 = some z → (∀ q, z = .inl q → q = rf) → (z = .inr () → X p l e (rmz 0 0) s m args below meth c 0 0 (RQ G L b S below args s (some (.int rf)) True) 4 G L b S 38 [] []) → X p l e (rmz 0 0) s m args below meth c 0 0 (RQ G L b S below args s (some (.int rf)) True) 4 G L b S 4 [(0, .ref (b + o)), (1, .int v1), (2, .int v2), (3, .int v3)] [] := by
  intro n
  induction n with
  | zero =>
    intro v2 v3 z h
    exact of_none h
  | succ n ih =>
    intro v2 v3 z h hr hx
    rw [L_X4_pivotOf_4] at h
    refine x_iload_n (pc := 4) C 3 dX4_pivotOf_4 rfl ?_
    refine x_bipush (pc := 5) C (v := (10 : Int32)) dX4_pivotOf_5 rfl ?_
    refine x_icmp_ge (pc := 7) C 38 dX4_pivotOf_7 rfl (fun c_1 => ?_) (fun c_1 => ?_)
    · replace h := of_ifn c_1 h
      exact x_sub [] rfl (hx (of_s1 h).symm)
    · replace h := of_ifp c_1 h
      refine x_aload_n (pc := 10) C 0 dX4_pivotOf_10 rfl ?_
      refine x_geti (pc := 11) C (k := 2) hO.1 rfl rfl wd_116 dX4_pivotOf_11 ⟨Nat.le_of_ble_eq_true rfl, rfl⟩ ?_
      refine x_iload_n (pc := 14) C 3 dX4_pivotOf_14 rfl ?_
      refine x_ishr (pc := 15) C dX4_pivotOf_15 ?_
      refine x_iconst (pc := 16) C (v := (1 : Int32)) dX4_pivotOf_16 rfl ?_
      refine x_iand (pc := 17) C dX4_pivotOf_17 ?_
      refine x_iconst (pc := 18) C (v := (1 : Int32)) dX4_pivotOf_18 rfl ?_
      refine x_icmp_ne (pc := 19) C 32 dX4_pivotOf_19 rfl (fun c_2 => ?_) (fun c_2 => ?_)
      · replace h := of_ifn c_2 h
        obtain ⟨v3_1, ev3_1, h⟩ := of_lt h
        refine x_iinc (pc := 32) C (w := (1 : Int32)) 3 [(3, .int v3_1), (0, .ref (b + o)), (1, .int v1), (2, .int v2)] dX4_pivotOf_32 rfl rfl (Nat.le_of_ble_eq_true rfl) ev3_1 rfl ?_
        refine x_goto (pc := 35) C 4 dX4_pivotOf_35 rfl ?_
        exact x_sub [1, 2, 3, 0] rfl (ih _ _ h hr hx)
      · replace h := of_ifp c_2 h
        refine x_iload_n (pc := 22) C 2 dX4_pivotOf_22 rfl ?_
        refine x_iload_n (pc := 23) C 1 dX4_pivotOf_23 rfl ?_
        refine x_icmp_ne (pc := 24) C 29 dX4_pivotOf_24 rfl (fun c_3 => ?_) (fun c_3 => ?_)
        · replace h := of_ifn c_3 h
          obtain ⟨v2_1, ev2_1, h⟩ := of_lt h
          refine x_iinc (pc := 29) C (w := (1 : Int32)) 2 [(2, .int v2_1), (0, .ref (b + o)), (1, .int v1), (3, .int v3)] dX4_pivotOf_29 rfl rfl (Nat.le_of_ble_eq_true rfl) ev2_1 rfl ?_
          obtain ⟨v3_2, ev3_2, h⟩ := of_lt h
          refine x_iinc (pc := 32) C (w := (1 : Int32)) 3 [(3, .int v3_2), (2, .int v2_1), (0, .ref (b + o)), (1, .int v1)] dX4_pivotOf_32 rfl rfl (Nat.le_of_ble_eq_true rfl) ev3_2 rfl ?_
          refine x_goto (pc := 35) C 4 dX4_pivotOf_35 rfl ?_
          exact x_sub [2, 3, 1, 0] rfl (ih _ _ h hr hx)
        · replace h := of_ifp c_3 h
          refine x_iload_n (pc := 27) C 3 dX4_pivotOf_27 rfl ?_
          have hq := hr _ (of_s1 h).symm
          exact x_ireturn (pc := 28) C dX4_pivotOf_28 hq rfl
set_option maxRecDepth 100000 in
set_option maxHeartbeats 4000000 in
theorem c_X4_pivotOf {l : Launch} {G : zz_G} {L : Ly} {b : Nat} (o : Nat) (p1 : Int32) (hO : isSp L o) (S : Sg) (rf : Int32) (h : f_X4_pivotOf o p1 S = some rf) : Met l yX4_pivotOf (Cond.code yX4_pivotOf cX4_pivotOf 4 (some .int) :: zz_all) (rmz 0 0) (PC G L b S [.ref (b + o), .int p1]) (QC G L b S (some (.int rf)) True) 0 0 (fun q => b ≤ q) := by
  refine x_met [.ref (b + o), .int p1] (by decide +kernel) (Nat.le_of_ble_eq_true rfl) fun p e s m args below meth c C => ?_
  unfold f_X4_pivotOf at h
  refine x_iconst (pc := 0) C (v := (0 : Int32)) dX4_pivotOf_0 rfl ?_
  refine x_istore_n (pc := 1) C 2 [(2, .int (0 : Int32)), (0, .ref (b + o)), (1, .int p1)] dX4_pivotOf_1 rfl (Nat.le_of_ble_eq_true rfl) rfl rfl ?_
  refine x_iconst (pc := 2) C (v := (0 : Int32)) dX4_pivotOf_2 rfl ?_
  refine x_istore_n (pc := 3) C 3 [(3, .int (0 : Int32)), (2, .int (0 : Int32)), (0, .ref (b + o)), (1, .int p1)] dX4_pivotOf_3 rfl (Nat.le_of_ble_eq_true rfl) rfl rfl ?_
  refine x_sub [2, 3, 1, 0] rfl ?_
  obtain ⟨z_hz_1, hz_1, hl, hrr⟩ := of_bs h
  refine l_X4_pivotOf_4 C o hO p1 S rf 400 _ _ hz_1 (fun q ez => of_s1 (hl _ ez)) (fun ez => ?_)
  replace h := hrr _ ez
  clear hl hrr
  refine x_bipush (pc := 38) C (v := (-9 : Int32)) dX4_pivotOf_38 rfl ?_
  exact x_ireturn (pc := 40) C dX4_pivotOf_40 (of_s1 h) rfl
set_option maxRecDepth 100000 in
set_option maxHeartbeats 4000000 in
theorem c_X6_asNumber {l : Launch} {G : zz_G} {L : Ly} {b : Nat} (p0 : Int32) (S : Sg) : Met l yX6_asNumber (Cond.code yX6_asNumber cX6_asNumber 1 (some .int) :: zz_all) (rmz 0 0) (PC G L b S [.int p0]) (QC G L b S (some (.int (f_X6_asNumber p0))) True) 0 0 (fun q => b ≤ q) := by
  refine x_met [.int p0] (by decide +kernel) (Nat.le_of_ble_eq_true rfl) fun p e s m args below meth c C => ?_
  generalize h : f_X6_asNumber p0 = rf
  unfold f_X6_asNumber at h
  refine x_iload_n (pc := 0) C 0 dX6_asNumber_0 rfl ?_
  obtain ⟨x_1, ex_1, h⟩ := of_lt h
  have kd_1 : X p l e (rmz 0 0) s m args below meth c 0 0 (RQ G L b S below args s (some (.int rf)) True) 1 G L b S 9 [] [.int x_1] := by
    exact x_ireturn (pc := 9) C dX6_asNumber_9 h rfl
  refine x_if_eq (pc := 1) C 8 dX6_asNumber_1 rfl (fun c_1 => ?_) (fun c_1 => ?_)
  · refine x_iconst (pc := 8) C (v := (0 : Int32)) dX6_asNumber_8 rfl ?_
    refine x_sub [] rfl ?_
    rw [show x_1 = (0 : Int32) from (ex_1.trans (if_pos c_1))] at kd_1
    exact kd_1
  · refine x_iconst (pc := 4) C (v := (1 : Int32)) dX6_asNumber_4 rfl ?_
    refine x_goto (pc := 5) C 9 dX6_asNumber_5 rfl ?_
    refine x_sub [] rfl ?_
    rw [show x_1 = (1 : Int32) from (ex_1.trans (if_neg c_1))] at kd_1
    exact kd_1
set_option maxRecDepth 100000 in
set_option maxHeartbeats 4000000 in
theorem l_X6_greatestDivisor_9 {p : Program} {l : Launch} {e : Env} {s : State} {m : MethodId} {args : Array Value} {below : List Frame} {meth : Method} {c : Code} {G : zz_G} {L : Ly} {b : Nat} {Q : State → Prop} (C : CX p G s m args meth c cX6_greatestDivisor yX6_greatestDivisor 11 (some .long)) (S : Sg) : ∀ (n : Nat) (v4 : Int64) (v6 : Int64) (v8 : Int32) {z}, L_X6_greatestDivisor_9 n v4 v6 v8 = some z → (∀ (v4_o : Int64), z = v4_o → X p l e (rmz 0 0) s m args below meth c 0 0 Q 11 G L b S 45 [(4, .long v4_o)] []) → X p l e (rmz 0 0) s m args below meth c 0 0 Q 11 G L b S 9 [(4, .long v4), (6, .long v6), (8, .int v8)] [] := by
  intro n
  induction n with
  | zero =>
    intro v4 v6 v8 z h
    exact of_none h
  | succ n ih =>
    intro v4 v6 v8 z h hx
    rw [L_X6_greatestDivisor_9] at h
    refine x_iload (pc := 9) C 2 dX6_greatestDivisor_9 rfl ?_
    refine x_sipush (pc := 11) C (v := (200 : Int32)) dX6_greatestDivisor_11 rfl ?_
    refine x_icmp_ge (pc := 14) C 45 dX6_greatestDivisor_14 rfl (fun c_1 => ?_) (fun c_1 => ?_)
    · replace h := of_ifn c_1 h
      exact x_sub [0] rfl (hx _ (of_s1 h).symm)
    · replace h := of_ifp c_1 h
      refine x_lload (pc := 17) C 1 dX6_greatestDivisor_17 rfl ?_
      refine x_lconst (pc := 19) C (v := (0 : Int64)) dX6_greatestDivisor_19 rfl ?_
      refine x_lcmp_eq (pc := 20) C 45 dX6_greatestDivisor_20 dX6_greatestDivisor_21 rfl (fun c_2 => ?_) (fun c_2 => ?_)
      · replace h := of_ifp c_2 h
        exact x_sub [0] rfl (hx _ (of_s1 h).symm)
      · replace h := of_ifn c_2 h
        refine x_lload (pc := 24) C 0 dX6_greatestDivisor_24 rfl ?_
        refine x_lload (pc := 26) C 1 dX6_greatestDivisor_26 rfl ?_
        obtain ⟨g_1, h⟩ := of_gd h
        refine x_lrem (pc := 28) C dX6_greatestDivisor_28 g_1 ?_
        obtain ⟨v9_1, ev9_1, h⟩ := of_lt h
        refine x_lstore (pc := 29) C [(9, .long v9_1), (4, .long v4), (6, .long v6), (8, .int v8)] dX6_greatestDivisor_29 (Nat.le_of_ble_eq_true rfl) ev9_1 rfl ?_
        refine x_lload (pc := 31) C 2 dX6_greatestDivisor_31 rfl ?_
        refine x_lstore (pc := 33) C [(4, .long v6), (9, .long v9_1), (6, .long v6), (8, .int v8)] dX6_greatestDivisor_33 (Nat.le_of_ble_eq_true rfl) rfl rfl ?_
        refine x_lload (pc := 35) C 1 dX6_greatestDivisor_35 rfl ?_
        refine x_lstore (pc := 37) C [(6, .long v9_1), (4, .long v6), (9, .long v9_1), (8, .int v8)] dX6_greatestDivisor_37 (Nat.le_of_ble_eq_true rfl) rfl rfl ?_
        obtain ⟨v8_1, ev8_1, h⟩ := of_lt h
        refine x_iinc (pc := 39) C (w := (1 : Int32)) 3 [(8, .int v8_1), (6, .long v9_1), (4, .long v6), (9, .long v9_1)] dX6_greatestDivisor_39 rfl rfl (Nat.le_of_ble_eq_true rfl) ev8_1 rfl ?_
        refine x_goto (pc := 42) C 9 dX6_greatestDivisor_42 rfl ?_
        exact x_sub [2, 1, 0] rfl (ih _ _ _ h hx)
set_option maxRecDepth 100000 in
set_option maxHeartbeats 4000000 in
theorem c_X6_greatestDivisor {l : Launch} {G : zz_G} {L : Ly} {b : Nat} (p0 : Int64) (p1 : Int64) (S : Sg) (rf : Int64) (h : f_X6_greatestDivisor p0 p1 = some rf) : Met l yX6_greatestDivisor (Cond.code yX6_greatestDivisor cX6_greatestDivisor 11 (some .long) :: zz_all) (rmz 0 0) (PC G L b S [.long p0, .long p1]) (QC G L b S (some (.long rf)) True) 0 0 (fun q => b ≤ q) := by
  refine x_met [.long p0, .long p1] (by decide +kernel) (Nat.le_of_ble_eq_true rfl) fun p e s m args below meth c C => ?_
  unfold f_X6_greatestDivisor at h
  refine x_lload_n (pc := 0) C 0 dX6_greatestDivisor_0 rfl ?_
  refine x_lstore (pc := 1) C [(4, .long p0), (0, .long p0), (2, .long p1)] dX6_greatestDivisor_1 (Nat.le_of_ble_eq_true rfl) rfl rfl ?_
  refine x_lload_n (pc := 3) C 2 dX6_greatestDivisor_3 rfl ?_
  refine x_lstore (pc := 4) C [(6, .long p1), (4, .long p0), (0, .long p0), (2, .long p1)] dX6_greatestDivisor_4 (Nat.le_of_ble_eq_true rfl) rfl rfl ?_
  refine x_iconst (pc := 6) C (v := (0 : Int32)) dX6_greatestDivisor_6 rfl ?_
  refine x_istore (pc := 7) C [(8, .int (0 : Int32)), (6, .long p1), (4, .long p0), (0, .long p0), (2, .long p1)] dX6_greatestDivisor_7 (Nat.le_of_ble_eq_true rfl) rfl rfl ?_
  refine x_sub [2, 1, 0] rfl ?_
  obtain ⟨z_hz_1, hz_1, h⟩ := of_bd h
  refine l_X6_greatestDivisor_9 C S 400 _ _ _ hz_1 (fun v4_1 ez => ?_)
  subst z_hz_1
  refine x_lload (pc := 45) C 0 dX6_greatestDivisor_45 rfl ?_
  exact x_lreturn (pc := 47) C dX6_greatestDivisor_47 (of_s1 h) rfl
set_option maxRecDepth 100000 in
set_option maxHeartbeats 4000000 in
theorem c_X6_partInLeastTerms {l : Launch} {G : zz_G} {L : Ly} {b : Nat} (p0 : Int64) (p1 : Int64) (p2 : Int32) (S : Sg) (rf : Int64) (h : f_X6_partInLeastTerms p0 p1 p2 = some rf) : Met l yX6_partInLeastTerms (Cond.code yX6_partInLeastTerms cX6_partInLeastTerms 9 (some .long) :: zz_all) (rmz 1 30) (PC G L b S [.long p0, .long p1, .int p2]) (QC G L b S (some (.long rf)) True) 0 0 (fun q => b ≤ q) := by
  refine x_met [.long p0, .long p1, .int p2] (by decide +kernel) (Nat.le_of_ble_eq_true rfl) fun p e s m args below meth c C => ?_
  unfold f_X6_partInLeastTerms at h
  refine x_lload_n (pc := 0) C 0 dX6_partInLeastTerms_0 rfl ?_
  refine x_callS1 (pc := 1) C [.long p0] [] (c_J9_abs_067f4 (b := b) p0 S) cw_X6_287 vs_J9_abs_067f4 ⟨rfl, rfl, Nat.le_of_ble_eq_true rfl, Nat.le_of_ble_eq_true rfl⟩ ⟨Nat.le_refl _, Nat.le_refl _⟩ rfl ⟨rfl, Nat.le_of_ble_eq_true rfl⟩ dX6_partInLeastTerms_1 (fun hx_1 => ?_)
  refine x_lload_n (pc := 4) C 1 dX6_partInLeastTerms_4 rfl ?_
  refine x_callS1 (pc := 5) C [.long p1] [.long (f_J9_abs_067f4 p0)] (c_J9_abs_067f4 (b := b) p1 S) cw_X6_287 vs_J9_abs_067f4 ⟨rfl, rfl, Nat.le_of_ble_eq_true rfl, Nat.le_of_ble_eq_true rfl⟩ ⟨Nat.le_refl _, Nat.le_refl _⟩ rfl ⟨rfl, Nat.le_of_ble_eq_true rfl⟩ dX6_partInLeastTerms_5 (fun hx_2 => ?_)
  obtain ⟨r_1, hc_1, h⟩ := of_bd h
  refine x_callS1 (pc := 8) C [.long (f_J9_abs_067f4 p0), .long (f_J9_abs_067f4 p1)] [] (c_X6_greatestDivisor (b := b) (f_J9_abs_067f4 p0) (f_J9_abs_067f4 p1) S _ hc_1) cw_X6_291 vs_X6_greatestDivisor ⟨rfl, rfl, Nat.le_of_ble_eq_true rfl, Nat.le_of_ble_eq_true rfl⟩ ⟨Nat.le_refl _, Nat.le_refl _⟩ rfl ⟨rfl, Nat.le_of_ble_eq_true rfl⟩ dX6_partInLeastTerms_8 (fun hx_3 => ?_)
  refine x_lstore (pc := 11) C [(5, .long r_1), (0, .long p0), (2, .long p1), (4, .int p2)] dX6_partInLeastTerms_11 (Nat.le_of_ble_eq_true rfl) rfl rfl ?_
  refine x_lload_n (pc := 13) C 1 dX6_partInLeastTerms_13 rfl ?_
  refine x_lconst (pc := 14) C (v := (0 : Int64)) dX6_partInLeastTerms_14 rfl ?_
  obtain ⟨J_1, eJ_1, h⟩ := of_lt h
  have kJ_1 : ∀ (_ : Unit), J_1 () = some rf → X p l e (rmz 1 30) s m args below meth c 0 0 (RQ G L b S below args s (some (.long rf)) True) 9 G L b S 32 [(4, .int p2)] [] := by
    intro _ h
    replace h := of_J1 eJ_1 h
    refine x_iload (pc := 32) C 0 dX6_partInLeastTerms_32 rfl ?_
    obtain ⟨x_1, ex_1, h⟩ := of_lt h
    have kd_1 : X p l e (rmz 1 30) s m args below meth c 0 0 (RQ G L b S below args s (some (.long rf)) True) 9 G L b S 42 [] [.long x_1] := by
      exact x_lreturn (pc := 42) C dX6_partInLeastTerms_42 (of_s1 h) rfl
    refine x_if_ne (pc := 34) C 41 dX6_partInLeastTerms_34 rfl (fun c_1 => ?_) (fun c_1 => ?_)
    · refine x_lconst (pc := 41) C (v := (1 : Int64)) dX6_partInLeastTerms_41 rfl ?_
      refine x_sub [] rfl ?_
      rw [show x_1 = (1 : Int64) from (ex_1.trans (if_neg c_1))] at kd_1
      exact kd_1
    · refine x_lconst (pc := 37) C (v := (0 : Int64)) dX6_partInLeastTerms_37 rfl ?_
      refine x_goto (pc := 38) C 42 dX6_partInLeastTerms_38 rfl ?_
      refine x_sub [] rfl ?_
      rw [show x_1 = (0 : Int64) from (ex_1.trans (if_pos c_1))] at kd_1
      exact kd_1
  refine x_lcmp_eq (pc := 15) C 32 dX6_partInLeastTerms_15 dX6_partInLeastTerms_16 rfl (fun c_2 => ?_) (fun c_2 => ?_)
  · replace h := of_ifp c_2 h
    exact x_sub [3] rfl (kJ_1 () h)
  · replace h := of_ifn c_2 h
    refine x_lload_n (pc := 19) C 2 dX6_partInLeastTerms_19 rfl ?_
    refine x_lconst (pc := 20) C (v := (0 : Int64)) dX6_partInLeastTerms_20 rfl ?_
    refine x_lcmp_eq (pc := 21) C 32 dX6_partInLeastTerms_21 dX6_partInLeastTerms_22 rfl (fun c_3 => ?_) (fun c_3 => ?_)
    · replace h := of_ifp c_3 h
      exact x_sub [3] rfl (kJ_1 () h)
    · replace h := of_ifn c_3 h
      refine x_lload (pc := 25) C 0 dX6_partInLeastTerms_25 rfl ?_
      refine x_lconst (pc := 27) C (v := (0 : Int64)) dX6_partInLeastTerms_27 rfl ?_
      refine x_lcmp_ne (pc := 28) C 43 dX6_partInLeastTerms_28 dX6_partInLeastTerms_29 rfl (fun c_4 => ?_) (fun c_4 => ?_)
      · replace h := of_ifn c_4 h
        refine x_lload_n (pc := 43) C 2 dX6_partInLeastTerms_43 rfl ?_
        refine x_lconst (pc := 44) C (v := (0 : Int64)) dX6_partInLeastTerms_44 rfl ?_
        obtain ⟨x_2, ex_2, h⟩ := of_lt h
        have kd_2 : X p l e (rmz 1 30) s m args below meth c 0 0 (RQ G L b S below args s (some (.long rf)) True) 9 G L b S 57 [(0, .long p0), (2, .long p1), (4, .int p2)] [.long x_2] := by
          refine x_lstore (pc := 57) C [(7, .long x_2), (0, .long p0), (2, .long p1), (4, .int p2)] dX6_partInLeastTerms_57 (Nat.le_of_ble_eq_true rfl) rfl rfl ?_
          refine x_iload (pc := 59) C 3 dX6_partInLeastTerms_59 rfl ?_
          obtain ⟨x_3, ex_3, h⟩ := of_lt h
          have kd_3 : X p l e (rmz 1 30) s m args below meth c 0 0 (RQ G L b S below args s (some (.long rf)) True) 9 G L b S 69 [(7, .long x_2)] [.long x_3] := by
            refine x_lload (pc := 69) C 0 dX6_partInLeastTerms_69 rfl ?_
            obtain ⟨g_1, h⟩ := of_gd h
            refine x_ldiv (pc := 71) C dX6_partInLeastTerms_71 g_1 ?_
            exact x_lreturn (pc := 72) C dX6_partInLeastTerms_72 (of_s1 h) rfl
          refine x_if_ne (pc := 61) C 68 dX6_partInLeastTerms_61 rfl (fun c_5 => ?_) (fun c_5 => ?_)
          · refine x_lload_n (pc := 68) C 2 dX6_partInLeastTerms_68 rfl ?_
            refine x_sub [0] rfl ?_
            rw [show x_3 = p1 from (ex_3.trans (if_neg c_5))] at kd_3
            exact kd_3
          · refine x_lload_n (pc := 64) C 1 dX6_partInLeastTerms_64 rfl ?_
            refine x_goto (pc := 65) C 69 dX6_partInLeastTerms_65 rfl ?_
            refine x_sub [0] rfl ?_
            rw [show x_3 = p0 from (ex_3.trans (if_pos c_5))] at kd_3
            exact kd_3
        refine x_lcmp_ge (pc := 45) C 55 dX6_partInLeastTerms_45 dX6_partInLeastTerms_46 rfl (fun c_6 => ?_) (fun c_6 => ?_)
        · refine x_lload (pc := 55) C 0 dX6_partInLeastTerms_55 rfl ?_
          refine x_sub [1, 2, 3] rfl ?_
          rw [show x_2 = r_1 from (ex_2.trans (if_neg c_6))] at kd_2
          exact kd_2
        · refine x_lload (pc := 49) C 0 dX6_partInLeastTerms_49 rfl ?_
          refine x_lneg (pc := 51) C dX6_partInLeastTerms_51 ?_
          refine x_goto (pc := 52) C 57 dX6_partInLeastTerms_52 rfl ?_
          refine x_sub [1, 2, 3] rfl ?_
          rw [show x_2 = (-r_1) from (ex_2.trans (if_pos c_6))] at kd_2
          exact kd_2
      · replace h := of_ifp c_4 h
        exact x_sub [3] rfl (kJ_1 () h)
set_option maxRecDepth 100000 in
set_option maxHeartbeats 4000000 in
theorem c_X4_reducedPart {l : Launch} {G : zz_G} {L : Ly} {b : Nat} (o : Nat) (p1 : Int32) (p2 : Int32) (p3 : Int32) (hO : isSp L o) (S : Sg) (rf : Int64) (h : f_X4_reducedPart o p1 p2 p3 S = some rf) : Met l yX4_reducedPart (Cond.code yX4_reducedPart cX4_reducedPart 5 (some .long) :: zz_all) (rmz 2 58) (PC G L b S [.ref (b + o), .int p1, .int p2, .int p3]) (QC G L b S (some (.long rf)) True) 0 0 (fun q => b ≤ q) := by
  refine x_met [.ref (b + o), .int p1, .int p2, .int p3] (by decide +kernel) (Nat.le_of_ble_eq_true rfl) fun p e s m args below meth c C => ?_
  unfold f_X4_reducedPart at h
  refine x_aload_n (pc := 0) C 0 dX4_reducedPart_0 rfl ?_
  refine x_iload_n (pc := 1) C 1 dX4_reducedPart_1 rfl ?_
  obtain ⟨r_1, hc_1, h⟩ := of_bd h
  refine x_callV1 (pc := 2) C (o := o) [.int p1] [] (c_X4_pivotOf (b := b) o p1 hO S _ hc_1) cw_X4_42 vi_X4_pivotOf ⟨rfl, rfl, Nat.le_of_ble_eq_true rfl, Nat.le_of_ble_eq_true rfl⟩ ⟨Nat.le_refl _, Nat.le_refl _⟩ hO.1 ⟨rfl, rfl, rfl⟩ rfl ⟨rfl, Nat.le_of_ble_eq_true rfl⟩ dX4_reducedPart_2 (fun hx_1 => ?_)
  refine x_istore (pc := 5) C [(4, .int r_1), (0, .ref (b + o)), (1, .int p1), (2, .int p2), (3, .int p3)] dX4_reducedPart_5 (Nat.le_of_ble_eq_true rfl) rfl rfl ?_
  refine x_iload (pc := 7) C 0 dX4_reducedPart_7 rfl ?_
  refine x_bipush (pc := 9) C (v := (10 : Int32)) dX4_reducedPart_9 rfl ?_
  refine x_callSN1 (pc := 11) C [.int r_1, .int (10 : Int32)] [] (c_X6_isWithin (b := b) r_1 (10 : Int32) S) cn_X4_34 vs_X6_isWithin ⟨rfl, rfl, Nat.le_of_ble_eq_true rfl, Nat.le_of_ble_eq_true rfl⟩ ⟨Nat.le_refl _, Nat.le_refl _⟩ rfl ⟨rfl, Nat.le_of_ble_eq_true rfl⟩ dX4_reducedPart_11 (fun hx_2 => ?_)
  refine x_if_eq (pc := 14) C 26 dX4_reducedPart_14 rfl (fun c_1 => ?_) (fun c_1 => ?_)
  · replace h := of_ifp c_1 h
    refine x_lconst (pc := 26) C (v := (0 : Int64)) dX4_reducedPart_26 rfl ?_
    exact x_lreturn (pc := 27) C dX4_reducedPart_27 (of_s1 h) rfl
  · replace h := of_ifn c_1 h
    refine x_iload_n (pc := 17) C 3 dX4_reducedPart_17 rfl ?_
    refine x_bipush (pc := 18) C (v := (10 : Int32)) dX4_reducedPart_18 rfl ?_
    refine x_callSN1 (pc := 20) C [.int p2, .int (10 : Int32)] [] (c_X6_isWithin (b := b) p2 (10 : Int32) S) cn_X4_34 vs_X6_isWithin ⟨rfl, rfl, Nat.le_of_ble_eq_true rfl, Nat.le_of_ble_eq_true rfl⟩ ⟨Nat.le_refl _, Nat.le_refl _⟩ rfl ⟨rfl, Nat.le_of_ble_eq_true rfl⟩ dX4_reducedPart_20 (fun hx_3 => ?_)
    refine x_if_ne (pc := 23) C 28 dX4_reducedPart_23 rfl (fun c_2 => ?_) (fun c_2 => ?_)
    · replace h := of_ifn c_2 h
      refine x_aload_n (pc := 28) C 1 dX4_reducedPart_28 rfl ?_
      refine x_geti (pc := 29) C (k := 2) hO.1 rfl rfl wd_116 dX4_reducedPart_29 ⟨Nat.le_of_ble_eq_true rfl, rfl⟩ ?_
      refine x_iload_n (pc := 32) C 3 dX4_reducedPart_32 rfl ?_
      refine x_ishr (pc := 33) C dX4_reducedPart_33 ?_
      refine x_iconst (pc := 34) C (v := (1 : Int32)) dX4_reducedPart_34 rfl ?_
      refine x_iand (pc := 35) C dX4_reducedPart_35 ?_
      refine x_iconst (pc := 36) C (v := (1 : Int32)) dX4_reducedPart_36 rfl ?_
      refine x_icmp_ne (pc := 37) C 61 dX4_reducedPart_37 rfl (fun c_3 => ?_) (fun c_3 => ?_)
      · replace h := of_ifn c_3 h
        refine x_aload_n (pc := 61) C 1 dX4_reducedPart_61 rfl ?_
        refine x_getr (pc := 62) C (k := 0) (o + 1) hO.1 rfl rfl wd_114 dX4_reducedPart_62 (Nat.le_of_ble_eq_true rfl) rfl ?_
        refine x_iload (pc := 65) C 0 dX4_reducedPart_65 rfl ?_
        obtain ⟨g_1, h⟩ := of_gd h
        refine x_aaloadJ (pc := 67) C hO.2.1 g_1 dX4_reducedPart_67 ?_
        refine x_iload_n (pc := 68) C 3 dX4_reducedPart_68 rfl ?_
        obtain ⟨g_2, h⟩ := of_gd h
        refine x_laload (pc := 69) C (hO.2.2 _ (inb_lt (i := r_1) g_1)) g_2 dX4_reducedPart_69 ?_
        refine x_lneg (pc := 70) C dX4_reducedPart_70 ?_
        refine x_aload_n (pc := 71) C 1 dX4_reducedPart_71 rfl ?_
        refine x_getj (pc := 72) C (k := 1) hO.1 rfl rfl wd_115 dX4_reducedPart_72 ⟨Nat.le_of_ble_eq_true rfl, rfl⟩ ?_
        refine x_iload_n (pc := 75) C 4 dX4_reducedPart_75 rfl ?_
        obtain ⟨r_2, hc_2, h⟩ := of_bd h
        refine x_callSN1 (pc := 76) C [.long (-(S.2 ((o + 2) + ix r_1) (ix p2))), .long (S.2 o 1), .int p3] [] (c_X6_partInLeastTerms (b := b) (-(S.2 ((o + 2) + ix r_1) (ix p2))) (S.2 o 1) p3 S _ hc_2) cn_X4_50 vs_X6_partInLeastTerms ⟨rfl, rfl, Nat.le_of_ble_eq_true rfl, Nat.le_of_ble_eq_true rfl⟩ ⟨Nat.le_refl _, Nat.le_refl _⟩ rfl ⟨rfl, Nat.le_of_ble_eq_true rfl⟩ dX4_reducedPart_76 (fun hx_4 => ?_)
        exact x_lreturn (pc := 79) C dX4_reducedPart_79 (of_s1 h) rfl
      · replace h := of_ifp c_3 h
        refine x_iload_n (pc := 40) C 3 dX4_reducedPart_40 rfl ?_
        refine x_iload (pc := 41) C 0 dX4_reducedPart_41 rfl ?_
        obtain ⟨x_1, ex_1, h⟩ := of_lt h
        have kd_1 : X p l e (rmz 2 58) s m args below meth c 0 0 (RQ G L b S below args s (some (.long rf)) True) 5 G L b S 51 [(3, .int p3)] [.int x_1] := by
          refine x_callSN1 (pc := 51) C [.int x_1] [] (c_X6_asNumber (b := b) x_1 S) cn_X4_46 vs_X6_asNumber ⟨rfl, rfl, Nat.le_of_ble_eq_true rfl, Nat.le_of_ble_eq_true rfl⟩ ⟨Nat.le_refl _, Nat.le_refl _⟩ rfl ⟨rfl, Nat.le_of_ble_eq_true rfl⟩ dX4_reducedPart_51 (fun hx_5 => ?_)
          refine x_i2l (pc := 54) C dX4_reducedPart_54 ?_
          refine x_lconst (pc := 55) C (v := (1 : Int64)) dX4_reducedPart_55 rfl ?_
          refine x_iload_n (pc := 56) C 0 dX4_reducedPart_56 rfl ?_
          obtain ⟨r_3, hc_3, h⟩ := of_bd h
          refine x_callSN1 (pc := 57) C [.long (f_X6_asNumber x_1).toInt64, .long (1 : Int64), .int p3] [] (c_X6_partInLeastTerms (b := b) ((f_X6_asNumber x_1).toInt64) (1 : Int64) p3 S _ hc_3) cn_X4_50 vs_X6_partInLeastTerms ⟨rfl, rfl, Nat.le_of_ble_eq_true rfl, Nat.le_of_ble_eq_true rfl⟩ ⟨Nat.le_refl _, Nat.le_refl _⟩ rfl ⟨rfl, Nat.le_of_ble_eq_true rfl⟩ dX4_reducedPart_57 (fun hx_6 => ?_)
          exact x_lreturn (pc := 60) C dX4_reducedPart_60 (of_s1 h) rfl
        refine x_icmp_ne (pc := 43) C 50 dX4_reducedPart_43 rfl (fun c_4 => ?_) (fun c_4 => ?_)
        · refine x_iconst (pc := 50) C (v := (0 : Int32)) dX4_reducedPart_50 rfl ?_
          refine x_sub [4] rfl ?_
          rw [show x_1 = (0 : Int32) from (ex_1.trans (if_neg c_4))] at kd_1
          exact kd_1
        · refine x_iconst (pc := 46) C (v := (1 : Int32)) dX4_reducedPart_46 rfl ?_
          refine x_goto (pc := 47) C 51 dX4_reducedPart_47 rfl ?_
          refine x_sub [4] rfl ?_
          rw [show x_1 = (1 : Int32) from (ex_1.trans (if_pos c_4))] at kd_1
          exact kd_1
    · replace h := of_ifp c_2 h
      refine x_lconst (pc := 26) C (v := (0 : Int64)) dX4_reducedPart_26 rfl ?_
      exact x_lreturn (pc := 27) C dX4_reducedPart_27 (of_s1 h) rfl
set_option maxRecDepth 100000 in
set_option maxHeartbeats 4000000 in
theorem c_X5_valueOf {l : Launch} {G : zz_G} {L : Ly} {b : Nat} (o : Nat) (p1 : Int32) (hO : isW L o) (S : Sg) (rf : Int32) (h : f_X5_valueOf o p1 S = some rf) : Met l yX5_valueOf (Cond.code yX5_valueOf cX5_valueOf 2 (some .int) :: zz_all) (rmz 2 42) (PC G L b S [.ref (b + o), .int p1]) (QC G L b S (some (.int rf)) True) 0 0 (fun q => b ≤ q) := by
  refine x_met [.ref (b + o), .int p1] (by decide +kernel) (Nat.le_of_ble_eq_true rfl) fun p e s m args below meth c C => ?_
  unfold f_X5_valueOf at h
  refine x_aload_n (pc := 0) C 0 dX5_valueOf_0 rfl ?_
  refine x_iload_n (pc := 1) C 1 dX5_valueOf_1 rfl ?_
  refine x_callV1 (pc := 2) C (o := o) [.int p1] [] (c_X5_has (b := b) o p1 hO S) cw_X5_76 vi_X5_has ⟨rfl, rfl, Nat.le_of_ble_eq_true rfl, Nat.le_of_ble_eq_true rfl⟩ ⟨Nat.le_refl _, Nat.le_refl _⟩ hO.1 ⟨rfl, rfl, rfl⟩ rfl ⟨rfl, Nat.le_of_ble_eq_true rfl⟩ dX5_valueOf_2 (fun hx_1 => ?_)
  refine x_if_eq (pc := 5) C 17 dX5_valueOf_5 rfl (fun c_1 => ?_) (fun c_1 => ?_)
  · replace h := of_ifp c_1 h
    refine x_iconst (pc := 17) C (v := (0 : Int32)) dX5_valueOf_17 rfl ?_
    exact x_ireturn (pc := 18) C dX5_valueOf_18 (of_s1 h) rfl
  · replace h := of_ifn c_1 h
    refine x_aload_n (pc := 8) C 0 dX5_valueOf_8 rfl ?_
    refine x_getr (pc := 9) C (k := 1) (o + 2) hO.1 rfl rfl wd_128 dX5_valueOf_9 (Nat.le_of_ble_eq_true rfl) rfl ?_
    refine x_iload_n (pc := 12) C 1 dX5_valueOf_12 rfl ?_
    obtain ⟨g_1, h⟩ := of_gd h
    refine x_iaload (pc := 13) C hO.2.2.1 g_1 dX5_valueOf_13 ?_
    refine x_goto (pc := 14) C 18 dX5_valueOf_14 rfl ?_
    exact x_ireturn (pc := 18) C dX5_valueOf_18 (of_s1 h) rfl
set_option maxRecDepth 100000 in
set_option maxHeartbeats 4000000 in
theorem l_X5_answerByTold_5 {p : Program} {l : Launch} {e : Env} {s : State} {m : MethodId} {args : Array Value} {below : List Frame} {meth : Method} {c : Code} {G : zz_G} {L : Ly} {b : Nat} {Q : State → Prop} (C : CX p G s m args meth c cX5_answerByTold yX5_answerByTold 6 (some .int)) (o : Nat) (o2 : Nat) (n2 : Nat) (hO : isW L o) (h2 : isNum L o2 n2) (v1 : Int32) (S : Sg) : ∀ (n : Nat) (v3 : Int32) (v4 : Int32) {z}, L_X5_answerByTold_5 o o2 n2 v1 S n v3 v4 = some z → (∀ (v3_o : Int32), z = v3_o → X p l e (rmz 3 63) s m args below meth c 0 0 Q 6 G L b S 59 [(3, .int v3_o)] []) → X p l e (rmz 3 63) s m args below meth c 0 0 Q 6 G L b S 5 [(0, .ref (b + o)), (1, .int v1), (2, .ref (b + o2)), (3, .int v3), (4, .int v4)] [] := by
  intro n
  induction n with
  | zero =>
    intro v3 v4 z h
    exact of_none h
  | succ n ih =>
    intro v3 v4 z h hx
    rw [L_X5_answerByTold_5] at h
    refine x_iload (pc := 5) C 4 dX5_answerByTold_5 rfl ?_
    refine x_aload_n (pc := 7) C 0 dX5_answerByTold_7 rfl ?_
    refine x_geti (pc := 8) C (k := 4) hO.1 rfl rfl wd_131 dX5_answerByTold_8 ⟨Nat.le_of_ble_eq_true rfl, rfl⟩ ?_
    refine x_icmp_ge (pc := 11) C 59 dX5_answerByTold_11 rfl (fun c_1 => ?_) (fun c_1 => ?_)
    · replace h := of_ifn c_1 h
      exact x_sub [3] rfl (hx _ (of_s1 h).symm)
    · replace h := of_ifp c_1 h
      refine x_iload (pc := 14) C 4 dX5_answerByTold_14 rfl ?_
      refine x_aload_n (pc := 16) C 2 dX5_answerByTold_16 rfl ?_
      refine x_geti (pc := 17) C (k := 0) h2.1 rfl rfl wd_212 dX5_answerByTold_17 ⟨Nat.le_of_ble_eq_true rfl, rfl⟩ ?_
      obtain ⟨J_1, eJ_1, h⟩ := of_lt h
      have kJ_1 : ∀ (x_1 : Int32), J_1 x_1 = some z → X p l e (rmz 3 63) s m args below meth c 0 0 Q 6 G L b S 38 [(0, .ref (b + o)), (1, .int v1), (2, .ref (b + o2)), (3, .int v3), (4, .int v4)] [.int x_1] := by
        intro x_1 h
        replace h := of_J1 eJ_1 h
        refine x_istore (pc := 38) C [(5, .int x_1), (0, .ref (b + o)), (1, .int v1), (2, .ref (b + o2)), (3, .int v3), (4, .int v4)] dX5_answerByTold_38 (Nat.le_of_ble_eq_true rfl) rfl rfl ?_
        refine x_iload_n (pc := 40) C 4 dX5_answerByTold_40 rfl ?_
        refine x_aload_n (pc := 41) C 1 dX5_answerByTold_41 rfl ?_
        refine x_iload_n (pc := 42) C 2 dX5_answerByTold_42 rfl ?_
        refine x_iload (pc := 43) C 5 dX5_answerByTold_43 rfl ?_
        obtain ⟨r_1, hc_1, h⟩ := of_bd h
        refine x_callV1 (pc := 45) C (o := o) [.int v1, .int v4] [.int v3] (c_X5_coefficient (b := b) o v1 v4 hO S _ hc_1) cw_X5_80 vi_X5_coefficient ⟨rfl, rfl, Nat.le_of_ble_eq_true rfl, Nat.le_of_ble_eq_true rfl⟩ ⟨Nat.le_refl _, Nat.le_refl _⟩ hO.1 ⟨rfl, rfl, rfl⟩ rfl ⟨rfl, Nat.le_of_ble_eq_true rfl⟩ dX5_answerByTold_45 (fun hx_1 => ?_)
        refine x_iload (pc := 48) C 0 dX5_answerByTold_48 rfl ?_
        refine x_imul (pc := 50) C dX5_answerByTold_50 ?_
        refine x_iadd (pc := 51) C dX5_answerByTold_51 ?_
        obtain ⟨v3_1, ev3_1, h⟩ := of_lt h
        refine x_istore_n (pc := 52) C 3 [(3, .int v3_1), (5, .int x_1), (0, .ref (b + o)), (1, .int v1), (2, .ref (b + o2)), (4, .int v4)] dX5_answerByTold_52 rfl (Nat.le_of_ble_eq_true rfl) ev3_1 rfl ?_
        obtain ⟨v4_1, ev4_1, h⟩ := of_lt h
        refine x_iinc (pc := 53) C (w := (1 : Int32)) 5 [(4, .int v4_1), (3, .int v3_1), (5, .int x_1), (0, .ref (b + o)), (1, .int v1), (2, .ref (b + o2))] dX5_answerByTold_53 rfl rfl (Nat.le_of_ble_eq_true rfl) ev4_1 rfl ?_
        refine x_goto (pc := 56) C 5 dX5_answerByTold_56 rfl ?_
        exact x_sub [3, 4, 5, 1, 0] rfl (ih _ _ h hx)
      refine x_icmp_ge (pc := 20) C 32 dX5_answerByTold_20 rfl (fun c_2 => ?_) (fun c_2 => ?_)
      · replace h := of_ifn c_2 h
        refine x_aload_n (pc := 32) C 0 dX5_answerByTold_32 rfl ?_
        refine x_iload (pc := 33) C 4 dX5_answerByTold_33 rfl ?_
        obtain ⟨r_2, hc_2, h⟩ := of_bd h
        refine x_callV1 (pc := 35) C (o := o) [.int v4] [] (c_X5_valueOf (b := b) o v4 hO S _ hc_2) cw_X5_87 vi_X5_valueOf ⟨rfl, rfl, Nat.le_of_ble_eq_true rfl, Nat.le_of_ble_eq_true rfl⟩ ⟨Nat.le_refl _, Nat.le_refl _⟩ hO.1 ⟨rfl, rfl, rfl⟩ rfl ⟨rfl, Nat.le_of_ble_eq_true rfl⟩ dX5_answerByTold_35 (fun hx_2 => ?_)
        exact x_sub [0, 1, 2, 3, 4] rfl (kJ_1 _ h)
      · replace h := of_ifp c_2 h
        refine x_aload_n (pc := 23) C 2 dX5_answerByTold_23 rfl ?_
        refine x_iload (pc := 24) C 4 dX5_answerByTold_24 rfl ?_
        obtain ⟨r_3, hc_3, h⟩ := of_bd h
        refine x_callV1 (pc := 26) C (o := o2) [.int v4] [] (c_X1_at (b := b) o2 n2 v4 h2 S _ hc_3) cw_X5_96 vi_X1_at ⟨rfl, rfl, Nat.le_of_ble_eq_true rfl, Nat.le_of_ble_eq_true rfl⟩ ⟨Nat.le_refl _, Nat.le_refl _⟩ h2.1 ⟨rfl, rfl, rfl⟩ rfl ⟨rfl, Nat.le_of_ble_eq_true rfl⟩ dX5_answerByTold_26 (fun hx_3 => ?_)
        refine x_goto (pc := 29) C 38 dX5_answerByTold_29 rfl ?_
        exact x_sub [0, 1, 2, 3, 4] rfl (kJ_1 _ h)
set_option maxRecDepth 100000 in
set_option maxHeartbeats 4000000 in
theorem c_X5_answerByTold {l : Launch} {G : zz_G} {L : Ly} {b : Nat} (o : Nat) (p1 : Int32) (o2 : Nat) (n2 : Nat) (hO : isW L o) (h2 : isNum L o2 n2) (S : Sg) (rf : Int32) (h : f_X5_answerByTold o p1 o2 n2 S = some rf) : Met l yX5_answerByTold (Cond.code yX5_answerByTold cX5_answerByTold 6 (some .int) :: zz_all) (rmz 3 63) (PC G L b S [.ref (b + o), .int p1, .ref (b + o2)]) (QC G L b S (some (.int rf)) True) 0 0 (fun q => b ≤ q) := by
  refine x_met [.ref (b + o), .int p1, .ref (b + o2)] (by decide +kernel) (Nat.le_of_ble_eq_true rfl) fun p e s m args below meth c C => ?_
  unfold f_X5_answerByTold at h
  refine x_iconst (pc := 0) C (v := (0 : Int32)) dX5_answerByTold_0 rfl ?_
  refine x_istore_n (pc := 1) C 3 [(3, .int (0 : Int32)), (0, .ref (b + o)), (1, .int p1), (2, .ref (b + o2))] dX5_answerByTold_1 rfl (Nat.le_of_ble_eq_true rfl) rfl rfl ?_
  refine x_iconst (pc := 2) C (v := (0 : Int32)) dX5_answerByTold_2 rfl ?_
  refine x_istore (pc := 3) C [(4, .int (0 : Int32)), (3, .int (0 : Int32)), (0, .ref (b + o)), (1, .int p1), (2, .ref (b + o2))] dX5_answerByTold_3 (Nat.le_of_ble_eq_true rfl) rfl rfl ?_
  refine x_sub [2, 3, 4, 1, 0] rfl ?_
  obtain ⟨z_hz_1, hz_1, h⟩ := of_bd h
  refine l_X5_answerByTold_5 C o o2 n2 hO h2 p1 S 400 _ _ hz_1 (fun v3_1 ez => ?_)
  subst z_hz_1
  refine x_iload_n (pc := 59) C 0 dX5_answerByTold_59 rfl ?_
  exact x_ireturn (pc := 60) C dX5_answerByTold_60 (of_s1 h) rfl
set_option maxRecDepth 100000 in
set_option maxHeartbeats 4000000 in
theorem l_X5_copyFrom_77 {p : Program} {l : Launch} {e : Env} {s : State} {m : MethodId} {args : Array Value} {below : List Frame} {meth : Method} {c : Code} {G : zz_G} {L : Ly} {b : Nat} {Q : State → Prop} (C : CX p G s m args meth c cX5_copyFrom yX5_copyFrom 3 none) (o : Nat) (o1 : Nat) (hO : isW L o) (h1 : isW L o1) : ∀ (n : Nat) (v2 : Int32) (S : Sg) {z}, L_X5_copyFrom_77 o o1 n v2 S = some z → (∀ (S_o : Sg), z = S_o → X p l e (rmz 2 48) s m args below meth c 0 0 Q 3 G L b S_o 108 [(0, .ref (b + o)), (1, .ref (b + o1))] []) → X p l e (rmz 2 48) s m args below meth c 0 0 Q 3 G L b S 77 [(0, .ref (b + o)), (1, .ref (b + o1)), (2, .int v2)] [] := by
  intro n
  induction n with
  | zero =>
    intro v2 S z h
    exact of_none h
  | succ n ih =>
    intro v2 S z h hx
    rw [L_X5_copyFrom_77] at h
    refine x_iload_n (pc := 77) C 2 dX5_copyFrom_77 rfl ?_
    refine x_bipush (pc := 78) C (v := (10 : Int32)) dX5_copyFrom_78 rfl ?_
    refine x_icmp_ge (pc := 80) C 108 dX5_copyFrom_80 rfl (fun c_1 => ?_) (fun c_1 => ?_)
    · replace h := of_ifn c_1 h
      exact x_sub [0, 1] rfl (hx _ (of_s1 h).symm)
    · replace h := of_ifp c_1 h
      refine x_aload_n (pc := 83) C 1 dX5_copyFrom_83 rfl ?_
      refine x_getr (pc := 84) C (k := 7) (o1 + 5) h1.1 rfl rfl wd_138 dX5_copyFrom_84 (Nat.le_of_ble_eq_true rfl) rfl ?_
      refine x_iload_n (pc := 87) C 2 dX5_copyFrom_87 rfl ?_
      obtain ⟨g_1, h⟩ := of_gd h
      refine x_aaloadI (pc := 88) C h1.2.2.2.2.2.1 g_1 dX5_copyFrom_88 ?_
      refine x_iconst (pc := 89) C (v := (0 : Int32)) dX5_copyFrom_89 rfl ?_
      refine x_aload_n (pc := 90) C 0 dX5_copyFrom_90 rfl ?_
      refine x_getr (pc := 91) C (k := 7) (o + 5) hO.1 rfl rfl wd_138 dX5_copyFrom_91 (Nat.le_of_ble_eq_true rfl) rfl ?_
      refine x_iload_n (pc := 94) C 2 dX5_copyFrom_94 rfl ?_
      refine x_aaloadI (pc := 95) C hO.2.2.2.2.2.1 g_1 dX5_copyFrom_95 ?_
      refine x_iconst (pc := 96) C (v := (0 : Int32)) dX5_copyFrom_96 rfl ?_
      refine x_bipush (pc := 97) C (v := (10 : Int32)) dX5_copyFrom_97 rfl ?_
      obtain ⟨S_1, eS_1, h⟩ := of_lt h
      refine x_acpI (pc := 99) C sysw_X5 (h1.2.2.2.2.2.2.1 _ (inb_lt (i := v2) g_1)) (hO.2.2.2.2.2.2.1 _ (inb_lt (i := v2) g_1)) (by decide) eS_1 ⟨Nat.le_of_ble_eq_true rfl, Nat.le_of_ble_eq_true rfl⟩ (Nat.le_of_ble_eq_true rfl) dX5_copyFrom_99 ?_
      obtain ⟨v2_1, ev2_1, h⟩ := of_lt h
      refine x_iinc (pc := 102) C (w := (1 : Int32)) 2 [(2, .int v2_1), (0, .ref (b + o)), (1, .ref (b + o1))] dX5_copyFrom_102 rfl rfl (Nat.le_of_ble_eq_true rfl) ev2_1 rfl ?_
      refine x_goto (pc := 105) C 77 dX5_copyFrom_105 rfl ?_
      exact x_sub [1, 2, 0] rfl (ih _ _ h hx)
set_option maxRecDepth 100000 in
set_option maxHeartbeats 4000000 in
theorem c_X5_copyFrom {l : Launch} {G : zz_G} {L : Ly} {b : Nat} (o : Nat) (o1 : Nat) (hO : isW L o) (h1 : isW L o1) (S : Sg) (Sf : Sg) (h : f_X5_copyFrom o o1 S = some Sf) : Met l yX5_copyFrom (Cond.code yX5_copyFrom cX5_copyFrom 3 none :: zz_all) (rmz 2 48) (PC G L b S [.ref (b + o), .ref (b + o1)]) (QC G L b Sf none True) 0 0 (fun q => b ≤ q) := by
  refine x_met [.ref (b + o), .ref (b + o1)] (by decide +kernel) (Nat.le_of_ble_eq_true rfl) fun p e s m args below meth c C => ?_
  unfold f_X5_copyFrom at h
  refine x_aload_n (pc := 0) C 1 dX5_copyFrom_0 rfl ?_
  refine x_getr (pc := 1) C (k := 0) (o1 + 1) h1.1 rfl rfl wd_127 dX5_copyFrom_1 (Nat.le_of_ble_eq_true rfl) rfl ?_
  refine x_iconst (pc := 4) C (v := (0 : Int32)) dX5_copyFrom_4 rfl ?_
  refine x_aload_n (pc := 5) C 0 dX5_copyFrom_5 rfl ?_
  refine x_getr (pc := 6) C (k := 0) (o + 1) hO.1 rfl rfl wd_127 dX5_copyFrom_6 (Nat.le_of_ble_eq_true rfl) rfl ?_
  refine x_iconst (pc := 9) C (v := (0 : Int32)) dX5_copyFrom_9 rfl ?_
  refine x_bipush (pc := 10) C (v := (8 : Int32)) dX5_copyFrom_10 rfl ?_
  obtain ⟨S_1, eS_1, h⟩ := of_lt h
  refine x_acpI (pc := 12) C sysw_X5 h1.2.1 hO.2.1 (by decide) eS_1 ⟨Nat.le_of_ble_eq_true rfl, Nat.le_of_ble_eq_true rfl⟩ (Nat.le_of_ble_eq_true rfl) dX5_copyFrom_12 ?_
  refine x_aload_n (pc := 15) C 1 dX5_copyFrom_15 rfl ?_
  refine x_getr (pc := 16) C (k := 1) (o1 + 2) h1.1 rfl rfl wd_128 dX5_copyFrom_16 (Nat.le_of_ble_eq_true rfl) rfl ?_
  refine x_iconst (pc := 19) C (v := (0 : Int32)) dX5_copyFrom_19 rfl ?_
  refine x_aload_n (pc := 20) C 0 dX5_copyFrom_20 rfl ?_
  refine x_getr (pc := 21) C (k := 1) (o + 2) hO.1 rfl rfl wd_128 dX5_copyFrom_21 (Nat.le_of_ble_eq_true rfl) rfl ?_
  refine x_iconst (pc := 24) C (v := (0 : Int32)) dX5_copyFrom_24 rfl ?_
  refine x_bipush (pc := 25) C (v := (10 : Int32)) dX5_copyFrom_25 rfl ?_
  obtain ⟨S_2, eS_2, h⟩ := of_lt h
  refine x_acpI (pc := 27) C sysw_X5 h1.2.2.1 hO.2.2.1 (by decide) eS_2 ⟨Nat.le_of_ble_eq_true rfl, Nat.le_of_ble_eq_true rfl⟩ (Nat.le_of_ble_eq_true rfl) dX5_copyFrom_27 ?_
  refine x_aload_n (pc := 30) C 1 dX5_copyFrom_30 rfl ?_
  refine x_getr (pc := 31) C (k := 2) (o1 + 3) h1.1 rfl rfl wd_129 dX5_copyFrom_31 (Nat.le_of_ble_eq_true rfl) rfl ?_
  refine x_iconst (pc := 34) C (v := (0 : Int32)) dX5_copyFrom_34 rfl ?_
  refine x_aload_n (pc := 35) C 0 dX5_copyFrom_35 rfl ?_
  refine x_getr (pc := 36) C (k := 2) (o + 3) hO.1 rfl rfl wd_129 dX5_copyFrom_36 (Nat.le_of_ble_eq_true rfl) rfl ?_
  refine x_iconst (pc := 39) C (v := (0 : Int32)) dX5_copyFrom_39 rfl ?_
  refine x_bipush (pc := 40) C (v := (10 : Int32)) dX5_copyFrom_40 rfl ?_
  obtain ⟨S_3, eS_3, h⟩ := of_lt h
  refine x_acpI (pc := 42) C sysw_X5 h1.2.2.2.1 hO.2.2.2.1 (by decide) eS_3 ⟨Nat.le_of_ble_eq_true rfl, Nat.le_of_ble_eq_true rfl⟩ (Nat.le_of_ble_eq_true rfl) dX5_copyFrom_42 ?_
  refine x_aload_n (pc := 45) C 1 dX5_copyFrom_45 rfl ?_
  refine x_getr (pc := 46) C (k := 3) (o1 + 4) h1.1 rfl rfl wd_130 dX5_copyFrom_46 (Nat.le_of_ble_eq_true rfl) rfl ?_
  refine x_iconst (pc := 49) C (v := (0 : Int32)) dX5_copyFrom_49 rfl ?_
  refine x_aload_n (pc := 50) C 0 dX5_copyFrom_50 rfl ?_
  refine x_getr (pc := 51) C (k := 3) (o + 4) hO.1 rfl rfl wd_130 dX5_copyFrom_51 (Nat.le_of_ble_eq_true rfl) rfl ?_
  refine x_iconst (pc := 54) C (v := (0 : Int32)) dX5_copyFrom_54 rfl ?_
  refine x_bipush (pc := 55) C (v := (10 : Int32)) dX5_copyFrom_55 rfl ?_
  obtain ⟨S_4, eS_4, h⟩ := of_lt h
  refine x_acpI (pc := 57) C sysw_X5 h1.2.2.2.2.1 hO.2.2.2.2.1 (by decide) eS_4 ⟨Nat.le_of_ble_eq_true rfl, Nat.le_of_ble_eq_true rfl⟩ (Nat.le_of_ble_eq_true rfl) dX5_copyFrom_57 ?_
  refine x_aload_n (pc := 60) C 1 dX5_copyFrom_60 rfl ?_
  refine x_getr (pc := 61) C (k := 8) (o1 + 16) h1.1 rfl rfl wd_139 dX5_copyFrom_61 (Nat.le_of_ble_eq_true rfl) rfl ?_
  refine x_iconst (pc := 64) C (v := (0 : Int32)) dX5_copyFrom_64 rfl ?_
  refine x_aload_n (pc := 65) C 0 dX5_copyFrom_65 rfl ?_
  refine x_getr (pc := 66) C (k := 8) (o + 16) hO.1 rfl rfl wd_139 dX5_copyFrom_66 (Nat.le_of_ble_eq_true rfl) rfl ?_
  refine x_iconst (pc := 69) C (v := (0 : Int32)) dX5_copyFrom_69 rfl ?_
  refine x_bipush (pc := 70) C (v := (10 : Int32)) dX5_copyFrom_70 rfl ?_
  obtain ⟨S_5, eS_5, h⟩ := of_lt h
  refine x_acpI (pc := 72) C sysw_X5 h1.2.2.2.2.2.2.2.1 hO.2.2.2.2.2.2.2.1 (by decide) eS_5 ⟨Nat.le_of_ble_eq_true rfl, Nat.le_of_ble_eq_true rfl⟩ (Nat.le_of_ble_eq_true rfl) dX5_copyFrom_72 ?_
  refine x_iconst (pc := 75) C (v := (0 : Int32)) dX5_copyFrom_75 rfl ?_
  refine x_istore_n (pc := 76) C 2 [(2, .int (0 : Int32)), (0, .ref (b + o)), (1, .ref (b + o1))] dX5_copyFrom_76 rfl (Nat.le_of_ble_eq_true rfl) rfl rfl ?_
  refine x_sub [1, 2, 0] rfl ?_
  obtain ⟨z_hz_1, hz_1, h⟩ := of_bd h
  refine l_X5_copyFrom_77 C o o1 hO h1 400 _ _ hz_1 (fun S_6 ez => ?_)
  subst z_hz_1
  refine x_aload_n (pc := 108) C 0 dX5_copyFrom_108 rfl ?_
  refine x_aload_n (pc := 109) C 1 dX5_copyFrom_109 rfl ?_
  refine x_geti (pc := 110) C (k := 4) h1.1 rfl rfl wd_131 dX5_copyFrom_110 ⟨Nat.le_of_ble_eq_true rfl, rfl⟩ ?_
  obtain ⟨S_7, eS_7, h⟩ := of_lt h
  refine x_puti (pc := 113) C (k := 4) hO.1 rfl rfl wd_131 dX5_copyFrom_113 ⟨Nat.le_of_ble_eq_true rfl, rfl⟩ eS_7 ?_
  refine x_aload_n (pc := 116) C 0 dX5_copyFrom_116 rfl ?_
  refine x_aload_n (pc := 117) C 1 dX5_copyFrom_117 rfl ?_
  refine x_geti (pc := 118) C (k := 5) h1.1 rfl rfl wd_134 dX5_copyFrom_118 ⟨Nat.le_of_ble_eq_true rfl, rfl⟩ ?_
  obtain ⟨S_8, eS_8, h⟩ := of_lt h
  refine x_puti (pc := 121) C (k := 5) hO.1 rfl rfl wd_134 dX5_copyFrom_121 ⟨Nat.le_of_ble_eq_true rfl, rfl⟩ eS_8 ?_
  refine x_aload_n (pc := 124) C 0 dX5_copyFrom_124 rfl ?_
  refine x_aload_n (pc := 125) C 1 dX5_copyFrom_125 rfl ?_
  refine x_geti (pc := 126) C (k := 6) h1.1 rfl rfl wd_136 dX5_copyFrom_126 ⟨Nat.le_of_ble_eq_true rfl, rfl⟩ ?_
  obtain ⟨S_9, eS_9, h⟩ := of_lt h
  refine x_puti (pc := 129) C (k := 6) hO.1 rfl rfl wd_136 dX5_copyFrom_129 ⟨Nat.le_of_ble_eq_true rfl, rfl⟩ eS_9 ?_
  refine x_aload_n (pc := 132) C 0 dX5_copyFrom_132 rfl ?_
  refine x_aload_n (pc := 133) C 1 dX5_copyFrom_133 rfl ?_
  refine x_geti (pc := 134) C (k := 9) h1.1 rfl rfl wd_141 dX5_copyFrom_134 ⟨Nat.le_of_ble_eq_true rfl, rfl⟩ ?_
  obtain ⟨S_10, eS_10, h⟩ := of_lt h
  refine x_puti (pc := 137) C (k := 9) hO.1 rfl rfl wd_141 dX5_copyFrom_137 ⟨Nat.le_of_ble_eq_true rfl, rfl⟩ eS_10 ?_
  refine x_aload_n (pc := 140) C 0 dX5_copyFrom_140 rfl ?_
  refine x_getr (pc := 141) C (k := 10) (o + 17) hO.1 rfl rfl wd_143 dX5_copyFrom_141 (Nat.le_of_ble_eq_true rfl) rfl ?_
  refine x_aload_n (pc := 144) C 1 dX5_copyFrom_144 rfl ?_
  refine x_getr (pc := 145) C (k := 10) (o1 + 17) h1.1 rfl rfl wd_143 dX5_copyFrom_145 (Nat.le_of_ble_eq_true rfl) rfl ?_
  obtain ⟨S_11, hc_1, h⟩ := of_bd h
  refine x_callV_ (pc := 148) C (o := (o + 17)) [.ref (b + (o1 + 17))] [] (c_X4_copyFrom (b := b) (o + 17) (o1 + 17) hO.2.2.2.2.2.2.2.2.1 h1.2.2.2.2.2.2.2.2.1 S_10 _ hc_1) cw_X5_68 vi_X4_copyFrom ⟨rfl, rfl, Nat.le_of_ble_eq_true rfl, Nat.le_of_ble_eq_true rfl⟩ ⟨Nat.le_refl _, Nat.le_refl _⟩ hO.2.2.2.2.2.2.2.2.1.1 ⟨rfl, rfl, rfl⟩ rfl ⟨rfl, Nat.le_of_ble_eq_true rfl⟩ dX5_copyFrom_148 (fun hx_1 => ?_)
  exact x_vreturn (pc := 151) C dX5_copyFrom_151 (of_s1 h)
set_option maxRecDepth 100000 in
set_option maxHeartbeats 4000000 in
theorem c_X5_fixedBitsWith {l : Launch} {G : zz_G} {L : Ly} {b : Nat} (o : Nat) (o1 : Nat) (hO : isW L o) (h1 : isQ L o1) (S : Sg) (rf : Int32) (Sf : Sg) (h : f_X5_fixedBitsWith o o1 S = some (rf, Sf)) : Met l yX5_fixedBitsWith (Cond.code yX5_fixedBitsWith cX5_fixedBitsWith 2 (some .int) :: zz_all) (rmz 2 48) (PC G L b S [.ref (b + o), .ref (b + o1)]) (QC G L b Sf (some (.int rf)) True) 0 0 (fun q => b ≤ q) := by
  refine x_met [.ref (b + o), .ref (b + o1)] (by decide +kernel) (Nat.le_of_ble_eq_true rfl) fun p e s m args below meth c C => ?_
  unfold f_X5_fixedBitsWith at h
  refine x_aload_n (pc := 0) C 0 dX5_fixedBitsWith_0 rfl ?_
  refine x_aload_n (pc := 1) C 1 dX5_fixedBitsWith_1 rfl ?_
  obtain ⟨S_1, hc_1, h⟩ := of_bd h
  refine x_callV_ (pc := 2) C (o := o) [.ref (b + o1)] [] (c_X5_findRest (b := b) o o1 hO h1 S _ hc_1) cw_X5_114 vi_X5_findRest ⟨rfl, rfl, Nat.le_of_ble_eq_true rfl, Nat.le_of_ble_eq_true rfl⟩ ⟨Nat.le_refl _, Nat.le_refl _⟩ hO.1 ⟨rfl, rfl, rfl⟩ rfl ⟨rfl, Nat.le_of_ble_eq_true rfl⟩ dX5_fixedBitsWith_2 (fun hx_1 => ?_)
  refine x_aload_n (pc := 5) C 0 dX5_fixedBitsWith_5 rfl ?_
  refine x_getr (pc := 6) C (k := 10) (o + 17) hO.1 rfl rfl wd_143 dX5_fixedBitsWith_6 (Nat.le_of_ble_eq_true rfl) rfl ?_
  refine x_aload_n (pc := 9) C 0 dX5_fixedBitsWith_9 rfl ?_
  refine x_getr (pc := 10) C (k := 13) (o + 42) hO.1 rfl rfl wd_147 dX5_fixedBitsWith_10 (Nat.le_of_ble_eq_true rfl) rfl ?_
  obtain ⟨r_1, hc_2, h⟩ := of_bd h
  refine x_callV1 (pc := 13) C (o := (o + 17)) [.ref (b + (o + 42))] [] (c_X4_fixedBitsWith (b := b) (o + 17) (o + 42) 10 hO.2.2.2.2.2.2.2.2.1 hO.2.2.2.2.2.2.2.2.2.2.2 S_1 _ hc_2) cw_X5_121 vi_X4_fixedBitsWith ⟨rfl, rfl, Nat.le_of_ble_eq_true rfl, Nat.le_of_ble_eq_true rfl⟩ ⟨Nat.le_refl _, Nat.le_refl _⟩ hO.2.2.2.2.2.2.2.2.1.1 ⟨rfl, rfl, rfl⟩ rfl ⟨rfl, Nat.le_of_ble_eq_true rfl⟩ dX5_fixedBitsWith_13 (fun hx_2 => ?_)
  exact x_ireturn (pc := 16) C dX5_fixedBitsWith_16 (of_sp h).1 (of_sp h).2
set_option maxRecDepth 100000 in
set_option maxHeartbeats 4000000 in
theorem l_X5_usedBits_4 {p : Program} {l : Launch} {e : Env} {s : State} {m : MethodId} {args : Array Value} {below : List Frame} {meth : Method} {c : Code} {G : zz_G} {L : Ly} {b : Nat} {Q : State → Prop} (C : CX p G s m args meth c cX5_usedBits yX5_usedBits 3 (some .int)) (o : Nat) (hO : isW L o) (S : Sg) : ∀ (n : Nat) (v1 : Int32) (v2 : Int32) {z}, L_X5_usedBits_4 o S n v1 v2 = some z → (∀ (v1_o : Int32), z = v1_o → X p l e (rmz 3 65) s m args below meth c 0 0 Q 3 G L b S 30 [(1, .int v1_o)] []) → X p l e (rmz 3 65) s m args below meth c 0 0 Q 3 G L b S 4 [(0, .ref (b + o)), (1, .int v1), (2, .int v2)] [] := by
  intro n
  induction n with
  | zero =>
    intro v1 v2 z h
    exact of_none h
  | succ n ih =>
    intro v1 v2 z h hx
    rw [L_X5_usedBits_4] at h
    refine x_iload_n (pc := 4) C 2 dX5_usedBits_4 rfl ?_
    refine x_bipush (pc := 5) C (v := (10 : Int32)) dX5_usedBits_5 rfl ?_
    refine x_icmp_ge (pc := 7) C 30 dX5_usedBits_7 rfl (fun c_1 => ?_) (fun c_1 => ?_)
    · replace h := of_ifn c_1 h
      exact x_sub [1] rfl (hx _ (of_s1 h).symm)
    · replace h := of_ifp c_1 h
      refine x_aload_n (pc := 10) C 0 dX5_usedBits_10 rfl ?_
      refine x_iload_n (pc := 11) C 2 dX5_usedBits_11 rfl ?_
      obtain ⟨r_1, hc_1, h⟩ := of_bd h
      refine x_callV1 (pc := 12) C (o := o) [.int v2] [] (c_X5_isFree (b := b) o v2 hO S _ hc_1) cw_X5_84 vi_X5_isFree ⟨rfl, rfl, Nat.le_of_ble_eq_true rfl, Nat.le_of_ble_eq_true rfl⟩ ⟨Nat.le_refl _, Nat.le_refl _⟩ hO.1 ⟨rfl, rfl, rfl⟩ rfl ⟨rfl, Nat.le_of_ble_eq_true rfl⟩ dX5_usedBits_12 (fun hx_1 => ?_)
      obtain ⟨v1_1, ev1_1, h⟩ := of_lt h
      have kd_1 : X p l e (rmz 3 65) s m args below meth c 0 0 Q 3 G L b S 24 [(0, .ref (b + o)), (1, .int v1_1), (2, .int v2)] [] := by
        obtain ⟨v2_1, ev2_1, h⟩ := of_lt h
        refine x_iinc (pc := 24) C (w := (1 : Int32)) 2 [(2, .int v2_1), (0, .ref (b + o)), (1, .int v1_1)] dX5_usedBits_24 rfl rfl (Nat.le_of_ble_eq_true rfl) ev2_1 rfl ?_
        refine x_goto (pc := 27) C 4 dX5_usedBits_27 rfl ?_
        exact x_sub [1, 2, 0] rfl (ih _ _ h hx)
      refine x_if_ne (pc := 15) C 24 dX5_usedBits_15 rfl (fun c_2 => ?_) (fun c_2 => ?_)
      · refine x_sub [0, 1, 2] rfl ?_
        rw [show v1_1 = v1 from (ev1_1.trans (if_neg c_2))] at kd_1
        exact kd_1
      · refine x_iload_n (pc := 18) C 1 dX5_usedBits_18 rfl ?_
        refine x_iconst (pc := 19) C (v := (1 : Int32)) dX5_usedBits_19 rfl ?_
        refine x_iload_n (pc := 20) C 2 dX5_usedBits_20 rfl ?_
        refine x_ishl (pc := 21) C dX5_usedBits_21 ?_
        refine x_ior (pc := 22) C dX5_usedBits_22 ?_
        refine x_istore_n (pc := 23) C 1 [(1, .int (v1 ||| (isl (1 : Int32) v2))), (0, .ref (b + o)), (2, .int v2)] dX5_usedBits_23 rfl (Nat.le_of_ble_eq_true rfl) rfl rfl ?_
        refine x_sub [1, 0, 2] rfl ?_
        rw [show v1_1 = (v1 ||| (isl (1 : Int32) v2)) from (ev1_1.trans (if_pos c_2))] at kd_1
        exact kd_1
set_option maxRecDepth 100000 in
set_option maxHeartbeats 4000000 in
theorem c_X5_usedBits {l : Launch} {G : zz_G} {L : Ly} {b : Nat} (o : Nat) (hO : isW L o) (S : Sg) (rf : Int32) (h : f_X5_usedBits o S = some rf) : Met l yX5_usedBits (Cond.code yX5_usedBits cX5_usedBits 3 (some .int) :: zz_all) (rmz 3 65) (PC G L b S [.ref (b + o)]) (QC G L b S (some (.int rf)) True) 0 0 (fun q => b ≤ q) := by
  refine x_met [.ref (b + o)] (by decide +kernel) (Nat.le_of_ble_eq_true rfl) fun p e s m args below meth c C => ?_
  unfold f_X5_usedBits at h
  refine x_iconst (pc := 0) C (v := (0 : Int32)) dX5_usedBits_0 rfl ?_
  refine x_istore_n (pc := 1) C 1 [(1, .int (0 : Int32)), (0, .ref (b + o))] dX5_usedBits_1 rfl (Nat.le_of_ble_eq_true rfl) rfl rfl ?_
  refine x_iconst (pc := 2) C (v := (0 : Int32)) dX5_usedBits_2 rfl ?_
  refine x_istore_n (pc := 3) C 2 [(2, .int (0 : Int32)), (1, .int (0 : Int32)), (0, .ref (b + o))] dX5_usedBits_3 rfl (Nat.le_of_ble_eq_true rfl) rfl rfl ?_
  refine x_sub [2, 1, 0] rfl ?_
  obtain ⟨z_hz_1, hz_1, h⟩ := of_bd h
  refine l_X5_usedBits_4 C o hO S 400 _ _ hz_1 (fun v1_1 ez => ?_)
  subst z_hz_1
  refine x_iload_n (pc := 30) C 0 dX5_usedBits_30 rfl ?_
  exact x_ireturn (pc := 31) C dX5_usedBits_31 (of_s1 h) rfl
set_option maxRecDepth 100000 in
set_option maxHeartbeats 4000000 in
theorem l_X5_valuesOfPeople_4 {p : Program} {l : Launch} {e : Env} {s : State} {m : MethodId} {args : Array Value} {below : List Frame} {meth : Method} {c : Code} {G : zz_G} {L : Ly} {b : Nat} {Q : State → Prop} (C : CX p G s m args meth c cX5_valuesOfPeople yX5_valuesOfPeople 3 (some .int)) (o : Nat) (hO : isW L o) (S : Sg) : ∀ (n : Nat) (v1 : Int32) (v2 : Int32) {z}, L_X5_valuesOfPeople_4 o S n v1 v2 = some z → (∀ (v1_o : Int32), z = v1_o → X p l e (rmz 3 63) s m args below meth c 0 0 Q 3 G L b S 29 [(1, .int v1_o)] []) → X p l e (rmz 3 63) s m args below meth c 0 0 Q 3 G L b S 4 [(0, .ref (b + o)), (1, .int v1), (2, .int v2)] [] := by
  intro n
  induction n with
  | zero =>
    intro v1 v2 z h
    exact of_none h
  | succ n ih =>
    intro v1 v2 z h hx
    rw [L_X5_valuesOfPeople_4] at h
    refine x_iload_n (pc := 4) C 2 dX5_valuesOfPeople_4 rfl ?_
    refine x_bipush (pc := 5) C (v := (8 : Int32)) dX5_valuesOfPeople_5 rfl ?_
    refine x_icmp_ge (pc := 7) C 29 dX5_valuesOfPeople_7 rfl (fun c_1 => ?_) (fun c_1 => ?_)
    · replace h := of_ifn c_1 h
      exact x_sub [1] rfl (hx _ (of_s1 h).symm)
    · replace h := of_ifp c_1 h
      refine x_iload_n (pc := 10) C 1 dX5_valuesOfPeople_10 rfl ?_
      refine x_aload_n (pc := 11) C 0 dX5_valuesOfPeople_11 rfl ?_
      refine x_aload_n (pc := 12) C 0 dX5_valuesOfPeople_12 rfl ?_
      refine x_getr (pc := 13) C (k := 0) (o + 1) hO.1 rfl rfl wd_127 dX5_valuesOfPeople_13 (Nat.le_of_ble_eq_true rfl) rfl ?_
      refine x_iload_n (pc := 16) C 2 dX5_valuesOfPeople_16 rfl ?_
      obtain ⟨g_1, h⟩ := of_gd h
      refine x_iaload (pc := 17) C hO.2.1 g_1 dX5_valuesOfPeople_17 ?_
      obtain ⟨r_1, hc_1, h⟩ := of_bd h
      refine x_callV1 (pc := 18) C (o := o) [.int (S.1 (o + 1) (ix v2))] [.int v1] (c_X5_valueOf (b := b) o (S.1 (o + 1) (ix v2)) hO S _ hc_1) cw_X5_87 vi_X5_valueOf ⟨rfl, rfl, Nat.le_of_ble_eq_true rfl, Nat.le_of_ble_eq_true rfl⟩ ⟨Nat.le_refl _, Nat.le_refl _⟩ hO.1 ⟨rfl, rfl, rfl⟩ rfl ⟨rfl, Nat.le_of_ble_eq_true rfl⟩ dX5_valuesOfPeople_18 (fun hx_1 => ?_)
      refine x_iadd (pc := 21) C dX5_valuesOfPeople_21 ?_
      obtain ⟨v1_1, ev1_1, h⟩ := of_lt h
      refine x_istore_n (pc := 22) C 1 [(1, .int v1_1), (0, .ref (b + o)), (2, .int v2)] dX5_valuesOfPeople_22 rfl (Nat.le_of_ble_eq_true rfl) ev1_1 rfl ?_
      obtain ⟨v2_1, ev2_1, h⟩ := of_lt h
      refine x_iinc (pc := 23) C (w := (1 : Int32)) 2 [(2, .int v2_1), (1, .int v1_1), (0, .ref (b + o))] dX5_valuesOfPeople_23 rfl rfl (Nat.le_of_ble_eq_true rfl) ev2_1 rfl ?_
      refine x_goto (pc := 26) C 4 dX5_valuesOfPeople_26 rfl ?_
      exact x_sub [2, 1, 0] rfl (ih _ _ h hx)
set_option maxRecDepth 100000 in
set_option maxHeartbeats 4000000 in
theorem c_X5_valuesOfPeople {l : Launch} {G : zz_G} {L : Ly} {b : Nat} (o : Nat) (hO : isW L o) (S : Sg) (rf : Int32) (h : f_X5_valuesOfPeople o S = some rf) : Met l yX5_valuesOfPeople (Cond.code yX5_valuesOfPeople cX5_valuesOfPeople 3 (some .int) :: zz_all) (rmz 3 63) (PC G L b S [.ref (b + o)]) (QC G L b S (some (.int rf)) True) 0 0 (fun q => b ≤ q) := by
  refine x_met [.ref (b + o)] (by decide +kernel) (Nat.le_of_ble_eq_true rfl) fun p e s m args below meth c C => ?_
  unfold f_X5_valuesOfPeople at h
  refine x_iconst (pc := 0) C (v := (0 : Int32)) dX5_valuesOfPeople_0 rfl ?_
  refine x_istore_n (pc := 1) C 1 [(1, .int (0 : Int32)), (0, .ref (b + o))] dX5_valuesOfPeople_1 rfl (Nat.le_of_ble_eq_true rfl) rfl rfl ?_
  refine x_iconst (pc := 2) C (v := (0 : Int32)) dX5_valuesOfPeople_2 rfl ?_
  refine x_istore_n (pc := 3) C 2 [(2, .int (0 : Int32)), (1, .int (0 : Int32)), (0, .ref (b + o))] dX5_valuesOfPeople_3 rfl (Nat.le_of_ble_eq_true rfl) rfl rfl ?_
  refine x_sub [2, 1, 0] rfl ?_
  obtain ⟨z_hz_1, hz_1, h⟩ := of_bd h
  refine l_X5_valuesOfPeople_4 C o hO S 400 _ _ hz_1 (fun v1_1 ez => ?_)
  subst z_hz_1
  refine x_iload_n (pc := 29) C 0 dX5_valuesOfPeople_29 rfl ?_
  exact x_ireturn (pc := 30) C dX5_valuesOfPeople_30 (of_s1 h) rfl
set_option maxRecDepth 100000 in
set_option maxHeartbeats 4000000 in
theorem c_X6_refuse {l : Launch} {G : zz_G} {L : Ly} {b : Nat} (p1 : Int32) (hO : isGu L) (S : Sg) (rf : Int32) (Sf : Sg) (h : f_X6_refuse p1 S = some (rf, Sf)) : Met l yX6_refuse (Cond.code yX6_refuse cX6_refuse 3 (some .int) :: zz_all) (rmz 1 21) (PC G L b S [.ref (b + 0), .int p1]) (QC G L b Sf (some (.int rf)) True) 0 0 (fun q => b ≤ q) := by
  refine x_met [.ref (b + 0), .int p1] (by decide +kernel) (Nat.le_of_ble_eq_true rfl) fun p e s m args below meth c C => ?_
  unfold f_X6_refuse at h
  refine x_iconst (pc := 0) C (v := (-1 : Int32)) dX6_refuse_0 rfl ?_
  refine x_iload_n (pc := 1) C 1 dX6_refuse_1 rfl ?_
  refine x_isub (pc := 2) C dX6_refuse_2 ?_
  obtain ⟨v2_1, ev2_1, h⟩ := of_lt h
  refine x_istore_n (pc := 3) C 2 [(2, .int v2_1), (0, .ref (b + 0)), (1, .int p1)] dX6_refuse_3 rfl (Nat.le_of_ble_eq_true rfl) ev2_1 rfl ?_
  refine x_iload_n (pc := 4) C 0 dX6_refuse_4 rfl ?_
  refine x_bipush (pc := 5) C (v := (6 : Int32)) dX6_refuse_5 rfl ?_
  refine x_callS1 (pc := 7) C [.int v2_1, .int (6 : Int32)] [] (c_X6_isWithin (b := b) v2_1 (6 : Int32) S) cw_X6_69 vs_X6_isWithin ⟨rfl, rfl, Nat.le_of_ble_eq_true rfl, Nat.le_of_ble_eq_true rfl⟩ ⟨Nat.le_refl _, Nat.le_refl _⟩ rfl ⟨rfl, Nat.le_of_ble_eq_true rfl⟩ dX6_refuse_7 (fun hx_1 => ?_)
  refine x_if_eq (pc := 10) C 23 dX6_refuse_10 rfl (fun c_1 => ?_) (fun c_1 => ?_)
  · replace h := of_ifp c_1 h
    refine x_iload_n (pc := 23) C 2 dX6_refuse_23 rfl ?_
    exact x_ireturn (pc := 24) C dX6_refuse_24 (of_sp h).1 (of_sp h).2
  · replace h := of_ifn c_1 h
    refine x_aload_n (pc := 13) C 1 dX6_refuse_13 rfl ?_
    refine x_getr (pc := 14) C (k := 8) 139 hO.1 rfl rfl wd_228 dX6_refuse_14 (Nat.le_of_ble_eq_true rfl) rfl ?_
    refine x_iload_n (pc := 17) C 0 dX6_refuse_17 rfl ?_
    refine x_dup2 (pc := 18) C dX6_refuse_18 rfl rfl ?_
    obtain ⟨g_1, h⟩ := of_gd h
    refine x_iaload (pc := 19) C hO.2.2.2.2.2.2.2.2 g_1 dX6_refuse_19 ?_
    refine x_iconst (pc := 20) C (v := (1 : Int32)) dX6_refuse_20 rfl ?_
    refine x_iadd (pc := 21) C dX6_refuse_21 ?_
    obtain ⟨S_1, eS_1, h⟩ := of_lt h
    refine x_iastore (pc := 22) C hO.2.2.2.2.2.2.2.2 g_1 eS_1 dX6_refuse_22 ?_
    refine x_iload_n (pc := 23) C 2 dX6_refuse_23 rfl ?_
    exact x_ireturn (pc := 24) C dX6_refuse_24 (of_sp h).1 (of_sp h).2
set_option maxRecDepth 100000 in
set_option maxHeartbeats 4000000 in
theorem c_X6_answer {l : Launch} {G : zz_G} {L : Ly} {b : Nat} (p1 : Int32) (hO : isGu L) (S : Sg) (rf : Int64) (Sf : Sg) (h : f_X6_answer p1 S = some (rf, Sf)) : Met l yX6_answer (Cond.code yX6_answer cX6_answer 2 (some .long) :: zz_all) (rmz 2 43) (PC G L b S [.ref (b + 0), .int p1]) (QC G L b Sf (some (.long rf)) True) 0 0 (fun q => b ≤ q) := by
  refine x_met [.ref (b + 0), .int p1] (by decide +kernel) (Nat.le_of_ble_eq_true rfl) fun p e s m args below meth c C => ?_
  unfold f_X6_answer at h
  refine x_iload_n (pc := 0) C 1 dX6_answer_0 rfl ?_
  refine x_aload_n (pc := 1) C 0 dX6_answer_1 rfl ?_
  refine x_getr (pc := 2) C (k := 0) 1 hO.1 rfl rfl wd_220 dX6_answer_2 (Nat.le_of_ble_eq_true rfl) rfl ?_
  refine x_geti (pc := 5) C (k := 9) hO.2.1.1 rfl rfl wd_142 dX6_answer_5 ⟨Nat.le_of_ble_eq_true rfl, rfl⟩ ?_
  refine x_callS1 (pc := 8) C [.int p1, .int (S.1 1 9)] [] (c_X6_isWithin (b := b) p1 (S.1 1 9) S) cw_X6_69 vs_X6_isWithin ⟨rfl, rfl, Nat.le_of_ble_eq_true rfl, Nat.le_of_ble_eq_true rfl⟩ ⟨Nat.le_refl _, Nat.le_refl _⟩ rfl ⟨rfl, Nat.le_of_ble_eq_true rfl⟩ dX6_answer_8 (fun hx_1 => ?_)
  refine x_if_ne (pc := 11) C 25 dX6_answer_11 rfl (fun c_1 => ?_) (fun c_1 => ?_)
  · replace h := of_ifn c_1 h
    refine x_aload_n (pc := 25) C 0 dX6_answer_25 rfl ?_
    refine x_getr (pc := 26) C (k := 0) 1 hO.1 rfl rfl wd_220 dX6_answer_26 (Nat.le_of_ble_eq_true rfl) rfl ?_
    refine x_iload_n (pc := 29) C 1 dX6_answer_29 rfl ?_
    obtain ⟨r_1, hc_1, h⟩ := of_bd h
    refine x_callV1 (pc := 30) C (o := 1) [.int p1] [] (c_X5_answerOf (b := b) 1 p1 hO.2.1 S _ hc_1) cw_X6_184 vi_X5_answerOf ⟨rfl, rfl, Nat.le_of_ble_eq_true rfl, Nat.le_of_ble_eq_true rfl⟩ ⟨Nat.le_refl _, Nat.le_refl _⟩ hO.2.1.1 ⟨rfl, rfl, rfl⟩ rfl ⟨rfl, Nat.le_of_ble_eq_true rfl⟩ dX6_answer_30 (fun hx_2 => ?_)
    refine x_i2l (pc := 33) C dX6_answer_33 ?_
    exact x_lreturn (pc := 34) C dX6_answer_34 (of_sp h).1 (of_sp h).2
  · replace h := of_ifp c_1 h
    refine x_ldc2 (pc := 14) C wd_557 dX6_answer_14 ?_
    refine x_aload_n (pc := 17) C 0 dX6_answer_17 rfl ?_
    refine x_iconst (pc := 18) C (v := (-1 : Int32)) dX6_answer_18 rfl ?_
    obtain ⟨⟨r_2, S_1⟩, hc_2, h⟩ := of_bd h
    replace h := of_u2 h
    refine x_callV1 (pc := 19) C (o := 0) [.int (-1 : Int32)] [.long (4000000000000000000 : Int64)] (c_X6_refuse (b := b) (-1 : Int32) hO S _ _ hc_2) cw_X6_73 vi_X6_refuse ⟨rfl, rfl, Nat.le_of_ble_eq_true rfl, Nat.le_of_ble_eq_true rfl⟩ ⟨Nat.le_refl _, Nat.le_refl _⟩ hO.1 ⟨rfl, rfl, rfl⟩ rfl ⟨rfl, Nat.le_of_ble_eq_true rfl⟩ dX6_answer_19 (fun hx_3 => ?_)
    refine x_i2l (pc := 22) C dX6_answer_22 ?_
    refine x_lsub (pc := 23) C dX6_answer_23 ?_
    exact x_lreturn (pc := 24) C dX6_answer_24 (of_sp h).1 (of_sp h).2
set_option maxRecDepth 100000 in
set_option maxHeartbeats 4000000 in
theorem c_X6_misfit {l : Launch} {G : zz_G} {L : Ly} {b : Nat} (p0 : Int32) (p1 : Int32) (p2 : Int32) (S : Sg) : Met l yX6_misfit (Cond.code yX6_misfit cX6_misfit 3 (some .int) :: zz_all) (rmz 0 0) (PC G L b S [.int p0, .int p1, .int p2]) (QC G L b S (some (.int (f_X6_misfit p0 p1 p2))) True) 0 0 (fun q => b ≤ q) := by
  refine x_met [.int p0, .int p1, .int p2] (by decide +kernel) (Nat.le_of_ble_eq_true rfl) fun p e s m args below meth c C => ?_
  generalize h : f_X6_misfit p0 p1 p2 = rf
  unfold f_X6_misfit at h
  refine x_iload_n (pc := 0) C 0 dX6_misfit_0 rfl ?_
  refine x_iload_n (pc := 1) C 1 dX6_misfit_1 rfl ?_
  obtain ⟨x_1, ex_1, h⟩ := of_lt h
  have kd_1 : X p l e (rmz 0 0) s m args below meth c 0 0 (RQ G L b S below args s (some (.int rf)) True) 3 G L b S 21 [] [.int x_1] := by
    exact x_ireturn (pc := 21) C dX6_misfit_21 h rfl
  refine x_icmp_ge (pc := 2) C 10 dX6_misfit_2 rfl (fun c_1 => ?_) (fun c_1 => ?_)
  · refine x_iload_n (pc := 10) C 0 dX6_misfit_10 rfl ?_
    refine x_iload_n (pc := 11) C 2 dX6_misfit_11 rfl ?_
    refine x_icmp_le (pc := 12) C 20 dX6_misfit_12 rfl (fun c_2 => ?_) (fun c_2 => ?_)
    · refine x_iconst (pc := 20) C (v := (0 : Int32)) dX6_misfit_20 rfl ?_
      refine x_sub [] rfl ?_
      rw [show x_1 = (0 : Int32) from ((ex_1.trans (if_neg c_1)).trans (if_neg c_2))] at kd_1
      exact kd_1
    · refine x_bipush (pc := 15) C (v := (-6 : Int32)) dX6_misfit_15 rfl ?_
      refine x_goto (pc := 17) C 21 dX6_misfit_17 rfl ?_
      refine x_sub [] rfl ?_
      rw [show x_1 = (-6 : Int32) from ((ex_1.trans (if_neg c_1)).trans (if_pos c_2))] at kd_1
      exact kd_1
  · refine x_bipush (pc := 5) C (v := (-4 : Int32)) dX6_misfit_5 rfl ?_
    refine x_goto (pc := 7) C 21 dX6_misfit_7 rfl ?_
    refine x_sub [] rfl ?_
    rw [show x_1 = (-4 : Int32) from (ex_1.trans (if_pos c_1))] at kd_1
    exact kd_1
set_option maxRecDepth 100000 in
set_option maxHeartbeats 4000000 in
theorem c_X6_append {l : Launch} {G : zz_G} {L : Ly} {b : Nat} (o1 : Nat) (n1 : Nat) (p2 : Int32) (hO : isGu L) (h1 : isNum L o1 n1) (S : Sg) (rf : Int32) (Sf : Sg) (h : f_X6_append o1 n1 p2 S = some (rf, Sf)) : Met l yX6_append (Cond.code yX6_append cX6_append 4 (some .int) :: zz_all) (rmz 2 43) (PC G L b S [.ref (b + 0), .ref (b + o1), .int p2]) (QC G L b Sf (some (.int rf)) True) 0 0 (fun q => b ≤ q) := by
  refine x_met [.ref (b + 0), .ref (b + o1), .int p2] (by decide +kernel) (Nat.le_of_ble_eq_true rfl) fun p e s m args below meth c C => ?_
  unfold f_X6_append at h
  refine x_iload_n (pc := 0) C 2 dX6_append_0 rfl ?_
  refine x_iconst (pc := 1) C (v := (0 : Int32)) dX6_append_1 rfl ?_
  refine x_sipush (pc := 2) C (v := (255 : Int32)) dX6_append_2 rfl ?_
  refine x_callS1 (pc := 5) C [.int p2, .int (0 : Int32), .int (255 : Int32)] [] (c_X6_misfit (b := b) p2 (0 : Int32) (255 : Int32) S) cw_X6_125 vs_X6_misfit ⟨rfl, rfl, Nat.le_of_ble_eq_true rfl, Nat.le_of_ble_eq_true rfl⟩ ⟨Nat.le_refl _, Nat.le_refl _⟩ rfl ⟨rfl, Nat.le_of_ble_eq_true rfl⟩ dX6_append_5 (fun hx_1 => ?_)
  obtain ⟨v3_1, ev3_1, h⟩ := of_lt h
  refine x_istore_n (pc := 8) C 3 [(3, .int v3_1), (0, .ref (b + 0)), (1, .ref (b + o1)), (2, .int p2)] dX6_append_8 rfl (Nat.le_of_ble_eq_true rfl) ev3_1 rfl ?_
  refine x_iload_n (pc := 9) C 0 dX6_append_9 rfl ?_
  refine x_if_eq (pc := 10) C 19 dX6_append_10 rfl (fun c_1 => ?_) (fun c_1 => ?_)
  · replace h := of_ifp c_1 h
    refine x_aload_n (pc := 19) C 2 dX6_append_19 rfl ?_
    refine x_iload_n (pc := 20) C 3 dX6_append_20 rfl ?_
    obtain ⟨⟨r_1, S_1⟩, hc_1, h⟩ := of_bd h
    replace h := of_u2 h
    refine x_callV1 (pc := 21) C (o := o1) [.int p2] [] (c_X1_add (b := b) o1 n1 p2 h1 S _ _ hc_1) cw_X6_284 vi_X1_add ⟨rfl, rfl, Nat.le_of_ble_eq_true rfl, Nat.le_of_ble_eq_true rfl⟩ ⟨Nat.le_refl _, Nat.le_refl _⟩ h1.1 ⟨rfl, rfl, rfl⟩ rfl ⟨rfl, Nat.le_of_ble_eq_true rfl⟩ dX6_append_21 (fun hx_2 => ?_)
    refine x_if_eq (pc := 24) C 34 dX6_append_24 rfl (fun c_2 => ?_) (fun c_2 => ?_)
    · replace h := of_ifp c_2 h
      refine x_aload_n (pc := 34) C 1 dX6_append_34 rfl ?_
      refine x_bipush (pc := 35) C (v := (-6 : Int32)) dX6_append_35 rfl ?_
      obtain ⟨⟨r_2, S_2⟩, hc_2, h⟩ := of_bd h
      replace h := of_u2 h
      refine x_callV1 (pc := 37) C (o := 0) [.int (-6 : Int32)] [] (c_X6_refuse (b := b) (-6 : Int32) hO S_1 _ _ hc_2) cw_X6_73 vi_X6_refuse ⟨rfl, rfl, Nat.le_of_ble_eq_true rfl, Nat.le_of_ble_eq_true rfl⟩ ⟨Nat.le_refl _, Nat.le_refl _⟩ hO.1 ⟨rfl, rfl, rfl⟩ rfl ⟨rfl, Nat.le_of_ble_eq_true rfl⟩ dX6_append_37 (fun hx_3 => ?_)
      exact x_ireturn (pc := 40) C dX6_append_40 (of_sp h).1 (of_sp h).2
    · replace h := of_ifn c_2 h
      refine x_aload_n (pc := 27) C 2 dX6_append_27 rfl ?_
      refine x_geti (pc := 28) C (k := 0) h1.1 rfl rfl wd_213 dX6_append_28 ⟨Nat.le_of_ble_eq_true rfl, rfl⟩ ?_
      refine x_goto (pc := 31) C 40 dX6_append_31 rfl ?_
      exact x_ireturn (pc := 40) C dX6_append_40 (of_sp h).1 (of_sp h).2
  · replace h := of_ifn c_1 h
    refine x_aload_n (pc := 13) C 1 dX6_append_13 rfl ?_
    refine x_iload_n (pc := 14) C 0 dX6_append_14 rfl ?_
    obtain ⟨⟨r_3, S_3⟩, hc_3, h⟩ := of_bd h
    replace h := of_u2 h
    refine x_callV1 (pc := 15) C (o := 0) [.int v3_1] [] (c_X6_refuse (b := b) v3_1 hO S _ _ hc_3) cw_X6_73 vi_X6_refuse ⟨rfl, rfl, Nat.le_of_ble_eq_true rfl, Nat.le_of_ble_eq_true rfl⟩ ⟨Nat.le_refl _, Nat.le_refl _⟩ hO.1 ⟨rfl, rfl, rfl⟩ rfl ⟨rfl, Nat.le_of_ble_eq_true rfl⟩ dX6_append_15 (fun hx_4 => ?_)
    exact x_ireturn (pc := 18) C dX6_append_18 (of_sp h).1 (of_sp h).2
set_option maxRecDepth 100000 in
set_option maxHeartbeats 4000000 in
theorem c_X6_ask {l : Launch} {G : zz_G} {L : Ly} {b : Nat} (p1 : Int32) (p2 : Int32) (p3 : Int32) (hO : isGu L) (S : Sg) (rf : Int32) (Sf : Sg) (h : f_X6_ask p1 p2 p3 S = some (rf, Sf)) : Met l yX6_ask (Cond.code yX6_ask cX6_ask 5 (some .int) :: zz_all) (rmz 4 96) (PC G L b S [.ref (b + 0), .int p1, .int p2, .int p3]) (QC G L b Sf (some (.int rf)) True) 0 0 (fun q => b ≤ q) := by
  refine x_met [.ref (b + 0), .int p1, .int p2, .int p3] (by decide +kernel) (Nat.le_of_ble_eq_true rfl) fun p e s m args below meth c C => ?_
  unfold f_X6_ask at h
  refine x_iload_n (pc := 0) C 1 dX6_ask_0 rfl ?_
  refine x_iload_n (pc := 1) C 2 dX6_ask_1 rfl ?_
  refine x_iload_n (pc := 2) C 3 dX6_ask_2 rfl ?_
  refine x_callS1 (pc := 3) C [.int p1, .int p2, .int p3] [] (c_X2_misfitOf (b := b) p1 p2 p3 S) cw_X6_146 vs_X2_misfitOf ⟨rfl, rfl, Nat.le_of_ble_eq_true rfl, Nat.le_of_ble_eq_true rfl⟩ ⟨Nat.le_refl _, Nat.le_refl _⟩ rfl ⟨rfl, Nat.le_of_ble_eq_true rfl⟩ dX6_ask_3 (fun hx_1 => ?_)
  obtain ⟨v4_1, ev4_1, h⟩ := of_lt h
  refine x_istore (pc := 6) C [(4, .int v4_1), (0, .ref (b + 0)), (1, .int p1), (2, .int p2), (3, .int p3)] dX6_ask_6 (Nat.le_of_ble_eq_true rfl) ev4_1 rfl ?_
  refine x_iload (pc := 8) C 0 dX6_ask_8 rfl ?_
  refine x_if_eq (pc := 10) C 23 dX6_ask_10 rfl (fun c_1 => ?_) (fun c_1 => ?_)
  · replace h := of_ifp c_1 h
    refine x_aload_n (pc := 23) C 1 dX6_ask_23 rfl ?_
    refine x_getr (pc := 24) C (k := 4) 130 hO.1 rfl rfl wd_224 dX6_ask_24 (Nat.le_of_ble_eq_true rfl) rfl ?_
    refine x_iload_n (pc := 27) C 2 dX6_ask_27 rfl ?_
    refine x_iload_n (pc := 28) C 3 dX6_ask_28 rfl ?_
    refine x_iload_n (pc := 29) C 4 dX6_ask_29 rfl ?_
    obtain ⟨S_1, hc_1, h⟩ := of_bd h
    refine x_callV_ (pc := 30) C (o := 130) [.int p1, .int p2, .int p3] [] (c_X2_make (b := b) 130 p1 p2 p3 hO.2.2.2.2.1 S _ hc_1) cw_X6_150 vi_X2_make ⟨rfl, rfl, Nat.le_of_ble_eq_true rfl, Nat.le_of_ble_eq_true rfl⟩ ⟨Nat.le_refl _, Nat.le_refl _⟩ hO.2.2.2.2.1.1 ⟨rfl, rfl, rfl⟩ rfl ⟨rfl, Nat.le_of_ble_eq_true rfl⟩ dX6_ask_30 (fun hx_2 => ?_)
    refine x_aload_n (pc := 33) C 1 dX6_ask_33 rfl ?_
    refine x_getr (pc := 34) C (k := 0) 1 hO.1 rfl rfl wd_220 dX6_ask_34 (Nat.le_of_ble_eq_true rfl) rfl ?_
    refine x_aload_n (pc := 37) C 1 dX6_ask_37 rfl ?_
    refine x_getr (pc := 38) C (k := 4) 130 hO.1 rfl rfl wd_224 dX6_ask_38 (Nat.le_of_ble_eq_true rfl) rfl ?_
    obtain ⟨⟨r_1, S_2⟩, hc_2, h⟩ := of_bd h
    replace h := of_u2 h
    refine x_callV1 (pc := 41) C (o := 1) [.ref (b + 130)] [] (c_X5_takeQuestion (b := b) 1 130 hO.2.1 hO.2.2.2.2.1 S_1 _ _ hc_2) cw_X6_154 vi_X5_takeQuestion ⟨rfl, rfl, Nat.le_of_ble_eq_true rfl, Nat.le_of_ble_eq_true rfl⟩ ⟨Nat.le_refl _, Nat.le_refl _⟩ hO.2.1.1 ⟨rfl, rfl, rfl⟩ rfl ⟨rfl, Nat.le_of_ble_eq_true rfl⟩ dX6_ask_41 (fun hx_3 => ?_)
    refine x_iconst (pc := 44) C (v := (2 : Int32)) dX6_ask_44 rfl ?_
    refine x_icmp_ne (pc := 45) C 58 dX6_ask_45 rfl (fun c_2 => ?_) (fun c_2 => ?_)
    · replace h := of_ifn c_2 h
      refine x_aload_n (pc := 58) C 1 dX6_ask_58 rfl ?_
      refine x_getr (pc := 59) C (k := 0) 1 hO.1 rfl rfl wd_220 dX6_ask_59 (Nat.le_of_ble_eq_true rfl) rfl ?_
      refine x_aload_n (pc := 62) C 1 dX6_ask_62 rfl ?_
      refine x_getr (pc := 63) C (k := 4) 130 hO.1 rfl rfl wd_224 dX6_ask_63 (Nat.le_of_ble_eq_true rfl) rfl ?_
      obtain ⟨r_2, hc_3, h⟩ := of_bd h
      refine x_callV1 (pc := 66) C (o := 1) [.ref (b + 130)] [] (c_X5_trueAnswer (b := b) 1 130 hO.2.1 hO.2.2.2.2.1 S_2 _ hc_3) cw_X6_158 vi_X5_trueAnswer ⟨rfl, rfl, Nat.le_of_ble_eq_true rfl, Nat.le_of_ble_eq_true rfl⟩ ⟨Nat.le_refl _, Nat.le_refl _⟩ hO.2.1.1 ⟨rfl, rfl, rfl⟩ rfl ⟨rfl, Nat.le_of_ble_eq_true rfl⟩ dX6_ask_66 (fun hx_4 => ?_)
      exact x_ireturn (pc := 69) C dX6_ask_69 (of_sp h).1 (of_sp h).2
    · replace h := of_ifp c_2 h
      refine x_ldc (pc := 48) C wd_523 dX6_ask_48 ?_
      refine x_aload_n (pc := 50) C 1 dX6_ask_50 rfl ?_
      refine x_bipush (pc := 51) C (v := (-5 : Int32)) dX6_ask_51 rfl ?_
      obtain ⟨⟨r_3, S_3⟩, hc_4, h⟩ := of_bd h
      replace h := of_u2 h
      refine x_callV1 (pc := 53) C (o := 0) [.int (-5 : Int32)] [.int (1000000000 : Int32)] (c_X6_refuse (b := b) (-5 : Int32) hO S_2 _ _ hc_4) cw_X6_73 vi_X6_refuse ⟨rfl, rfl, Nat.le_of_ble_eq_true rfl, Nat.le_of_ble_eq_true rfl⟩ ⟨Nat.le_refl _, Nat.le_refl _⟩ hO.1 ⟨rfl, rfl, rfl⟩ rfl ⟨rfl, Nat.le_of_ble_eq_true rfl⟩ dX6_ask_53 (fun hx_5 => ?_)
      refine x_isub (pc := 56) C dX6_ask_56 ?_
      exact x_ireturn (pc := 57) C dX6_ask_57 (of_sp h).1 (of_sp h).2
  · replace h := of_ifn c_1 h
    refine x_ldc (pc := 13) C wd_523 dX6_ask_13 ?_
    refine x_aload_n (pc := 15) C 1 dX6_ask_15 rfl ?_
    refine x_iload (pc := 16) C 0 dX6_ask_16 rfl ?_
    obtain ⟨⟨r_4, S_4⟩, hc_5, h⟩ := of_bd h
    replace h := of_u2 h
    refine x_callV1 (pc := 18) C (o := 0) [.int v4_1] [.int (1000000000 : Int32)] (c_X6_refuse (b := b) v4_1 hO S _ _ hc_5) cw_X6_73 vi_X6_refuse ⟨rfl, rfl, Nat.le_of_ble_eq_true rfl, Nat.le_of_ble_eq_true rfl⟩ ⟨Nat.le_refl _, Nat.le_refl _⟩ hO.1 ⟨rfl, rfl, rfl⟩ rfl ⟨rfl, Nat.le_of_ble_eq_true rfl⟩ dX6_ask_18 (fun hx_6 => ?_)
    refine x_isub (pc := 21) C dX6_ask_21 ?_
    exact x_ireturn (pc := 22) C dX6_ask_22 (of_sp h).1 (of_sp h).2
