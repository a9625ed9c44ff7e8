set_option maxRecDepth 100000 in
set_option maxHeartbeats 4000000 in
theorem c_X6_limit {l : Launch} {G : zz_G} {L : Ly} {b : Nat} (p1 : Int32) (hO : isGu L) (S : Sg) (rf : Int32) (Sf : Sg) (h : f_X6_limit p1 S = some (rf, Sf)) : Met l yX6_limit (Cond.code yX6_limit cX6_limit 4 (some .int) :: zz_all) (rmz 2 43) (PC G L b S [.ref (b + 0), .int p1]) (QC G L b Sf (some (.int rf)) True) 0 0 (fun q => b ≤ q) := by
  refine x_met [.ref (b + 0), .int p1] (by decide +kernel) (Nat.le_of_ble_eq_true rfl) fun p e s m args below meth c C => ?_
  unfold f_X6_limit at h
  refine x_iload_n (pc := 0) C 1 dX6_limit_0 rfl ?_
  refine x_iconst (pc := 1) C (v := (0 : Int32)) dX6_limit_1 rfl ?_
  refine x_bipush (pc := 2) C (v := (10 : Int32)) dX6_limit_2 rfl ?_
  refine x_callS1 (pc := 4) C [.int p1, .int (0 : Int32), .int (10 : Int32)] [] (c_X6_misfit (b := b) p1 (0 : Int32) (10 : Int32) S) cw_X6_125 vs_X6_misfit ⟨rfl, rfl, Nat.le_of_ble_eq_true rfl, Nat.le_of_ble_eq_true rfl⟩ ⟨Nat.le_refl _, Nat.le_refl _⟩ rfl ⟨rfl, Nat.le_of_ble_eq_true rfl⟩ dX6_limit_4 (fun hx_1 => ?_)
  obtain ⟨v2_1, ev2_1, h⟩ := of_lt h
  refine x_istore_n (pc := 7) C 2 [(2, .int v2_1), (0, .ref (b + 0)), (1, .int p1)] dX6_limit_7 rfl (Nat.le_of_ble_eq_true rfl) ev2_1 rfl ?_
  refine x_iload_n (pc := 8) C 0 dX6_limit_8 rfl ?_
  refine x_if_eq (pc := 9) C 18 dX6_limit_9 rfl (fun c_1 => ?_) (fun c_1 => ?_)
  · replace h := of_ifp c_1 h
    refine x_aload_n (pc := 18) C 1 dX6_limit_18 rfl ?_
    refine x_getr (pc := 19) C (k := 0) 1 hO.1 rfl rfl wd_149 dX6_limit_19 (Nat.le_of_ble_eq_true rfl) rfl ?_
    refine x_geti (pc := 22) C (k := 6) hO.2.1.1 rfl rfl wd_69 dX6_limit_22 ⟨Nat.le_of_ble_eq_true rfl, rfl⟩ ?_
    obtain ⟨v3_1, ev3_1, h⟩ := of_lt h
    refine x_istore_n (pc := 25) C 3 [(3, .int v3_1), (2, .int v2_1), (0, .ref (b + 0)), (1, .int p1)] dX6_limit_25 rfl (Nat.le_of_ble_eq_true rfl) ev3_1 rfl ?_
    refine x_aload_n (pc := 26) C 2 dX6_limit_26 rfl ?_
    refine x_getr (pc := 27) C (k := 0) 1 hO.1 rfl rfl wd_149 dX6_limit_27 (Nat.le_of_ble_eq_true rfl) rfl ?_
    refine x_iload_n (pc := 30) C 3 dX6_limit_30 rfl ?_
    obtain ⟨⟨r_1, S_1⟩, hc_1, h⟩ := of_bd h
    replace h := of_u2 h
    refine x_callV1 (pc := 31) C (o := 1) [.int p1] [] (c_X5_takeLimit (b := b) 1 p1 hO.2.1 S _ _ hc_1) cw_X6_143 vi_X5_takeLimit ⟨rfl, rfl, Nat.le_of_ble_eq_true rfl, Nat.le_of_ble_eq_true rfl⟩ ⟨Nat.le_refl _, Nat.le_refl _⟩ hO.2.1.1 ⟨rfl, rfl, rfl⟩ rfl ⟨rfl, Nat.le_of_ble_eq_true rfl⟩ dX6_limit_31 (fun hx_2 => ?_)
    refine x_pop (pc := 34) C dX6_limit_34 rfl ?_
    refine x_iload_n (pc := 35) C 0 dX6_limit_35 rfl ?_
    exact x_ireturn (pc := 36) C dX6_limit_36 (of_sp h).1 (of_sp h).2
  · replace h := of_ifn c_1 h
    refine x_aload_n (pc := 12) C 1 dX6_limit_12 rfl ?_
    refine x_iload_n (pc := 13) C 0 dX6_limit_13 rfl ?_
    obtain ⟨⟨r_2, S_2⟩, hc_2, h⟩ := of_bd h
    replace h := of_u2 h
    refine x_callV1 (pc := 14) C (o := 0) [.int v2_1] [] (c_X6_refuse (b := b) v2_1 hO S _ _ hc_2) cw_X6_73 vi_X6_refuse ⟨rfl, rfl, Nat.le_of_ble_eq_true rfl, Nat.le_of_ble_eq_true rfl⟩ ⟨Nat.le_refl _, Nat.le_refl _⟩ hO.1 ⟨rfl, rfl, rfl⟩ rfl ⟨rfl, Nat.le_of_ble_eq_true rfl⟩ dX6_limit_14 (fun hx_3 => ?_)
    exact x_ireturn (pc := 17) C dX6_limit_17 (of_sp h).1 (of_sp h).2
set_option maxRecDepth 100000 in
set_option maxHeartbeats 4000000 in
theorem c_X5_takeRule {l : Launch} {G : zz_G} {L : Ly} {b : Nat} (o : Nat) (p1 : Int32) (hO : isW L o) (S : Sg) (rf : Int32) (Sf : Sg) (h : f_X5_takeRule o p1 S = some (rf, Sf)) : Met l yX5_takeRule (Cond.code yX5_takeRule cX5_takeRule 2 (some .boolean) :: zz_all) (rmz 1 21) (PC G L b S [.ref (b + o), .int p1]) (QC G L b Sf (some (.int rf)) (rf = 0 ∨ rf = 1)) 0 0 (fun q => b ≤ q) := by
  refine x_met [.ref (b + o), .int p1] (by decide +kernel) (Nat.le_of_ble_eq_true rfl) fun p e s m args below meth c C => ?_
  unfold f_X5_takeRule at h
  refine x_iload_n (pc := 0) C 1 dX5_takeRule_0 rfl ?_
  refine x_iconst (pc := 1) C (v := (4 : Int32)) dX5_takeRule_1 rfl ?_
  refine x_callSN1 (pc := 2) C [.int p1, .int (4 : Int32)] [] (c_X6_isWithin (b := b) p1 (4 : Int32) S) cn_X5_72 vs_X6_isWithin ⟨rfl, rfl, Nat.le_of_ble_eq_true rfl, Nat.le_of_ble_eq_true rfl⟩ ⟨Nat.le_refl _, Nat.le_refl _⟩ rfl ⟨rfl, Nat.le_of_ble_eq_true rfl⟩ dX5_takeRule_2 (fun hx_1 => ?_)
  refine x_if_ne (pc := 5) C 10 dX5_takeRule_5 rfl (fun c_1 => ?_) (fun c_1 => ?_)
  · replace h := of_ifn c_1 h
    refine x_aload_n (pc := 10) C 0 dX5_takeRule_10 rfl ?_
    refine x_iload_n (pc := 11) C 1 dX5_takeRule_11 rfl ?_
    obtain ⟨S_1, eS_1, h⟩ := of_lt h
    refine x_puti (pc := 12) C (k := 5) hO.1 rfl rfl wd_66 dX5_takeRule_12 ⟨Nat.le_of_ble_eq_true rfl, rfl⟩ eS_1 ?_
    refine x_iconst (pc := 15) C (v := (1 : Int32)) dX5_takeRule_15 rfl ?_
    exact x_zreturn (pc := 16) C (by decide) dX5_takeRule_16 (of_sp h).1 (of_sp h).2
  · replace h := of_ifp c_1 h
    refine x_iconst (pc := 8) C (v := (0 : Int32)) dX5_takeRule_8 rfl ?_
    exact x_zreturn (pc := 9) C (by decide) dX5_takeRule_9 (of_sp h).1 (of_sp h).2
set_option maxRecDepth 100000 in
set_option maxHeartbeats 4000000 in
theorem c_X6_rule {l : Launch} {G : zz_G} {L : Ly} {b : Nat} (p1 : Int32) (hO : isGu L) (S : Sg) (rf : Int32) (Sf : Sg) (h : f_X6_rule p1 S = some (rf, Sf)) : Met l yX6_rule (Cond.code yX6_rule cX6_rule 3 (some .int) :: zz_all) (rmz 2 43) (PC G L b S [.ref (b + 0), .int p1]) (QC G L b Sf (some (.int rf)) True) 0 0 (fun q => b ≤ q) := by
  refine x_met [.ref (b + 0), .int p1] (by decide +kernel) (Nat.le_of_ble_eq_true rfl) fun p e s m args below meth c C => ?_
  unfold f_X6_rule at h
  refine x_aload_n (pc := 0) C 0 dX6_rule_0 rfl ?_
  refine x_getr (pc := 1) C (k := 0) 1 hO.1 rfl rfl wd_149 dX6_rule_1 (Nat.le_of_ble_eq_true rfl) rfl ?_
  refine x_geti (pc := 4) C (k := 5) hO.2.1.1 rfl rfl wd_67 dX6_rule_4 ⟨Nat.le_of_ble_eq_true rfl, rfl⟩ ?_
  obtain ⟨v2_1, ev2_1, h⟩ := of_lt h
  refine x_istore_n (pc := 7) C 2 [(2, .int v2_1), (0, .ref (b + 0)), (1, .int p1)] dX6_rule_7 rfl (Nat.le_of_ble_eq_true rfl) ev2_1 rfl ?_
  refine x_aload_n (pc := 8) C 1 dX6_rule_8 rfl ?_
  refine x_getr (pc := 9) C (k := 0) 1 hO.1 rfl rfl wd_149 dX6_rule_9 (Nat.le_of_ble_eq_true rfl) rfl ?_
  refine x_iload_n (pc := 12) C 2 dX6_rule_12 rfl ?_
  obtain ⟨⟨r_1, S_1⟩, hc_1, h⟩ := of_bd h
  replace h := of_u2 h
  refine x_callV1 (pc := 13) C (o := 1) [.int p1] [] (c_X5_takeRule (b := b) 1 p1 hO.2.1 S _ _ hc_1) cw_X6_137 vi_X5_takeRule ⟨rfl, rfl, Nat.le_of_ble_eq_true rfl, Nat.le_of_ble_eq_true rfl⟩ ⟨Nat.le_refl _, Nat.le_refl _⟩ hO.2.1.1 ⟨rfl, rfl, rfl⟩ rfl ⟨rfl, Nat.le_of_ble_eq_true rfl⟩ dX6_rule_13 (fun hx_1 => ?_)
  refine x_if_eq (pc := 16) C 23 dX6_rule_16 rfl (fun c_1 => ?_) (fun c_1 => ?_)
  · replace h := of_ifp c_1 h
    refine x_aload_n (pc := 23) C 1 dX6_rule_23 rfl ?_
    refine x_bipush (pc := 24) C (v := (-2 : Int32)) dX6_rule_24 rfl ?_
    obtain ⟨⟨r_2, S_2⟩, hc_2, h⟩ := of_bd h
    replace h := of_u2 h
    refine x_callV1 (pc := 26) C (o := 0) [.int (-2 : Int32)] [] (c_X6_refuse (b := b) (-2 : Int32) hO S_1 _ _ hc_2) cw_X6_73 vi_X6_refuse ⟨rfl, rfl, Nat.le_of_ble_eq_true rfl, Nat.le_of_ble_eq_true rfl⟩ ⟨Nat.le_refl _, Nat.le_refl _⟩ hO.1 ⟨rfl, rfl, rfl⟩ rfl ⟨rfl, Nat.le_of_ble_eq_true rfl⟩ dX6_rule_26 (fun hx_2 => ?_)
    exact x_ireturn (pc := 29) C dX6_rule_29 (of_sp h).1 (of_sp h).2
  · replace h := of_ifn c_1 h
    refine x_iload_n (pc := 19) C 0 dX6_rule_19 rfl ?_
    refine x_goto (pc := 20) C 29 dX6_rule_20 rfl ?_
    exact x_ireturn (pc := 29) C dX6_rule_29 (of_sp h).1 (of_sp h).2
set_option maxRecDepth 100000 in
set_option maxHeartbeats 4000000 in
theorem c_X5_takeTold {l : Launch} {G : zz_G} {L : Ly} {b : Nat} (o : Nat) (p1 : Int32) (p2 : Int32) (hO : isW L o) (S : Sg) (rf : Int32) (Sf : Sg) (h : f_X5_takeTold o p1 p2 S = some (rf, Sf)) : Met l yX5_takeTold (Cond.code yX5_takeTold cX5_takeTold 4 (some .boolean) :: zz_all) (rmz 3 65) (PC G L b S [.ref (b + o), .int p1, .int p2]) (QC G L b Sf (some (.int rf)) (rf = 0 ∨ rf = 1)) 0 0 (fun q => b ≤ q) := by
  refine x_met [.ref (b + o), .int p1, .int p2] (by decide +kernel) (Nat.le_of_ble_eq_true rfl) fun p e s m args below meth c C => ?_
  unfold f_X5_takeTold at h
  refine x_aload_n (pc := 0) C 0 dX5_takeTold_0 rfl ?_
  refine x_iload_n (pc := 1) C 1 dX5_takeTold_1 rfl ?_
  obtain ⟨r_1, hc_1, h⟩ := of_bd h
  refine x_callV1 (pc := 2) C (o := o) [.int p1] [] (c_X5_variableOf (b := b) o p1 hO S _ hc_1) cw_X5_99 vi_X5_variableOf ⟨rfl, rfl, Nat.le_of_ble_eq_true rfl, Nat.le_of_ble_eq_true rfl⟩ ⟨Nat.le_refl _, Nat.le_refl _⟩ hO.1 ⟨rfl, rfl, rfl⟩ rfl ⟨rfl, Nat.le_of_ble_eq_true rfl⟩ dX5_takeTold_2 (fun hx_1 => ?_)
  refine x_istore_n (pc := 5) C 3 [(3, .int r_1), (0, .ref (b + o)), (1, .int p1), (2, .int p2)] dX5_takeTold_5 rfl (Nat.le_of_ble_eq_true rfl) rfl rfl ?_
  refine x_aload_n (pc := 6) C 1 dX5_takeTold_6 rfl ?_
  refine x_iload_n (pc := 7) C 0 dX5_takeTold_7 rfl ?_
  refine x_callV1 (pc := 8) C (o := o) [.int r_1] [] (c_X5_has (b := b) o r_1 hO S) cw_X5_76 vi_X5_has ⟨rfl, rfl, Nat.le_of_ble_eq_true rfl, Nat.le_of_ble_eq_true rfl⟩ ⟨Nat.le_refl _, Nat.le_refl _⟩ hO.1 ⟨rfl, rfl, rfl⟩ rfl ⟨rfl, Nat.le_of_ble_eq_true rfl⟩ dX5_takeTold_8 (fun hx_2 => ?_)
  refine x_if_eq (pc := 11) C 22 dX5_takeTold_11 rfl (fun c_1 => ?_) (fun c_1 => ?_)
  · replace h := of_ifp c_1 h
    refine x_iconst (pc := 22) C (v := (0 : Int32)) dX5_takeTold_22 rfl ?_
    exact x_zreturn (pc := 23) C (by decide) dX5_takeTold_23 (of_sp h).1 (of_sp h).2
  · replace h := of_ifn c_1 h
    refine x_aload_n (pc := 14) C 1 dX5_takeTold_14 rfl ?_
    refine x_iload_n (pc := 15) C 0 dX5_takeTold_15 rfl ?_
    obtain ⟨r_2, hc_2, h⟩ := of_bd h
    refine x_callV1 (pc := 16) C (o := o) [.int r_1] [] (c_X5_isFree (b := b) o r_1 hO S _ hc_2) cw_X5_84 vi_X5_isFree ⟨rfl, rfl, Nat.le_of_ble_eq_true rfl, Nat.le_of_ble_eq_true rfl⟩ ⟨Nat.le_refl _, Nat.le_refl _⟩ hO.1 ⟨rfl, rfl, rfl⟩ rfl ⟨rfl, Nat.le_of_ble_eq_true rfl⟩ dX5_takeTold_16 (fun hx_3 => ?_)
    refine x_if_ne (pc := 19) C 24 dX5_takeTold_19 rfl (fun c_2 => ?_) (fun c_2 => ?_)
    · replace h := of_ifn c_2 h
      refine x_aload_n (pc := 24) C 1 dX5_takeTold_24 rfl ?_
      refine x_iload_n (pc := 25) C 0 dX5_takeTold_25 rfl ?_
      refine x_iload_n (pc := 26) C 3 dX5_takeTold_26 rfl ?_
      obtain ⟨S_1, hc_3, h⟩ := of_bd h
      refine x_callV_ (pc := 27) C (o := o) [.int r_1, .int p2] [] (c_X5_set (b := b) o r_1 p2 hO S _ hc_3) cw_X5_102 vi_X5_set ⟨rfl, rfl, Nat.le_of_ble_eq_true rfl, Nat.le_of_ble_eq_true rfl⟩ ⟨Nat.le_refl _, Nat.le_refl _⟩ hO.1 ⟨rfl, rfl, rfl⟩ rfl ⟨rfl, Nat.le_of_ble_eq_true rfl⟩ dX5_takeTold_27 (fun hx_4 => ?_)
      refine x_iconst (pc := 30) C (v := (1 : Int32)) dX5_takeTold_30 rfl ?_
      exact x_zreturn (pc := 31) C (by decide) dX5_takeTold_31 (of_sp h).1 (of_sp h).2
    · replace h := of_ifp c_2 h
      refine x_iconst (pc := 22) C (v := (0 : Int32)) dX5_takeTold_22 rfl ?_
      exact x_zreturn (pc := 23) C (by decide) dX5_takeTold_23 (of_sp h).1 (of_sp h).2
set_option maxRecDepth 100000 in
set_option maxHeartbeats 4000000 in
theorem c_X6_tells {l : Launch} {G : zz_G} {L : Ly} {b : Nat} (p1 : Int32) (p2 : Int32) (hO : isGu L) (S : Sg) (rf : Int32) (Sf : Sg) (h : f_X6_tells p1 p2 S = some (rf, Sf)) : Met l yX6_tells (Cond.code yX6_tells cX6_tells 5 (some .int) :: zz_all) (rmz 4 88) (PC G L b S [.ref (b + 0), .int p1, .int p2]) (QC G L b Sf (some (.int rf)) True) 0 0 (fun q => b ≤ q) := by
  refine x_met [.ref (b + 0), .int p1, .int p2] (by decide +kernel) (Nat.le_of_ble_eq_true rfl) fun p e s m args below meth c C => ?_
  unfold f_X6_tells at h
  refine x_iload_n (pc := 0) C 1 dX6_tells_0 rfl ?_
  refine x_iload_n (pc := 1) C 2 dX6_tells_1 rfl ?_
  refine x_callS1 (pc := 2) C [.int p1, .int p2] [] (c_X6_misfitOfValue (b := b) p1 p2 S) cw_X6_116 vs_X6_misfitOfValue ⟨rfl, rfl, Nat.le_of_ble_eq_true rfl, Nat.le_of_ble_eq_true rfl⟩ ⟨Nat.le_refl _, Nat.le_refl _⟩ rfl ⟨rfl, Nat.le_of_ble_eq_true rfl⟩ dX6_tells_2 (fun hx_1 => ?_)
  obtain ⟨v3_1, ev3_1, h⟩ := of_lt h
  refine x_istore_n (pc := 5) C 3 [(3, .int v3_1), (0, .ref (b + 0)), (1, .int p1), (2, .int p2)] dX6_tells_5 rfl (Nat.le_of_ble_eq_true rfl) ev3_1 rfl ?_
  refine x_iload_n (pc := 6) C 0 dX6_tells_6 rfl ?_
  refine x_if_eq (pc := 7) C 16 dX6_tells_7 rfl (fun c_1 => ?_) (fun c_1 => ?_)
  · replace h := of_ifp c_1 h
    refine x_aload_n (pc := 16) C 1 dX6_tells_16 rfl ?_
    refine x_getr (pc := 17) C (k := 0) 1 hO.1 rfl rfl wd_149 dX6_tells_17 (Nat.le_of_ble_eq_true rfl) rfl ?_
    refine x_aload_n (pc := 20) C 1 dX6_tells_20 rfl ?_
    refine x_getr (pc := 21) C (k := 0) 1 hO.1 rfl rfl wd_149 dX6_tells_21 (Nat.le_of_ble_eq_true rfl) rfl ?_
    refine x_iload_n (pc := 24) C 2 dX6_tells_24 rfl ?_
    obtain ⟨r_1, hc_1, h⟩ := of_bd h
    refine x_callV1 (pc := 25) C (o := 1) [.int p1] [.ref (b + 1)] (c_X5_variableOf (b := b) 1 p1 hO.2.1 S _ hc_1) cw_X6_77 vi_X5_variableOf ⟨rfl, rfl, Nat.le_of_ble_eq_true rfl, Nat.le_of_ble_eq_true rfl⟩ ⟨Nat.le_refl _, Nat.le_refl _⟩ hO.2.1.1 ⟨rfl, rfl, rfl⟩ rfl ⟨rfl, Nat.le_of_ble_eq_true rfl⟩ dX6_tells_25 (fun hx_2 => ?_)
    obtain ⟨r_2, hc_2, h⟩ := of_bd h
    refine x_callV1 (pc := 28) C (o := 1) [.int r_1] [] (c_X5_valueOf (b := b) 1 r_1 hO.2.1 S _ hc_2) cw_X6_80 vi_X5_valueOf ⟨rfl, rfl, Nat.le_of_ble_eq_true rfl, Nat.le_of_ble_eq_true rfl⟩ ⟨Nat.le_refl _, Nat.le_refl _⟩ hO.2.1.1 ⟨rfl, rfl, rfl⟩ rfl ⟨rfl, Nat.le_of_ble_eq_true rfl⟩ dX6_tells_28 (fun hx_3 => ?_)
    refine x_istore (pc := 31) C [(4, .int r_2), (3, .int v3_1), (0, .ref (b + 0)), (1, .int p1), (2, .int p2)] dX6_tells_31 (Nat.le_of_ble_eq_true rfl) rfl rfl ?_
    refine x_aload_n (pc := 33) C 2 dX6_tells_33 rfl ?_
    refine x_getr (pc := 34) C (k := 0) 1 hO.1 rfl rfl wd_149 dX6_tells_34 (Nat.le_of_ble_eq_true rfl) rfl ?_
    refine x_iload_n (pc := 37) C 3 dX6_tells_37 rfl ?_
    refine x_iload_n (pc := 38) C 4 dX6_tells_38 rfl ?_
    obtain ⟨⟨r_3, S_1⟩, hc_3, h⟩ := of_bd h
    replace h := of_u2 h
    refine x_callV1 (pc := 39) C (o := 1) [.int p1, .int p2] [] (c_X5_takeTold (b := b) 1 p1 p2 hO.2.1 S _ _ hc_3) cw_X6_119 vi_X5_takeTold ⟨rfl, rfl, Nat.le_of_ble_eq_true rfl, Nat.le_of_ble_eq_true rfl⟩ ⟨Nat.le_refl _, Nat.le_refl _⟩ hO.2.1.1 ⟨rfl, rfl, rfl⟩ rfl ⟨rfl, Nat.le_of_ble_eq_true rfl⟩ dX6_tells_39 (fun hx_4 => ?_)
    refine x_if_eq (pc := 42) C 50 dX6_tells_42 rfl (fun c_2 => ?_) (fun c_2 => ?_)
    · replace h := of_ifp c_2 h
      refine x_aload_n (pc := 50) C 2 dX6_tells_50 rfl ?_
      refine x_bipush (pc := 51) C (v := (-3 : Int32)) dX6_tells_51 rfl ?_
      obtain ⟨⟨r_4, S_2⟩, hc_4, h⟩ := of_bd h
      replace h := of_u2 h
      refine x_callV1 (pc := 53) C (o := 0) [.int (-3 : Int32)] [] (c_X6_refuse (b := b) (-3 : Int32) hO S_1 _ _ hc_4) cw_X6_73 vi_X6_refuse ⟨rfl, rfl, Nat.le_of_ble_eq_true rfl, Nat.le_of_ble_eq_true rfl⟩ ⟨Nat.le_refl _, Nat.le_refl _⟩ hO.1 ⟨rfl, rfl, rfl⟩ rfl ⟨rfl, Nat.le_of_ble_eq_true rfl⟩ dX6_tells_53 (fun hx_5 => ?_)
      exact x_ireturn (pc := 56) C dX6_tells_56 (of_sp h).1 (of_sp h).2
    · replace h := of_ifn c_2 h
      refine x_iload (pc := 45) C 0 dX6_tells_45 rfl ?_
      refine x_goto (pc := 47) C 56 dX6_tells_47 rfl ?_
      exact x_ireturn (pc := 56) C dX6_tells_56 (of_sp h).1 (of_sp h).2
  · replace h := of_ifn c_1 h
    refine x_aload_n (pc := 10) C 1 dX6_tells_10 rfl ?_
    refine x_iload_n (pc := 11) C 0 dX6_tells_11 rfl ?_
    obtain ⟨⟨r_5, S_3⟩, hc_5, h⟩ := of_bd h
    replace h := of_u2 h
    refine x_callV1 (pc := 12) C (o := 0) [.int v3_1] [] (c_X6_refuse (b := b) v3_1 hO S _ _ hc_5) cw_X6_73 vi_X6_refuse ⟨rfl, rfl, Nat.le_of_ble_eq_true rfl, Nat.le_of_ble_eq_true rfl⟩ ⟨Nat.le_refl _, Nat.le_refl _⟩ hO.1 ⟨rfl, rfl, rfl⟩ rfl ⟨rfl, Nat.le_of_ble_eq_true rfl⟩ dX6_tells_12 (fun hx_6 => ?_)
    exact x_ireturn (pc := 15) C dX6_tells_15 (of_sp h).1 (of_sp h).2
set_option maxRecDepth 100000 in
set_option maxHeartbeats 4000000 in
theorem l_L_guard_2 {p : Program} {l : Launch} {e : Env} {s : State} {m : MethodId} {args : Array Value} {below : List Frame} {meth : Method} {c : Code} {G : zz_G} {L : Ly} {b : Nat} {Q : State → Prop} (C : CX p G s m args meth c cL_guard yL_guard 7 none) (ba : Nat) (Ls : Nat) (xs : Nat → Int32) (hO : isGu L) (hX : SX ba Ls xs b s) (v2 : Int32) : ∀ (n : Nat) (v3 : Int32) (S : Sg) {z}, L_L_guard_2 ba Ls xs v2 n v3 S = some z → (∀ (S_o : Sg), z = S_o → X p l e (rmz 8 186) s m args below meth c 0 0 Q 7 G L b S_o 61 [(0, .ref (b + 0)), (1, .ref ba), (2, .int v2)] []) → X p l e (rmz 8 186) s m args below meth c 0 0 Q 7 G L b S 2 [(0, .ref (b + 0)), (1, .ref ba), (2, .int v2), (3, .int v3)] [] := by
  intro n
  induction n with
  | zero =>
    intro v3 S z h
    exact of_none h
  | succ n ih =>
    intro v3 S z h hx
    rw [L_L_guard_2] at h
    refine x_iload_n (pc := 2) C 3 dL_guard_2 rfl ?_
    refine x_bipush (pc := 3) C (v := (8 : Int32)) dL_guard_3 rfl ?_
    refine x_icmp_ge (pc := 5) C 61 dL_guard_5 rfl (fun c_1 => ?_) (fun c_1 => ?_)
    · replace h := of_ifn c_1 h
      exact x_sub [0, 1, 2] rfl (hx _ (of_s1 h).symm)
    · replace h := of_ifp c_1 h
      refine x_aload_n (pc := 8) C 0 dL_guard_8 rfl ?_
      refine x_iload_n (pc := 9) C 3 dL_guard_9 rfl ?_
      refine x_aload_n (pc := 10) C 1 dL_guard_10 rfl ?_
      refine x_iload_n (pc := 11) C 3 dL_guard_11 rfl ?_
      obtain ⟨r_1, hc_1, h⟩ := of_bd h
      refine x_callSX1 (pc := 12) C hX [.ref ba, .int v3] [.int v3, .ref (b + 0)] (c_L_cell (b := b) ba Ls xs v3 S _ hc_1) cw_L_18 vs_L_cell ⟨rfl, rfl, Nat.le_of_ble_eq_true rfl, Nat.le_of_ble_eq_true rfl⟩ ⟨Nat.le_refl _, Nat.le_refl _⟩ rfl ⟨rfl, Nat.le_of_ble_eq_true rfl⟩ dL_guard_12 (fun hx_1 => ?_)
      refine x_iconst (pc := 15) C (v := (3 : Int32)) dL_guard_15 rfl ?_
      obtain ⟨r_2, hc_2, h⟩ := of_bd h
      refine x_callS1 (pc := 16) C [.int r_1, .int (3 : Int32)] [.int v3, .ref (b + 0)] (c_L_pick (b := b) r_1 (3 : Int32) S _ hc_2) cw_L_24 vs_L_pick ⟨rfl, rfl, Nat.le_of_ble_eq_true rfl, Nat.le_of_ble_eq_true rfl⟩ ⟨Nat.le_refl _, Nat.le_refl _⟩ rfl ⟨rfl, Nat.le_of_ble_eq_true rfl⟩ dL_guard_16 (fun hx_2 => ?_)
      refine x_if_ne (pc := 19) C 39 dL_guard_19 rfl (fun c_2 => ?_) (fun c_2 => ?_)
      · replace h := of_ifn c_2 h
        refine x_aload_n (pc := 39) C 1 dL_guard_39 rfl ?_
        refine x_iload_n (pc := 40) C 3 dL_guard_40 rfl ?_
        obtain ⟨r_3, hc_3, h⟩ := of_bd h
        refine x_callSX1 (pc := 41) C hX [.ref ba, .int v3] [.int v3, .ref (b + 0)] (c_L_cell (b := b) ba Ls xs v3 S _ hc_3) cw_L_18 vs_L_cell ⟨rfl, rfl, Nat.le_of_ble_eq_true rfl, Nat.le_of_ble_eq_true rfl⟩ ⟨Nat.le_refl _, Nat.le_refl _⟩ rfl ⟨rfl, Nat.le_of_ble_eq_true rfl⟩ dL_guard_41 (fun hx_3 => ?_)
        refine x_iconst (pc := 44) C (v := (3 : Int32)) dL_guard_44 rfl ?_
        refine x_ishr (pc := 45) C dL_guard_45 ?_
        refine x_bipush (pc := 46) C (v := (100 : Int32)) dL_guard_46 rfl ?_
        obtain ⟨r_4, hc_4, h⟩ := of_bd h
        refine x_callS1 (pc := 48) C [.int (isr r_3 (3 : Int32)), .int (100 : Int32)] [.int v3, .ref (b + 0)] (c_L_pick (b := b) (isr r_3 (3 : Int32)) (100 : Int32) S _ hc_4) cw_L_24 vs_L_pick ⟨rfl, rfl, Nat.le_of_ble_eq_true rfl, Nat.le_of_ble_eq_true rfl⟩ ⟨Nat.le_refl _, Nat.le_refl _⟩ rfl ⟨rfl, Nat.le_of_ble_eq_true rfl⟩ dL_guard_48 (fun hx_4 => ?_)
        obtain ⟨⟨r_5, S_1⟩, hc_5, h⟩ := of_bd h
        replace h := of_u2 h
        refine x_callV1 (pc := 51) C (o := 0) [.int v3, .int r_4] [] (c_X6_tells (b := b) v3 r_4 hO S _ _ hc_5) cw_L_28 vi_X6_tells ⟨rfl, rfl, Nat.le_of_ble_eq_true rfl, Nat.le_of_ble_eq_true rfl⟩ ⟨Nat.le_refl _, Nat.le_refl _⟩ hO.1 ⟨rfl, rfl, rfl⟩ rfl ⟨rfl, Nat.le_of_ble_eq_true rfl⟩ dL_guard_51 (fun hx_5 => ?_)
        refine x_pop (pc := 54) C dL_guard_54 rfl ?_
        obtain ⟨v3_1, ev3_1, h⟩ := of_lt h
        refine x_iinc (pc := 55) C (w := (1 : Int32)) 3 [(3, .int v3_1), (0, .ref (b + 0)), (1, .ref ba), (2, .int v2)] dL_guard_55 rfl rfl (Nat.le_of_ble_eq_true rfl) ev3_1 rfl ?_
        refine x_goto (pc := 58) C 2 dL_guard_58 rfl ?_
        exact x_sub [1, 2, 3, 0] rfl (ih _ _ h hx)
      · replace h := of_ifp c_2 h
        refine x_aload_n (pc := 22) C 1 dL_guard_22 rfl ?_
        refine x_iload_n (pc := 23) C 3 dL_guard_23 rfl ?_
        obtain ⟨r_6, hc_6, h⟩ := of_bd h
        refine x_callSX1 (pc := 24) C hX [.ref ba, .int v3] [.int v3, .ref (b + 0)] (c_L_cell (b := b) ba Ls xs v3 S _ hc_6) cw_L_18 vs_L_cell ⟨rfl, rfl, Nat.le_of_ble_eq_true rfl, Nat.le_of_ble_eq_true rfl⟩ ⟨Nat.le_refl _, Nat.le_refl _⟩ rfl ⟨rfl, Nat.le_of_ble_eq_true rfl⟩ dL_guard_24 (fun hx_6 => ?_)
        refine x_iconst (pc := 27) C (v := (3 : Int32)) dL_guard_27 rfl ?_
        refine x_ishr (pc := 28) C dL_guard_28 ?_
        refine x_iconst (pc := 29) C (v := (4 : Int32)) dL_guard_29 rfl ?_
        obtain ⟨r_7, hc_7, h⟩ := of_bd h
        refine x_callS1 (pc := 30) C [.int (isr r_6 (3 : Int32)), .int (4 : Int32)] [.int v3, .ref (b + 0)] (c_L_pick (b := b) (isr r_6 (3 : Int32)) (4 : Int32) S _ hc_7) cw_L_24 vs_L_pick ⟨rfl, rfl, Nat.le_of_ble_eq_true rfl, Nat.le_of_ble_eq_true rfl⟩ ⟨Nat.le_refl _, Nat.le_refl _⟩ rfl ⟨rfl, Nat.le_of_ble_eq_true rfl⟩ dL_guard_30 (fun hx_7 => ?_)
        refine x_bipush (pc := 33) C (v := (33 : Int32)) dL_guard_33 rfl ?_
        refine x_imul (pc := 35) C dL_guard_35 ?_
        refine x_goto (pc := 36) C 51 dL_guard_36 rfl ?_
        obtain ⟨⟨r_8, S_2⟩, hc_8, h⟩ := of_bd h
        replace h := of_u2 h
        refine x_callV1 (pc := 51) C (o := 0) [.int v3, .int (r_7 * (33 : Int32))] [] (c_X6_tells (b := b) v3 (r_7 * (33 : Int32)) hO S _ _ hc_8) cw_L_28 vi_X6_tells ⟨rfl, rfl, Nat.le_of_ble_eq_true rfl, Nat.le_of_ble_eq_true rfl⟩ ⟨Nat.le_refl _, Nat.le_refl _⟩ hO.1 ⟨rfl, rfl, rfl⟩ rfl ⟨rfl, Nat.le_of_ble_eq_true rfl⟩ dL_guard_51 (fun hx_8 => ?_)
        refine x_pop (pc := 54) C dL_guard_54 rfl ?_
        obtain ⟨v3_2, ev3_2, h⟩ := of_lt h
        refine x_iinc (pc := 55) C (w := (1 : Int32)) 3 [(3, .int v3_2), (0, .ref (b + 0)), (1, .ref ba), (2, .int v2)] dL_guard_55 rfl rfl (Nat.le_of_ble_eq_true rfl) ev3_2 rfl ?_
        refine x_goto (pc := 58) C 2 dL_guard_58 rfl ?_
        exact x_sub [1, 2, 3, 0] rfl (ih _ _ h hx)
set_option maxRecDepth 100000 in
set_option maxHeartbeats 4000000 in
theorem l_L_guard_96 {p : Program} {l : Launch} {e : Env} {s : State} {m : MethodId} {args : Array Value} {below : List Frame} {meth : Method} {c : Code} {G : zz_G} {L : Ly} {b : Nat} {Q : State → Prop} (C : CX p G s m args meth c cL_guard yL_guard 7 none) (ba : Nat) (Ls : Nat) (xs : Nat → Int32) (hO : isGu L) (hX : SX ba Ls xs b s) (v2 : Int32) : ∀ (n : Nat) (v3 : Int32) (S : Sg) {z}, L_L_guard_96 ba Ls xs v2 n v3 S = some z → (∀ (S_o : Sg), z = S_o → X p l e (rmz 8 186) s m args below meth c 0 0 Q 7 G L b S_o 321 [] []) → X p l e (rmz 8 186) s m args below meth c 0 0 Q 7 G L b S 96 [(0, .ref (b + 0)), (1, .ref ba), (2, .int v2), (3, .int v3)] [] := by
  intro n
  induction n with
  | zero =>
    intro v3 S z h
    exact of_none h
  | succ n ih =>
    intro v3 S z h hx
    rw [L_L_guard_96] at h
    refine x_iload_n (pc := 96) C 3 dL_guard_96 rfl ?_
    refine x_iload_n (pc := 97) C 2 dL_guard_97 rfl ?_
    refine x_icmp_ge (pc := 98) C 321 dL_guard_98 rfl (fun c_1 => ?_) (fun c_1 => ?_)
    · replace h := of_ifn c_1 h
      exact x_sub [] rfl (hx _ (of_s1 h).symm)
    · replace h := of_ifp c_1 h
      refine x_aload_n (pc := 101) C 1 dL_guard_101 rfl ?_
      refine x_bipush (pc := 102) C (v := (10 : Int32)) dL_guard_102 rfl ?_
      refine x_iload_n (pc := 104) C 3 dL_guard_104 rfl ?_
      refine x_iadd (pc := 105) C dL_guard_105 ?_
      obtain ⟨r_1, hc_1, h⟩ := of_bd h
      refine x_callSX1 (pc := 106) C hX [.ref ba, .int ((10 : Int32) + v3)] [] (c_L_cell (b := b) ba Ls xs ((10 : Int32) + v3) S _ hc_1) cw_L_18 vs_L_cell ⟨rfl, rfl, Nat.le_of_ble_eq_true rfl, Nat.le_of_ble_eq_true rfl⟩ ⟨Nat.le_refl _, Nat.le_refl _⟩ rfl ⟨rfl, Nat.le_of_ble_eq_true rfl⟩ dL_guard_106 (fun hx_1 => ?_)
      refine x_istore (pc := 109) C [(4, .int r_1), (0, .ref (b + 0)), (1, .ref ba), (2, .int v2), (3, .int v3)] dL_guard_109 (Nat.le_of_ble_eq_true rfl) rfl rfl ?_
      refine x_iload (pc := 111) C 0 dL_guard_111 rfl ?_
      refine x_bipush (pc := 113) C (v := (12 : Int32)) dL_guard_113 rfl ?_
      obtain ⟨r_2, hc_2, h⟩ := of_bd h
      refine x_callS1 (pc := 115) C [.int r_1, .int (12 : Int32)] [] (c_L_pick (b := b) r_1 (12 : Int32) S _ hc_2) cw_L_24 vs_L_pick ⟨rfl, rfl, Nat.le_of_ble_eq_true rfl, Nat.le_of_ble_eq_true rfl⟩ ⟨Nat.le_refl _, Nat.le_refl _⟩ rfl ⟨rfl, Nat.le_of_ble_eq_true rfl⟩ dL_guard_115 (fun hx_2 => ?_)
      refine x_istore (pc := 118) C [(5, .int r_2), (4, .int r_1), (0, .ref (b + 0)), (1, .ref ba), (2, .int v2), (3, .int v3)] dL_guard_118 (Nat.le_of_ble_eq_true rfl) rfl rfl ?_
      refine x_iconst (pc := 120) C (v := (1 : Int32)) dL_guard_120 rfl ?_
      refine x_iload (pc := 121) C 1 dL_guard_121 rfl ?_
      refine x_iconst (pc := 123) C (v := (4 : Int32)) dL_guard_123 rfl ?_
      refine x_ishr (pc := 124) C dL_guard_124 ?_
      refine x_sipush (pc := 125) C (v := (255 : Int32)) dL_guard_125 rfl ?_
      obtain ⟨r_3, hc_3, h⟩ := of_bd h
      refine x_callS1 (pc := 128) C [.int (isr r_1 (4 : Int32)), .int (255 : Int32)] [.int (1 : Int32)] (c_L_pick (b := b) (isr r_1 (4 : Int32)) (255 : Int32) S _ hc_3) cw_L_24 vs_L_pick ⟨rfl, rfl, Nat.le_of_ble_eq_true rfl, Nat.le_of_ble_eq_true rfl⟩ ⟨Nat.le_refl _, Nat.le_refl _⟩ rfl ⟨rfl, Nat.le_of_ble_eq_true rfl⟩ dL_guard_128 (fun hx_3 => ?_)
      refine x_iadd (pc := 131) C dL_guard_131 ?_
      obtain ⟨v6_1, ev6_1, h⟩ := of_lt h
      refine x_istore (pc := 132) C [(6, .int v6_1), (5, .int r_2), (4, .int r_1), (0, .ref (b + 0)), (1, .ref ba), (2, .int v2), (3, .int v3)] dL_guard_132 (Nat.le_of_ble_eq_true rfl) ev6_1 rfl ?_
      refine x_iload (pc := 134) C 1 dL_guard_134 rfl ?_
      refine x_bipush (pc := 136) C (v := (6 : Int32)) dL_guard_136 rfl ?_
      refine x_icmp_ge (pc := 138) C 153 dL_guard_138 rfl (fun c_2 => ?_) (fun c_2 => ?_)
      · replace h := of_ifn c_2 h
        refine x_iload (pc := 153) C 1 dL_guard_153 rfl ?_
        refine x_bipush (pc := 155) C (v := (6 : Int32)) dL_guard_155 rfl ?_
        refine x_icmp_ne (pc := 157) C 185 dL_guard_157 rfl (fun c_3 => ?_) (fun c_3 => ?_)
        · replace h := of_ifn c_3 h
          refine x_iload (pc := 185) C 1 dL_guard_185 rfl ?_
          refine x_bipush (pc := 187) C (v := (7 : Int32)) dL_guard_187 rfl ?_
          refine x_icmp_ne (pc := 189) C 214 dL_guard_189 rfl (fun c_4 => ?_) (fun c_4 => ?_)
          · replace h := of_ifn c_4 h
            refine x_iload (pc := 214) C 1 dL_guard_214 rfl ?_
            refine x_bipush (pc := 216) C (v := (8 : Int32)) dL_guard_216 rfl ?_
            refine x_icmp_ne (pc := 218) C 248 dL_guard_218 rfl (fun c_5 => ?_) (fun c_5 => ?_)
            · replace h := of_ifn c_5 h
              refine x_iload (pc := 248) C 1 dL_guard_248 rfl ?_
              refine x_bipush (pc := 250) C (v := (11 : Int32)) dL_guard_250 rfl ?_
              refine x_icmp_ge (pc := 252) C 291 dL_guard_252 rfl (fun c_6 => ?_) (fun c_6 => ?_)
              · replace h := of_ifn c_6 h
                refine x_aload_n (pc := 291) C 3 dL_guard_291 rfl ?_
                refine x_iload (pc := 292) C 2 dL_guard_292 rfl ?_
                refine x_iconst (pc := 294) C (v := (4 : Int32)) dL_guard_294 rfl ?_
                refine x_ishr (pc := 295) C dL_guard_295 ?_
                refine x_bipush (pc := 296) C (v := (8 : Int32)) dL_guard_296 rfl ?_
                obtain ⟨r_4, hc_4, h⟩ := of_bd h
                refine x_callS1 (pc := 298) C [.int (isr r_1 (4 : Int32)), .int (8 : Int32)] [.ref (b + 0)] (c_L_pick (b := b) (isr r_1 (4 : Int32)) (8 : Int32) S _ hc_4) cw_L_24 vs_L_pick ⟨rfl, rfl, Nat.le_of_ble_eq_true rfl, Nat.le_of_ble_eq_true rfl⟩ ⟨Nat.le_refl _, Nat.le_refl _⟩ rfl ⟨rfl, Nat.le_of_ble_eq_true rfl⟩ dL_guard_298 (fun hx_4 => ?_)
                refine x_iload (pc := 301) C 2 dL_guard_301 rfl ?_
                refine x_bipush (pc := 303) C (v := (7 : Int32)) dL_guard_303 rfl ?_
                refine x_ishr (pc := 305) C dL_guard_305 ?_
                refine x_bipush (pc := 306) C (v := (100 : Int32)) dL_guard_306 rfl ?_
                obtain ⟨r_5, hc_5, h⟩ := of_bd h
                refine x_callS1 (pc := 308) C [.int (isr r_1 (7 : Int32)), .int (100 : Int32)] [.int r_4, .ref (b + 0)] (c_L_pick (b := b) (isr r_1 (7 : Int32)) (100 : Int32) S _ hc_5) cw_L_24 vs_L_pick ⟨rfl, rfl, Nat.le_of_ble_eq_true rfl, Nat.le_of_ble_eq_true rfl⟩ ⟨Nat.le_refl _, Nat.le_refl _⟩ rfl ⟨rfl, Nat.le_of_ble_eq_true rfl⟩ dL_guard_308 (fun hx_5 => ?_)
                obtain ⟨⟨r_6, S_1⟩, hc_6, h⟩ := of_bd h
                replace h := of_u2 h
                refine x_callV1 (pc := 311) C (o := 0) [.int r_4, .int r_5] [] (c_X6_tells (b := b) r_4 r_5 hO S _ _ hc_6) cw_L_28 vi_X6_tells ⟨rfl, rfl, Nat.le_of_ble_eq_true rfl, Nat.le_of_ble_eq_true rfl⟩ ⟨Nat.le_refl _, Nat.le_refl _⟩ hO.1 ⟨rfl, rfl, rfl⟩ rfl ⟨rfl, Nat.le_of_ble_eq_true rfl⟩ dL_guard_311 (fun hx_6 => ?_)
                refine x_pop (pc := 314) C dL_guard_314 rfl ?_
                obtain ⟨v3_1, ev3_1, h⟩ := of_lt h
                refine x_iinc (pc := 315) C (w := (1 : Int32)) 6 [(3, .int v3_1), (6, .int v6_1), (5, .int r_2), (4, .int r_1), (0, .ref (b + 0)), (1, .ref ba), (2, .int v2)] dL_guard_315 rfl rfl (Nat.le_of_ble_eq_true rfl) ev3_1 rfl ?_
                refine x_goto (pc := 318) C 96 dL_guard_318 rfl ?_
                exact x_sub [4, 5, 6, 0] rfl (ih _ _ h hx)
              · replace h := of_ifp c_6 h
                refine x_aload_n (pc := 255) C 3 dL_guard_255 rfl ?_
                refine x_iload (pc := 256) C 2 dL_guard_256 rfl ?_
                refine x_iconst (pc := 258) C (v := (4 : Int32)) dL_guard_258 rfl ?_
                refine x_ishr (pc := 259) C dL_guard_259 ?_
                refine x_bipush (pc := 260) C (v := (10 : Int32)) dL_guard_260 rfl ?_
                obtain ⟨r_7, hc_7, h⟩ := of_bd h
                refine x_callS1 (pc := 262) C [.int (isr r_1 (4 : Int32)), .int (10 : Int32)] [.ref (b + 0)] (c_L_pick (b := b) (isr r_1 (4 : Int32)) (10 : Int32) S _ hc_7) cw_L_24 vs_L_pick ⟨rfl, rfl, Nat.le_of_ble_eq_true rfl, Nat.le_of_ble_eq_true rfl⟩ ⟨Nat.le_refl _, Nat.le_refl _⟩ rfl ⟨rfl, Nat.le_of_ble_eq_true rfl⟩ dL_guard_262 (fun hx_7 => ?_)
                refine x_iload (pc := 265) C 2 dL_guard_265 rfl ?_
                refine x_bipush (pc := 267) C (v := (8 : Int32)) dL_guard_267 rfl ?_
                refine x_ishr (pc := 269) C dL_guard_269 ?_
                refine x_bipush (pc := 270) C (v := (12 : Int32)) dL_guard_270 rfl ?_
                obtain ⟨r_8, hc_8, h⟩ := of_bd h
                refine x_callS1 (pc := 272) C [.int (isr r_1 (8 : Int32)), .int (12 : Int32)] [.int r_7, .ref (b + 0)] (c_L_pick (b := b) (isr r_1 (8 : Int32)) (12 : Int32) S _ hc_8) cw_L_24 vs_L_pick ⟨rfl, rfl, Nat.le_of_ble_eq_true rfl, Nat.le_of_ble_eq_true rfl⟩ ⟨Nat.le_refl _, Nat.le_refl _⟩ rfl ⟨rfl, Nat.le_of_ble_eq_true rfl⟩ dL_guard_272 (fun hx_8 => ?_)
                refine x_iload (pc := 275) C 2 dL_guard_275 rfl ?_
                refine x_bipush (pc := 277) C (v := (12 : Int32)) dL_guard_277 rfl ?_
                refine x_ishr (pc := 279) C dL_guard_279 ?_
                refine x_bipush (pc := 280) C (v := (12 : Int32)) dL_guard_280 rfl ?_
                obtain ⟨r_9, hc_9, h⟩ := of_bd h
                refine x_callS1 (pc := 282) C [.int (isr r_1 (12 : Int32)), .int (12 : Int32)] [.int r_8, .int r_7, .ref (b + 0)] (c_L_pick (b := b) (isr r_1 (12 : Int32)) (12 : Int32) S _ hc_9) cw_L_24 vs_L_pick ⟨rfl, rfl, Nat.le_of_ble_eq_true rfl, Nat.le_of_ble_eq_true rfl⟩ ⟨Nat.le_refl _, Nat.le_refl _⟩ rfl ⟨rfl, Nat.le_of_ble_eq_true rfl⟩ dL_guard_282 (fun hx_9 => ?_)
                obtain ⟨S_2, hc_10, h⟩ := of_bd h
                refine x_callS_ (pc := 285) C [.ref (b + 0), .int r_7, .int r_8, .int r_9] [] (c_L_bound (b := b) r_7 r_8 r_9 hO S _ hc_10) cw_L_44 vs_L_bound ⟨rfl, rfl, Nat.le_of_ble_eq_true rfl, Nat.le_of_ble_eq_true rfl⟩ ⟨Nat.le_refl _, Nat.le_refl _⟩ rfl ⟨rfl, Nat.le_of_ble_eq_true rfl⟩ dL_guard_285 (fun hx_10 => ?_)
                refine x_goto (pc := 288) C 315 dL_guard_288 rfl ?_
                obtain ⟨v3_2, ev3_2, h⟩ := of_lt h
                refine x_iinc (pc := 315) C (w := (1 : Int32)) 6 [(3, .int v3_2), (6, .int v6_1), (5, .int r_2), (4, .int r_1), (0, .ref (b + 0)), (1, .ref ba), (2, .int v2)] dL_guard_315 rfl rfl (Nat.le_of_ble_eq_true rfl) ev3_2 rfl ?_
                refine x_goto (pc := 318) C 96 dL_guard_318 rfl ?_
                exact x_sub [4, 5, 6, 0] rfl (ih _ _ h hx)
            · replace h := of_ifp c_5 h
              refine x_aload_n (pc := 221) C 3 dL_guard_221 rfl ?_
              refine x_iload (pc := 222) C 2 dL_guard_222 rfl ?_
              refine x_iconst (pc := 224) C (v := (4 : Int32)) dL_guard_224 rfl ?_
              refine x_ishr (pc := 225) C dL_guard_225 ?_
              refine x_bipush (pc := 226) C (v := (8 : Int32)) dL_guard_226 rfl ?_
              obtain ⟨r_10, hc_11, h⟩ := of_bd h
              refine x_callS1 (pc := 228) C [.int (isr r_1 (4 : Int32)), .int (8 : Int32)] [.ref (b + 0)] (c_L_pick (b := b) (isr r_1 (4 : Int32)) (8 : Int32) S _ hc_11) cw_L_24 vs_L_pick ⟨rfl, rfl, Nat.le_of_ble_eq_true rfl, Nat.le_of_ble_eq_true rfl⟩ ⟨Nat.le_refl _, Nat.le_refl _⟩ rfl ⟨rfl, Nat.le_of_ble_eq_true rfl⟩ dL_guard_228 (fun hx_11 => ?_)
              refine x_iload (pc := 231) C 2 dL_guard_231 rfl ?_
              refine x_bipush (pc := 233) C (v := (7 : Int32)) dL_guard_233 rfl ?_
              refine x_ishr (pc := 235) C dL_guard_235 ?_
              refine x_bipush (pc := 236) C (v := (100 : Int32)) dL_guard_236 rfl ?_
              obtain ⟨r_11, hc_12, h⟩ := of_bd h
              refine x_callS1 (pc := 238) C [.int (isr r_1 (7 : Int32)), .int (100 : Int32)] [.int r_10, .ref (b + 0)] (c_L_pick (b := b) (isr r_1 (7 : Int32)) (100 : Int32) S _ hc_12) cw_L_24 vs_L_pick ⟨rfl, rfl, Nat.le_of_ble_eq_true rfl, Nat.le_of_ble_eq_true rfl⟩ ⟨Nat.le_refl _, Nat.le_refl _⟩ rfl ⟨rfl, Nat.le_of_ble_eq_true rfl⟩ dL_guard_238 (fun hx_12 => ?_)
              obtain ⟨⟨r_12, S_3⟩, hc_13, h⟩ := of_bd h
              replace h := of_u2 h
              refine x_callV1 (pc := 241) C (o := 0) [.int r_10, .int r_11] [] (c_X6_changes (b := b) r_10 r_11 hO S _ _ hc_13) cw_L_41 vi_X6_changes ⟨rfl, rfl, Nat.le_of_ble_eq_true rfl, Nat.le_of_ble_eq_true rfl⟩ ⟨Nat.le_refl _, Nat.le_refl _⟩ hO.1 ⟨rfl, rfl, rfl⟩ rfl ⟨rfl, Nat.le_of_ble_eq_true rfl⟩ dL_guard_241 (fun hx_13 => ?_)
              refine x_pop (pc := 244) C dL_guard_244 rfl ?_
              refine x_goto (pc := 245) C 315 dL_guard_245 rfl ?_
              obtain ⟨v3_3, ev3_3, h⟩ := of_lt h
              refine x_iinc (pc := 315) C (w := (1 : Int32)) 6 [(3, .int v3_3), (6, .int v6_1), (5, .int r_2), (4, .int r_1), (0, .ref (b + 0)), (1, .ref ba), (2, .int v2)] dL_guard_315 rfl rfl (Nat.le_of_ble_eq_true rfl) ev3_3 rfl ?_
              refine x_goto (pc := 318) C 96 dL_guard_318 rfl ?_
              exact x_sub [4, 5, 6, 0] rfl (ih _ _ h hx)
          · replace h := of_ifp c_4 h
            refine x_aload_n (pc := 192) C 3 dL_guard_192 rfl ?_
            refine x_iconst (pc := 193) C (v := (2 : Int32)) dL_guard_193 rfl ?_
            refine x_iload (pc := 194) C 0 dL_guard_194 rfl ?_
            refine x_iconst (pc := 196) C (v := (1 : Int32)) dL_guard_196 rfl ?_
            refine x_iload (pc := 197) C 2 dL_guard_197 rfl ?_
            refine x_bipush (pc := 199) C (v := (12 : Int32)) dL_guard_199 rfl ?_
            refine x_ishr (pc := 201) C dL_guard_201 ?_
            refine x_iconst (pc := 202) C (v := (3 : Int32)) dL_guard_202 rfl ?_
            obtain ⟨r_13, hc_14, h⟩ := of_bd h
            refine x_callS1 (pc := 203) C [.int (isr r_1 (12 : Int32)), .int (3 : Int32)] [.int (1 : Int32), .int v6_1, .int (2 : Int32), .ref (b + 0)] (c_L_pick (b := b) (isr r_1 (12 : Int32)) (3 : Int32) S _ hc_14) cw_L_24 vs_L_pick ⟨rfl, rfl, Nat.le_of_ble_eq_true rfl, Nat.le_of_ble_eq_true rfl⟩ ⟨Nat.le_refl _, Nat.le_refl _⟩ rfl ⟨rfl, Nat.le_of_ble_eq_true rfl⟩ dL_guard_203 (fun hx_14 => ?_)
            refine x_iadd (pc := 206) C dL_guard_206 ?_
            obtain ⟨⟨r_14, S_4⟩, hc_15, h⟩ := of_bd h
            replace h := of_u2 h
            refine x_callV1 (pc := 207) C (o := 0) [.int (2 : Int32), .int v6_1, .int ((1 : Int32) + r_13)] [] (c_X6_ask (b := b) (2 : Int32) v6_1 ((1 : Int32) + r_13) hO S _ _ hc_15) cw_L_37 vi_X6_ask ⟨rfl, rfl, Nat.le_of_ble_eq_true rfl, Nat.le_of_ble_eq_true rfl⟩ ⟨Nat.le_refl _, Nat.le_refl _⟩ hO.1 ⟨rfl, rfl, rfl⟩ rfl ⟨rfl, Nat.le_of_ble_eq_true rfl⟩ dL_guard_207 (fun hx_15 => ?_)
            refine x_pop (pc := 210) C dL_guard_210 rfl ?_
            refine x_goto (pc := 211) C 315 dL_guard_211 rfl ?_
            obtain ⟨v3_4, ev3_4, h⟩ := of_lt h
            refine x_iinc (pc := 315) C (w := (1 : Int32)) 6 [(3, .int v3_4), (6, .int v6_1), (5, .int r_2), (4, .int r_1), (0, .ref (b + 0)), (1, .ref ba), (2, .int v2)] dL_guard_315 rfl rfl (Nat.le_of_ble_eq_true rfl) ev3_4 rfl ?_
            refine x_goto (pc := 318) C 96 dL_guard_318 rfl ?_
            exact x_sub [4, 5, 6, 0] rfl (ih _ _ h hx)
        · replace h := of_ifp c_3 h
          refine x_aload_n (pc := 160) C 3 dL_guard_160 rfl ?_
          refine x_iconst (pc := 161) C (v := (1 : Int32)) dL_guard_161 rfl ?_
          refine x_iload (pc := 162) C 0 dL_guard_162 rfl ?_
          refine x_iload (pc := 164) C 2 dL_guard_164 rfl ?_
          refine x_bipush (pc := 166) C (v := (12 : Int32)) dL_guard_166 rfl ?_
          refine x_ishr (pc := 168) C dL_guard_168 ?_
          refine x_sipush (pc := 169) C (v := (255 : Int32)) dL_guard_169 rfl ?_
          refine x_iand (pc := 172) C dL_guard_172 ?_
          refine x_iload (pc := 173) C 0 dL_guard_173 rfl ?_
          refine x_iconst (pc := 175) C (v := (-1 : Int32)) dL_guard_175 rfl ?_
          refine x_ixor (pc := 176) C dL_guard_176 ?_
          refine x_iand (pc := 177) C dL_guard_177 ?_
          obtain ⟨⟨r_15, S_5⟩, hc_16, h⟩ := of_bd h
          replace h := of_u2 h
          refine x_callV1 (pc := 178) C (o := 0) [.int (1 : Int32), .int v6_1, .int (((isr r_1 (12 : Int32)) &&& (255 : Int32)) &&& (v6_1 ^^^ (-1 : Int32)))] [] (c_X6_ask (b := b) (1 : Int32) v6_1 (((isr r_1 (12 : Int32)) &&& (255 : Int32)) &&& (v6_1 ^^^ (-1 : Int32))) hO S _ _ hc_16) cw_L_37 vi_X6_ask ⟨rfl, rfl, Nat.le_of_ble_eq_true rfl, Nat.le_of_ble_eq_true rfl⟩ ⟨Nat.le_refl _, Nat.le_refl _⟩ hO.1 ⟨rfl, rfl, rfl⟩ rfl ⟨rfl, Nat.le_of_ble_eq_true rfl⟩ dL_guard_178 (fun hx_16 => ?_)
          refine x_pop (pc := 181) C dL_guard_181 rfl ?_
          refine x_goto (pc := 182) C 315 dL_guard_182 rfl ?_
          obtain ⟨v3_5, ev3_5, h⟩ := of_lt h
          refine x_iinc (pc := 315) C (w := (1 : Int32)) 6 [(3, .int v3_5), (6, .int v6_1), (5, .int r_2), (4, .int r_1), (0, .ref (b + 0)), (1, .ref ba), (2, .int v2)] dL_guard_315 rfl rfl (Nat.le_of_ble_eq_true rfl) ev3_5 rfl ?_
          refine x_goto (pc := 318) C 96 dL_guard_318 rfl ?_
          exact x_sub [4, 5, 6, 0] rfl (ih _ _ h hx)
      · replace h := of_ifp c_2 h
        refine x_aload_n (pc := 141) C 3 dL_guard_141 rfl ?_
        refine x_iconst (pc := 142) C (v := (0 : Int32)) dL_guard_142 rfl ?_
        refine x_iload (pc := 143) C 0 dL_guard_143 rfl ?_
        refine x_iconst (pc := 145) C (v := (0 : Int32)) dL_guard_145 rfl ?_
        obtain ⟨⟨r_16, S_6⟩, hc_17, h⟩ := of_bd h
        replace h := of_u2 h
        refine x_callV1 (pc := 146) C (o := 0) [.int (0 : Int32), .int v6_1, .int (0 : Int32)] [] (c_X6_ask (b := b) (0 : Int32) v6_1 (0 : Int32) hO S _ _ hc_17) cw_L_37 vi_X6_ask ⟨rfl, rfl, Nat.le_of_ble_eq_true rfl, Nat.le_of_ble_eq_true rfl⟩ ⟨Nat.le_refl _, Nat.le_refl _⟩ hO.1 ⟨rfl, rfl, rfl⟩ rfl ⟨rfl, Nat.le_of_ble_eq_true rfl⟩ dL_guard_146 (fun hx_17 => ?_)
        refine x_pop (pc := 149) C dL_guard_149 rfl ?_
        refine x_goto (pc := 150) C 315 dL_guard_150 rfl ?_
        obtain ⟨v3_6, ev3_6, h⟩ := of_lt h
        refine x_iinc (pc := 315) C (w := (1 : Int32)) 6 [(3, .int v3_6), (6, .int v6_1), (5, .int r_2), (4, .int r_1), (0, .ref (b + 0)), (1, .ref ba), (2, .int v2)] dL_guard_315 rfl rfl (Nat.le_of_ble_eq_true rfl) ev3_6 rfl ?_
        refine x_goto (pc := 318) C 96 dL_guard_318 rfl ?_
        exact x_sub [4, 5, 6, 0] rfl (ih _ _ h hx)
set_option maxRecDepth 100000 in
set_option maxHeartbeats 4000000 in
theorem c_L_guard {l : Launch} {G : zz_G} {L : Ly} {b : Nat} (ba : Nat) (Ls : Nat) (xs : Nat → Int32) (p2 : Int32) (hO : isGu L) (S : Sg) (Sf : Sg) (h : f_L_guard ba Ls xs p2 S = some Sf) : Met l yL_guard (Cond.code yL_guard cL_guard 7 none :: zz_all) (rmz 8 186) (PS G L b S ba Ls xs [.ref (b + 0), .ref ba, .int p2]) (QC G L b Sf none True) 0 0 (fun q => b ≤ q) := by
  refine x_metS [.ref (b + 0), .ref ba, .int p2] (by decide +kernel) (Nat.le_of_ble_eq_true rfl) fun p e s m args below meth c C hX => ?_
  unfold f_L_guard at h
  refine x_iconst (pc := 0) C (v := (0 : Int32)) dL_guard_0 rfl ?_
  refine x_istore_n (pc := 1) C 3 [(3, .int (0 : Int32)), (0, .ref (b + 0)), (1, .ref ba), (2, .int p2)] dL_guard_1 rfl (Nat.le_of_ble_eq_true rfl) rfl rfl ?_
  refine x_sub [1, 2, 3, 0] rfl ?_
  obtain ⟨z_hz_2, hz_2, h⟩ := of_bd h
  refine l_L_guard_2 C ba Ls xs hO hX p2 400 _ _ hz_2 (fun S_1 ez => ?_)
  subst z_hz_2
  refine x_aload_n (pc := 61) C 0 dL_guard_61 rfl ?_
  refine x_iconst (pc := 62) C (v := (2 : Int32)) dL_guard_62 rfl ?_
  refine x_aload_n (pc := 63) C 1 dL_guard_63 rfl ?_
  refine x_bipush (pc := 64) C (v := (8 : Int32)) dL_guard_64 rfl ?_
  obtain ⟨r_1, hc_1, h⟩ := of_bd h
  refine x_callSX1 (pc := 66) C hX [.ref ba, .int (8 : Int32)] [.int (2 : Int32), .ref (b + 0)] (c_L_cell (b := b) ba Ls xs (8 : Int32) S_1 _ hc_1) cw_L_18 vs_L_cell ⟨rfl, rfl, Nat.le_of_ble_eq_true rfl, Nat.le_of_ble_eq_true rfl⟩ ⟨Nat.le_refl _, Nat.le_refl _⟩ rfl ⟨rfl, Nat.le_of_ble_eq_true rfl⟩ dL_guard_66 (fun hx_1 => ?_)
  refine x_bipush (pc := 69) C (v := (9 : Int32)) dL_guard_69 rfl ?_
  obtain ⟨r_2, hc_2, h⟩ := of_bd h
  refine x_callS1 (pc := 71) C [.int r_1, .int (9 : Int32)] [.int (2 : Int32), .ref (b + 0)] (c_L_pick (b := b) r_1 (9 : Int32) S_1 _ hc_2) cw_L_24 vs_L_pick ⟨rfl, rfl, Nat.le_of_ble_eq_true rfl, Nat.le_of_ble_eq_true rfl⟩ ⟨Nat.le_refl _, Nat.le_refl _⟩ rfl ⟨rfl, Nat.le_of_ble_eq_true rfl⟩ dL_guard_71 (fun hx_2 => ?_)
  refine x_iadd (pc := 74) C dL_guard_74 ?_
  obtain ⟨⟨r_3, S_2⟩, hc_3, h⟩ := of_bd h
  replace h := of_u2 h
  refine x_callV1 (pc := 75) C (o := 0) [.int ((2 : Int32) + r_2)] [] (c_X6_limit (b := b) ((2 : Int32) + r_2) hO S_1 _ _ hc_3) cw_L_31 vi_X6_limit ⟨rfl, rfl, Nat.le_of_ble_eq_true rfl, Nat.le_of_ble_eq_true rfl⟩ ⟨Nat.le_refl _, Nat.le_refl _⟩ hO.1 ⟨rfl, rfl, rfl⟩ rfl ⟨rfl, Nat.le_of_ble_eq_true rfl⟩ dL_guard_75 (fun hx_3 => ?_)
  refine x_pop (pc := 78) C dL_guard_78 rfl ?_
  refine x_aload_n (pc := 79) C 0 dL_guard_79 rfl ?_
  refine x_aload_n (pc := 80) C 1 dL_guard_80 rfl ?_
  refine x_bipush (pc := 81) C (v := (9 : Int32)) dL_guard_81 rfl ?_
  obtain ⟨r_4, hc_4, h⟩ := of_bd h
  refine x_callSX1 (pc := 83) C hX [.ref ba, .int (9 : Int32)] [.ref (b + 0)] (c_L_cell (b := b) ba Ls xs (9 : Int32) S_2 _ hc_4) cw_L_18 vs_L_cell ⟨rfl, rfl, Nat.le_of_ble_eq_true rfl, Nat.le_of_ble_eq_true rfl⟩ ⟨Nat.le_refl _, Nat.le_refl _⟩ rfl ⟨rfl, Nat.le_of_ble_eq_true rfl⟩ dL_guard_83 (fun hx_4 => ?_)
  refine x_iconst (pc := 86) C (v := (4 : Int32)) dL_guard_86 rfl ?_
  obtain ⟨r_5, hc_5, h⟩ := of_bd h
  refine x_callS1 (pc := 87) C [.int r_4, .int (4 : Int32)] [.ref (b + 0)] (c_L_pick (b := b) r_4 (4 : Int32) S_2 _ hc_5) cw_L_24 vs_L_pick ⟨rfl, rfl, Nat.le_of_ble_eq_true rfl, Nat.le_of_ble_eq_true rfl⟩ ⟨Nat.le_refl _, Nat.le_refl _⟩ rfl ⟨rfl, Nat.le_of_ble_eq_true rfl⟩ dL_guard_87 (fun hx_5 => ?_)
  obtain ⟨⟨r_6, S_3⟩, hc_6, h⟩ := of_bd h
  replace h := of_u2 h
  refine x_callV1 (pc := 90) C (o := 0) [.int r_5] [] (c_X6_rule (b := b) r_5 hO S_2 _ _ hc_6) cw_L_34 vi_X6_rule ⟨rfl, rfl, Nat.le_of_ble_eq_true rfl, Nat.le_of_ble_eq_true rfl⟩ ⟨Nat.le_refl _, Nat.le_refl _⟩ hO.1 ⟨rfl, rfl, rfl⟩ rfl ⟨rfl, Nat.le_of_ble_eq_true rfl⟩ dL_guard_90 (fun hx_6 => ?_)
  refine x_pop (pc := 93) C dL_guard_93 rfl ?_
  refine x_iconst (pc := 94) C (v := (0 : Int32)) dL_guard_94 rfl ?_
  refine x_istore_n (pc := 95) C 3 [(3, .int (0 : Int32)), (0, .ref (b + 0)), (1, .ref ba), (2, .int p2)] dL_guard_95 rfl (Nat.le_of_ble_eq_true rfl) rfl rfl ?_
  refine x_sub [1, 2, 3, 0] rfl ?_
  obtain ⟨z_hz_1, hz_1, h⟩ := of_bd h
  refine l_L_guard_96 C ba Ls xs hO hX p2 400 _ _ hz_1 (fun S_4 ez => ?_)
  subst z_hz_1
  exact x_vreturn (pc := 321) C dL_guard_321 (of_s1 h)
set_option maxRecDepth 100000 in
set_option maxHeartbeats 4000000 in
theorem c_X6_answer {l : Launch} {G : zz_G} {L : Ly} {b : Nat} (p1 : Int32) (hO : isGu L) (S : Sg) (rf : Int64) (Sf : Sg) (h : f_X6_answer p1 S = some (rf, Sf)) : Met l yX6_answer (Cond.code yX6_answer cX6_answer 2 (some .long) :: zz_all) (rmz 2 43) (PC G L b S [.ref (b + 0), .int p1]) (QC G L b Sf (some (.long rf)) True) 0 0 (fun q => b ≤ q) := by
  refine x_met [.ref (b + 0), .int p1] (by decide +kernel) (Nat.le_of_ble_eq_true rfl) fun p e s m args below meth c C => ?_
  unfold f_X6_answer at h
  refine x_iload_n (pc := 0) C 1 dX6_answer_0 rfl ?_
  refine x_aload_n (pc := 1) C 0 dX6_answer_1 rfl ?_
  refine x_getr (pc := 2) C (k := 0) 1 hO.1 rfl rfl wd_149 dX6_answer_2 (Nat.le_of_ble_eq_true rfl) rfl ?_
  refine x_geti (pc := 5) C (k := 9) hO.2.1.1 rfl rfl wd_74 dX6_answer_5 ⟨Nat.le_of_ble_eq_true rfl, rfl⟩ ?_
  refine x_callS1 (pc := 8) C [.int p1, .int (S.1 1 9)] [] (c_X6_isWithin (b := b) p1 (S.1 1 9) S) cw_X6_69 vs_X6_isWithin ⟨rfl, rfl, Nat.le_of_ble_eq_true rfl, Nat.le_of_ble_eq_true rfl⟩ ⟨Nat.le_refl _, Nat.le_refl _⟩ rfl ⟨rfl, Nat.le_of_ble_eq_true rfl⟩ dX6_answer_8 (fun hx_1 => ?_)
  refine x_if_ne (pc := 11) C 25 dX6_answer_11 rfl (fun c_1 => ?_) (fun c_1 => ?_)
  · replace h := of_ifn c_1 h
    refine x_aload_n (pc := 25) C 0 dX6_answer_25 rfl ?_
    refine x_getr (pc := 26) C (k := 0) 1 hO.1 rfl rfl wd_149 dX6_answer_26 (Nat.le_of_ble_eq_true rfl) rfl ?_
    refine x_iload_n (pc := 29) C 1 dX6_answer_29 rfl ?_
    obtain ⟨r_1, hc_1, h⟩ := of_bd h
    refine x_callV1 (pc := 30) C (o := 1) [.int p1] [] (c_X5_answerOf (b := b) 1 p1 hO.2.1 S _ hc_1) cw_X6_184 vi_X5_answerOf ⟨rfl, rfl, Nat.le_of_ble_eq_true rfl, Nat.le_of_ble_eq_true rfl⟩ ⟨Nat.le_refl _, Nat.le_refl _⟩ hO.2.1.1 ⟨rfl, rfl, rfl⟩ rfl ⟨rfl, Nat.le_of_ble_eq_true rfl⟩ dX6_answer_30 (fun hx_2 => ?_)
    refine x_i2l (pc := 33) C dX6_answer_33 ?_
    exact x_lreturn (pc := 34) C dX6_answer_34 (of_sp h).1 (of_sp h).2
  · replace h := of_ifp c_1 h
    refine x_ldc2 (pc := 14) C wd_379 dX6_answer_14 ?_
    refine x_aload_n (pc := 17) C 0 dX6_answer_17 rfl ?_
    refine x_iconst (pc := 18) C (v := (-1 : Int32)) dX6_answer_18 rfl ?_
    obtain ⟨⟨r_2, S_1⟩, hc_2, h⟩ := of_bd h
    replace h := of_u2 h
    refine x_callV1 (pc := 19) C (o := 0) [.int (-1 : Int32)] [.long (4000000000000000000 : Int64)] (c_X6_refuse (b := b) (-1 : Int32) hO S _ _ hc_2) cw_X6_73 vi_X6_refuse ⟨rfl, rfl, Nat.le_of_ble_eq_true rfl, Nat.le_of_ble_eq_true rfl⟩ ⟨Nat.le_refl _, Nat.le_refl _⟩ hO.1 ⟨rfl, rfl, rfl⟩ rfl ⟨rfl, Nat.le_of_ble_eq_true rfl⟩ dX6_answer_19 (fun hx_3 => ?_)
    refine x_i2l (pc := 22) C dX6_answer_22 ?_
    refine x_lsub (pc := 23) C dX6_answer_23 ?_
    exact x_lreturn (pc := 24) C dX6_answer_24 (of_sp h).1 (of_sp h).2
set_option maxRecDepth 100000 in
set_option maxHeartbeats 4000000 in
theorem c_X5_fixedBitsWith {l : Launch} {G : zz_G} {L : Ly} {b : Nat} (o : Nat) (o1 : Nat) (hO : isW L o) (h1 : isQ L o1) (S : Sg) (rf : Int32) (Sf : Sg) (h : f_X5_fixedBitsWith o o1 S = some (rf, Sf)) : Met l yX5_fixedBitsWith (Cond.code yX5_fixedBitsWith cX5_fixedBitsWith 2 (some .int) :: zz_all) (rmz 2 48) (PC G L b S [.ref (b + o), .ref (b + o1)]) (QC G L b Sf (some (.int rf)) True) 0 0 (fun q => b ≤ q) := by
  refine x_met [.ref (b + o), .ref (b + o1)] (by decide +kernel) (Nat.le_of_ble_eq_true rfl) fun p e s m args below meth c C => ?_
  unfold f_X5_fixedBitsWith at h
  refine x_aload_n (pc := 0) C 0 dX5_fixedBitsWith_0 rfl ?_
  refine x_aload_n (pc := 1) C 1 dX5_fixedBitsWith_1 rfl ?_
  obtain ⟨S_1, hc_1, h⟩ := of_bd h
  refine x_callV_ (pc := 2) C (o := o) [.ref (b + o1)] [] (c_X5_findRest (b := b) o o1 hO h1 S _ hc_1) cw_X5_114 vi_X5_findRest ⟨rfl, rfl, Nat.le_of_ble_eq_true rfl, Nat.le_of_ble_eq_true rfl⟩ ⟨Nat.le_refl _, Nat.le_refl _⟩ hO.1 ⟨rfl, rfl, rfl⟩ rfl ⟨rfl, Nat.le_of_ble_eq_true rfl⟩ dX5_fixedBitsWith_2 (fun hx_1 => ?_)
  refine x_aload_n (pc := 5) C 0 dX5_fixedBitsWith_5 rfl ?_
  refine x_getr (pc := 6) C (k := 10) (o + 17) hO.1 rfl rfl wd_75 dX5_fixedBitsWith_6 (Nat.le_of_ble_eq_true rfl) rfl ?_
  refine x_aload_n (pc := 9) C 0 dX5_fixedBitsWith_9 rfl ?_
  refine x_getr (pc := 10) C (k := 13) (o + 42) hO.1 rfl rfl wd_79 dX5_fixedBitsWith_10 (Nat.le_of_ble_eq_true rfl) rfl ?_
  obtain ⟨r_1, hc_2, h⟩ := of_bd h
  refine x_callV1 (pc := 13) C (o := (o + 17)) [.ref (b + (o + 42))] [] (c_X4_fixedBitsWith (b := b) (o + 17) (o + 42) 10 hO.2.2.2.2.2.2.2.2.1 hO.2.2.2.2.2.2.2.2.2.2.2 S_1 _ hc_2) cw_X5_121 vi_X4_fixedBitsWith ⟨rfl, rfl, Nat.le_of_ble_eq_true rfl, Nat.le_of_ble_eq_true rfl⟩ ⟨Nat.le_refl _, Nat.le_refl _⟩ hO.2.2.2.2.2.2.2.2.1.1 ⟨rfl, rfl, rfl⟩ rfl ⟨rfl, Nat.le_of_ble_eq_true rfl⟩ dX5_fixedBitsWith_13 (fun hx_2 => ?_)
  exact x_ireturn (pc := 16) C dX5_fixedBitsWith_16 (of_sp h).1 (of_sp h).2
set_option maxRecDepth 100000 in
set_option maxHeartbeats 4000000 in
theorem l_X6_attack_43 {p : Program} {l : Launch} {e : Env} {s : State} {m : MethodId} {args : Array Value} {below : List Frame} {meth : Method} {c : Code} {G : zz_G} {L : Ly} {b : Nat} {Q : State → Prop} (C : CX p G s m args meth c cX6_attack yX6_attack 6 (some .int)) (hO : isGu L) (v1 : Int32) (v2 : Int32) : ∀ (n : Nat) (v3 : Int32) (v4 : Int32) (v5 : Int32) (S : Sg) {z}, L_X6_attack_43 v1 v2 n v3 v4 v5 S = some z → (∀ (v3_o : Int32) (v4_o : Int32) (S_o : Sg), z = (v3_o, v4_o, S_o) → X p l e (rmz 3 69) s m args below meth c 0 0 Q 6 G L b S_o 91 [(2, .int v2), (3, .int v3_o), (4, .int v4_o)] []) → X p l e (rmz 3 69) s m args below meth c 0 0 Q 6 G L b S 43 [(0, .ref (b + 0)), (1, .int v1), (2, .int v2), (3, .int v3), (4, .int v4), (5, .int v5)] [] := by
  intro n
  induction n with
  | zero =>
    intro v3 v4 v5 S z h
    exact of_none h
  | succ n ih =>
    intro v3 v4 v5 S z h hx
    rw [L_X6_attack_43] at h
    refine x_iload (pc := 43) C 5 dX6_attack_43 rfl ?_
    refine x_iconst (pc := 45) C (v := (1 : Int32)) dX6_attack_45 rfl ?_
    refine x_icmp_lt (pc := 46) C 91 dX6_attack_46 rfl (fun c_1 => ?_) (fun c_1 => ?_)
    · replace h := of_ifp c_1 h
      exact x_sub [2, 3, 4] rfl (hx _ _ _ (of_s1 h).symm)
    · replace h := of_ifn c_1 h
      refine x_aload_n (pc := 49) C 0 dX6_attack_49 rfl ?_
      refine x_getr (pc := 50) C (k := 4) 130 hO.1 rfl rfl wd_153 dX6_attack_50 (Nat.le_of_ble_eq_true rfl) rfl ?_
      refine x_iconst (pc := 53) C (v := (0 : Int32)) dX6_attack_53 rfl ?_
      refine x_iload (pc := 54) C 5 dX6_attack_54 rfl ?_
      refine x_iconst (pc := 56) C (v := (0 : Int32)) dX6_attack_56 rfl ?_
      obtain ⟨S_1, hc_1, h⟩ := of_bd h
      refine x_callV_ (pc := 57) C (o := 130) [.int (0 : Int32), .int v5, .int (0 : Int32)] [] (c_X2_make (b := b) 130 (0 : Int32) v5 (0 : Int32) hO.2.2.2.2.1 S _ hc_1) cw_X6_150 vi_X2_make ⟨rfl, rfl, Nat.le_of_ble_eq_true rfl, Nat.le_of_ble_eq_true rfl⟩ ⟨Nat.le_refl _, Nat.le_refl _⟩ hO.2.2.2.2.1.1 ⟨rfl, rfl, rfl⟩ rfl ⟨rfl, Nat.le_of_ble_eq_true rfl⟩ dX6_attack_57 (fun hx_1 => ?_)
      refine x_aload_n (pc := 60) C 0 dX6_attack_60 rfl ?_
      refine x_getr (pc := 61) C (k := 0) 1 hO.1 rfl rfl wd_149 dX6_attack_61 (Nat.le_of_ble_eq_true rfl) rfl ?_
      refine x_aload_n (pc := 64) C 0 dX6_attack_64 rfl ?_
      refine x_getr (pc := 65) C (k := 4) 130 hO.1 rfl rfl wd_153 dX6_attack_65 (Nat.le_of_ble_eq_true rfl) rfl ?_
      obtain ⟨⟨r_1, S_2⟩, hc_2, h⟩ := of_bd h
      replace h := of_u2 h
      refine x_callV1 (pc := 68) C (o := 1) [.ref (b + 130)] [] (c_X5_fixedBitsWith (b := b) 1 130 hO.2.1 hO.2.2.2.2.1 S_1 _ _ hc_2) cw_X6_200 vi_X5_fixedBitsWith ⟨rfl, rfl, Nat.le_of_ble_eq_true rfl, Nat.le_of_ble_eq_true rfl⟩ ⟨Nat.le_refl _, Nat.le_refl _⟩ hO.2.1.1 ⟨rfl, rfl, rfl⟩ rfl ⟨rfl, Nat.le_of_ble_eq_true rfl⟩ dX6_attack_68 (fun hx_2 => ?_)
      refine x_iload_n (pc := 71) C 1 dX6_attack_71 rfl ?_
      refine x_ishr (pc := 72) C dX6_attack_72 ?_
      refine x_iconst (pc := 73) C (v := (1 : Int32)) dX6_attack_73 rfl ?_
      refine x_iand (pc := 74) C dX6_attack_74 ?_
      refine x_iconst (pc := 75) C (v := (1 : Int32)) dX6_attack_75 rfl ?_
      obtain ⟨v3_1, ev3_1, h⟩ := of_lt h
      obtain ⟨v4_1, ev4_1, h⟩ := of_lt h
      have kd_1 : X p l e (rmz 3 69) s m args below meth c 0 0 Q 6 G L b S_2 85 [(0, .ref (b + 0)), (1, .int v1), (2, .int v2), (3, .int v3_1), (4, .int v4_1), (5, .int v5)] [] := by
        obtain ⟨v5_1, ev5_1, h⟩ := of_lt h
        refine x_iinc (pc := 85) C (w := (-1 : Int32)) 5 [(5, .int v5_1), (0, .ref (b + 0)), (1, .int v1), (2, .int v2), (3, .int v3_1), (4, .int v4_1)] dX6_attack_85 rfl rfl (Nat.le_of_ble_eq_true rfl) ev5_1 rfl ?_
        refine x_goto (pc := 88) C 43 dX6_attack_88 rfl ?_
        exact x_sub [1, 2, 3, 4, 5, 0] rfl (ih _ _ _ _ h hx)
      refine x_icmp_ne (pc := 76) C 85 dX6_attack_76 rfl (fun c_2 => ?_) (fun c_2 => ?_)
      · refine x_sub [0, 1, 2, 3, 4, 5] rfl ?_
        rw [show v3_1 = v3 from (ev3_1.trans (if_neg c_2))] at kd_1
        rw [show v4_1 = v4 from (ev4_1.trans (if_neg c_2))] at kd_1
        exact kd_1
      · refine x_iload (pc := 79) C 5 dX6_attack_79 rfl ?_
        refine x_istore_n (pc := 81) C 3 [(3, .int v5), (0, .ref (b + 0)), (1, .int v1), (2, .int v2), (4, .int v4), (5, .int v5)] dX6_attack_81 rfl (Nat.le_of_ble_eq_true rfl) rfl rfl ?_
        refine x_iinc (pc := 82) C (w := (1 : Int32)) 4 [(4, .int (v4 + (1 : Int32))), (3, .int v5), (0, .ref (b + 0)), (1, .int v1), (2, .int v2), (5, .int v5)] dX6_attack_82 rfl rfl (Nat.le_of_ble_eq_true rfl) rfl rfl ?_
        refine x_sub [2, 3, 4, 1, 0, 5] rfl ?_
        rw [show v3_1 = v5 from (ev3_1.trans (if_pos c_2))] at kd_1
        rw [show v4_1 = (v4 + (1 : Int32)) from (ev4_1.trans (if_pos c_2))] at kd_1
        exact kd_1
set_option maxRecDepth 100000 in
set_option maxHeartbeats 4000000 in
theorem c_X6_attack {l : Launch} {G : zz_G} {L : Ly} {b : Nat} (p1 : Int32) (p2 : Int32) (hO : isGu L) (S : Sg) (rf : Int32) (Sf : Sg) (h : f_X6_attack p1 p2 S = some (rf, Sf)) : Met l yX6_attack (Cond.code yX6_attack cX6_attack 6 (some .int) :: zz_all) (rmz 3 69) (PC G L b S [.ref (b + 0), .int p1, .int p2]) (QC G L b Sf (some (.int rf)) True) 0 0 (fun q => b ≤ q) := by
  refine x_met [.ref (b + 0), .int p1, .int p2] (by decide +kernel) (Nat.le_of_ble_eq_true rfl) fun p e s m args below meth c C => ?_
  unfold f_X6_attack at h
  refine x_aload_n (pc := 0) C 0 dX6_attack_0 rfl ?_
  refine x_getr (pc := 1) C (k := 0) 1 hO.1 rfl rfl wd_149 dX6_attack_1 (Nat.le_of_ble_eq_true rfl) rfl ?_
  refine x_iload_n (pc := 4) C 1 dX6_attack_4 rfl ?_
  refine x_callV1 (pc := 5) C (o := 1) [.int p1] [] (c_X5_has (b := b) 1 p1 hO.2.1 S) cw_X6_91 vi_X5_has ⟨rfl, rfl, Nat.le_of_ble_eq_true rfl, Nat.le_of_ble_eq_true rfl⟩ ⟨Nat.le_refl _, Nat.le_refl _⟩ hO.2.1.1 ⟨rfl, rfl, rfl⟩ rfl ⟨rfl, Nat.le_of_ble_eq_true rfl⟩ dX6_attack_5 (fun hx_1 => ?_)
  refine x_if_ne (pc := 8) C 17 dX6_attack_8 rfl (fun c_1 => ?_) (fun c_1 => ?_)
  · replace h := of_ifn c_1 h
    refine x_iload_n (pc := 17) C 2 dX6_attack_17 rfl ?_
    refine x_iconst (pc := 18) C (v := (2 : Int32)) dX6_attack_18 rfl ?_
    refine x_callS1 (pc := 19) C [.int p2, .int (2 : Int32)] [] (c_X6_isWithin (b := b) p2 (2 : Int32) S) cw_X6_69 vs_X6_isWithin ⟨rfl, rfl, Nat.le_of_ble_eq_true rfl, Nat.le_of_ble_eq_true rfl⟩ ⟨Nat.le_refl _, Nat.le_refl _⟩ rfl ⟨rfl, Nat.le_of_ble_eq_true rfl⟩ dX6_attack_19 (fun hx_2 => ?_)
    refine x_if_ne (pc := 22) C 32 dX6_attack_22 rfl (fun c_2 => ?_) (fun c_2 => ?_)
    · replace h := of_ifn c_2 h
      refine x_bipush (pc := 32) C (v := (-9 : Int32)) dX6_attack_32 rfl ?_
      refine x_istore_n (pc := 34) C 3 [(3, .int (-9 : Int32)), (0, .ref (b + 0)), (1, .int p1), (2, .int p2)] dX6_attack_34 rfl (Nat.le_of_ble_eq_true rfl) rfl rfl ?_
      refine x_iconst (pc := 35) C (v := (0 : Int32)) dX6_attack_35 rfl ?_
      refine x_istore (pc := 36) C [(4, .int (0 : Int32)), (3, .int (-9 : Int32)), (0, .ref (b + 0)), (1, .int p1), (2, .int p2)] dX6_attack_36 (Nat.le_of_ble_eq_true rfl) rfl rfl ?_
      refine x_sipush (pc := 38) C (v := (255 : Int32)) dX6_attack_38 rfl ?_
      refine x_istore (pc := 41) C [(5, .int (255 : Int32)), (4, .int (0 : Int32)), (3, .int (-9 : Int32)), (0, .ref (b + 0)), (1, .int p1), (2, .int p2)] dX6_attack_41 (Nat.le_of_ble_eq_true rfl) rfl rfl ?_
      refine x_sub [3, 4, 5, 2, 1, 0] rfl ?_
      obtain ⟨z_hz_1, hz_1, h⟩ := of_bd h
      refine l_X6_attack_43 C hO p1 p2 400 _ _ _ _ hz_1 (fun v3_1 v4_1 S_1 ez => ?_)
      subst z_hz_1
      replace h := of_u3 h
      refine x_iload_n (pc := 91) C 0 dX6_attack_91 rfl ?_
      obtain ⟨x_1, ex_1, h⟩ := of_lt h
      have kd_1 : X p l e (rmz 3 69) s m args below meth c 0 0 (RQ G L b Sf below args s (some (.int rf)) True) 6 G L b S_1 101 [] [.int x_1] := by
        exact x_ireturn (pc := 101) C dX6_attack_101 (of_sp h).1 (of_sp h).2
      refine x_if_ne (pc := 92) C 99 dX6_attack_92 rfl (fun c_3 => ?_) (fun c_3 => ?_)
      · refine x_iload (pc := 99) C 2 dX6_attack_99 rfl ?_
        refine x_sub [] rfl ?_
        rw [show x_1 = v4_1 from (ex_1.trans (if_neg c_3))] at kd_1
        exact kd_1
      · refine x_iload_n (pc := 95) C 1 dX6_attack_95 rfl ?_
        refine x_goto (pc := 96) C 101 dX6_attack_96 rfl ?_
        refine x_sub [] rfl ?_
        rw [show x_1 = v3_1 from (ex_1.trans (if_pos c_3))] at kd_1
        exact kd_1
    · replace h := of_ifp c_2 h
      refine x_aload_n (pc := 25) C 0 dX6_attack_25 rfl ?_
      refine x_bipush (pc := 26) C (v := (-2 : Int32)) dX6_attack_26 rfl ?_
      obtain ⟨⟨r_1, S_2⟩, hc_1, h⟩ := of_bd h
      replace h := of_u2 h
      refine x_callV1 (pc := 28) C (o := 0) [.int (-2 : Int32)] [] (c_X6_refuse (b := b) (-2 : Int32) hO S _ _ hc_1) cw_X6_73 vi_X6_refuse ⟨rfl, rfl, Nat.le_of_ble_eq_true rfl, Nat.le_of_ble_eq_true rfl⟩ ⟨Nat.le_refl _, Nat.le_refl _⟩ hO.1 ⟨rfl, rfl, rfl⟩ rfl ⟨rfl, Nat.le_of_ble_eq_true rfl⟩ dX6_attack_28 (fun hx_3 => ?_)
      exact x_ireturn (pc := 31) C dX6_attack_31 (of_sp h).1 (of_sp h).2
  · replace h := of_ifp c_1 h
    refine x_aload_n (pc := 11) C 0 dX6_attack_11 rfl ?_
    refine x_iconst (pc := 12) C (v := (-1 : Int32)) dX6_attack_12 rfl ?_
    obtain ⟨⟨r_2, S_3⟩, hc_2, h⟩ := of_bd h
    replace h := of_u2 h
    refine x_callV1 (pc := 13) C (o := 0) [.int (-1 : Int32)] [] (c_X6_refuse (b := b) (-1 : Int32) hO S _ _ hc_2) cw_X6_73 vi_X6_refuse ⟨rfl, rfl, Nat.le_of_ble_eq_true rfl, Nat.le_of_ble_eq_true rfl⟩ ⟨Nat.le_refl _, Nat.le_refl _⟩ hO.1 ⟨rfl, rfl, rfl⟩ rfl ⟨rfl, Nat.le_of_ble_eq_true rfl⟩ dX6_attack_13 (fun hx_4 => ?_)
    exact x_ireturn (pc := 16) C dX6_attack_16 (of_sp h).1 (of_sp h).2
set_option maxRecDepth 100000 in
set_option maxHeartbeats 4000000 in
theorem l_X5_usedBits_4 {p : Program} {l : Launch} {e : Env} {s : State} {m : MethodId} {args : Array Value} {below : List Frame} {meth : Method} {c : Code} {G : zz_G} {L : Ly} {b : Nat} {Q : State → Prop} (C : CX p G s m args meth c cX5_usedBits yX5_usedBits 3 (some .int)) (o : Nat) (hO : isW L o) (S : Sg) : ∀ (n : Nat) (v1 : Int32) (v2 : Int32) {z}, L_X5_usedBits_4 o S n v1 v2 = some z → (∀ (v1_o : Int32), z = v1_o → X p l e (rmz 3 65) s m args below meth c 0 0 Q 3 G L b S 30 [(1, .int v1_o)] []) → X p l e (rmz 3 65) s m args below meth c 0 0 Q 3 G L b S 4 [(0, .ref (b + o)), (1, .int v1), (2, .int v2)] [] := by
  intro n
  induction n with
  | zero =>
    intro v1 v2 z h
    exact of_none h
  | succ n ih =>
    intro v1 v2 z h hx
    rw [L_X5_usedBits_4] at h
    refine x_iload_n (pc := 4) C 2 dX5_usedBits_4 rfl ?_
    refine x_bipush (pc := 5) C (v := (10 : Int32)) dX5_usedBits_5 rfl ?_
    refine x_icmp_ge (pc := 7) C 30 dX5_usedBits_7 rfl (fun c_1 => ?_) (fun c_1 => ?_)
    · replace h := of_ifn c_1 h
      exact x_sub [1] rfl (hx _ (of_s1 h).symm)
    · replace h := of_ifp c_1 h
      refine x_aload_n (pc := 10) C 0 dX5_usedBits_10 rfl ?_
      refine x_iload_n (pc := 11) C 2 dX5_usedBits_11 rfl ?_
      obtain ⟨r_1, hc_1, h⟩ := of_bd h
      refine x_callV1 (pc := 12) C (o := o) [.int v2] [] (c_X5_isFree (b := b) o v2 hO S _ hc_1) cw_X5_84 vi_X5_isFree ⟨rfl, rfl, Nat.le_of_ble_eq_true rfl, Nat.le_of_ble_eq_true rfl⟩ ⟨Nat.le_refl _, Nat.le_refl _⟩ hO.1 ⟨rfl, rfl, rfl⟩ rfl ⟨rfl, Nat.le_of_ble_eq_true rfl⟩ dX5_usedBits_12 (fun hx_1 => ?_)
      obtain ⟨v1_1, ev1_1, h⟩ := of_lt h
      have kd_1 : X p l e (rmz 3 65) s m args below meth c 0 0 Q 3 G L b S 24 [(0, .ref (b + o)), (1, .int v1_1), (2, .int v2)] [] := by
        obtain ⟨v2_1, ev2_1, h⟩ := of_lt h
        refine x_iinc (pc := 24) C (w := (1 : Int32)) 2 [(2, .int v2_1), (0, .ref (b + o)), (1, .int v1_1)] dX5_usedBits_24 rfl rfl (Nat.le_of_ble_eq_true rfl) ev2_1 rfl ?_
        refine x_goto (pc := 27) C 4 dX5_usedBits_27 rfl ?_
        exact x_sub [1, 2, 0] rfl (ih _ _ h hx)
      refine x_if_ne (pc := 15) C 24 dX5_usedBits_15 rfl (fun c_2 => ?_) (fun c_2 => ?_)
      · refine x_sub [0, 1, 2] rfl ?_
        rw [show v1_1 = v1 from (ev1_1.trans (if_neg c_2))] at kd_1
        exact kd_1
      · refine x_iload_n (pc := 18) C 1 dX5_usedBits_18 rfl ?_
        refine x_iconst (pc := 19) C (v := (1 : Int32)) dX5_usedBits_19 rfl ?_
        refine x_iload_n (pc := 20) C 2 dX5_usedBits_20 rfl ?_
        refine x_ishl (pc := 21) C dX5_usedBits_21 ?_
        refine x_ior (pc := 22) C dX5_usedBits_22 ?_
        refine x_istore_n (pc := 23) C 1 [(1, .int (v1 ||| (isl (1 : Int32) v2))), (0, .ref (b + o)), (2, .int v2)] dX5_usedBits_23 rfl (Nat.le_of_ble_eq_true rfl) rfl rfl ?_
        refine x_sub [1, 0, 2] rfl ?_
        rw [show v1_1 = (v1 ||| (isl (1 : Int32) v2)) from (ev1_1.trans (if_pos c_2))] at kd_1
        exact kd_1
set_option maxRecDepth 100000 in
set_option maxHeartbeats 4000000 in
theorem c_X5_usedBits {l : Launch} {G : zz_G} {L : Ly} {b : Nat} (o : Nat) (hO : isW L o) (S : Sg) (rf : Int32) (h : f_X5_usedBits o S = some rf) : Met l yX5_usedBits (Cond.code yX5_usedBits cX5_usedBits 3 (some .int) :: zz_all) (rmz 3 65) (PC G L b S [.ref (b + o)]) (QC G L b S (some (.int rf)) True) 0 0 (fun q => b ≤ q) := by
  refine x_met [.ref (b + o)] (by decide +kernel) (Nat.le_of_ble_eq_true rfl) fun p e s m args below meth c C => ?_
  unfold f_X5_usedBits at h
  refine x_iconst (pc := 0) C (v := (0 : Int32)) dX5_usedBits_0 rfl ?_
  refine x_istore_n (pc := 1) C 1 [(1, .int (0 : Int32)), (0, .ref (b + o))] dX5_usedBits_1 rfl (Nat.le_of_ble_eq_true rfl) rfl rfl ?_
  refine x_iconst (pc := 2) C (v := (0 : Int32)) dX5_usedBits_2 rfl ?_
  refine x_istore_n (pc := 3) C 2 [(2, .int (0 : Int32)), (1, .int (0 : Int32)), (0, .ref (b + o))] dX5_usedBits_3 rfl (Nat.le_of_ble_eq_true rfl) rfl rfl ?_
  refine x_sub [2, 1, 0] rfl ?_
  obtain ⟨z_hz_1, hz_1, h⟩ := of_bd h
  refine l_X5_usedBits_4 C o hO S 400 _ _ hz_1 (fun v1_1 ez => ?_)
  subst z_hz_1
  refine x_iload_n (pc := 30) C 0 dX5_usedBits_30 rfl ?_
  exact x_ireturn (pc := 31) C dX5_usedBits_31 (of_s1 h) rfl
set_option maxRecDepth 100000 in
set_option maxHeartbeats 4000000 in
theorem l_X5_valuesOfPeople_4 {p : Program} {l : Launch} {e : Env} {s : State} {m : MethodId} {args : Array Value} {below : List Frame} {meth : Method} {c : Code} {G : zz_G} {L : Ly} {b : Nat} {Q : State → Prop} (C : CX p G s m args meth c cX5_valuesOfPeople yX5_valuesOfPeople 3 (some .int)) (o : Nat) (hO : isW L o) (S : Sg) : ∀ (n : Nat) (v1 : Int32) (v2 : Int32) {z}, L_X5_valuesOfPeople_4 o S n v1 v2 = some z → (∀ (v1_o : Int32), z = v1_o → X p l e (rmz 3 63) s m args below meth c 0 0 Q 3 G L b S 29 [(1, .int v1_o)] []) → X p l e (rmz 3 63) s m args below meth c 0 0 Q 3 G L b S 4 [(0, .ref (b + o)), (1, .int v1), (2, .int v2)] [] := by
  intro n
  induction n with
  | zero =>
    intro v1 v2 z h
    exact of_none h
  | succ n ih =>
    intro v1 v2 z h hx
    rw [L_X5_valuesOfPeople_4] at h
    refine x_iload_n (pc := 4) C 2 dX5_valuesOfPeople_4 rfl ?_
    refine x_bipush (pc := 5) C (v := (8 : Int32)) dX5_valuesOfPeople_5 rfl ?_
    refine x_icmp_ge (pc := 7) C 29 dX5_valuesOfPeople_7 rfl (fun c_1 => ?_) (fun c_1 => ?_)
    · replace h := of_ifn c_1 h
      exact x_sub [1] rfl (hx _ (of_s1 h).symm)
    · replace h := of_ifp c_1 h
      refine x_iload_n (pc := 10) C 1 dX5_valuesOfPeople_10 rfl ?_
      refine x_aload_n (pc := 11) C 0 dX5_valuesOfPeople_11 rfl ?_
      refine x_aload_n (pc := 12) C 0 dX5_valuesOfPeople_12 rfl ?_
      refine x_getr (pc := 13) C (k := 0) (o + 1) hO.1 rfl rfl wd_59 dX5_valuesOfPeople_13 (Nat.le_of_ble_eq_true rfl) rfl ?_
      refine x_iload_n (pc := 16) C 2 dX5_valuesOfPeople_16 rfl ?_
      obtain ⟨g_1, h⟩ := of_gd h
      refine x_iaload (pc := 17) C hO.2.1 g_1 dX5_valuesOfPeople_17 ?_
      obtain ⟨r_1, hc_1, h⟩ := of_bd h
      refine x_callV1 (pc := 18) C (o := o) [.int (S.1 (o + 1) (ix v2))] [.int v1] (c_X5_valueOf (b := b) o (S.1 (o + 1) (ix v2)) hO S _ hc_1) cw_X5_87 vi_X5_valueOf ⟨rfl, rfl, Nat.le_of_ble_eq_true rfl, Nat.le_of_ble_eq_true rfl⟩ ⟨Nat.le_refl _, Nat.le_refl _⟩ hO.1 ⟨rfl, rfl, rfl⟩ rfl ⟨rfl, Nat.le_of_ble_eq_true rfl⟩ dX5_valuesOfPeople_18 (fun hx_1 => ?_)
      refine x_iadd (pc := 21) C dX5_valuesOfPeople_21 ?_
      obtain ⟨v1_1, ev1_1, h⟩ := of_lt h
      refine x_istore_n (pc := 22) C 1 [(1, .int v1_1), (0, .ref (b + o)), (2, .int v2)] dX5_valuesOfPeople_22 rfl (Nat.le_of_ble_eq_true rfl) ev1_1 rfl ?_
      obtain ⟨v2_1, ev2_1, h⟩ := of_lt h
      refine x_iinc (pc := 23) C (w := (1 : Int32)) 2 [(2, .int v2_1), (1, .int v1_1), (0, .ref (b + o))] dX5_valuesOfPeople_23 rfl rfl (Nat.le_of_ble_eq_true rfl) ev2_1 rfl ?_
      refine x_goto (pc := 26) C 4 dX5_valuesOfPeople_26 rfl ?_
      exact x_sub [2, 1, 0] rfl (ih _ _ h hx)
set_option maxRecDepth 100000 in
set_option maxHeartbeats 4000000 in
theorem c_X5_valuesOfPeople {l : Launch} {G : zz_G} {L : Ly} {b : Nat} (o : Nat) (hO : isW L o) (S : Sg) (rf : Int32) (h : f_X5_valuesOfPeople o S = some rf) : Met l yX5_valuesOfPeople (Cond.code yX5_valuesOfPeople cX5_valuesOfPeople 3 (some .int) :: zz_all) (rmz 3 63) (PC G L b S [.ref (b + o)]) (QC G L b S (some (.int rf)) True) 0 0 (fun q => b ≤ q) := by
  refine x_met [.ref (b + o)] (by decide +kernel) (Nat.le_of_ble_eq_true rfl) fun p e s m args below meth c C => ?_
  unfold f_X5_valuesOfPeople at h
  refine x_iconst (pc := 0) C (v := (0 : Int32)) dX5_valuesOfPeople_0 rfl ?_
  refine x_istore_n (pc := 1) C 1 [(1, .int (0 : Int32)), (0, .ref (b + o))] dX5_valuesOfPeople_1 rfl (Nat.le_of_ble_eq_true rfl) rfl rfl ?_
  refine x_iconst (pc := 2) C (v := (0 : Int32)) dX5_valuesOfPeople_2 rfl ?_
  refine x_istore_n (pc := 3) C 2 [(2, .int (0 : Int32)), (1, .int (0 : Int32)), (0, .ref (b + o))] dX5_valuesOfPeople_3 rfl (Nat.le_of_ble_eq_true rfl) rfl rfl ?_
  refine x_sub [2, 1, 0] rfl ?_
  obtain ⟨z_hz_1, hz_1, h⟩ := of_bd h
  refine l_X5_valuesOfPeople_4 C o hO S 400 _ _ hz_1 (fun v1_1 ez => ?_)
  subst z_hz_1
  refine x_iload_n (pc := 29) C 0 dX5_valuesOfPeople_29 rfl ?_
  exact x_ireturn (pc := 30) C dX5_valuesOfPeople_30 (of_s1 h) rfl
set_option maxRecDepth 100000 in
set_option maxHeartbeats 4000000 in
theorem c_X6_count {l : Launch} {G : zz_G} {L : Ly} {b : Nat} (p1 : Int32) (hO : isGu L) (S : Sg) (rf : Int32) (h : f_X6_count p1 S = some rf) : Met l yX6_count (Cond.code yX6_count cX6_count 2 (some .int) :: zz_all) (rmz 4 87) (PC G L b S [.ref (b + 0), .int p1]) (QC G L b S (some (.int rf)) True) 0 0 (fun q => b ≤ q) := by
  refine x_met [.ref (b + 0), .int p1] (by decide +kernel) (Nat.le_of_ble_eq_true rfl) fun p e s m args below meth c C => ?_
  unfold f_X6_count at h
  refine x_iload_n (pc := 0) C 1 dX6_count_0 rfl ?_
  by_cases c_1 : p1 = (0 : Int32)
  · replace h := of_ifp c_1 h
    refine x_tabIn (pc := 1) C 48 dX6_count_1 c_1 (by decide) (by decide) rfl rfl ?_
    refine x_aload_n (pc := 48) C 0 dX6_count_48 rfl ?_
    refine x_getr (pc := 49) C (k := 0) 1 hO.1 rfl rfl wd_149 dX6_count_49 (Nat.le_of_ble_eq_true rfl) rfl ?_
    refine x_geti (pc := 52) C (k := 9) hO.2.1.1 rfl rfl wd_74 dX6_count_52 ⟨Nat.le_of_ble_eq_true rfl, rfl⟩ ?_
    exact x_ireturn (pc := 55) C dX6_count_55 (of_s1 h) rfl
  replace h := of_ifn c_1 h
  by_cases c_2 : p1 = (1 : Int32)
  · replace h := of_ifp c_2 h
    refine x_tabIn (pc := 1) C 56 dX6_count_1 c_2 (by decide) (by decide) rfl rfl ?_
    refine x_aload_n (pc := 56) C 0 dX6_count_56 rfl ?_
    refine x_getr (pc := 57) C (k := 0) 1 hO.1 rfl rfl wd_149 dX6_count_57 (Nat.le_of_ble_eq_true rfl) rfl ?_
    refine x_geti (pc := 60) C (k := 4) hO.2.1.1 rfl rfl wd_65 dX6_count_60 ⟨Nat.le_of_ble_eq_true rfl, rfl⟩ ?_
    exact x_ireturn (pc := 63) C dX6_count_63 (of_s1 h) rfl
  replace h := of_ifn c_2 h
  by_cases c_3 : p1 = (2 : Int32)
  · replace h := of_ifp c_3 h
    refine x_tabIn (pc := 1) C 64 dX6_count_1 c_3 (by decide) (by decide) rfl rfl ?_
    refine x_aload_n (pc := 64) C 0 dX6_count_64 rfl ?_
    refine x_getr (pc := 65) C (k := 0) 1 hO.1 rfl rfl wd_149 dX6_count_65 (Nat.le_of_ble_eq_true rfl) rfl ?_
    refine x_geti (pc := 68) C (k := 5) hO.2.1.1 rfl rfl wd_67 dX6_count_68 ⟨Nat.le_of_ble_eq_true rfl, rfl⟩ ?_
    exact x_ireturn (pc := 71) C dX6_count_71 (of_s1 h) rfl
  replace h := of_ifn c_3 h
  by_cases c_4 : p1 = (3 : Int32)
  · replace h := of_ifp c_4 h
    refine x_tabIn (pc := 1) C 72 dX6_count_1 c_4 (by decide) (by decide) rfl rfl ?_
    refine x_aload_n (pc := 72) C 0 dX6_count_72 rfl ?_
    refine x_getr (pc := 73) C (k := 0) 1 hO.1 rfl rfl wd_149 dX6_count_73 (Nat.le_of_ble_eq_true rfl) rfl ?_
    refine x_geti (pc := 76) C (k := 6) hO.2.1.1 rfl rfl wd_69 dX6_count_76 ⟨Nat.le_of_ble_eq_true rfl, rfl⟩ ?_
    exact x_ireturn (pc := 79) C dX6_count_79 (of_s1 h) rfl
  replace h := of_ifn c_4 h
  by_cases c_5 : p1 = (4 : Int32)
  · replace h := of_ifp c_5 h
    refine x_tabIn (pc := 1) C 80 dX6_count_1 c_5 (by decide) (by decide) rfl rfl ?_
    refine x_aload_n (pc := 80) C 0 dX6_count_80 rfl ?_
    refine x_getr (pc := 81) C (k := 0) 1 hO.1 rfl rfl wd_149 dX6_count_81 (Nat.le_of_ble_eq_true rfl) rfl ?_
    obtain ⟨r_1, hc_1, h⟩ := of_bd h
    refine x_callV1 (pc := 84) C (o := 1) [] [] (c_X5_usedBits (b := b) 1 hO.2.1 S _ hc_1) cw_X6_278 vi_X5_usedBits ⟨rfl, rfl, Nat.le_of_ble_eq_true rfl, Nat.le_of_ble_eq_true rfl⟩ ⟨Nat.le_refl _, Nat.le_refl _⟩ hO.2.1.1 ⟨rfl, rfl, rfl⟩ rfl ⟨rfl, Nat.le_of_ble_eq_true rfl⟩ dX6_count_84 (fun hx_1 => ?_)
    exact x_ireturn (pc := 87) C dX6_count_87 (of_s1 h) rfl
  replace h := of_ifn c_5 h
  by_cases c_6 : p1 = (5 : Int32)
  · replace h := of_ifp c_6 h
    refine x_tabIn (pc := 1) C 88 dX6_count_1 c_6 (by decide) (by decide) rfl rfl ?_
    refine x_aload_n (pc := 88) C 0 dX6_count_88 rfl ?_
    refine x_getr (pc := 89) C (k := 0) 1 hO.1 rfl rfl wd_149 dX6_count_89 (Nat.le_of_ble_eq_true rfl) rfl ?_
    obtain ⟨r_2, hc_2, h⟩ := of_bd h
    refine x_callV1 (pc := 92) C (o := 1) [] [] (c_X5_valuesOfPeople (b := b) 1 hO.2.1 S _ hc_2) cw_X6_281 vi_X5_valuesOfPeople ⟨rfl, rfl, Nat.le_of_ble_eq_true rfl, Nat.le_of_ble_eq_true rfl⟩ ⟨Nat.le_refl _, Nat.le_refl _⟩ hO.2.1.1 ⟨rfl, rfl, rfl⟩ rfl ⟨rfl, Nat.le_of_ble_eq_true rfl⟩ dX6_count_92 (fun hx_2 => ?_)
    exact x_ireturn (pc := 95) C dX6_count_95 (of_s1 h) rfl
  replace h := of_ifn c_6 h
  by_cases c_7 : p1 = (6 : Int32)
  · replace h := of_ifp c_7 h
    refine x_tabIn (pc := 1) C 96 dX6_count_1 c_7 (by decide) (by decide) rfl rfl ?_
    refine x_aload_n (pc := 96) C 0 dX6_count_96 rfl ?_
    refine x_getr (pc := 97) C (k := 7) 137 hO.1 rfl rfl wd_156 dX6_count_97 (Nat.le_of_ble_eq_true rfl) rfl ?_
    refine x_geti (pc := 100) C (k := 0) hO.2.2.2.2.2.2.2.1.1 rfl rfl wd_142 dX6_count_100 ⟨Nat.le_of_ble_eq_true rfl, rfl⟩ ?_
    exact x_ireturn (pc := 103) C dX6_count_103 (of_s1 h) rfl
  replace h := of_ifn c_7 h
  by_cases c_8 : p1 = (7 : Int32)
  · replace h := of_ifp c_8 h
    refine x_tabIn (pc := 1) C 104 dX6_count_1 c_8 (by decide) (by decide) rfl rfl ?_
    refine x_aload_n (pc := 104) C 0 dX6_count_104 rfl ?_
    refine x_getr (pc := 105) C (k := 6) 135 hO.1 rfl rfl wd_155 dX6_count_105 (Nat.le_of_ble_eq_true rfl) rfl ?_
    refine x_geti (pc := 108) C (k := 0) hO.2.2.2.2.2.2.1.1 rfl rfl wd_142 dX6_count_108 ⟨Nat.le_of_ble_eq_true rfl, rfl⟩ ?_
    exact x_ireturn (pc := 111) C dX6_count_111 (of_s1 h) rfl
  replace h := of_ifn c_8 h
  refine x_tabOut (pc := 1) C 112 dX6_count_1 (by have := lv_neT c_1 (show ((0 : Int32)).toInt = 0 from rfl); have := lv_neT c_2 (show ((1 : Int32)).toInt = 1 from rfl); have := lv_neT c_3 (show ((2 : Int32)).toInt = 2 from rfl); have := lv_neT c_4 (show ((3 : Int32)).toInt = 3 from rfl); have := lv_neT c_5 (show ((4 : Int32)).toInt = 4 from rfl); have := lv_neT c_6 (show ((5 : Int32)).toInt = 5 from rfl); have := lv_neT c_7 (show ((6 : Int32)).toInt = 6 from rfl); have := lv_neT c_8 (show ((7 : Int32)).toInt = 7 from rfl); omega) rfl ?_
  refine x_iload_n (pc := 112) C 1 dX6_count_112 rfl ?_
  refine x_bipush (pc := 113) C (v := (11 : Int32)) dX6_count_113 rfl ?_
  refine x_isub (pc := 115) C dX6_count_115 ?_
  refine x_bipush (pc := 116) C (v := (6 : Int32)) dX6_count_116 rfl ?_
  refine x_callS1 (pc := 118) C [.int (p1 - (11 : Int32)), .int (6 : Int32)] [] (c_X6_isWithin (b := b) (p1 - (11 : Int32)) (6 : Int32) S) cw_X6_69 vs_X6_isWithin ⟨rfl, rfl, Nat.le_of_ble_eq_true rfl, Nat.le_of_ble_eq_true rfl⟩ ⟨Nat.le_refl _, Nat.le_refl _⟩ rfl ⟨rfl, Nat.le_of_ble_eq_true rfl⟩ dX6_count_118 (fun hx_3 => ?_)
  refine x_if_eq (pc := 121) C 136 dX6_count_121 rfl (fun c_9 => ?_) (fun c_9 => ?_)
  · replace h := of_ifp c_9 h
    refine x_bipush (pc := 136) C (v := (-9 : Int32)) dX6_count_136 rfl ?_
    exact x_ireturn (pc := 138) C dX6_count_138 (of_s1 h) rfl
  · replace h := of_ifn c_9 h
    refine x_aload_n (pc := 124) C 0 dX6_count_124 rfl ?_
    refine x_getr (pc := 125) C (k := 8) 139 hO.1 rfl rfl wd_157 dX6_count_125 (Nat.le_of_ble_eq_true rfl) rfl ?_
    refine x_iload_n (pc := 128) C 1 dX6_count_128 rfl ?_
    refine x_bipush (pc := 129) C (v := (11 : Int32)) dX6_count_129 rfl ?_
    refine x_isub (pc := 131) C dX6_count_131 ?_
    obtain ⟨g_1, h⟩ := of_gd h
    refine x_iaload (pc := 132) C hO.2.2.2.2.2.2.2.2 g_1 dX6_count_132 ?_
    refine x_goto (pc := 133) C 138 dX6_count_133 rfl ?_
    exact x_ireturn (pc := 138) C dX6_count_138 (of_s1 h) rfl
set_option maxRecDepth 100000 in
set_option maxHeartbeats 4000000 in
theorem l_X5_copyFrom_77 {p : Program} {l : Launch} {e : Env} {s : State} {m : MethodId} {args : Array Value} {below : List Frame} {meth : Method} {c : Code} {G : zz_G} {L : Ly} {b : Nat} {Q : State → Prop} (C : CX p G s m args meth c cX5_copyFrom yX5_copyFrom 3 none) (o : Nat) (o1 : Nat) (hO : isW L o) (h1 : isW L o1) : ∀ (n : Nat) (v2 : Int32) (S : Sg) {z}, L_X5_copyFrom_77 o o1 n v2 S = some z → (∀ (S_o : Sg), z = S_o → X p l e (rmz 2 48) s m args below meth c 0 0 Q 3 G L b S_o 108 [(0, .ref (b + o)), (1, .ref (b + o1))] []) → X p l e (rmz 2 48) s m args below meth c 0 0 Q 3 G L b S 77 [(0, .ref (b + o)), (1, .ref (b + o1)), (2, .int v2)] [] := by
  intro n
  induction n with
  | zero =>
    intro v2 S z h
    exact of_none h
  | succ n ih =>
    intro v2 S z h hx
    rw [L_X5_copyFrom_77] at h
    refine x_iload_n (pc := 77) C 2 dX5_copyFrom_77 rfl ?_
    refine x_bipush (pc := 78) C (v := (10 : Int32)) dX5_copyFrom_78 rfl ?_
    refine x_icmp_ge (pc := 80) C 108 dX5_copyFrom_80 rfl (fun c_1 => ?_) (fun c_1 => ?_)
    · replace h := of_ifn c_1 h
      exact x_sub [0, 1] rfl (hx _ (of_s1 h).symm)
    · replace h := of_ifp c_1 h
      refine x_aload_n (pc := 83) C 1 dX5_copyFrom_83 rfl ?_
      refine x_getr (pc := 84) C (k := 7) (o1 + 5) h1.1 rfl rfl wd_70 dX5_copyFrom_84 (Nat.le_of_ble_eq_true rfl) rfl ?_
      refine x_iload_n (pc := 87) C 2 dX5_copyFrom_87 rfl ?_
      obtain ⟨g_1, h⟩ := of_gd h
      refine x_aaloadI (pc := 88) C h1.2.2.2.2.2.1 g_1 dX5_copyFrom_88 ?_
      refine x_iconst (pc := 89) C (v := (0 : Int32)) dX5_copyFrom_89 rfl ?_
      refine x_aload_n (pc := 90) C 0 dX5_copyFrom_90 rfl ?_
      refine x_getr (pc := 91) C (k := 7) (o + 5) hO.1 rfl rfl wd_70 dX5_copyFrom_91 (Nat.le_of_ble_eq_true rfl) rfl ?_
      refine x_iload_n (pc := 94) C 2 dX5_copyFrom_94 rfl ?_
      refine x_aaloadI (pc := 95) C hO.2.2.2.2.2.1 g_1 dX5_copyFrom_95 ?_
      refine x_iconst (pc := 96) C (v := (0 : Int32)) dX5_copyFrom_96 rfl ?_
      refine x_bipush (pc := 97) C (v := (10 : Int32)) dX5_copyFrom_97 rfl ?_
      obtain ⟨S_1, eS_1, h⟩ := of_lt h
      refine x_acpI (pc := 99) C sysw_X5 (h1.2.2.2.2.2.2.1 _ (inb_lt (i := v2) g_1)) (hO.2.2.2.2.2.2.1 _ (inb_lt (i := v2) g_1)) (by decide) eS_1 ⟨Nat.le_of_ble_eq_true rfl, Nat.le_of_ble_eq_true rfl⟩ (Nat.le_of_ble_eq_true rfl) dX5_copyFrom_99 ?_
      obtain ⟨v2_1, ev2_1, h⟩ := of_lt h
      refine x_iinc (pc := 102) C (w := (1 : Int32)) 2 [(2, .int v2_1), (0, .ref (b + o)), (1, .ref (b + o1))] dX5_copyFrom_102 rfl rfl (Nat.le_of_ble_eq_true rfl) ev2_1 rfl ?_
      refine x_goto (pc := 105) C 77 dX5_copyFrom_105 rfl ?_
      exact x_sub [1, 2, 0] rfl (ih _ _ h hx)
set_option maxRecDepth 100000 in
set_option maxHeartbeats 4000000 in
theorem c_X5_copyFrom {l : Launch} {G : zz_G} {L : Ly} {b : Nat} (o : Nat) (o1 : Nat) (hO : isW L o) (h1 : isW L o1) (S : Sg) (Sf : Sg) (h : f_X5_copyFrom o o1 S = some Sf) : Met l yX5_copyFrom (Cond.code yX5_copyFrom cX5_copyFrom 3 none :: zz_all) (rmz 2 48) (PC G L b S [.ref (b + o), .ref (b + o1)]) (QC G L b Sf none True) 0 0 (fun q => b ≤ q) := by
  refine x_met [.ref (b + o), .ref (b + o1)] (by decide +kernel) (Nat.le_of_ble_eq_true rfl) fun p e s m args below meth c C => ?_
  unfold f_X5_copyFrom at h
  refine x_aload_n (pc := 0) C 1 dX5_copyFrom_0 rfl ?_
  refine x_getr (pc := 1) C (k := 0) (o1 + 1) h1.1 rfl rfl wd_59 dX5_copyFrom_1 (Nat.le_of_ble_eq_true rfl) rfl ?_
  refine x_iconst (pc := 4) C (v := (0 : Int32)) dX5_copyFrom_4 rfl ?_
  refine x_aload_n (pc := 5) C 0 dX5_copyFrom_5 rfl ?_
  refine x_getr (pc := 6) C (k := 0) (o + 1) hO.1 rfl rfl wd_59 dX5_copyFrom_6 (Nat.le_of_ble_eq_true rfl) rfl ?_
  refine x_iconst (pc := 9) C (v := (0 : Int32)) dX5_copyFrom_9 rfl ?_
  refine x_bipush (pc := 10) C (v := (8 : Int32)) dX5_copyFrom_10 rfl ?_
  obtain ⟨S_1, eS_1, h⟩ := of_lt h
  refine x_acpI (pc := 12) C sysw_X5 h1.2.1 hO.2.1 (by decide) eS_1 ⟨Nat.le_of_ble_eq_true rfl, Nat.le_of_ble_eq_true rfl⟩ (Nat.le_of_ble_eq_true rfl) dX5_copyFrom_12 ?_
  refine x_aload_n (pc := 15) C 1 dX5_copyFrom_15 rfl ?_
  refine x_getr (pc := 16) C (k := 1) (o1 + 2) h1.1 rfl rfl wd_60 dX5_copyFrom_16 (Nat.le_of_ble_eq_true rfl) rfl ?_
  refine x_iconst (pc := 19) C (v := (0 : Int32)) dX5_copyFrom_19 rfl ?_
  refine x_aload_n (pc := 20) C 0 dX5_copyFrom_20 rfl ?_
  refine x_getr (pc := 21) C (k := 1) (o + 2) hO.1 rfl rfl wd_60 dX5_copyFrom_21 (Nat.le_of_ble_eq_true rfl) rfl ?_
  refine x_iconst (pc := 24) C (v := (0 : Int32)) dX5_copyFrom_24 rfl ?_
  refine x_bipush (pc := 25) C (v := (10 : Int32)) dX5_copyFrom_25 rfl ?_
  obtain ⟨S_2, eS_2, h⟩ := of_lt h
  refine x_acpI (pc := 27) C sysw_X5 h1.2.2.1 hO.2.2.1 (by decide) eS_2 ⟨Nat.le_of_ble_eq_true rfl, Nat.le_of_ble_eq_true rfl⟩ (Nat.le_of_ble_eq_true rfl) dX5_copyFrom_27 ?_
  refine x_aload_n (pc := 30) C 1 dX5_copyFrom_30 rfl ?_
  refine x_getr (pc := 31) C (k := 2) (o1 + 3) h1.1 rfl rfl wd_61 dX5_copyFrom_31 (Nat.le_of_ble_eq_true rfl) rfl ?_
  refine x_iconst (pc := 34) C (v := (0 : Int32)) dX5_copyFrom_34 rfl ?_
  refine x_aload_n (pc := 35) C 0 dX5_copyFrom_35 rfl ?_
  refine x_getr (pc := 36) C (k := 2) (o + 3) hO.1 rfl rfl wd_61 dX5_copyFrom_36 (Nat.le_of_ble_eq_true rfl) rfl ?_
  refine x_iconst (pc := 39) C (v := (0 : Int32)) dX5_copyFrom_39 rfl ?_
  refine x_bipush (pc := 40) C (v := (10 : Int32)) dX5_copyFrom_40 rfl ?_
  obtain ⟨S_3, eS_3, h⟩ := of_lt h
  refine x_acpI (pc := 42) C sysw_X5 h1.2.2.2.1 hO.2.2.2.1 (by decide) eS_3 ⟨Nat.le_of_ble_eq_true rfl, Nat.le_of_ble_eq_true rfl⟩ (Nat.le_of_ble_eq_true rfl) dX5_copyFrom_42 ?_
  refine x_aload_n (pc := 45) C 1 dX5_copyFrom_45 rfl ?_
  refine x_getr (pc := 46) C (k := 3) (o1 + 4) h1.1 rfl rfl wd_62 dX5_copyFrom_46 (Nat.le_of_ble_eq_true rfl) rfl ?_
  refine x_iconst (pc := 49) C (v := (0 : Int32)) dX5_copyFrom_49 rfl ?_
  refine x_aload_n (pc := 50) C 0 dX5_copyFrom_50 rfl ?_
  refine x_getr (pc := 51) C (k := 3) (o + 4) hO.1 rfl rfl wd_62 dX5_copyFrom_51 (Nat.le_of_ble_eq_true rfl) rfl ?_
  refine x_iconst (pc := 54) C (v := (0 : Int32)) dX5_copyFrom_54 rfl ?_
  refine x_bipush (pc := 55) C (v := (10 : Int32)) dX5_copyFrom_55 rfl ?_
  obtain ⟨S_4, eS_4, h⟩ := of_lt h
  refine x_acpI (pc := 57) C sysw_X5 h1.2.2.2.2.1 hO.2.2.2.2.1 (by decide) eS_4 ⟨Nat.le_of_ble_eq_true rfl, Nat.le_of_ble_eq_true rfl⟩ (Nat.le_of_ble_eq_true rfl) dX5_copyFrom_57 ?_
  refine x_aload_n (pc := 60) C 1 dX5_copyFrom_60 rfl ?_
  refine x_getr (pc := 61) C (k := 8) (o1 + 16) h1.1 rfl rfl wd_71 dX5_copyFrom_61 (Nat.le_of_ble_eq_true rfl) rfl ?_
  refine x_iconst (pc := 64) C (v := (0 : Int32)) dX5_copyFrom_64 rfl ?_
  refine x_aload_n (pc := 65) C 0 dX5_copyFrom_65 rfl ?_
  refine x_getr (pc := 66) C (k := 8) (o + 16) hO.1 rfl rfl wd_71 dX5_copyFrom_66 (Nat.le_of_ble_eq_true rfl) rfl ?_
  refine x_iconst (pc := 69) C (v := (0 : Int32)) dX5_copyFrom_69 rfl ?_
  refine x_bipush (pc := 70) C (v := (10 : Int32)) dX5_copyFrom_70 rfl ?_
  obtain ⟨S_5, eS_5, h⟩ := of_lt h
  refine x_acpI (pc := 72) C sysw_X5 h1.2.2.2.2.2.2.2.1 hO.2.2.2.2.2.2.2.1 (by decide) eS_5 ⟨Nat.le_of_ble_eq_true rfl, Nat.le_of_ble_eq_true rfl⟩ (Nat.le_of_ble_eq_true rfl) dX5_copyFrom_72 ?_
  refine x_iconst (pc := 75) C (v := (0 : Int32)) dX5_copyFrom_75 rfl ?_
  refine x_istore_n (pc := 76) C 2 [(2, .int (0 : Int32)), (0, .ref (b + o)), (1, .ref (b + o1))] dX5_copyFrom_76 rfl (Nat.le_of_ble_eq_true rfl) rfl rfl ?_
  refine x_sub [1, 2, 0] rfl ?_
  obtain ⟨z_hz_1, hz_1, h⟩ := of_bd h
  refine l_X5_copyFrom_77 C o o1 hO h1 400 _ _ hz_1 (fun S_6 ez => ?_)
  subst z_hz_1
  refine x_aload_n (pc := 108) C 0 dX5_copyFrom_108 rfl ?_
  refine x_aload_n (pc := 109) C 1 dX5_copyFrom_109 rfl ?_
  refine x_geti (pc := 110) C (k := 4) h1.1 rfl rfl wd_63 dX5_copyFrom_110 ⟨Nat.le_of_ble_eq_true rfl, rfl⟩ ?_
  obtain ⟨S_7, eS_7, h⟩ := of_lt h
  refine x_puti (pc := 113) C (k := 4) hO.1 rfl rfl wd_63 dX5_copyFrom_113 ⟨Nat.le_of_ble_eq_true rfl, rfl⟩ eS_7 ?_
  refine x_aload_n (pc := 116) C 0 dX5_copyFrom_116 rfl ?_
  refine x_aload_n (pc := 117) C 1 dX5_copyFrom_117 rfl ?_
  refine x_geti (pc := 118) C (k := 5) h1.1 rfl rfl wd_66 dX5_copyFrom_118 ⟨Nat.le_of_ble_eq_true rfl, rfl⟩ ?_
  obtain ⟨S_8, eS_8, h⟩ := of_lt h
  refine x_puti (pc := 121) C (k := 5) hO.1 rfl rfl wd_66 dX5_copyFrom_121 ⟨Nat.le_of_ble_eq_true rfl, rfl⟩ eS_8 ?_
  refine x_aload_n (pc := 124) C 0 dX5_copyFrom_124 rfl ?_
  refine x_aload_n (pc := 125) C 1 dX5_copyFrom_125 rfl ?_
  refine x_geti (pc := 126) C (k := 6) h1.1 rfl rfl wd_68 dX5_copyFrom_126 ⟨Nat.le_of_ble_eq_true rfl, rfl⟩ ?_
  obtain ⟨S_9, eS_9, h⟩ := of_lt h
  refine x_puti (pc := 129) C (k := 6) hO.1 rfl rfl wd_68 dX5_copyFrom_129 ⟨Nat.le_of_ble_eq_true rfl, rfl⟩ eS_9 ?_
  refine x_aload_n (pc := 132) C 0 dX5_copyFrom_132 rfl ?_
  refine x_aload_n (pc := 133) C 1 dX5_copyFrom_133 rfl ?_
  refine x_geti (pc := 134) C (k := 9) h1.1 rfl rfl wd_73 dX5_copyFrom_134 ⟨Nat.le_of_ble_eq_true rfl, rfl⟩ ?_
  obtain ⟨S_10, eS_10, h⟩ := of_lt h
  refine x_puti (pc := 137) C (k := 9) hO.1 rfl rfl wd_73 dX5_copyFrom_137 ⟨Nat.le_of_ble_eq_true rfl, rfl⟩ eS_10 ?_
  refine x_aload_n (pc := 140) C 0 dX5_copyFrom_140 rfl ?_
  refine x_getr (pc := 141) C (k := 10) (o + 17) hO.1 rfl rfl wd_75 dX5_copyFrom_141 (Nat.le_of_ble_eq_true rfl) rfl ?_
  refine x_aload_n (pc := 144) C 1 dX5_copyFrom_144 rfl ?_
  refine x_getr (pc := 145) C (k := 10) (o1 + 17) h1.1 rfl rfl wd_75 dX5_copyFrom_145 (Nat.le_of_ble_eq_true rfl) rfl ?_
  obtain ⟨S_11, hc_1, h⟩ := of_bd h
  refine x_callV_ (pc := 148) C (o := (o + 17)) [.ref (b + (o1 + 17))] [] (c_X4_copyFrom (b := b) (o + 17) (o1 + 17) hO.2.2.2.2.2.2.2.2.1 h1.2.2.2.2.2.2.2.2.1 S_10 _ hc_1) cw_X5_68 vi_X4_copyFrom ⟨rfl, rfl, Nat.le_of_ble_eq_true rfl, Nat.le_of_ble_eq_true rfl⟩ ⟨Nat.le_refl _, Nat.le_refl _⟩ hO.2.2.2.2.2.2.2.2.1.1 ⟨rfl, rfl, rfl⟩ rfl ⟨rfl, Nat.le_of_ble_eq_true rfl⟩ dX5_copyFrom_148 (fun hx_1 => ?_)
  exact x_vreturn (pc := 151) C dX5_copyFrom_151 (of_s1 h)
set_option maxRecDepth 100000 in
set_option maxHeartbeats 4000000 in
theorem c_X6_image {l : Launch} {G : zz_G} {L : Ly} {b : Nat} (hO : isGu L) (S : Sg) (rf : Int32) (Sf : Sg) (h : f_X6_image S = some (rf, Sf)) : Met l yX6_image (Cond.code yX6_image cX6_image 1 (some .int) :: zz_all) (rmz 3 70) (PC G L b S [.ref (b + 0)]) (QC G L b Sf (some (.int rf)) True) 0 0 (fun q => b ≤ q) := by
  refine x_met [.ref (b + 0)] (by decide +kernel) (Nat.le_of_ble_eq_true rfl) fun p e s m args below meth c C => ?_
  unfold f_X6_image at h
  refine x_aload_n (pc := 0) C 0 dX6_image_0 rfl ?_
  refine x_getr (pc := 1) C (k := 2) 87 hO.1 rfl rfl wd_151 dX6_image_1 (Nat.le_of_ble_eq_true rfl) rfl ?_
  refine x_aload_n (pc := 4) C 0 dX6_image_4 rfl ?_
  refine x_getr (pc := 5) C (k := 0) 1 hO.1 rfl rfl wd_149 dX6_image_5 (Nat.le_of_ble_eq_true rfl) rfl ?_
  obtain ⟨S_1, hc_1, h⟩ := of_bd h
  refine x_callV_ (pc := 8) C (o := 87) [.ref (b + 1)] [] (c_X5_copyFrom (b := b) 87 1 hO.2.2.2.1 hO.2.1 S _ hc_1) cw_X6_56 vi_X5_copyFrom ⟨rfl, rfl, Nat.le_of_ble_eq_true rfl, Nat.le_of_ble_eq_true rfl⟩ ⟨Nat.le_refl _, Nat.le_refl _⟩ hO.2.2.2.1.1 ⟨rfl, rfl, rfl⟩ rfl ⟨rfl, Nat.le_of_ble_eq_true rfl⟩ dX6_image_8 (fun hx_1 => ?_)
  refine x_aload_n (pc := 11) C 0 dX6_image_11 rfl ?_
  refine x_iconst (pc := 12) C (v := (1 : Int32)) dX6_image_12 rfl ?_
  obtain ⟨S_2, eS_2, h⟩ := of_lt h
  refine x_putz (pc := 13) C (k := 3) hO.1 rfl rfl wd_152 dX6_image_13 ⟨Nat.le_of_ble_eq_true rfl, rfl⟩ (isb_of (by decide)) eS_2 ?_
  refine x_aload_n (pc := 16) C 0 dX6_image_16 rfl ?_
  refine x_getr (pc := 17) C (k := 0) 1 hO.1 rfl rfl wd_149 dX6_image_17 (Nat.le_of_ble_eq_true rfl) rfl ?_
  refine x_geti (pc := 20) C (k := 9) hO.2.1.1 rfl rfl wd_74 dX6_image_20 ⟨Nat.le_of_ble_eq_true rfl, rfl⟩ ?_
  exact x_ireturn (pc := 23) C dX6_image_23 (of_sp h).1 (of_sp h).2
set_option maxRecDepth 100000 in
set_option maxHeartbeats 4000000 in
theorem c_X6_on {l : Launch} {G : zz_G} {L : Ly} {b : Nat} (hO : isGu L) (S : Sg) (rf : Int32) (Sf : Sg) (h : f_X6_on S = some (rf, Sf)) : Met l yX6_on (Cond.code yX6_on cX6_on 1 (some .int) :: zz_all) (rmz 3 70) (PC G L b S [.ref (b + 0)]) (QC G L b Sf (some (.int rf)) True) 0 0 (fun q => b ≤ q) := by
  refine x_met [.ref (b + 0)] (by decide +kernel) (Nat.le_of_ble_eq_true rfl) fun p e s m args below meth c C => ?_
  unfold f_X6_on at h
  refine x_aload_n (pc := 0) C 0 dX6_on_0 rfl ?_
  refine x_geti (pc := 1) C (k := 3) hO.1 rfl rfl wd_152 dX6_on_1 ⟨Nat.le_of_ble_eq_true rfl, rfl⟩ ?_
  refine x_if_ne (pc := 4) C 14 dX6_on_4 rfl (fun c_1 => ?_) (fun c_1 => ?_)
  · replace h := of_ifn c_1 h
    refine x_aload_n (pc := 14) C 0 dX6_on_14 rfl ?_
    refine x_getr (pc := 15) C (k := 0) 1 hO.1 rfl rfl wd_149 dX6_on_15 (Nat.le_of_ble_eq_true rfl) rfl ?_
    refine x_aload_n (pc := 18) C 0 dX6_on_18 rfl ?_
    refine x_getr (pc := 19) C (k := 2) 87 hO.1 rfl rfl wd_151 dX6_on_19 (Nat.le_of_ble_eq_true rfl) rfl ?_
    obtain ⟨S_1, hc_1, h⟩ := of_bd h
    refine x_callV_ (pc := 22) C (o := 1) [.ref (b + 87)] [] (c_X5_copyFrom (b := b) 1 87 hO.2.1 hO.2.2.2.1 S _ hc_1) cw_X6_56 vi_X5_copyFrom ⟨rfl, rfl, Nat.le_of_ble_eq_true rfl, Nat.le_of_ble_eq_true rfl⟩ ⟨Nat.le_refl _, Nat.le_refl _⟩ hO.2.1.1 ⟨rfl, rfl, rfl⟩ rfl ⟨rfl, Nat.le_of_ble_eq_true rfl⟩ dX6_on_22 (fun hx_1 => ?_)
    refine x_aload_n (pc := 25) C 0 dX6_on_25 rfl ?_
    refine x_getr (pc := 26) C (k := 0) 1 hO.1 rfl rfl wd_149 dX6_on_26 (Nat.le_of_ble_eq_true rfl) rfl ?_
    refine x_geti (pc := 29) C (k := 9) hO.2.1.1 rfl rfl wd_74 dX6_on_29 ⟨Nat.le_of_ble_eq_true rfl, rfl⟩ ?_
    exact x_ireturn (pc := 32) C dX6_on_32 (of_sp h).1 (of_sp h).2
  · replace h := of_ifp c_1 h
    refine x_aload_n (pc := 7) C 0 dX6_on_7 rfl ?_
    refine x_bipush (pc := 8) C (v := (-3 : Int32)) dX6_on_8 rfl ?_
    obtain ⟨⟨r_1, S_2⟩, hc_2, h⟩ := of_bd h
    replace h := of_u2 h
    refine x_callV1 (pc := 10) C (o := 0) [.int (-3 : Int32)] [] (c_X6_refuse (b := b) (-3 : Int32) hO S _ _ hc_2) cw_X6_73 vi_X6_refuse ⟨rfl, rfl, Nat.le_of_ble_eq_true rfl, Nat.le_of_ble_eq_true rfl⟩ ⟨Nat.le_refl _, Nat.le_refl _⟩ hO.1 ⟨rfl, rfl, rfl⟩ rfl ⟨rfl, Nat.le_of_ble_eq_true rfl⟩ dX6_on_10 (fun hx_2 => ?_)
    exact x_ireturn (pc := 13) C dX6_on_13 (of_sp h).1 (of_sp h).2
set_option maxRecDepth 100000 in
set_option maxHeartbeats 4000000 in
theorem c_X6_person {l : Launch} {G : zz_G} {L : Ly} {b : Nat} (p1 : Int32) (p2 : Int32) (hO : isGu L) (S : Sg) (rf : Int32) (Sf : Sg) (h : f_X6_person p1 p2 S = some (rf, Sf)) : Met l yX6_person (Cond.code yX6_person cX6_person 4 (some .int) :: zz_all) (rmz 3 65) (PC G L b S [.ref (b + 0), .int p1, .int p2]) (QC G L b Sf (some (.int rf)) True) 0 0 (fun q => b ≤ q) := by
  refine x_met [.ref (b + 0), .int p1, .int p2] (by decide +kernel) (Nat.le_of_ble_eq_true rfl) fun p e s m args below meth c C => ?_
  unfold f_X6_person at h
  refine x_iload_n (pc := 0) C 1 dX6_person_0 rfl ?_
  refine x_bipush (pc := 1) C (v := (8 : Int32)) dX6_person_1 rfl ?_
  refine x_callS1 (pc := 3) C [.int p1, .int (8 : Int32)] [] (c_X6_isWithin (b := b) p1 (8 : Int32) S) cw_X6_69 vs_X6_isWithin ⟨rfl, rfl, Nat.le_of_ble_eq_true rfl, Nat.le_of_ble_eq_true rfl⟩ ⟨Nat.le_refl _, Nat.le_refl _⟩ rfl ⟨rfl, Nat.le_of_ble_eq_true rfl⟩ dX6_person_3 (fun hx_1 => ?_)
  refine x_if_ne (pc := 6) C 15 dX6_person_6 rfl (fun c_1 => ?_) (fun c_1 => ?_)
  · replace h := of_ifn c_1 h
    refine x_iload_n (pc := 15) C 2 dX6_person_15 rfl ?_
    refine x_iconst (pc := 16) C (v := (3 : Int32)) dX6_person_16 rfl ?_
    refine x_callS1 (pc := 17) C [.int p2, .int (3 : Int32)] [] (c_X6_isWithin (b := b) p2 (3 : Int32) S) cw_X6_69 vs_X6_isWithin ⟨rfl, rfl, Nat.le_of_ble_eq_true rfl, Nat.le_of_ble_eq_true rfl⟩ ⟨Nat.le_refl _, Nat.le_refl _⟩ rfl ⟨rfl, Nat.le_of_ble_eq_true rfl⟩ dX6_person_17 (fun hx_2 => ?_)
    refine x_if_ne (pc := 20) C 30 dX6_person_20 rfl (fun c_2 => ?_) (fun c_2 => ?_)
    · replace h := of_ifn c_2 h
      refine x_aload_n (pc := 30) C 0 dX6_person_30 rfl ?_
      refine x_getr (pc := 31) C (k := 0) 1 hO.1 rfl rfl wd_149 dX6_person_31 (Nat.le_of_ble_eq_true rfl) rfl ?_
      refine x_iload_n (pc := 34) C 1 dX6_person_34 rfl ?_
      obtain ⟨r_1, hc_1, h⟩ := of_bd h
      refine x_callV1 (pc := 35) C (o := 1) [.int p1] [] (c_X5_variableOf (b := b) 1 p1 hO.2.1 S _ hc_1) cw_X6_77 vi_X5_variableOf ⟨rfl, rfl, Nat.le_of_ble_eq_true rfl, Nat.le_of_ble_eq_true rfl⟩ ⟨Nat.le_refl _, Nat.le_refl _⟩ hO.2.1.1 ⟨rfl, rfl, rfl⟩ rfl ⟨rfl, Nat.le_of_ble_eq_true rfl⟩ dX6_person_35 (fun hx_3 => ?_)
      refine x_istore_n (pc := 38) C 3 [(3, .int r_1), (0, .ref (b + 0)), (1, .int p1), (2, .int p2)] dX6_person_38 rfl (Nat.le_of_ble_eq_true rfl) rfl rfl ?_
      refine x_iload_n (pc := 39) C 3 dX6_person_39 rfl ?_
      refine x_if_ne (pc := 40) C 54 dX6_person_40 rfl (fun c_3 => ?_) (fun c_3 => ?_)
      · replace h := of_ifn c_3 h
        refine x_iload_n (pc := 54) C 3 dX6_person_54 rfl ?_
        refine x_iconst (pc := 55) C (v := (1 : Int32)) dX6_person_55 rfl ?_
        refine x_icmp_ne (pc := 56) C 63 dX6_person_56 rfl (fun c_4 => ?_) (fun c_4 => ?_)
        · replace h := of_ifn c_4 h
          refine x_aload_n (pc := 63) C 1 dX6_person_63 rfl ?_
          refine x_getr (pc := 64) C (k := 0) 1 hO.1 rfl rfl wd_149 dX6_person_64 (Nat.le_of_ble_eq_true rfl) rfl ?_
          refine x_iload_n (pc := 67) C 0 dX6_person_67 rfl ?_
          obtain ⟨r_2, hc_2, h⟩ := of_bd h
          refine x_callV1 (pc := 68) C (o := 1) [.int r_1] [] (c_X5_isFree (b := b) 1 r_1 hO.2.1 S _ hc_2) cw_X6_83 vi_X5_isFree ⟨rfl, rfl, Nat.le_of_ble_eq_true rfl, Nat.le_of_ble_eq_true rfl⟩ ⟨Nat.le_refl _, Nat.le_refl _⟩ hO.2.1.1 ⟨rfl, rfl, rfl⟩ rfl ⟨rfl, Nat.le_of_ble_eq_true rfl⟩ dX6_person_68 (fun hx_4 => ?_)
          refine x_callS1 (pc := 71) C [.int r_2] [] (c_X6_asNumber (b := b) r_2 S) cw_X6_87 vs_X6_asNumber ⟨rfl, rfl, Nat.le_of_ble_eq_true rfl, Nat.le_of_ble_eq_true rfl⟩ ⟨Nat.le_refl _, Nat.le_refl _⟩ rfl ⟨rfl, Nat.le_of_ble_eq_true rfl⟩ dX6_person_71 (fun hx_5 => ?_)
          exact x_ireturn (pc := 74) C dX6_person_74 (of_sp h).1 (of_sp h).2
        · replace h := of_ifp c_4 h
          refine x_iload_n (pc := 59) C 0 dX6_person_59 rfl ?_
          refine x_goto (pc := 60) C 74 dX6_person_60 rfl ?_
          exact x_ireturn (pc := 74) C dX6_person_74 (of_sp h).1 (of_sp h).2
      · replace h := of_ifp c_3 h
        refine x_aload_n (pc := 43) C 1 dX6_person_43 rfl ?_
        refine x_getr (pc := 44) C (k := 0) 1 hO.1 rfl rfl wd_149 dX6_person_44 (Nat.le_of_ble_eq_true rfl) rfl ?_
        refine x_iload_n (pc := 47) C 0 dX6_person_47 rfl ?_
        obtain ⟨r_3, hc_3, h⟩ := of_bd h
        refine x_callV1 (pc := 48) C (o := 1) [.int r_1] [] (c_X5_valueOf (b := b) 1 r_1 hO.2.1 S _ hc_3) cw_X6_80 vi_X5_valueOf ⟨rfl, rfl, Nat.le_of_ble_eq_true rfl, Nat.le_of_ble_eq_true rfl⟩ ⟨Nat.le_refl _, Nat.le_refl _⟩ hO.2.1.1 ⟨rfl, rfl, rfl⟩ rfl ⟨rfl, Nat.le_of_ble_eq_true rfl⟩ dX6_person_48 (fun hx_6 => ?_)
        refine x_goto (pc := 51) C 74 dX6_person_51 rfl ?_
        exact x_ireturn (pc := 74) C dX6_person_74 (of_sp h).1 (of_sp h).2
    · replace h := of_ifp c_2 h
      refine x_aload_n (pc := 23) C 0 dX6_person_23 rfl ?_
      refine x_bipush (pc := 24) C (v := (-2 : Int32)) dX6_person_24 rfl ?_
      obtain ⟨⟨r_4, S_1⟩, hc_4, h⟩ := of_bd h
      replace h := of_u2 h
      refine x_callV1 (pc := 26) C (o := 0) [.int (-2 : Int32)] [] (c_X6_refuse (b := b) (-2 : Int32) hO S _ _ hc_4) cw_X6_73 vi_X6_refuse ⟨rfl, rfl, Nat.le_of_ble_eq_true rfl, Nat.le_of_ble_eq_true rfl⟩ ⟨Nat.le_refl _, Nat.le_refl _⟩ hO.1 ⟨rfl, rfl, rfl⟩ rfl ⟨rfl, Nat.le_of_ble_eq_true rfl⟩ dX6_person_26 (fun hx_7 => ?_)
      exact x_ireturn (pc := 29) C dX6_person_29 (of_sp h).1 (of_sp h).2
  · replace h := of_ifp c_1 h
    refine x_aload_n (pc := 9) C 0 dX6_person_9 rfl ?_
    refine x_iconst (pc := 10) C (v := (-1 : Int32)) dX6_person_10 rfl ?_
    obtain ⟨⟨r_5, S_2⟩, hc_5, h⟩ := of_bd h
    replace h := of_u2 h
    refine x_callV1 (pc := 11) C (o := 0) [.int (-1 : Int32)] [] (c_X6_refuse (b := b) (-1 : Int32) hO S _ _ hc_5) cw_X6_73 vi_X6_refuse ⟨rfl, rfl, Nat.le_of_ble_eq_true rfl, Nat.le_of_ble_eq_true rfl⟩ ⟨Nat.le_refl _, Nat.le_refl _⟩ hO.1 ⟨rfl, rfl, rfl⟩ rfl ⟨rfl, Nat.le_of_ble_eq_true rfl⟩ dX6_person_11 (fun hx_8 => ?_)
    exact x_ireturn (pc := 14) C dX6_person_14 (of_sp h).1 (of_sp h).2
set_option maxRecDepth 100000 in
set_option maxHeartbeats 4000000 in
theorem c_X6_pivots {l : Launch} {G : zz_G} {L : Ly} {b : Nat} (hO : isGu L) (S : Sg) : Met l yX6_pivots (Cond.code yX6_pivots cX6_pivots 1 (some .int) :: zz_all) (rmz 0 0) (PC G L b S [.ref (b + 0)]) (QC G L b S (some (.int (f_X6_pivots S))) True) 0 0 (fun q => b ≤ q) := by
  refine x_met [.ref (b + 0)] (by decide +kernel) (Nat.le_of_ble_eq_true rfl) fun p e s m args below meth c C => ?_
  generalize h : f_X6_pivots S = rf
  unfold f_X6_pivots at h
  refine x_aload_n (pc := 0) C 0 dX6_pivots_0 rfl ?_
  refine x_getr (pc := 1) C (k := 0) 1 hO.1 rfl rfl wd_149 dX6_pivots_1 (Nat.le_of_ble_eq_true rfl) rfl ?_
  refine x_getr (pc := 4) C (k := 10) (1 + 17) hO.2.1.1 rfl rfl wd_76 dX6_pivots_4 (Nat.le_of_ble_eq_true rfl) rfl ?_
  refine x_geti (pc := 7) C (k := 2) hO.2.1.2.2.2.2.2.2.2.2.1.1 rfl rfl wd_49 dX6_pivots_7 ⟨Nat.le_of_ble_eq_true rfl, rfl⟩ ?_
  exact x_ireturn (pc := 10) C dX6_pivots_10 h rfl
set_option maxRecDepth 100000 in
set_option maxHeartbeats 4000000 in
theorem l_X4_pivotOf_4 {p : Program} {l : Launch} {e : Env} {s : State} {m : MethodId} {args : Array Value} {below : List Frame} {meth : Method} {c : Code} {G : zz_G} {L : Ly} {b : Nat} (C : CX p G s m args meth c cX4_pivotOf yX4_pivotOf 4 (some .int)) (o : Nat) (hO : isSp L o) (v1 : Int32) (S : Sg) (rf : Int32) : ∀ (n : Nat) (v2 : Int32) (v3 : Int32) {z}, L_X4_pivotOf_4 o v1 S n v2 v3 = some z → (∀ q, z = .inl q → q = rf) → (z = .inr () → X p l e (rmz 0 0) s m args below meth c 0 0 (RQ G L b S below args s (some (.int rf)) True) 4 G L b S 38 [] []) → X p l e (rmz 0 0) s m args below meth c 0 0 (RQ G L b S below args s (some (.int rf)) True) 4 G L b S 4 [(0, .ref (b + o)), (1, .int v1), (2, .int v2), (3, .int v3)] [] := by
  intro n
  induction n with
  | zero =>
    intro v2 v3 z h
    exact of_none h
  | succ n ih =>
    intro v2 v3 z h hr hx
    rw [L_X4_pivotOf_4] at h
    refine x_iload_n (pc := 4) C 3 dX4_pivotOf_4 rfl ?_
    refine x_bipush (pc := 5) C (v := (10 : Int32)) dX4_pivotOf_5 rfl ?_
    refine x_icmp_ge (pc := 7) C 38 dX4_pivotOf_7 rfl (fun c_1 => ?_) (fun c_1 => ?_)
    · replace h := of_ifn c_1 h
      exact x_sub [] rfl (hx (of_s1 h).symm)
    · replace h := of_ifp c_1 h
      refine x_aload_n (pc := 10) C 0 dX4_pivotOf_10 rfl ?_
      refine x_geti (pc := 11) C (k := 2) hO.1 rfl rfl wd_48 dX4_pivotOf_11 ⟨Nat.le_of_ble_eq_true rfl, rfl⟩ ?_
      refine x_iload_n (pc := 14) C 3 dX4_pivotOf_14 rfl ?_
      refine x_ishr (pc := 15) C dX4_pivotOf_15 ?_
      refine x_iconst (pc := 16) C (v := (1 : Int32)) dX4_pivotOf_16 rfl ?_
      refine x_iand (pc := 17) C dX4_pivotOf_17 ?_
      refine x_iconst (pc := 18) C (v := (1 : Int32)) dX4_pivotOf_18 rfl ?_
      refine x_icmp_ne (pc := 19) C 32 dX4_pivotOf_19 rfl (fun c_2 => ?_) (fun c_2 => ?_)
      · replace h := of_ifn c_2 h
        obtain ⟨v3_1, ev3_1, h⟩ := of_lt h
        refine x_iinc (pc := 32) C (w := (1 : Int32)) 3 [(3, .int v3_1), (0, .ref (b + o)), (1, .int v1), (2, .int v2)] dX4_pivotOf_32 rfl rfl (Nat.le_of_ble_eq_true rfl) ev3_1 rfl ?_
        refine x_goto (pc := 35) C 4 dX4_pivotOf_35 rfl ?_
        exact x_sub [1, 2, 3, 0] rfl (ih _ _ h hr hx)
      · replace h := of_ifp c_2 h
        refine x_iload_n (pc := 22) C 2 dX4_pivotOf_22 rfl ?_
        refine x_iload_n (pc := 23) C 1 dX4_pivotOf_23 rfl ?_
        refine x_icmp_ne (pc := 24) C 29 dX4_pivotOf_24 rfl (fun c_3 => ?_) (fun c_3 => ?_)
        · replace h := of_ifn c_3 h
          obtain ⟨v2_1, ev2_1, h⟩ := of_lt h
          refine x_iinc (pc := 29) C (w := (1 : Int32)) 2 [(2, .int v2_1), (0, .ref (b + o)), (1, .int v1), (3, .int v3)] dX4_pivotOf_29 rfl rfl (Nat.le_of_ble_eq_true rfl) ev2_1 rfl ?_
          obtain ⟨v3_2, ev3_2, h⟩ := of_lt h
          refine x_iinc (pc := 32) C (w := (1 : Int32)) 3 [(3, .int v3_2), (2, .int v2_1), (0, .ref (b + o)), (1, .int v1)] dX4_pivotOf_32 rfl rfl (Nat.le_of_ble_eq_true rfl) ev3_2 rfl ?_
          refine x_goto (pc := 35) C 4 dX4_pivotOf_35 rfl ?_
          exact x_sub [2, 3, 1, 0] rfl (ih _ _ h hr hx)
        · replace h := of_ifp c_3 h
          refine x_iload_n (pc := 27) C 3 dX4_pivotOf_27 rfl ?_
          have hq := hr _ (of_s1 h).symm
          exact x_ireturn (pc := 28) C dX4_pivotOf_28 hq rfl
set_option maxRecDepth 100000 in
set_option maxHeartbeats 4000000 in
theorem c_X4_pivotOf {l : Launch} {G : zz_G} {L : Ly} {b : Nat} (o : Nat) (p1 : Int32) (hO : isSp L o) (S : Sg) (rf : Int32) (h : f_X4_pivotOf o p1 S = some rf) : Met l yX4_pivotOf (Cond.code yX4_pivotOf cX4_pivotOf 4 (some .int) :: zz_all) (rmz 0 0) (PC G L b S [.ref (b + o), .int p1]) (QC G L b S (some (.int rf)) True) 0 0 (fun q => b ≤ q) := by
  refine x_met [.ref (b + o), .int p1] (by decide +kernel) (Nat.le_of_ble_eq_true rfl) fun p e s m args below meth c C => ?_
  unfold f_X4_pivotOf at h
  refine x_iconst (pc := 0) C (v := (0 : Int32)) dX4_pivotOf_0 rfl ?_
  refine x_istore_n (pc := 1) C 2 [(2, .int (0 : Int32)), (0, .ref (b + o)), (1, .int p1)] dX4_pivotOf_1 rfl (Nat.le_of_ble_eq_true rfl) rfl rfl ?_
  refine x_iconst (pc := 2) C (v := (0 : Int32)) dX4_pivotOf_2 rfl ?_
  refine x_istore_n (pc := 3) C 3 [(3, .int (0 : Int32)), (2, .int (0 : Int32)), (0, .ref (b + o)), (1, .int p1)] dX4_pivotOf_3 rfl (Nat.le_of_ble_eq_true rfl) rfl rfl ?_
  refine x_sub [2, 3, 1, 0] rfl ?_
  obtain ⟨z_hz_1, hz_1, hl, hrr⟩ := of_bs h
  refine l_X4_pivotOf_4 C o hO p1 S rf 400 _ _ hz_1 (fun q ez => of_s1 (hl _ ez)) (fun ez => ?_)
  replace h := hrr _ ez
  clear hl hrr
  refine x_bipush (pc := 38) C (v := (-9 : Int32)) dX4_pivotOf_38 rfl ?_
  exact x_ireturn (pc := 40) C dX4_pivotOf_40 (of_s1 h) rfl
set_option maxRecDepth 100000 in
set_option maxHeartbeats 4000000 in
theorem l_X6_greatestDivisor_9 {p : Program} {l : Launch} {e : Env} {s : State} {m : MethodId} {args : Array Value} {below : List Frame} {meth : Method} {c : Code} {G : zz_G} {L : Ly} {b : Nat} {Q : State → Prop} (C : CX p G s m args meth c cX6_greatestDivisor yX6_greatestDivisor 11 (some .long)) (S : Sg) : ∀ (n : Nat) (v4 : Int64) (v6 : Int64) (v8 : Int32) {z}, L_X6_greatestDivisor_9 n v4 v6 v8 = some z → (∀ (v4_o : Int64), z = v4_o → X p l e (rmz 0 0) s m args below meth c 0 0 Q 11 G L b S 45 [(4, .long v4_o)] []) → X p l e (rmz 0 0) s m args below meth c 0 0 Q 11 G L b S 9 [(4, .long v4), (6, .long v6), (8, .int v8)] [] := by
  intro n
  induction n with
  | zero =>
    intro v4 v6 v8 z h
    exact of_none h
  | succ n ih =>
    intro v4 v6 v8 z h hx
    rw [L_X6_greatestDivisor_9] at h
    refine x_iload (pc := 9) C 2 dX6_greatestDivisor_9 rfl ?_
    refine x_sipush (pc := 11) C (v := (200 : Int32)) dX6_greatestDivisor_11 rfl ?_
    refine x_icmp_ge (pc := 14) C 45 dX6_greatestDivisor_14 rfl (fun c_1 => ?_) (fun c_1 => ?_)
    · replace h := of_ifn c_1 h
      exact x_sub [0] rfl (hx _ (of_s1 h).symm)
    · replace h := of_ifp c_1 h
      refine x_lload (pc := 17) C 1 dX6_greatestDivisor_17 rfl ?_
      refine x_lconst (pc := 19) C (v := (0 : Int64)) dX6_greatestDivisor_19 rfl ?_
      refine x_lcmp_eq (pc := 20) C 45 dX6_greatestDivisor_20 dX6_greatestDivisor_21 rfl (fun c_2 => ?_) (fun c_2 => ?_)
      · replace h := of_ifp c_2 h
        exact x_sub [0] rfl (hx _ (of_s1 h).symm)
      · replace h := of_ifn c_2 h
        refine x_lload (pc := 24) C 0 dX6_greatestDivisor_24 rfl ?_
        refine x_lload (pc := 26) C 1 dX6_greatestDivisor_26 rfl ?_
        obtain ⟨g_1, h⟩ := of_gd h
        refine x_lrem (pc := 28) C dX6_greatestDivisor_28 g_1 ?_
        obtain ⟨v9_1, ev9_1, h⟩ := of_lt h
        refine x_lstore (pc := 29) C [(9, .long v9_1), (4, .long v4), (6, .long v6), (8, .int v8)] dX6_greatestDivisor_29 (Nat.le_of_ble_eq_true rfl) ev9_1 rfl ?_
        refine x_lload (pc := 31) C 2 dX6_greatestDivisor_31 rfl ?_
        refine x_lstore (pc := 33) C [(4, .long v6), (9, .long v9_1), (6, .long v6), (8, .int v8)] dX6_greatestDivisor_33 (Nat.le_of_ble_eq_true rfl) rfl rfl ?_
        refine x_lload (pc := 35) C 1 dX6_greatestDivisor_35 rfl ?_
        refine x_lstore (pc := 37) C [(6, .long v9_1), (4, .long v6), (9, .long v9_1), (8, .int v8)] dX6_greatestDivisor_37 (Nat.le_of_ble_eq_true rfl) rfl rfl ?_
        obtain ⟨v8_1, ev8_1, h⟩ := of_lt h
        refine x_iinc (pc := 39) C (w := (1 : Int32)) 3 [(8, .int v8_1), (6, .long v9_1), (4, .long v6), (9, .long v9_1)] dX6_greatestDivisor_39 rfl rfl (Nat.le_of_ble_eq_true rfl) ev8_1 rfl ?_
        refine x_goto (pc := 42) C 9 dX6_greatestDivisor_42 rfl ?_
        exact x_sub [2, 1, 0] rfl (ih _ _ _ h hx)
set_option maxRecDepth 100000 in
set_option maxHeartbeats 4000000 in
theorem c_X6_greatestDivisor {l : Launch} {G : zz_G} {L : Ly} {b : Nat} (p0 : Int64) (p1 : Int64) (S : Sg) (rf : Int64) (h : f_X6_greatestDivisor p0 p1 = some rf) : Met l yX6_greatestDivisor (Cond.code yX6_greatestDivisor cX6_greatestDivisor 11 (some .long) :: zz_all) (rmz 0 0) (PC G L b S [.long p0, .long p1]) (QC G L b S (some (.long rf)) True) 0 0 (fun q => b ≤ q) := by
  refine x_met [.long p0, .long p1] (by decide +kernel) (Nat.le_of_ble_eq_true rfl) fun p e s m args below meth c C => ?_
  unfold f_X6_greatestDivisor at h
  refine x_lload_n (pc := 0) C 0 dX6_greatestDivisor_0 rfl ?_
  refine x_lstore (pc := 1) C [(4, .long p0), (0, .long p0), (2, .long p1)] dX6_greatestDivisor_1 (Nat.le_of_ble_eq_true rfl) rfl rfl ?_
  refine x_lload_n (pc := 3) C 2 dX6_greatestDivisor_3 rfl ?_
  refine x_lstore (pc := 4) C [(6, .long p1), (4, .long p0), (0, .long p0), (2, .long p1)] dX6_greatestDivisor_4 (Nat.le_of_ble_eq_true rfl) rfl rfl ?_
  refine x_iconst (pc := 6) C (v := (0 : Int32)) dX6_greatestDivisor_6 rfl ?_
  refine x_istore (pc := 7) C [(8, .int (0 : Int32)), (6, .long p1), (4, .long p0), (0, .long p0), (2, .long p1)] dX6_greatestDivisor_7 (Nat.le_of_ble_eq_true rfl) rfl rfl ?_
  refine x_sub [2, 1, 0] rfl ?_
  obtain ⟨z_hz_1, hz_1, h⟩ := of_bd h
  refine l_X6_greatestDivisor_9 C S 400 _ _ _ hz_1 (fun v4_1 ez => ?_)
  subst z_hz_1
  refine x_lload (pc := 45) C 0 dX6_greatestDivisor_45 rfl ?_
  exact x_lreturn (pc := 47) C dX6_greatestDivisor_47 (of_s1 h) rfl
set_option maxRecDepth 100000 in
set_option maxHeartbeats 4000000 in
theorem c_X6_partInLeastTerms {l : Launch} {G : zz_G} {L : Ly} {b : Nat} (p0 : Int64) (p1 : Int64) (p2 : Int32) (S : Sg) (rf : Int64) (h : f_X6_partInLeastTerms p0 p1 p2 = some rf) : Met l yX6_partInLeastTerms (Cond.code yX6_partInLeastTerms cX6_partInLeastTerms 9 (some .long) :: zz_all) (rmz 1 30) (PC G L b S [.long p0, .long p1, .int p2]) (QC G L b S (some (.long rf)) True) 0 0 (fun q => b ≤ q) := by
  refine x_met [.long p0, .long p1, .int p2] (by decide +kernel) (Nat.le_of_ble_eq_true rfl) fun p e s m args below meth c C => ?_
  unfold f_X6_partInLeastTerms at h
  refine x_lload_n (pc := 0) C 0 dX6_partInLeastTerms_0 rfl ?_
  refine x_callS1 (pc := 1) C [.long p0] [] (c_J9_abs_067f4 (b := b) p0 S) cw_X6_287 vs_J9_abs_067f4 ⟨rfl, rfl, Nat.le_of_ble_eq_true rfl, Nat.le_of_ble_eq_true rfl⟩ ⟨Nat.le_refl _, Nat.le_refl _⟩ rfl ⟨rfl, Nat.le_of_ble_eq_true rfl⟩ dX6_partInLeastTerms_1 (fun hx_1 => ?_)
  refine x_lload_n (pc := 4) C 1 dX6_partInLeastTerms_4 rfl ?_
  refine x_callS1 (pc := 5) C [.long p1] [.long (f_J9_abs_067f4 p0)] (c_J9_abs_067f4 (b := b) p1 S) cw_X6_287 vs_J9_abs_067f4 ⟨rfl, rfl, Nat.le_of_ble_eq_true rfl, Nat.le_of_ble_eq_true rfl⟩ ⟨Nat.le_refl _, Nat.le_refl _⟩ rfl ⟨rfl, Nat.le_of_ble_eq_true rfl⟩ dX6_partInLeastTerms_5 (fun hx_2 => ?_)
  obtain ⟨r_1, hc_1, h⟩ := of_bd h
  refine x_callS1 (pc := 8) C [.long (f_J9_abs_067f4 p0), .long (f_J9_abs_067f4 p1)] [] (c_X6_greatestDivisor (b := b) (f_J9_abs_067f4 p0) (f_J9_abs_067f4 p1) S _ hc_1) cw_X6_291 vs_X6_greatestDivisor ⟨rfl, rfl, Nat.le_of_ble_eq_true rfl, Nat.le_of_ble_eq_true rfl⟩ ⟨Nat.le_refl _, Nat.le_refl _⟩ rfl ⟨rfl, Nat.le_of_ble_eq_true rfl⟩ dX6_partInLeastTerms_8 (fun hx_3 => ?_)
  refine x_lstore (pc := 11) C [(5, .long r_1), (0, .long p0), (2, .long p1), (4, .int p2)] dX6_partInLeastTerms_11 (Nat.le_of_ble_eq_true rfl) rfl rfl ?_
  refine x_lload_n (pc := 13) C 1 dX6_partInLeastTerms_13 rfl ?_
  refine x_lconst (pc := 14) C (v := (0 : Int64)) dX6_partInLeastTerms_14 rfl ?_
  obtain ⟨J_1, eJ_1, h⟩ := of_lt h
  have kJ_1 : ∀ (_ : Unit), J_1 () = some rf → X p l e (rmz 1 30) s m args below meth c 0 0 (RQ G L b S below args s (some (.long rf)) True) 9 G L b S 32 [(4, .int p2)] [] := by
    intro _ h
    replace h := of_J1 eJ_1 h
    refine x_iload (pc := 32) C 0 dX6_partInLeastTerms_32 rfl ?_
    obtain ⟨x_1, ex_1, h⟩ := of_lt h
    have kd_1 : X p l e (rmz 1 30) s m args below meth c 0 0 (RQ G L b S below args s (some (.long rf)) True) 9 G L b S 42 [] [.long x_1] := by
      exact x_lreturn (pc := 42) C dX6_partInLeastTerms_42 (of_s1 h) rfl
    refine x_if_ne (pc := 34) C 41 dX6_partInLeastTerms_34 rfl (fun c_1 => ?_) (fun c_1 => ?_)
    · refine x_lconst (pc := 41) C (v := (1 : Int64)) dX6_partInLeastTerms_41 rfl ?_
      refine x_sub [] rfl ?_
      rw [show x_1 = (1 : Int64) from (ex_1.trans (if_neg c_1))] at kd_1
      exact kd_1
    · refine x_lconst (pc := 37) C (v := (0 : Int64)) dX6_partInLeastTerms_37 rfl ?_
      refine x_goto (pc := 38) C 42 dX6_partInLeastTerms_38 rfl ?_
      refine x_sub [] rfl ?_
      rw [show x_1 = (0 : Int64) from (ex_1.trans (if_pos c_1))] at kd_1
      exact kd_1
  refine x_lcmp_eq (pc := 15) C 32 dX6_partInLeastTerms_15 dX6_partInLeastTerms_16 rfl (fun c_2 => ?_) (fun c_2 => ?_)
  · replace h := of_ifp c_2 h
    exact x_sub [3] rfl (kJ_1 () h)
  · replace h := of_ifn c_2 h
    refine x_lload_n (pc := 19) C 2 dX6_partInLeastTerms_19 rfl ?_
    refine x_lconst (pc := 20) C (v := (0 : Int64)) dX6_partInLeastTerms_20 rfl ?_
    refine x_lcmp_eq (pc := 21) C 32 dX6_partInLeastTerms_21 dX6_partInLeastTerms_22 rfl (fun c_3 => ?_) (fun c_3 => ?_)
    · replace h := of_ifp c_3 h
      exact x_sub [3] rfl (kJ_1 () h)
    · replace h := of_ifn c_3 h
      refine x_lload (pc := 25) C 0 dX6_partInLeastTerms_25 rfl ?_
      refine x_lconst (pc := 27) C (v := (0 : Int64)) dX6_partInLeastTerms_27 rfl ?_
      refine x_lcmp_ne (pc := 28) C 43 dX6_partInLeastTerms_28 dX6_partInLeastTerms_29 rfl (fun c_4 => ?_) (fun c_4 => ?_)
      · replace h := of_ifn c_4 h
        refine x_lload_n (pc := 43) C 2 dX6_partInLeastTerms_43 rfl ?_
        refine x_lconst (pc := 44) C (v := (0 : Int64)) dX6_partInLeastTerms_44 rfl ?_
        obtain ⟨x_2, ex_2, h⟩ := of_lt h
        have kd_2 : X p l e (rmz 1 30) s m args below meth c 0 0 (RQ G L b S below args s (some (.long rf)) True) 9 G L b S 57 [(0, .long p0), (2, .long p1), (4, .int p2)] [.long x_2] := by
          refine x_lstore (pc := 57) C [(7, .long x_2), (0, .long p0), (2, .long p1), (4, .int p2)] dX6_partInLeastTerms_57 (Nat.le_of_ble_eq_true rfl) rfl rfl ?_
          refine x_iload (pc := 59) C 3 dX6_partInLeastTerms_59 rfl ?_
          obtain ⟨x_3, ex_3, h⟩ := of_lt h
          have kd_3 : X p l e (rmz 1 30) s m args below meth c 0 0 (RQ G L b S below args s (some (.long rf)) True) 9 G L b S 69 [(7, .long x_2)] [.long x_3] := by
            refine x_lload (pc := 69) C 0 dX6_partInLeastTerms_69 rfl ?_
            obtain ⟨g_1, h⟩ := of_gd h
            refine x_ldiv (pc := 71) C dX6_partInLeastTerms_71 g_1 ?_
            exact x_lreturn (pc := 72) C dX6_partInLeastTerms_72 (of_s1 h) rfl
          refine x_if_ne (pc := 61) C 68 dX6_partInLeastTerms_61 rfl (fun c_5 => ?_) (fun c_5 => ?_)
          · refine x_lload_n (pc := 68) C 2 dX6_partInLeastTerms_68 rfl ?_
            refine x_sub [0] rfl ?_
            rw [show x_3 = p1 from (ex_3.trans (if_neg c_5))] at kd_3
            exact kd_3
          · refine x_lload_n (pc := 64) C 1 dX6_partInLeastTerms_64 rfl ?_
            refine x_goto (pc := 65) C 69 dX6_partInLeastTerms_65 rfl ?_
            refine x_sub [0] rfl ?_
            rw [show x_3 = p0 from (ex_3.trans (if_pos c_5))] at kd_3
            exact kd_3
        refine x_lcmp_ge (pc := 45) C 55 dX6_partInLeastTerms_45 dX6_partInLeastTerms_46 rfl (fun c_6 => ?_) (fun c_6 => ?_)
        · refine x_lload (pc := 55) C 0 dX6_partInLeastTerms_55 rfl ?_
          refine x_sub [1, 2, 3] rfl ?_
          rw [show x_2 = r_1 from (ex_2.trans (if_neg c_6))] at kd_2
          exact kd_2
        · refine x_lload (pc := 49) C 0 dX6_partInLeastTerms_49 rfl ?_
          refine x_lneg (pc := 51) C dX6_partInLeastTerms_51 ?_
          refine x_goto (pc := 52) C 57 dX6_partInLeastTerms_52 rfl ?_
          refine x_sub [1, 2, 3] rfl ?_
          rw [show x_2 = (-r_1) from (ex_2.trans (if_pos c_6))] at kd_2
          exact kd_2
      · replace h := of_ifp c_4 h
        exact x_sub [3] rfl (kJ_1 () h)
set_option maxRecDepth 100000 in
set_option maxHeartbeats 4000000 in
theorem c_X4_reducedPart {l : Launch} {G : zz_G} {L : Ly} {b : Nat} (o : Nat) (p1 : Int32) (p2 : Int32) (p3 : Int32) (hO : isSp L o) (S : Sg) (rf : Int64) (h : f_X4_reducedPart o p1 p2 p3 S = some rf) : Met l yX4_reducedPart (Cond.code yX4_reducedPart cX4_reducedPart 5 (some .long) :: zz_all) (rmz 2 58) (PC G L b S [.ref (b + o), .int p1, .int p2, .int p3]) (QC G L b S (some (.long rf)) True) 0 0 (fun q => b ≤ q) := by
  refine x_met [.ref (b + o), .int p1, .int p2, .int p3] (by decide +kernel) (Nat.le_of_ble_eq_true rfl) fun p e s m args below meth c C => ?_
  unfold f_X4_reducedPart at h
  refine x_aload_n (pc := 0) C 0 dX4_reducedPart_0 rfl ?_
  refine x_iload_n (pc := 1) C 1 dX4_reducedPart_1 rfl ?_
  obtain ⟨r_1, hc_1, h⟩ := of_bd h
  refine x_callV1 (pc := 2) C (o := o) [.int p1] [] (c_X4_pivotOf (b := b) o p1 hO S _ hc_1) cw_X4_42 vi_X4_pivotOf ⟨rfl, rfl, Nat.le_of_ble_eq_true rfl, Nat.le_of_ble_eq_true rfl⟩ ⟨Nat.le_refl _, Nat.le_refl _⟩ hO.1 ⟨rfl, rfl, rfl⟩ rfl ⟨rfl, Nat.le_of_ble_eq_true rfl⟩ dX4_reducedPart_2 (fun hx_1 => ?_)
  refine x_istore (pc := 5) C [(4, .int r_1), (0, .ref (b + o)), (1, .int p1), (2, .int p2), (3, .int p3)] dX4_reducedPart_5 (Nat.le_of_ble_eq_true rfl) rfl rfl ?_
  refine x_iload (pc := 7) C 0 dX4_reducedPart_7 rfl ?_
  refine x_bipush (pc := 9) C (v := (10 : Int32)) dX4_reducedPart_9 rfl ?_
  refine x_callSN1 (pc := 11) C [.int r_1, .int (10 : Int32)] [] (c_X6_isWithin (b := b) r_1 (10 : Int32) S) cn_X4_34 vs_X6_isWithin ⟨rfl, rfl, Nat.le_of_ble_eq_true rfl, Nat.le_of_ble_eq_true rfl⟩ ⟨Nat.le_refl _, Nat.le_refl _⟩ rfl ⟨rfl, Nat.le_of_ble_eq_true rfl⟩ dX4_reducedPart_11 (fun hx_2 => ?_)
  refine x_if_eq (pc := 14) C 26 dX4_reducedPart_14 rfl (fun c_1 => ?_) (fun c_1 => ?_)
  · replace h := of_ifp c_1 h
    refine x_lconst (pc := 26) C (v := (0 : Int64)) dX4_reducedPart_26 rfl ?_
    exact x_lreturn (pc := 27) C dX4_reducedPart_27 (of_s1 h) rfl
  · replace h := of_ifn c_1 h
    refine x_iload_n (pc := 17) C 3 dX4_reducedPart_17 rfl ?_
    refine x_bipush (pc := 18) C (v := (10 : Int32)) dX4_reducedPart_18 rfl ?_
    refine x_callSN1 (pc := 20) C [.int p2, .int (10 : Int32)] [] (c_X6_isWithin (b := b) p2 (10 : Int32) S) cn_X4_34 vs_X6_isWithin ⟨rfl, rfl, Nat.le_of_ble_eq_true rfl, Nat.le_of_ble_eq_true rfl⟩ ⟨Nat.le_refl _, Nat.le_refl _⟩ rfl ⟨rfl, Nat.le_of_ble_eq_true rfl⟩ dX4_reducedPart_20 (fun hx_3 => ?_)
    refine x_if_ne (pc := 23) C 28 dX4_reducedPart_23 rfl (fun c_2 => ?_) (fun c_2 => ?_)
    · replace h := of_ifn c_2 h
      refine x_aload_n (pc := 28) C 1 dX4_reducedPart_28 rfl ?_
      refine x_geti (pc := 29) C (k := 2) hO.1 rfl rfl wd_48 dX4_reducedPart_29 ⟨Nat.le_of_ble_eq_true rfl, rfl⟩ ?_
      refine x_iload_n (pc := 32) C 3 dX4_reducedPart_32 rfl ?_
      refine x_ishr (pc := 33) C dX4_reducedPart_33 ?_
      refine x_iconst (pc := 34) C (v := (1 : Int32)) dX4_reducedPart_34 rfl ?_
      refine x_iand (pc := 35) C dX4_reducedPart_35 ?_
      refine x_iconst (pc := 36) C (v := (1 : Int32)) dX4_reducedPart_36 rfl ?_
      refine x_icmp_ne (pc := 37) C 61 dX4_reducedPart_37 rfl (fun c_3 => ?_) (fun c_3 => ?_)
      · replace h := of_ifn c_3 h
        refine x_aload_n (pc := 61) C 1 dX4_reducedPart_61 rfl ?_
        refine x_getr (pc := 62) C (k := 0) (o + 1) hO.1 rfl rfl wd_46 dX4_reducedPart_62 (Nat.le_of_ble_eq_true rfl) rfl ?_
        refine x_iload (pc := 65) C 0 dX4_reducedPart_65 rfl ?_
        obtain ⟨g_1, h⟩ := of_gd h
        refine x_aaloadJ (pc := 67) C hO.2.1 g_1 dX4_reducedPart_67 ?_
        refine x_iload_n (pc := 68) C 3 dX4_reducedPart_68 rfl ?_
        obtain ⟨g_2, h⟩ := of_gd h
        refine x_laload (pc := 69) C (hO.2.2 _ (inb_lt (i := r_1) g_1)) g_2 dX4_reducedPart_69 ?_
        refine x_lneg (pc := 70) C dX4_reducedPart_70 ?_
        refine x_aload_n (pc := 71) C 1 dX4_reducedPart_71 rfl ?_
        refine x_getj (pc := 72) C (k := 1) hO.1 rfl rfl wd_47 dX4_reducedPart_72 ⟨Nat.le_of_ble_eq_true rfl, rfl⟩ ?_
        refine x_iload_n (pc := 75) C 4 dX4_reducedPart_75 rfl ?_
        obtain ⟨r_2, hc_2, h⟩ := of_bd h
        refine x_callSN1 (pc := 76) C [.long (-(S.2 ((o + 2) + ix r_1) (ix p2))), .long (S.2 o 1), .int p3] [] (c_X6_partInLeastTerms (b := b) (-(S.2 ((o + 2) + ix r_1) (ix p2))) (S.2 o 1) p3 S _ hc_2) cn_X4_50 vs_X6_partInLeastTerms ⟨rfl, rfl, Nat.le_of_ble_eq_true rfl, Nat.le_of_ble_eq_true rfl⟩ ⟨Nat.le_refl _, Nat.le_refl _⟩ rfl ⟨rfl, Nat.le_of_ble_eq_true rfl⟩ dX4_reducedPart_76 (fun hx_4 => ?_)
        exact x_lreturn (pc := 79) C dX4_reducedPart_79 (of_s1 h) rfl
      · replace h := of_ifp c_3 h
        refine x_iload_n (pc := 40) C 3 dX4_reducedPart_40 rfl ?_
        refine x_iload (pc := 41) C 0 dX4_reducedPart_41 rfl ?_
        obtain ⟨x_1, ex_1, h⟩ := of_lt h
        have kd_1 : X p l e (rmz 2 58) s m args below meth c 0 0 (RQ G L b S below args s (some (.long rf)) True) 5 G L b S 51 [(3, .int p3)] [.int x_1] := by
          refine x_callSN1 (pc := 51) C [.int x_1] [] (c_X6_asNumber (b := b) x_1 S) cn_X4_46 vs_X6_asNumber ⟨rfl, rfl, Nat.le_of_ble_eq_true rfl, Nat.le_of_ble_eq_true rfl⟩ ⟨Nat.le_refl _, Nat.le_refl _⟩ rfl ⟨rfl, Nat.le_of_ble_eq_true rfl⟩ dX4_reducedPart_51 (fun hx_5 => ?_)
          refine x_i2l (pc := 54) C dX4_reducedPart_54 ?_
          refine x_lconst (pc := 55) C (v := (1 : Int64)) dX4_reducedPart_55 rfl ?_
          refine x_iload_n (pc := 56) C 0 dX4_reducedPart_56 rfl ?_
          obtain ⟨r_3, hc_3, h⟩ := of_bd h
          refine x_callSN1 (pc := 57) C [.long (f_X6_asNumber x_1).toInt64, .long (1 : Int64), .int p3] [] (c_X6_partInLeastTerms (b := b) ((f_X6_asNumber x_1).toInt64) (1 : Int64) p3 S _ hc_3) cn_X4_50 vs_X6_partInLeastTerms ⟨rfl, rfl, Nat.le_of_ble_eq_true rfl, Nat.le_of_ble_eq_true rfl⟩ ⟨Nat.le_refl _, Nat.le_refl _⟩ rfl ⟨rfl, Nat.le_of_ble_eq_true rfl⟩ dX4_reducedPart_57 (fun hx_6 => ?_)
          exact x_lreturn (pc := 60) C dX4_reducedPart_60 (of_s1 h) rfl
        refine x_icmp_ne (pc := 43) C 50 dX4_reducedPart_43 rfl (fun c_4 => ?_) (fun c_4 => ?_)
        · refine x_iconst (pc := 50) C (v := (0 : Int32)) dX4_reducedPart_50 rfl ?_
          refine x_sub [4] rfl ?_
          rw [show x_1 = (0 : Int32) from (ex_1.trans (if_neg c_4))] at kd_1
          exact kd_1
        · refine x_iconst (pc := 46) C (v := (1 : Int32)) dX4_reducedPart_46 rfl ?_
          refine x_goto (pc := 47) C 51 dX4_reducedPart_47 rfl ?_
          refine x_sub [4] rfl ?_
          rw [show x_1 = (1 : Int32) from (ex_1.trans (if_pos c_4))] at kd_1
          exact kd_1
    · replace h := of_ifp c_2 h
      refine x_lconst (pc := 26) C (v := (0 : Int64)) dX4_reducedPart_26 rfl ?_
      exact x_lreturn (pc := 27) C dX4_reducedPart_27 (of_s1 h) rfl
