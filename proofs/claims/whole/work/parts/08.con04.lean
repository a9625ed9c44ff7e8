set_option maxRecDepth 100000 in
set_option maxHeartbeats 4000000 in
theorem c_X6_mean {l : Launch} {G : zz_G} {L : Ly} {b : Nat} (p1 : Int32) (hO : isGu L) (S : Sg) (rf : Int64) (Sf : Sg) (h : f_X6_mean p1 S = some (rf, Sf)) : Met l yX6_mean (Cond.code yX6_mean cX6_mean 2 (some .long) :: zz_all) (rmz 5 118) (PC G L b S [.ref (b + 0), .int p1]) (QC G L b Sf (some (.long rf)) True) 0 0 (fun q => b ≤ q) := by
  refine x_met [.ref (b + 0), .int p1] (by decide +kernel) (Nat.le_of_ble_eq_true rfl) fun p e s m args below meth c C => ?_
  unfold f_X6_mean at h
  refine x_iload_n (pc := 0) C 1 dX6_mean_0 rfl ?_
  refine x_iconst (pc := 1) C (v := (2 : Int32)) dX6_mean_1 rfl ?_
  refine x_callS1 (pc := 2) C [.int p1, .int (2 : Int32)] [] (c_X6_isWithin (b := b) p1 (2 : Int32) S) cw_X6_69 vs_X6_isWithin ⟨rfl, rfl, Nat.le_of_ble_eq_true rfl, Nat.le_of_ble_eq_true rfl⟩ ⟨Nat.le_refl _, Nat.le_refl _⟩ rfl ⟨rfl, Nat.le_of_ble_eq_true rfl⟩ dX6_mean_2 (fun hx_1 => ?_)
  refine x_if_ne (pc := 5) C 20 dX6_mean_5 rfl (fun c_1 => ?_) (fun c_1 => ?_)
  · replace h := of_ifn c_1 h
    refine x_aload_n (pc := 20) C 0 dX6_mean_20 rfl ?_
    refine x_getr (pc := 21) C (k := 5) 132 hO.1 rfl rfl wd_225 dX6_mean_21 (Nat.le_of_ble_eq_true rfl) rfl ?_
    refine x_aload_n (pc := 24) C 0 dX6_mean_24 rfl ?_
    refine x_getr (pc := 25) C (k := 0) 1 hO.1 rfl rfl wd_220 dX6_mean_25 (Nat.le_of_ble_eq_true rfl) rfl ?_
    obtain ⟨S_1, hc_1, h⟩ := of_bd h
    refine x_callV_ (pc := 28) C (o := 132) [.ref (b + 1)] [] (c_X0_narrow (b := b) 132 1 hO.2.2.2.2.2.1 hO.2.1 S _ hc_1) cw_X6_104 vi_X0_narrow ⟨rfl, rfl, Nat.le_of_ble_eq_true rfl, Nat.le_of_ble_eq_true rfl⟩ ⟨Nat.le_refl _, Nat.le_refl _⟩ hO.2.2.2.2.2.1.1 ⟨rfl, rfl, rfl⟩ rfl ⟨rfl, Nat.le_of_ble_eq_true rfl⟩ dX6_mean_28 (fun hx_2 => ?_)
    refine x_aload_n (pc := 31) C 0 dX6_mean_31 rfl ?_
    refine x_getr (pc := 32) C (k := 5) 132 hO.1 rfl rfl wd_225 dX6_mean_32 (Nat.le_of_ble_eq_true rfl) rfl ?_
    obtain ⟨r_1, hc_2, h⟩ := of_bd h
    refine x_callV1 (pc := 35) C (o := 132) [] [] (c_X0_widths (b := b) 132 hO.2.2.2.2.2.1 S_1 _ hc_2) cw_X6_218 vi_X0_widths ⟨rfl, rfl, Nat.le_of_ble_eq_true rfl, Nat.le_of_ble_eq_true rfl⟩ ⟨Nat.le_refl _, Nat.le_refl _⟩ hO.2.2.2.2.2.1.1 ⟨rfl, rfl, rfl⟩ rfl ⟨rfl, Nat.le_of_ble_eq_true rfl⟩ dX6_mean_35 (fun hx_3 => ?_)
    refine x_i2l (pc := 38) C dX6_mean_38 ?_
    refine x_aload_n (pc := 39) C 0 dX6_mean_39 rfl ?_
    refine x_getr (pc := 40) C (k := 0) 1 hO.1 rfl rfl wd_220 dX6_mean_40 (Nat.le_of_ble_eq_true rfl) rfl ?_
    refine x_geti (pc := 43) C (k := 4) hO.2.1.1 rfl rfl wd_133 dX6_mean_43 ⟨Nat.le_of_ble_eq_true rfl, rfl⟩ ?_
    refine x_i2l (pc := 46) C dX6_mean_46 ?_
    refine x_iload_n (pc := 47) C 1 dX6_mean_47 rfl ?_
    obtain ⟨r_2, hc_3, h⟩ := of_bd h
    refine x_callS1 (pc := 48) C [.long r_1.toInt64, .long (S_1.1 1 4).toInt64, .int p1] [] (c_X6_partInLeastTerms (b := b) r_1.toInt64 ((S_1.1 1 4).toInt64) p1 S_1 _ hc_3) cw_X6_224 vs_X6_partInLeastTerms ⟨rfl, rfl, Nat.le_of_ble_eq_true rfl, Nat.le_of_ble_eq_true rfl⟩ ⟨Nat.le_refl _, Nat.le_refl _⟩ rfl ⟨rfl, Nat.le_of_ble_eq_true rfl⟩ dX6_mean_48 (fun hx_4 => ?_)
    exact x_lreturn (pc := 51) C dX6_mean_51 (of_sp h).1 (of_sp h).2
  · replace h := of_ifp c_1 h
    refine x_ldc2 (pc := 8) C wd_557 dX6_mean_8 ?_
    refine x_aload_n (pc := 11) C 0 dX6_mean_11 rfl ?_
    refine x_bipush (pc := 12) C (v := (-2 : Int32)) dX6_mean_12 rfl ?_
    obtain ⟨⟨r_3, S_2⟩, hc_4, h⟩ := of_bd h
    replace h := of_u2 h
    refine x_callV1 (pc := 14) C (o := 0) [.int (-2 : Int32)] [.long (4000000000000000000 : Int64)] (c_X6_refuse (b := b) (-2 : Int32) hO S _ _ hc_4) cw_X6_73 vi_X6_refuse ⟨rfl, rfl, Nat.le_of_ble_eq_true rfl, Nat.le_of_ble_eq_true rfl⟩ ⟨Nat.le_refl _, Nat.le_refl _⟩ hO.1 ⟨rfl, rfl, rfl⟩ rfl ⟨rfl, Nat.le_of_ble_eq_true rfl⟩ dX6_mean_14 (fun hx_5 => ?_)
    refine x_i2l (pc := 17) C dX6_mean_17 ?_
    refine x_lsub (pc := 18) C dX6_mean_18 ?_
    exact x_lreturn (pc := 19) C dX6_mean_19 (of_sp h).1 (of_sp h).2
set_option maxRecDepth 100000 in
set_option maxHeartbeats 4000000 in
theorem c_X6_misfitOfAll {l : Launch} {G : zz_G} {L : Ly} {b : Nat} (p0 : Int32) (p1 : Int32) (S : Sg) : Met l yX6_misfitOfAll (Cond.code yX6_misfitOfAll cX6_misfitOfAll 2 (some .int) :: zz_all) (rmz 0 0) (PC G L b S [.int p0, .int p1]) (QC G L b S (some (.int (f_X6_misfitOfAll p0 p1))) True) 0 0 (fun q => b ≤ q) := by
  refine x_met [.int p0, .int p1] (by decide +kernel) (Nat.le_of_ble_eq_true rfl) fun p e s m args below meth c C => ?_
  generalize h : f_X6_misfitOfAll p0 p1 = rf
  unfold f_X6_misfitOfAll at h
  refine x_iload_n (pc := 0) C 0 dX6_misfitOfAll_0 rfl ?_
  refine x_iconst (pc := 1) C (v := (1 : Int32)) dX6_misfitOfAll_1 rfl ?_
  obtain ⟨x_1, ex_1, h⟩ := of_lt h
  have kd_1 : X p l e (rmz 0 0) s m args below meth c 0 0 (RQ G L b S below args s (some (.int rf)) True) 2 G L b S 23 [] [.int x_1] := by
    exact x_ireturn (pc := 23) C dX6_misfitOfAll_23 h rfl
  refine x_icmp_ge (pc := 2) C 10 dX6_misfitOfAll_2 rfl (fun c_1 => ?_) (fun c_1 => ?_)
  · refine x_iload_n (pc := 10) C 1 dX6_misfitOfAll_10 rfl ?_
    refine x_sipush (pc := 11) C (v := (255 : Int32)) dX6_misfitOfAll_11 rfl ?_
    refine x_icmp_le (pc := 14) C 22 dX6_misfitOfAll_14 rfl (fun c_2 => ?_) (fun c_2 => ?_)
    · refine x_iconst (pc := 22) C (v := (0 : Int32)) dX6_misfitOfAll_22 rfl ?_
      refine x_sub [] rfl ?_
      rw [show x_1 = (0 : Int32) from ((ex_1.trans (if_neg c_1)).trans (if_neg c_2))] at kd_1
      exact kd_1
    · refine x_bipush (pc := 17) C (v := (-6 : Int32)) dX6_misfitOfAll_17 rfl ?_
      refine x_goto (pc := 19) C 23 dX6_misfitOfAll_19 rfl ?_
      refine x_sub [] rfl ?_
      rw [show x_1 = (-6 : Int32) from ((ex_1.trans (if_neg c_1)).trans (if_pos c_2))] at kd_1
      exact kd_1
  · refine x_bipush (pc := 5) C (v := (-4 : Int32)) dX6_misfitOfAll_5 rfl ?_
    refine x_goto (pc := 7) C 23 dX6_misfitOfAll_7 rfl ?_
    refine x_sub [] rfl ?_
    rw [show x_1 = (-4 : Int32) from (ex_1.trans (if_pos c_1))] at kd_1
    exact kd_1
set_option maxRecDepth 100000 in
set_option maxHeartbeats 4000000 in
theorem c_X6_narrowed {l : Launch} {G : zz_G} {L : Ly} {b : Nat} (p1 : Int32) (p2 : Int32) (hO : isGu L) (S : Sg) (rf : Int32) (Sf : Sg) (h : f_X6_narrowed p1 p2 S = some (rf, Sf)) : Met l yX6_narrowed (Cond.code yX6_narrowed cX6_narrowed 3 (some .int) :: zz_all) (rmz 5 118) (PC G L b S [.ref (b + 0), .int p1, .int p2]) (QC G L b Sf (some (.int rf)) True) 0 0 (fun q => b ≤ q) := by
  refine x_met [.ref (b + 0), .int p1, .int p2] (by decide +kernel) (Nat.le_of_ble_eq_true rfl) fun p e s m args below meth c C => ?_
  unfold f_X6_narrowed at h
  refine x_aload_n (pc := 0) C 0 dX6_narrowed_0 rfl ?_
  refine x_getr (pc := 1) C (k := 5) 132 hO.1 rfl rfl wd_225 dX6_narrowed_1 (Nat.le_of_ble_eq_true rfl) rfl ?_
  refine x_aload_n (pc := 4) C 0 dX6_narrowed_4 rfl ?_
  refine x_getr (pc := 5) C (k := 0) 1 hO.1 rfl rfl wd_220 dX6_narrowed_5 (Nat.le_of_ble_eq_true rfl) rfl ?_
  obtain ⟨S_1, hc_1, h⟩ := of_bd h
  refine x_callV_ (pc := 8) C (o := 132) [.ref (b + 1)] [] (c_X0_narrow (b := b) 132 1 hO.2.2.2.2.2.1 hO.2.1 S _ hc_1) cw_X6_104 vi_X0_narrow ⟨rfl, rfl, Nat.le_of_ble_eq_true rfl, Nat.le_of_ble_eq_true rfl⟩ ⟨Nat.le_refl _, Nat.le_refl _⟩ hO.2.2.2.2.2.1.1 ⟨rfl, rfl, rfl⟩ rfl ⟨rfl, Nat.le_of_ble_eq_true rfl⟩ dX6_narrowed_8 (fun hx_1 => ?_)
  refine x_iload_n (pc := 11) C 2 dX6_narrowed_11 rfl ?_
  refine x_iconst (pc := 12) C (v := (3 : Int32)) dX6_narrowed_12 rfl ?_
  refine x_icmp_ne (pc := 13) C 27 dX6_narrowed_13 rfl (fun c_1 => ?_) (fun c_1 => ?_)
  · replace h := of_ifn c_1 h
    refine x_iload_n (pc := 27) C 2 dX6_narrowed_27 rfl ?_
    refine x_iconst (pc := 28) C (v := (4 : Int32)) dX6_narrowed_28 rfl ?_
    refine x_icmp_ne (pc := 29) C 43 dX6_narrowed_29 rfl (fun c_2 => ?_) (fun c_2 => ?_)
    · replace h := of_ifn c_2 h
      refine x_aload_n (pc := 43) C 0 dX6_narrowed_43 rfl ?_
      refine x_getr (pc := 44) C (k := 5) 132 hO.1 rfl rfl wd_225 dX6_narrowed_44 (Nat.le_of_ble_eq_true rfl) rfl ?_
      refine x_iload_n (pc := 47) C 1 dX6_narrowed_47 rfl ?_
      obtain ⟨r_1, hc_2, h⟩ := of_bd h
      refine x_callV1 (pc := 48) C (o := 132) [.int p1] [] (c_X0_widthOf (b := b) 132 p1 hO.2.2.2.2.2.1 S_1 _ hc_2) cw_X6_113 vi_X0_widthOf ⟨rfl, rfl, Nat.le_of_ble_eq_true rfl, Nat.le_of_ble_eq_true rfl⟩ ⟨Nat.le_refl _, Nat.le_refl _⟩ hO.2.2.2.2.2.1.1 ⟨rfl, rfl, rfl⟩ rfl ⟨rfl, Nat.le_of_ble_eq_true rfl⟩ dX6_narrowed_48 (fun hx_2 => ?_)
      exact x_ireturn (pc := 51) C dX6_narrowed_51 (of_sp h).1 (of_sp h).2
    · replace h := of_ifp c_2 h
      refine x_aload_n (pc := 32) C 0 dX6_narrowed_32 rfl ?_
      refine x_getr (pc := 33) C (k := 5) 132 hO.1 rfl rfl wd_225 dX6_narrowed_33 (Nat.le_of_ble_eq_true rfl) rfl ?_
      refine x_iload_n (pc := 36) C 1 dX6_narrowed_36 rfl ?_
      obtain ⟨r_2, hc_3, h⟩ := of_bd h
      refine x_callV1 (pc := 37) C (o := 132) [.int p1] [] (c_X0_mostOf (b := b) 132 p1 hO.2.2.2.2.2.1 S_1 _ hc_3) cw_X6_110 vi_X0_mostOf ⟨rfl, rfl, Nat.le_of_ble_eq_true rfl, Nat.le_of_ble_eq_true rfl⟩ ⟨Nat.le_refl _, Nat.le_refl _⟩ hO.2.2.2.2.2.1.1 ⟨rfl, rfl, rfl⟩ rfl ⟨rfl, Nat.le_of_ble_eq_true rfl⟩ dX6_narrowed_37 (fun hx_3 => ?_)
      refine x_goto (pc := 40) C 51 dX6_narrowed_40 rfl ?_
      exact x_ireturn (pc := 51) C dX6_narrowed_51 (of_sp h).1 (of_sp h).2
  · replace h := of_ifp c_1 h
    refine x_aload_n (pc := 16) C 0 dX6_narrowed_16 rfl ?_
    refine x_getr (pc := 17) C (k := 5) 132 hO.1 rfl rfl wd_225 dX6_narrowed_17 (Nat.le_of_ble_eq_true rfl) rfl ?_
    refine x_iload_n (pc := 20) C 1 dX6_narrowed_20 rfl ?_
    obtain ⟨r_3, hc_4, h⟩ := of_bd h
    refine x_callV1 (pc := 21) C (o := 132) [.int p1] [] (c_X0_leastOf (b := b) 132 p1 hO.2.2.2.2.2.1 S_1 _ hc_4) cw_X6_107 vi_X0_leastOf ⟨rfl, rfl, Nat.le_of_ble_eq_true rfl, Nat.le_of_ble_eq_true rfl⟩ ⟨Nat.le_refl _, Nat.le_refl _⟩ hO.2.2.2.2.2.1.1 ⟨rfl, rfl, rfl⟩ rfl ⟨rfl, Nat.le_of_ble_eq_true rfl⟩ dX6_narrowed_21 (fun hx_4 => ?_)
    refine x_goto (pc := 24) C 51 dX6_narrowed_24 rfl ?_
    exact x_ireturn (pc := 51) C dX6_narrowed_51 (of_sp h).1 (of_sp h).2
set_option maxRecDepth 100000 in
set_option maxHeartbeats 4000000 in
theorem c_X6_on {l : Launch} {G : zz_G} {L : Ly} {b : Nat} (hO : isGu L) (S : Sg) (rf : Int32) (Sf : Sg) (h : f_X6_on S = some (rf, Sf)) : Met l yX6_on (Cond.code yX6_on cX6_on 1 (some .int) :: zz_all) (rmz 3 70) (PC G L b S [.ref (b + 0)]) (QC G L b Sf (some (.int rf)) True) 0 0 (fun q => b ≤ q) := by
  refine x_met [.ref (b + 0)] (by decide +kernel) (Nat.le_of_ble_eq_true rfl) fun p e s m args below meth c C => ?_
  unfold f_X6_on at h
  refine x_aload_n (pc := 0) C 0 dX6_on_0 rfl ?_
  refine x_geti (pc := 1) C (k := 3) hO.1 rfl rfl wd_223 dX6_on_1 ⟨Nat.le_of_ble_eq_true rfl, rfl⟩ ?_
  refine x_if_ne (pc := 4) C 14 dX6_on_4 rfl (fun c_1 => ?_) (fun c_1 => ?_)
  · replace h := of_ifn c_1 h
    refine x_aload_n (pc := 14) C 0 dX6_on_14 rfl ?_
    refine x_getr (pc := 15) C (k := 0) 1 hO.1 rfl rfl wd_220 dX6_on_15 (Nat.le_of_ble_eq_true rfl) rfl ?_
    refine x_aload_n (pc := 18) C 0 dX6_on_18 rfl ?_
    refine x_getr (pc := 19) C (k := 2) 87 hO.1 rfl rfl wd_222 dX6_on_19 (Nat.le_of_ble_eq_true rfl) rfl ?_
    obtain ⟨S_1, hc_1, h⟩ := of_bd h
    refine x_callV_ (pc := 22) C (o := 1) [.ref (b + 87)] [] (c_X5_copyFrom (b := b) 1 87 hO.2.1 hO.2.2.2.1 S _ hc_1) cw_X6_56 vi_X5_copyFrom ⟨rfl, rfl, Nat.le_of_ble_eq_true rfl, Nat.le_of_ble_eq_true rfl⟩ ⟨Nat.le_refl _, Nat.le_refl _⟩ hO.2.1.1 ⟨rfl, rfl, rfl⟩ rfl ⟨rfl, Nat.le_of_ble_eq_true rfl⟩ dX6_on_22 (fun hx_1 => ?_)
    refine x_aload_n (pc := 25) C 0 dX6_on_25 rfl ?_
    refine x_getr (pc := 26) C (k := 0) 1 hO.1 rfl rfl wd_220 dX6_on_26 (Nat.le_of_ble_eq_true rfl) rfl ?_
    refine x_geti (pc := 29) C (k := 9) hO.2.1.1 rfl rfl wd_142 dX6_on_29 ⟨Nat.le_of_ble_eq_true rfl, rfl⟩ ?_
    exact x_ireturn (pc := 32) C dX6_on_32 (of_sp h).1 (of_sp h).2
  · replace h := of_ifp c_1 h
    refine x_aload_n (pc := 7) C 0 dX6_on_7 rfl ?_
    refine x_bipush (pc := 8) C (v := (-3 : Int32)) dX6_on_8 rfl ?_
    obtain ⟨⟨r_1, S_2⟩, hc_2, h⟩ := of_bd h
    replace h := of_u2 h
    refine x_callV1 (pc := 10) C (o := 0) [.int (-3 : Int32)] [] (c_X6_refuse (b := b) (-3 : Int32) hO S _ _ hc_2) cw_X6_73 vi_X6_refuse ⟨rfl, rfl, Nat.le_of_ble_eq_true rfl, Nat.le_of_ble_eq_true rfl⟩ ⟨Nat.le_refl _, Nat.le_refl _⟩ hO.1 ⟨rfl, rfl, rfl⟩ rfl ⟨rfl, Nat.le_of_ble_eq_true rfl⟩ dX6_on_10 (fun hx_2 => ?_)
    exact x_ireturn (pc := 13) C dX6_on_13 (of_sp h).1 (of_sp h).2
set_option maxRecDepth 100000 in
set_option maxHeartbeats 4000000 in
theorem c_X6_pick {l : Launch} {G : zz_G} {L : Ly} {b : Nat} (p0 : Int32) (p1 : Int32) (p2 : Int32) (p3 : Int32) (S : Sg) : Met l yX6_pick (Cond.code yX6_pick cX6_pick 4 (some .int) :: zz_all) (rmz 0 0) (PC G L b S [.int p0, .int p1, .int p2, .int p3]) (QC G L b S (some (.int (f_X6_pick p0 p1 p2 p3))) True) 0 0 (fun q => b ≤ q) := by
  refine x_met [.int p0, .int p1, .int p2, .int p3] (by decide +kernel) (Nat.le_of_ble_eq_true rfl) fun p e s m args below meth c C => ?_
  generalize h : f_X6_pick p0 p1 p2 p3 = rf
  unfold f_X6_pick at h
  refine x_iload_n (pc := 0) C 0 dX6_pick_0 rfl ?_
  obtain ⟨x_1, ex_1, h⟩ := of_lt h
  have kd_1 : X p l e (rmz 0 0) s m args below meth c 0 0 (RQ G L b S below args s (some (.int rf)) True) 4 G L b S 18 [] [.int x_1] := by
    exact x_ireturn (pc := 18) C dX6_pick_18 h rfl
  refine x_if_ne (pc := 1) C 8 dX6_pick_1 rfl (fun c_1 => ?_) (fun c_1 => ?_)
  · refine x_iload_n (pc := 8) C 0 dX6_pick_8 rfl ?_
    refine x_iconst (pc := 9) C (v := (1 : Int32)) dX6_pick_9 rfl ?_
    refine x_icmp_ne (pc := 10) C 17 dX6_pick_10 rfl (fun c_2 => ?_) (fun c_2 => ?_)
    · refine x_iload_n (pc := 17) C 3 dX6_pick_17 rfl ?_
      refine x_sub [] rfl ?_
      rw [show x_1 = p3 from ((ex_1.trans (if_neg c_1)).trans (if_neg c_2))] at kd_1
      exact kd_1
    · refine x_iload_n (pc := 13) C 2 dX6_pick_13 rfl ?_
      refine x_goto (pc := 14) C 18 dX6_pick_14 rfl ?_
      refine x_sub [] rfl ?_
      rw [show x_1 = p2 from ((ex_1.trans (if_neg c_1)).trans (if_pos c_2))] at kd_1
      exact kd_1
  · refine x_iload_n (pc := 4) C 1 dX6_pick_4 rfl ?_
    refine x_goto (pc := 5) C 18 dX6_pick_5 rfl ?_
    refine x_sub [] rfl ?_
    rw [show x_1 = p1 from (ex_1.trans (if_pos c_1))] at kd_1
    exact kd_1
set_option maxRecDepth 100000 in
set_option maxHeartbeats 4000000 in
theorem l_X6_order_69 {p : Program} {l : Launch} {e : Env} {s : State} {m : MethodId} {args : Array Value} {below : List Frame} {meth : Method} {c : Code} {G : zz_G} {L : Ly} {b : Nat} {Q : State → Prop} (C : CX p G s m args meth c cX6_order yX6_order 12 (some .int)) (hO : isGu L) (v1 : Int32) (v2 : Int32) (v3 : Int32) (v4 : Int32) (v8 : Int32) : ∀ (n : Nat) (v6 : Int32) (v7 : Int32) (v9 : Int32) (S : Sg) {z}, L_X6_order_69 v1 v2 v3 v4 v8 n v6 v7 v9 S = some z → (∀ (v6_o : Int32) (v7_o : Int32) (S_o : Sg), z = (v6_o, v7_o, S_o) → X p l e (rmz 6 141) s m args below meth c 0 0 Q 12 G L b S_o 157 [(0, .ref (b + 0)), (1, .int v1), (2, .int v2), (3, .int v3), (4, .int v4), (6, .int v6_o), (7, .int v7_o), (8, .int v8)] []) → X p l e (rmz 6 141) s m args below meth c 0 0 Q 12 G L b S 69 [(0, .ref (b + 0)), (1, .int v1), (2, .int v2), (3, .int v3), (4, .int v4), (6, .int v6), (7, .int v7), (8, .int v8), (9, .int v9)] [] := by
  intro n
  induction n with
  | zero =>
    intro v6 v7 v9 S z h
    exact of_none h
  | succ n ih =>
    intro v6 v7 v9 S z h hx
    rw [L_X6_order_69] at h
    refine x_iload (pc := 69) C 8 dX6_order_69 rfl ?_
    refine x_iconst (pc := 71) C (v := (3 : Int32)) dX6_order_71 rfl ?_
    refine x_icmp_ge (pc := 72) C 157 dX6_order_72 rfl (fun c_1 => ?_) (fun c_1 => ?_)
    · replace h := of_ifn c_1 h
      exact x_sub [0, 1, 2, 3, 4, 5, 6, 7] rfl (hx _ _ _ (of_s1 h).symm)
    · replace h := of_ifp c_1 h
      refine x_iload (pc := 75) C 8 dX6_order_75 rfl ?_
      refine x_iload (pc := 77) C 7 dX6_order_77 rfl ?_
      refine x_icmp_ne (pc := 79) C 85 dX6_order_79 rfl (fun c_2 => ?_) (fun c_2 => ?_)
      · replace h := of_ifn c_2 h
        refine x_iconst (pc := 85) C (v := (3 : Int32)) dX6_order_85 rfl ?_
        refine x_iload (pc := 86) C 7 dX6_order_86 rfl ?_
        refine x_isub (pc := 88) C dX6_order_88 ?_
        refine x_iload (pc := 89) C 8 dX6_order_89 rfl ?_
        refine x_isub (pc := 91) C dX6_order_91 ?_
        obtain ⟨v10_1, ev10_1, h⟩ := of_lt h
        refine x_istore (pc := 92) C [(10, .int v10_1), (0, .ref (b + 0)), (1, .int v1), (2, .int v2), (3, .int v3), (4, .int v4), (6, .int v6), (7, .int v7), (8, .int v8), (9, .int v9)] dX6_order_92 (Nat.le_of_ble_eq_true rfl) ev10_1 rfl ?_
        refine x_aload_n (pc := 94) C 1 dX6_order_94 rfl ?_
        refine x_iload (pc := 95) C 8 dX6_order_95 rfl ?_
        refine x_iload_n (pc := 97) C 2 dX6_order_97 rfl ?_
        refine x_iload_n (pc := 98) C 3 dX6_order_98 rfl ?_
        refine x_iload_n (pc := 99) C 4 dX6_order_99 rfl ?_
        refine x_callS1 (pc := 100) C [.int v8, .int v1, .int v2, .int v3] [.ref (b + 0)] (c_X6_pick (b := b) v8 v1 v2 v3 S) cw_X6_239 vs_X6_pick ⟨rfl, rfl, Nat.le_of_ble_eq_true rfl, Nat.le_of_ble_eq_true rfl⟩ ⟨Nat.le_refl _, Nat.le_refl _⟩ rfl ⟨rfl, Nat.le_of_ble_eq_true rfl⟩ dX6_order_100 (fun hx_4 => ?_)
        refine x_iload (pc := 103) C 9 dX6_order_103 rfl ?_
        refine x_iload_n (pc := 105) C 2 dX6_order_105 rfl ?_
        refine x_iload_n (pc := 106) C 3 dX6_order_106 rfl ?_
        refine x_iload_n (pc := 107) C 4 dX6_order_107 rfl ?_
        refine x_callS1 (pc := 108) C [.int v9, .int v1, .int v2, .int v3] [.int (f_X6_pick v8 v1 v2 v3), .ref (b + 0)] (c_X6_pick (b := b) v9 v1 v2 v3 S) cw_X6_239 vs_X6_pick ⟨rfl, rfl, Nat.le_of_ble_eq_true rfl, Nat.le_of_ble_eq_true rfl⟩ ⟨Nat.le_refl _, Nat.le_refl _⟩ rfl ⟨rfl, Nat.le_of_ble_eq_true rfl⟩ dX6_order_108 (fun hx_5 => ?_)
        refine x_iload (pc := 111) C 0 dX6_order_111 rfl ?_
        refine x_iload_n (pc := 113) C 2 dX6_order_113 rfl ?_
        refine x_iload_n (pc := 114) C 3 dX6_order_114 rfl ?_
        refine x_iload_n (pc := 115) C 4 dX6_order_115 rfl ?_
        refine x_callS1 (pc := 116) C [.int v10_1, .int v1, .int v2, .int v3] [.int (f_X6_pick v9 v1 v2 v3), .int (f_X6_pick v8 v1 v2 v3), .ref (b + 0)] (c_X6_pick (b := b) v10_1 v1 v2 v3 S) cw_X6_239 vs_X6_pick ⟨rfl, rfl, Nat.le_of_ble_eq_true rfl, Nat.le_of_ble_eq_true rfl⟩ ⟨Nat.le_refl _, Nat.le_refl _⟩ rfl ⟨rfl, Nat.le_of_ble_eq_true rfl⟩ dX6_order_116 (fun hx_6 => ?_)
        obtain ⟨⟨r_1, S_1⟩, hc_1, h⟩ := of_bd h
        replace h := of_u2 h
        refine x_callV1 (pc := 119) C (o := 0) [.int (f_X6_pick v8 v1 v2 v3), .int (f_X6_pick v9 v1 v2 v3), .int (f_X6_pick v10_1 v1 v2 v3)] [] (c_X6_joinedInTurn (b := b) (f_X6_pick v8 v1 v2 v3) (f_X6_pick v9 v1 v2 v3) (f_X6_pick v10_1 v1 v2 v3) hO S _ _ hc_1) cw_X6_243 vi_X6_joinedInTurn ⟨rfl, rfl, Nat.le_of_ble_eq_true rfl, Nat.le_of_ble_eq_true rfl⟩ ⟨Nat.le_refl _, Nat.le_refl _⟩ hO.1 ⟨rfl, rfl, rfl⟩ rfl ⟨rfl, Nat.le_of_ble_eq_true rfl⟩ dX6_order_119 (fun hx_7 => ?_)
        refine x_istore (pc := 122) C [(11, .int r_1), (10, .int v10_1), (0, .ref (b + 0)), (1, .int v1), (2, .int v2), (3, .int v3), (4, .int v4), (6, .int v6), (7, .int v7), (8, .int v8), (9, .int v9)] dX6_order_122 (Nat.le_of_ble_eq_true rfl) rfl rfl ?_
        refine x_iload (pc := 124) C 0 dX6_order_124 rfl ?_
        refine x_iload (pc := 126) C 8 dX6_order_126 rfl ?_
        obtain ⟨v6_1, ev6_1, h⟩ := of_lt h
        obtain ⟨v7_1, ev7_1, h⟩ := of_lt h
        have kd_1 : X p l e (rmz 6 141) s m args below meth c 0 0 Q 12 G L b S_1 151 [(0, .ref (b + 0)), (1, .int v1), (2, .int v2), (3, .int v3), (4, .int v4), (6, .int v6_1), (7, .int v7_1), (8, .int v8), (9, .int v9)] [] := by
          obtain ⟨v9_1, ev9_1, h⟩ := of_lt h
          refine x_iinc (pc := 151) C (w := (1 : Int32)) 8 [(9, .int v9_1), (0, .ref (b + 0)), (1, .int v1), (2, .int v2), (3, .int v3), (4, .int v4), (6, .int v6_1), (7, .int v7_1), (8, .int v8)] dX6_order_151 rfl rfl (Nat.le_of_ble_eq_true rfl) ev9_1 rfl ?_
          refine x_goto (pc := 154) C 69 dX6_order_154 rfl ?_
          exact x_sub [1, 2, 3, 4, 5, 6, 7, 8, 0] rfl (ih _ _ _ _ h hx)
        refine x_icmp_le (pc := 128) C 151 dX6_order_128 rfl (fun c_3 => ?_) (fun c_3 => ?_)
        · refine x_sub [2, 3, 4, 5, 6, 7, 8, 9, 10] rfl ?_
          rw [show v6_1 = v6 from (ev6_1.trans (if_neg c_3))] at kd_1
          rw [show v7_1 = v7 from (ev7_1.trans (if_neg c_3))] at kd_1
          exact kd_1
        · refine x_iload (pc := 131) C 0 dX6_order_131 rfl ?_
          refine x_istore (pc := 133) C [(7, .int r_1), (11, .int r_1), (10, .int v10_1), (0, .ref (b + 0)), (1, .int v1), (2, .int v2), (3, .int v3), (4, .int v4), (6, .int v6), (8, .int v8), (9, .int v9)] dX6_order_133 (Nat.le_of_ble_eq_true rfl) rfl rfl ?_
          refine x_bipush (pc := 135) C (v := (100 : Int32)) dX6_order_135 rfl ?_
          refine x_iload (pc := 137) C 9 dX6_order_137 rfl ?_
          refine x_imul (pc := 139) C dX6_order_139 ?_
          refine x_bipush (pc := 140) C (v := (10 : Int32)) dX6_order_140 rfl ?_
          refine x_iload (pc := 142) C 10 dX6_order_142 rfl ?_
          refine x_imul (pc := 144) C dX6_order_144 ?_
          refine x_iadd (pc := 145) C dX6_order_145 ?_
          refine x_iload (pc := 146) C 2 dX6_order_146 rfl ?_
          refine x_iadd (pc := 148) C dX6_order_148 ?_
          refine x_istore (pc := 149) C [(6, .int ((((100 : Int32) * v8) + ((10 : Int32) * v9)) + v10_1)), (7, .int r_1), (11, .int r_1), (10, .int v10_1), (0, .ref (b + 0)), (1, .int v1), (2, .int v2), (3, .int v3), (4, .int v4), (8, .int v8), (9, .int v9)] dX6_order_149 (Nat.le_of_ble_eq_true rfl) rfl rfl ?_
          refine x_sub [4, 5, 6, 7, 8, 0, 1, 9, 10] rfl ?_
          rw [show v6_1 = ((((100 : Int32) * v8) + ((10 : Int32) * v9)) + v10_1) from (ev6_1.trans (if_pos c_3))] at kd_1
          rw [show v7_1 = r_1 from (ev7_1.trans (if_pos c_3))] at kd_1
          exact kd_1
      · replace h := of_ifp c_2 h
        refine x_goto (pc := 82) C 151 dX6_order_82 rfl ?_
        obtain ⟨v9_2, ev9_2, h⟩ := of_lt h
        refine x_iinc (pc := 151) C (w := (1 : Int32)) 8 [(9, .int v9_2), (0, .ref (b + 0)), (1, .int v1), (2, .int v2), (3, .int v3), (4, .int v4), (6, .int v6), (7, .int v7), (8, .int v8)] dX6_order_151 rfl rfl (Nat.le_of_ble_eq_true rfl) ev9_2 rfl ?_
        refine x_goto (pc := 154) C 69 dX6_order_154 rfl ?_
        exact x_sub [1, 2, 3, 4, 5, 6, 7, 8, 0] rfl (ih _ _ _ _ h hx)
set_option maxRecDepth 100000 in
set_option maxHeartbeats 4000000 in
theorem l_X6_order_60 {p : Program} {l : Launch} {e : Env} {s : State} {m : MethodId} {args : Array Value} {below : List Frame} {meth : Method} {c : Code} {G : zz_G} {L : Ly} {b : Nat} {Q : State → Prop} (C : CX p G s m args meth c cX6_order yX6_order 12 (some .int)) (hO : isGu L) (v1 : Int32) (v2 : Int32) (v3 : Int32) (v4 : Int32) : ∀ (n : Nat) (v6 : Int32) (v7 : Int32) (v8 : Int32) (S : Sg) {z}, L_X6_order_60 v1 v2 v3 v4 n v6 v7 v8 S = some z → (∀ (v6_o : Int32) (v7_o : Int32) (S_o : Sg), z = (v6_o, v7_o, S_o) → X p l e (rmz 6 141) s m args below meth c 0 0 Q 12 G L b S_o 163 [(4, .int v4), (6, .int v6_o), (7, .int v7_o)] []) → X p l e (rmz 6 141) s m args below meth c 0 0 Q 12 G L b S 60 [(0, .ref (b + 0)), (1, .int v1), (2, .int v2), (3, .int v3), (4, .int v4), (6, .int v6), (7, .int v7), (8, .int v8)] [] := by
  intro n
  induction n with
  | zero =>
    intro v6 v7 v8 S z h
    exact of_none h
  | succ n ih =>
    intro v6 v7 v8 S z h hx
    rw [L_X6_order_60] at h
    refine x_iload (pc := 60) C 7 dX6_order_60 rfl ?_
    refine x_iconst (pc := 62) C (v := (3 : Int32)) dX6_order_62 rfl ?_
    refine x_icmp_ge (pc := 63) C 163 dX6_order_63 rfl (fun c_1 => ?_) (fun c_1 => ?_)
    · replace h := of_ifn c_1 h
      exact x_sub [4, 5, 6] rfl (hx _ _ _ (of_s1 h).symm)
    · replace h := of_ifp c_1 h
      refine x_iconst (pc := 66) C (v := (0 : Int32)) dX6_order_66 rfl ?_
      refine x_istore (pc := 67) C [(9, .int (0 : Int32)), (0, .ref (b + 0)), (1, .int v1), (2, .int v2), (3, .int v3), (4, .int v4), (6, .int v6), (7, .int v7), (8, .int v8)] dX6_order_67 (Nat.le_of_ble_eq_true rfl) rfl rfl ?_
      refine x_sub [1, 2, 3, 4, 5, 6, 7, 8, 0] rfl ?_
      obtain ⟨z_hz_1, hz_1, h⟩ := of_bd h
      refine l_X6_order_69 C hO v1 v2 v3 v4 v8 400 _ _ _ _ hz_1 (fun v6_1 v7_1 S_1 ez => ?_)
      subst z_hz_1
      replace h := of_u3 h
      obtain ⟨v8_1, ev8_1, h⟩ := of_lt h
      refine x_iinc (pc := 157) C (w := (1 : Int32)) 7 [(8, .int v8_1), (0, .ref (b + 0)), (1, .int v1), (2, .int v2), (3, .int v3), (4, .int v4), (6, .int v6_1), (7, .int v7_1)] dX6_order_157 rfl rfl (Nat.le_of_ble_eq_true rfl) ev8_1 rfl ?_
      refine x_goto (pc := 160) C 60 dX6_order_160 rfl ?_
      exact x_sub [1, 2, 3, 4, 5, 6, 7, 0] rfl (ih _ _ _ _ h hx)
set_option maxRecDepth 100000 in
set_option maxHeartbeats 4000000 in
theorem c_X6_order {l : Launch} {G : zz_G} {L : Ly} {b : Nat} (p1 : Int32) (p2 : Int32) (p3 : Int32) (p4 : Int32) (hO : isGu L) (S : Sg) (rf : Int32) (Sf : Sg) (h : f_X6_order p1 p2 p3 p4 S = some (rf, Sf)) : Met l yX6_order (Cond.code yX6_order cX6_order 12 (some .int) :: zz_all) (rmz 6 141) (PC G L b S [.ref (b + 0), .int p1, .int p2, .int p3, .int p4]) (QC G L b Sf (some (.int rf)) True) 0 0 (fun q => b ≤ q) := by
  refine x_met [.ref (b + 0), .int p1, .int p2, .int p3, .int p4] (by decide +kernel) (Nat.le_of_ble_eq_true rfl) fun p e s m args below meth c C => ?_
  unfold f_X6_order at h
  refine x_iload_n (pc := 0) C 1 dX6_order_0 rfl ?_
  refine x_iload_n (pc := 1) C 2 dX6_order_1 rfl ?_
  refine x_iload_n (pc := 2) C 3 dX6_order_2 rfl ?_
  refine x_callS1 (pc := 3) C [.int p2, .int p3] [.int p1] (c_J9_min_7cf53 (b := b) p2 p3 S) cw_X6_228 vs_J9_min_7cf53 ⟨rfl, rfl, Nat.le_of_ble_eq_true rfl, Nat.le_of_ble_eq_true rfl⟩ ⟨Nat.le_refl _, Nat.le_refl _⟩ rfl ⟨rfl, Nat.le_of_ble_eq_true rfl⟩ dX6_order_3 (fun hx_1 => ?_)
  refine x_callS1 (pc := 6) C [.int p1, .int (f_J9_min_7cf53 p2 p3)] [] (c_J9_min_7cf53 (b := b) p1 (f_J9_min_7cf53 p2 p3) S) cw_X6_228 vs_J9_min_7cf53 ⟨rfl, rfl, Nat.le_of_ble_eq_true rfl, Nat.le_of_ble_eq_true rfl⟩ ⟨Nat.le_refl _, Nat.le_refl _⟩ rfl ⟨rfl, Nat.le_of_ble_eq_true rfl⟩ dX6_order_6 (fun hx_2 => ?_)
  refine x_iload_n (pc := 9) C 1 dX6_order_9 rfl ?_
  refine x_iload_n (pc := 10) C 2 dX6_order_10 rfl ?_
  refine x_iload_n (pc := 11) C 3 dX6_order_11 rfl ?_
  refine x_callS1 (pc := 12) C [.int p2, .int p3] [.int p1, .int (f_J9_min_7cf53 p1 (f_J9_min_7cf53 p2 p3))] (c_J9_max_7cf53 (b := b) p2 p3 S) cw_X6_233 vs_J9_max_7cf53 ⟨rfl, rfl, Nat.le_of_ble_eq_true rfl, Nat.le_of_ble_eq_true rfl⟩ ⟨Nat.le_refl _, Nat.le_refl _⟩ rfl ⟨rfl, Nat.le_of_ble_eq_true rfl⟩ dX6_order_12 (fun hx_3 => ?_)
  refine x_callS1 (pc := 15) C [.int p1, .int (f_J9_max_7cf53 p2 p3)] [.int (f_J9_min_7cf53 p1 (f_J9_min_7cf53 p2 p3))] (c_J9_max_7cf53 (b := b) p1 (f_J9_max_7cf53 p2 p3) S) cw_X6_233 vs_J9_max_7cf53 ⟨rfl, rfl, Nat.le_of_ble_eq_true rfl, Nat.le_of_ble_eq_true rfl⟩ ⟨Nat.le_refl _, Nat.le_refl _⟩ rfl ⟨rfl, Nat.le_of_ble_eq_true rfl⟩ dX6_order_15 (fun hx_4 => ?_)
  refine x_callS1 (pc := 18) C [.int (f_J9_min_7cf53 p1 (f_J9_min_7cf53 p2 p3)), .int (f_J9_max_7cf53 p1 (f_J9_max_7cf53 p2 p3))] [] (c_X6_misfitOfAll (b := b) (f_J9_min_7cf53 p1 (f_J9_min_7cf53 p2 p3)) (f_J9_max_7cf53 p1 (f_J9_max_7cf53 p2 p3)) S) cw_X6_236 vs_X6_misfitOfAll ⟨rfl, rfl, Nat.le_of_ble_eq_true rfl, Nat.le_of_ble_eq_true rfl⟩ ⟨Nat.le_refl _, Nat.le_refl _⟩ rfl ⟨rfl, Nat.le_of_ble_eq_true rfl⟩ dX6_order_18 (fun hx_5 => ?_)
  obtain ⟨v5_1, ev5_1, h⟩ := of_lt h
  refine x_istore (pc := 21) C [(5, .int v5_1), (0, .ref (b + 0)), (1, .int p1), (2, .int p2), (3, .int p3), (4, .int p4)] dX6_order_21 (Nat.le_of_ble_eq_true rfl) ev5_1 rfl ?_
  refine x_iload (pc := 23) C 0 dX6_order_23 rfl ?_
  refine x_if_eq (pc := 25) C 35 dX6_order_25 rfl (fun c_1 => ?_) (fun c_1 => ?_)
  · replace h := of_ifp c_1 h
    refine x_iload (pc := 35) C 5 dX6_order_35 rfl ?_
    refine x_iconst (pc := 37) C (v := (2 : Int32)) dX6_order_37 rfl ?_
    refine x_callS1 (pc := 38) C [.int p4, .int (2 : Int32)] [] (c_X6_isWithin (b := b) p4 (2 : Int32) S) cw_X6_69 vs_X6_isWithin ⟨rfl, rfl, Nat.le_of_ble_eq_true rfl, Nat.le_of_ble_eq_true rfl⟩ ⟨Nat.le_refl _, Nat.le_refl _⟩ rfl ⟨rfl, Nat.le_of_ble_eq_true rfl⟩ dX6_order_38 (fun hx_6 => ?_)
    refine x_if_ne (pc := 41) C 51 dX6_order_41 rfl (fun c_2 => ?_) (fun c_2 => ?_)
    · replace h := of_ifn c_2 h
      refine x_iconst (pc := 51) C (v := (0 : Int32)) dX6_order_51 rfl ?_
      refine x_istore (pc := 52) C [(6, .int (0 : Int32)), (5, .int v5_1), (0, .ref (b + 0)), (1, .int p1), (2, .int p2), (3, .int p3), (4, .int p4)] dX6_order_52 (Nat.le_of_ble_eq_true rfl) rfl rfl ?_
      refine x_iconst (pc := 54) C (v := (-1 : Int32)) dX6_order_54 rfl ?_
      refine x_istore (pc := 55) C [(7, .int (-1 : Int32)), (6, .int (0 : Int32)), (5, .int v5_1), (0, .ref (b + 0)), (1, .int p1), (2, .int p2), (3, .int p3), (4, .int p4)] dX6_order_55 (Nat.le_of_ble_eq_true rfl) rfl rfl ?_
      refine x_iconst (pc := 57) C (v := (0 : Int32)) dX6_order_57 rfl ?_
      refine x_istore (pc := 58) C [(8, .int (0 : Int32)), (7, .int (-1 : Int32)), (6, .int (0 : Int32)), (5, .int v5_1), (0, .ref (b + 0)), (1, .int p1), (2, .int p2), (3, .int p3), (4, .int p4)] dX6_order_58 (Nat.le_of_ble_eq_true rfl) rfl rfl ?_
      refine x_sub [4, 5, 6, 7, 8, 2, 1, 0] rfl ?_
      obtain ⟨z_hz_1, hz_1, h⟩ := of_bd h
      refine l_X6_order_60 C hO p1 p2 p3 p4 400 _ _ _ _ hz_1 (fun v6_1 v7_1 S_1 ez => ?_)
      subst z_hz_1
      replace h := of_u3 h
      refine x_iload (pc := 163) C 0 dX6_order_163 rfl ?_
      obtain ⟨x_1, ex_1, h⟩ := of_lt h
      have kd_1 : X p l e (rmz 6 141) s m args below meth c 0 0 (RQ G L b Sf below args s (some (.int rf)) True) 12 G L b S_1 175 [] [.int x_1] := by
        exact x_ireturn (pc := 175) C dX6_order_175 (of_sp h).1 (of_sp h).2
      refine x_if_ne (pc := 165) C 173 dX6_order_165 rfl (fun c_3 => ?_) (fun c_3 => ?_)
      · refine x_iload (pc := 173) C 2 dX6_order_173 rfl ?_
        refine x_sub [] rfl ?_
        rw [show x_1 = v7_1 from (ex_1.trans (if_neg c_3))] at kd_1
        exact kd_1
      · refine x_iload (pc := 168) C 1 dX6_order_168 rfl ?_
        refine x_goto (pc := 170) C 175 dX6_order_170 rfl ?_
        refine x_sub [] rfl ?_
        rw [show x_1 = v6_1 from (ex_1.trans (if_pos c_3))] at kd_1
        exact kd_1
    · replace h := of_ifp c_2 h
      refine x_aload_n (pc := 44) C 1 dX6_order_44 rfl ?_
      refine x_bipush (pc := 45) C (v := (-2 : Int32)) dX6_order_45 rfl ?_
      obtain ⟨⟨r_1, S_2⟩, hc_1, h⟩ := of_bd h
      replace h := of_u2 h
      refine x_callV1 (pc := 47) C (o := 0) [.int (-2 : Int32)] [] (c_X6_refuse (b := b) (-2 : Int32) hO S _ _ hc_1) cw_X6_73 vi_X6_refuse ⟨rfl, rfl, Nat.le_of_ble_eq_true rfl, Nat.le_of_ble_eq_true rfl⟩ ⟨Nat.le_refl _, Nat.le_refl _⟩ hO.1 ⟨rfl, rfl, rfl⟩ rfl ⟨rfl, Nat.le_of_ble_eq_true rfl⟩ dX6_order_47 (fun hx_7 => ?_)
      exact x_ireturn (pc := 50) C dX6_order_50 (of_sp h).1 (of_sp h).2
  · replace h := of_ifn c_1 h
    refine x_aload_n (pc := 28) C 1 dX6_order_28 rfl ?_
    refine x_iload (pc := 29) C 0 dX6_order_29 rfl ?_
    obtain ⟨⟨r_2, S_3⟩, hc_2, h⟩ := of_bd h
    replace h := of_u2 h
    refine x_callV1 (pc := 31) C (o := 0) [.int v5_1] [] (c_X6_refuse (b := b) v5_1 hO S _ _ hc_2) cw_X6_73 vi_X6_refuse ⟨rfl, rfl, Nat.le_of_ble_eq_true rfl, Nat.le_of_ble_eq_true rfl⟩ ⟨Nat.le_refl _, Nat.le_refl _⟩ hO.1 ⟨rfl, rfl, rfl⟩ rfl ⟨rfl, Nat.le_of_ble_eq_true rfl⟩ dX6_order_31 (fun hx_8 => ?_)
    exact x_ireturn (pc := 34) C dX6_order_34 (of_sp h).1 (of_sp h).2
set_option maxRecDepth 100000 in
set_option maxHeartbeats 4000000 in
theorem c_X6_person {l : Launch} {G : zz_G} {L : Ly} {b : Nat} (p1 : Int32) (p2 : Int32) (hO : isGu L) (S : Sg) (rf : Int32) (Sf : Sg) (h : f_X6_person p1 p2 S = some (rf, Sf)) : Met l yX6_person (Cond.code yX6_person cX6_person 4 (some .int) :: zz_all) (rmz 3 65) (PC G L b S [.ref (b + 0), .int p1, .int p2]) (QC G L b Sf (some (.int rf)) True) 0 0 (fun q => b ≤ q) := by
  refine x_met [.ref (b + 0), .int p1, .int p2] (by decide +kernel) (Nat.le_of_ble_eq_true rfl) fun p e s m args below meth c C => ?_
  unfold f_X6_person at h
  refine x_iload_n (pc := 0) C 1 dX6_person_0 rfl ?_
  refine x_bipush (pc := 1) C (v := (8 : Int32)) dX6_person_1 rfl ?_
  refine x_callS1 (pc := 3) C [.int p1, .int (8 : Int32)] [] (c_X6_isWithin (b := b) p1 (8 : Int32) S) cw_X6_69 vs_X6_isWithin ⟨rfl, rfl, Nat.le_of_ble_eq_true rfl, Nat.le_of_ble_eq_true rfl⟩ ⟨Nat.le_refl _, Nat.le_refl _⟩ rfl ⟨rfl, Nat.le_of_ble_eq_true rfl⟩ dX6_person_3 (fun hx_1 => ?_)
  refine x_if_ne (pc := 6) C 15 dX6_person_6 rfl (fun c_1 => ?_) (fun c_1 => ?_)
  · replace h := of_ifn c_1 h
    refine x_iload_n (pc := 15) C 2 dX6_person_15 rfl ?_
    refine x_iconst (pc := 16) C (v := (3 : Int32)) dX6_person_16 rfl ?_
    refine x_callS1 (pc := 17) C [.int p2, .int (3 : Int32)] [] (c_X6_isWithin (b := b) p2 (3 : Int32) S) cw_X6_69 vs_X6_isWithin ⟨rfl, rfl, Nat.le_of_ble_eq_true rfl, Nat.le_of_ble_eq_true rfl⟩ ⟨Nat.le_refl _, Nat.le_refl _⟩ rfl ⟨rfl, Nat.le_of_ble_eq_true rfl⟩ dX6_person_17 (fun hx_2 => ?_)
    refine x_if_ne (pc := 20) C 30 dX6_person_20 rfl (fun c_2 => ?_) (fun c_2 => ?_)
    · replace h := of_ifn c_2 h
      refine x_aload_n (pc := 30) C 0 dX6_person_30 rfl ?_
      refine x_getr (pc := 31) C (k := 0) 1 hO.1 rfl rfl wd_220 dX6_person_31 (Nat.le_of_ble_eq_true rfl) rfl ?_
      refine x_iload_n (pc := 34) C 1 dX6_person_34 rfl ?_
      obtain ⟨r_1, hc_1, h⟩ := of_bd h
      refine x_callV1 (pc := 35) C (o := 1) [.int p1] [] (c_X5_variableOf (b := b) 1 p1 hO.2.1 S _ hc_1) cw_X6_77 vi_X5_variableOf ⟨rfl, rfl, Nat.le_of_ble_eq_true rfl, Nat.le_of_ble_eq_true rfl⟩ ⟨Nat.le_refl _, Nat.le_refl _⟩ hO.2.1.1 ⟨rfl, rfl, rfl⟩ rfl ⟨rfl, Nat.le_of_ble_eq_true rfl⟩ dX6_person_35 (fun hx_3 => ?_)
      refine x_istore_n (pc := 38) C 3 [(3, .int r_1), (0, .ref (b + 0)), (1, .int p1), (2, .int p2)] dX6_person_38 rfl (Nat.le_of_ble_eq_true rfl) rfl rfl ?_
      refine x_iload_n (pc := 39) C 3 dX6_person_39 rfl ?_
      refine x_if_ne (pc := 40) C 54 dX6_person_40 rfl (fun c_3 => ?_) (fun c_3 => ?_)
      · replace h := of_ifn c_3 h
        refine x_iload_n (pc := 54) C 3 dX6_person_54 rfl ?_
        refine x_iconst (pc := 55) C (v := (1 : Int32)) dX6_person_55 rfl ?_
        refine x_icmp_ne (pc := 56) C 63 dX6_person_56 rfl (fun c_4 => ?_) (fun c_4 => ?_)
        · replace h := of_ifn c_4 h
          refine x_aload_n (pc := 63) C 1 dX6_person_63 rfl ?_
          refine x_getr (pc := 64) C (k := 0) 1 hO.1 rfl rfl wd_220 dX6_person_64 (Nat.le_of_ble_eq_true rfl) rfl ?_
          refine x_iload_n (pc := 67) C 0 dX6_person_67 rfl ?_
          obtain ⟨r_2, hc_2, h⟩ := of_bd h
          refine x_callV1 (pc := 68) C (o := 1) [.int r_1] [] (c_X5_isFree (b := b) 1 r_1 hO.2.1 S _ hc_2) cw_X6_83 vi_X5_isFree ⟨rfl, rfl, Nat.le_of_ble_eq_true rfl, Nat.le_of_ble_eq_true rfl⟩ ⟨Nat.le_refl _, Nat.le_refl _⟩ hO.2.1.1 ⟨rfl, rfl, rfl⟩ rfl ⟨rfl, Nat.le_of_ble_eq_true rfl⟩ dX6_person_68 (fun hx_4 => ?_)
          refine x_callS1 (pc := 71) C [.int r_2] [] (c_X6_asNumber (b := b) r_2 S) cw_X6_87 vs_X6_asNumber ⟨rfl, rfl, Nat.le_of_ble_eq_true rfl, Nat.le_of_ble_eq_true rfl⟩ ⟨Nat.le_refl _, Nat.le_refl _⟩ rfl ⟨rfl, Nat.le_of_ble_eq_true rfl⟩ dX6_person_71 (fun hx_5 => ?_)
          exact x_ireturn (pc := 74) C dX6_person_74 (of_sp h).1 (of_sp h).2
        · replace h := of_ifp c_4 h
          refine x_iload_n (pc := 59) C 0 dX6_person_59 rfl ?_
          refine x_goto (pc := 60) C 74 dX6_person_60 rfl ?_
          exact x_ireturn (pc := 74) C dX6_person_74 (of_sp h).1 (of_sp h).2
      · replace h := of_ifp c_3 h
        refine x_aload_n (pc := 43) C 1 dX6_person_43 rfl ?_
        refine x_getr (pc := 44) C (k := 0) 1 hO.1 rfl rfl wd_220 dX6_person_44 (Nat.le_of_ble_eq_true rfl) rfl ?_
        refine x_iload_n (pc := 47) C 0 dX6_person_47 rfl ?_
        obtain ⟨r_3, hc_3, h⟩ := of_bd h
        refine x_callV1 (pc := 48) C (o := 1) [.int r_1] [] (c_X5_valueOf (b := b) 1 r_1 hO.2.1 S _ hc_3) cw_X6_80 vi_X5_valueOf ⟨rfl, rfl, Nat.le_of_ble_eq_true rfl, Nat.le_of_ble_eq_true rfl⟩ ⟨Nat.le_refl _, Nat.le_refl _⟩ hO.2.1.1 ⟨rfl, rfl, rfl⟩ rfl ⟨rfl, Nat.le_of_ble_eq_true rfl⟩ dX6_person_48 (fun hx_6 => ?_)
        refine x_goto (pc := 51) C 74 dX6_person_51 rfl ?_
        exact x_ireturn (pc := 74) C dX6_person_74 (of_sp h).1 (of_sp h).2
    · replace h := of_ifp c_2 h
      refine x_aload_n (pc := 23) C 0 dX6_person_23 rfl ?_
      refine x_bipush (pc := 24) C (v := (-2 : Int32)) dX6_person_24 rfl ?_
      obtain ⟨⟨r_4, S_1⟩, hc_4, h⟩ := of_bd h
      replace h := of_u2 h
      refine x_callV1 (pc := 26) C (o := 0) [.int (-2 : Int32)] [] (c_X6_refuse (b := b) (-2 : Int32) hO S _ _ hc_4) cw_X6_73 vi_X6_refuse ⟨rfl, rfl, Nat.le_of_ble_eq_true rfl, Nat.le_of_ble_eq_true rfl⟩ ⟨Nat.le_refl _, Nat.le_refl _⟩ hO.1 ⟨rfl, rfl, rfl⟩ rfl ⟨rfl, Nat.le_of_ble_eq_true rfl⟩ dX6_person_26 (fun hx_7 => ?_)
      exact x_ireturn (pc := 29) C dX6_person_29 (of_sp h).1 (of_sp h).2
  · replace h := of_ifp c_1 h
    refine x_aload_n (pc := 9) C 0 dX6_person_9 rfl ?_
    refine x_iconst (pc := 10) C (v := (-1 : Int32)) dX6_person_10 rfl ?_
    obtain ⟨⟨r_5, S_2⟩, hc_5, h⟩ := of_bd h
    replace h := of_u2 h
    refine x_callV1 (pc := 11) C (o := 0) [.int (-1 : Int32)] [] (c_X6_refuse (b := b) (-1 : Int32) hO S _ _ hc_5) cw_X6_73 vi_X6_refuse ⟨rfl, rfl, Nat.le_of_ble_eq_true rfl, Nat.le_of_ble_eq_true rfl⟩ ⟨Nat.le_refl _, Nat.le_refl _⟩ hO.1 ⟨rfl, rfl, rfl⟩ rfl ⟨rfl, Nat.le_of_ble_eq_true rfl⟩ dX6_person_11 (fun hx_8 => ?_)
    exact x_ireturn (pc := 14) C dX6_person_14 (of_sp h).1 (of_sp h).2
set_option maxRecDepth 100000 in
set_option maxHeartbeats 4000000 in
theorem c_X6_pivots {l : Launch} {G : zz_G} {L : Ly} {b : Nat} (hO : isGu L) (S : Sg) : Met l yX6_pivots (Cond.code yX6_pivots cX6_pivots 1 (some .int) :: zz_all) (rmz 0 0) (PC G L b S [.ref (b + 0)]) (QC G L b S (some (.int (f_X6_pivots S))) True) 0 0 (fun q => b ≤ q) := by
  refine x_met [.ref (b + 0)] (by decide +kernel) (Nat.le_of_ble_eq_true rfl) fun p e s m args below meth c C => ?_
  generalize h : f_X6_pivots S = rf
  unfold f_X6_pivots at h
  refine x_aload_n (pc := 0) C 0 dX6_pivots_0 rfl ?_
  refine x_getr (pc := 1) C (k := 0) 1 hO.1 rfl rfl wd_220 dX6_pivots_1 (Nat.le_of_ble_eq_true rfl) rfl ?_
  refine x_getr (pc := 4) C (k := 10) (1 + 17) hO.2.1.1 rfl rfl wd_144 dX6_pivots_4 (Nat.le_of_ble_eq_true rfl) rfl ?_
  refine x_geti (pc := 7) C (k := 2) hO.2.1.2.2.2.2.2.2.2.2.1.1 rfl rfl wd_117 dX6_pivots_7 ⟨Nat.le_of_ble_eq_true rfl, rfl⟩ ?_
  exact x_ireturn (pc := 10) C dX6_pivots_10 h rfl
set_option maxRecDepth 100000 in
set_option maxHeartbeats 4000000 in
theorem c_X6_reduced {l : Launch} {G : zz_G} {L : Ly} {b : Nat} (p1 : Int32) (p2 : Int32) (p3 : Int32) (hO : isGu L) (S : Sg) (rf : Int64) (Sf : Sg) (h : f_X6_reduced p1 p2 p3 S = some (rf, Sf)) : Met l yX6_reduced (Cond.code yX6_reduced cX6_reduced 4 (some .long) :: zz_all) (rmz 3 82) (PC G L b S [.ref (b + 0), .int p1, .int p2, .int p3]) (QC G L b Sf (some (.long rf)) True) 0 0 (fun q => b ≤ q) := by
  refine x_met [.ref (b + 0), .int p1, .int p2, .int p3] (by decide +kernel) (Nat.le_of_ble_eq_true rfl) fun p e s m args below meth c C => ?_
  unfold f_X6_reduced at h
  refine x_iload_n (pc := 0) C 1 dX6_reduced_0 rfl ?_
  refine x_aload_n (pc := 1) C 0 dX6_reduced_1 rfl ?_
  refine x_getr (pc := 2) C (k := 0) 1 hO.1 rfl rfl wd_220 dX6_reduced_2 (Nat.le_of_ble_eq_true rfl) rfl ?_
  refine x_geti (pc := 5) C (k := 9) hO.2.1.1 rfl rfl wd_142 dX6_reduced_5 ⟨Nat.le_of_ble_eq_true rfl, rfl⟩ ?_
  refine x_callS1 (pc := 8) C [.int p1, .int (S.1 1 9)] [] (c_X6_isWithin (b := b) p1 (S.1 1 9) S) cw_X6_69 vs_X6_isWithin ⟨rfl, rfl, Nat.le_of_ble_eq_true rfl, Nat.le_of_ble_eq_true rfl⟩ ⟨Nat.le_refl _, Nat.le_refl _⟩ rfl ⟨rfl, Nat.le_of_ble_eq_true rfl⟩ dX6_reduced_8 (fun hx_1 => ?_)
  refine x_if_eq (pc := 11) C 25 dX6_reduced_11 rfl (fun c_1 => ?_) (fun c_1 => ?_)
  · replace h := of_ifp c_1 h
    refine x_ldc2 (pc := 25) C wd_557 dX6_reduced_25 ?_
    refine x_aload_n (pc := 28) C 0 dX6_reduced_28 rfl ?_
    refine x_iconst (pc := 29) C (v := (-1 : Int32)) dX6_reduced_29 rfl ?_
    obtain ⟨⟨r_1, S_1⟩, hc_1, h⟩ := of_bd h
    replace h := of_u2 h
    refine x_callV1 (pc := 30) C (o := 0) [.int (-1 : Int32)] [.long (4000000000000000000 : Int64)] (c_X6_refuse (b := b) (-1 : Int32) hO S _ _ hc_1) cw_X6_73 vi_X6_refuse ⟨rfl, rfl, Nat.le_of_ble_eq_true rfl, Nat.le_of_ble_eq_true rfl⟩ ⟨Nat.le_refl _, Nat.le_refl _⟩ hO.1 ⟨rfl, rfl, rfl⟩ rfl ⟨rfl, Nat.le_of_ble_eq_true rfl⟩ dX6_reduced_30 (fun hx_2 => ?_)
    refine x_i2l (pc := 33) C dX6_reduced_33 ?_
    refine x_lsub (pc := 34) C dX6_reduced_34 ?_
    exact x_lreturn (pc := 35) C dX6_reduced_35 (of_sp h).1 (of_sp h).2
  · replace h := of_ifn c_1 h
    refine x_aload_n (pc := 14) C 0 dX6_reduced_14 rfl ?_
    refine x_getr (pc := 15) C (k := 0) 1 hO.1 rfl rfl wd_220 dX6_reduced_15 (Nat.le_of_ble_eq_true rfl) rfl ?_
    refine x_iload_n (pc := 18) C 2 dX6_reduced_18 rfl ?_
    refine x_callV1 (pc := 19) C (o := 1) [.int p2] [] (c_X5_has (b := b) 1 p2 hO.2.1 S) cw_X6_91 vi_X5_has ⟨rfl, rfl, Nat.le_of_ble_eq_true rfl, Nat.le_of_ble_eq_true rfl⟩ ⟨Nat.le_refl _, Nat.le_refl _⟩ hO.2.1.1 ⟨rfl, rfl, rfl⟩ rfl ⟨rfl, Nat.le_of_ble_eq_true rfl⟩ dX6_reduced_19 (fun hx_3 => ?_)
    refine x_if_ne (pc := 22) C 36 dX6_reduced_22 rfl (fun c_2 => ?_) (fun c_2 => ?_)
    · replace h := of_ifn c_2 h
      refine x_iload_n (pc := 36) C 3 dX6_reduced_36 rfl ?_
      refine x_iconst (pc := 37) C (v := (2 : Int32)) dX6_reduced_37 rfl ?_
      refine x_callS1 (pc := 38) C [.int p3, .int (2 : Int32)] [] (c_X6_isWithin (b := b) p3 (2 : Int32) S) cw_X6_69 vs_X6_isWithin ⟨rfl, rfl, Nat.le_of_ble_eq_true rfl, Nat.le_of_ble_eq_true rfl⟩ ⟨Nat.le_refl _, Nat.le_refl _⟩ rfl ⟨rfl, Nat.le_of_ble_eq_true rfl⟩ dX6_reduced_38 (fun hx_4 => ?_)
      refine x_if_ne (pc := 41) C 56 dX6_reduced_41 rfl (fun c_3 => ?_) (fun c_3 => ?_)
      · replace h := of_ifn c_3 h
        refine x_aload_n (pc := 56) C 0 dX6_reduced_56 rfl ?_
        refine x_getr (pc := 57) C (k := 0) 1 hO.1 rfl rfl wd_220 dX6_reduced_57 (Nat.le_of_ble_eq_true rfl) rfl ?_
        refine x_getr (pc := 60) C (k := 10) (1 + 17) hO.2.1.1 rfl rfl wd_144 dX6_reduced_60 (Nat.le_of_ble_eq_true rfl) rfl ?_
        refine x_iload_n (pc := 63) C 1 dX6_reduced_63 rfl ?_
        refine x_iload_n (pc := 64) C 2 dX6_reduced_64 rfl ?_
        refine x_iload_n (pc := 65) C 3 dX6_reduced_65 rfl ?_
        obtain ⟨r_2, hc_2, h⟩ := of_bd h
        refine x_callV1 (pc := 66) C (o := (1 + 17)) [.int p1, .int p2, .int p3] [] (c_X4_reducedPart (b := b) (1 + 17) p1 p2 p3 hO.2.1.2.2.2.2.2.2.2.2.1 S _ hc_2) cw_X6_191 vi_X4_reducedPart ⟨rfl, rfl, Nat.le_of_ble_eq_true rfl, Nat.le_of_ble_eq_true rfl⟩ ⟨Nat.le_refl _, Nat.le_refl _⟩ hO.2.1.2.2.2.2.2.2.2.2.1.1 ⟨rfl, rfl, rfl⟩ rfl ⟨rfl, Nat.le_of_ble_eq_true rfl⟩ dX6_reduced_66 (fun hx_5 => ?_)
        exact x_lreturn (pc := 69) C dX6_reduced_69 (of_sp h).1 (of_sp h).2
      · replace h := of_ifp c_3 h
        refine x_ldc2 (pc := 44) C wd_557 dX6_reduced_44 ?_
        refine x_aload_n (pc := 47) C 0 dX6_reduced_47 rfl ?_
        refine x_bipush (pc := 48) C (v := (-2 : Int32)) dX6_reduced_48 rfl ?_
        obtain ⟨⟨r_3, S_2⟩, hc_3, h⟩ := of_bd h
        replace h := of_u2 h
        refine x_callV1 (pc := 50) C (o := 0) [.int (-2 : Int32)] [.long (4000000000000000000 : Int64)] (c_X6_refuse (b := b) (-2 : Int32) hO S _ _ hc_3) cw_X6_73 vi_X6_refuse ⟨rfl, rfl, Nat.le_of_ble_eq_true rfl, Nat.le_of_ble_eq_true rfl⟩ ⟨Nat.le_refl _, Nat.le_refl _⟩ hO.1 ⟨rfl, rfl, rfl⟩ rfl ⟨rfl, Nat.le_of_ble_eq_true rfl⟩ dX6_reduced_50 (fun hx_6 => ?_)
        refine x_i2l (pc := 53) C dX6_reduced_53 ?_
        refine x_lsub (pc := 54) C dX6_reduced_54 ?_
        exact x_lreturn (pc := 55) C dX6_reduced_55 (of_sp h).1 (of_sp h).2
    · replace h := of_ifp c_2 h
      refine x_ldc2 (pc := 25) C wd_557 dX6_reduced_25 ?_
      refine x_aload_n (pc := 28) C 0 dX6_reduced_28 rfl ?_
      refine x_iconst (pc := 29) C (v := (-1 : Int32)) dX6_reduced_29 rfl ?_
      obtain ⟨⟨r_4, S_3⟩, hc_4, h⟩ := of_bd h
      replace h := of_u2 h
      refine x_callV1 (pc := 30) C (o := 0) [.int (-1 : Int32)] [.long (4000000000000000000 : Int64)] (c_X6_refuse (b := b) (-1 : Int32) hO S _ _ hc_4) cw_X6_73 vi_X6_refuse ⟨rfl, rfl, Nat.le_of_ble_eq_true rfl, Nat.le_of_ble_eq_true rfl⟩ ⟨Nat.le_refl _, Nat.le_refl _⟩ hO.1 ⟨rfl, rfl, rfl⟩ rfl ⟨rfl, Nat.le_of_ble_eq_true rfl⟩ dX6_reduced_30 (fun hx_7 => ?_)
      refine x_i2l (pc := 33) C dX6_reduced_33 ?_
      refine x_lsub (pc := 34) C dX6_reduced_34 ?_
      exact x_lreturn (pc := 35) C dX6_reduced_35 (of_sp h).1 (of_sp h).2
set_option maxRecDepth 100000 in
set_option maxHeartbeats 4000000 in
theorem c_X6_row {l : Launch} {G : zz_G} {L : Ly} {b : Nat} (p1 : Int32) (hO : isGu L) (S : Sg) (rf : Int32) (Sf : Sg) (h : f_X6_row p1 S = some (rf, Sf)) : Met l yX6_row (Cond.code yX6_row cX6_row 2 (some .int) :: zz_all) (rmz 3 66) (PC G L b S [.ref (b + 0), .int p1]) (QC G L b Sf (some (.int rf)) True) 0 0 (fun q => b ≤ q) := by
  refine x_met [.ref (b + 0), .int p1] (by decide +kernel) (Nat.le_of_ble_eq_true rfl) fun p e s m args below meth c C => ?_
  unfold f_X6_row at h
  refine x_aload_n (pc := 0) C 0 dX6_row_0 rfl ?_
  refine x_aload_n (pc := 1) C 0 dX6_row_1 rfl ?_
  refine x_getr (pc := 2) C (k := 7) 137 hO.1 rfl rfl wd_227 dX6_row_2 (Nat.le_of_ble_eq_true rfl) rfl ?_
  refine x_iload_n (pc := 5) C 1 dX6_row_5 rfl ?_
  obtain ⟨⟨r_1, S_1⟩, hc_1, h⟩ := of_bd h
  replace h := of_u2 h
  refine x_callV1 (pc := 6) C (o := 0) [.ref (b + 137), .int p1] [] (c_X6_append (b := b) 137 32 p1 hO hO.2.2.2.2.2.2.2.1 S _ _ hc_1) cw_X6_52 vi_X6_append ⟨rfl, rfl, Nat.le_of_ble_eq_true rfl, Nat.le_of_ble_eq_true rfl⟩ ⟨Nat.le_refl _, Nat.le_refl _⟩ hO.1 ⟨rfl, rfl, rfl⟩ rfl ⟨rfl, Nat.le_of_ble_eq_true rfl⟩ dX6_row_6 (fun hx_1 => ?_)
  exact x_ireturn (pc := 9) C dX6_row_9 (of_sp h).1 (of_sp h).2
set_option maxRecDepth 100000 in
set_option maxHeartbeats 4000000 in
theorem c_X6_rule {l : Launch} {G : zz_G} {L : Ly} {b : Nat} (p1 : Int32) (hO : isGu L) (S : Sg) (rf : Int32) (Sf : Sg) (h : f_X6_rule p1 S = some (rf, Sf)) : Met l yX6_rule (Cond.code yX6_rule cX6_rule 3 (some .int) :: zz_all) (rmz 2 43) (PC G L b S [.ref (b + 0), .int p1]) (QC G L b Sf (some (.int rf)) True) 0 0 (fun q => b ≤ q) := by
  refine x_met [.ref (b + 0), .int p1] (by decide +kernel) (Nat.le_of_ble_eq_true rfl) fun p e s m args below meth c C => ?_
  unfold f_X6_rule at h
  refine x_aload_n (pc := 0) C 0 dX6_rule_0 rfl ?_
  refine x_getr (pc := 1) C (k := 0) 1 hO.1 rfl rfl wd_220 dX6_rule_1 (Nat.le_of_ble_eq_true rfl) rfl ?_
  refine x_geti (pc := 4) C (k := 5) hO.2.1.1 rfl rfl wd_135 dX6_rule_4 ⟨Nat.le_of_ble_eq_true rfl, rfl⟩ ?_
  obtain ⟨v2_1, ev2_1, h⟩ := of_lt h
  refine x_istore_n (pc := 7) C 2 [(2, .int v2_1), (0, .ref (b + 0)), (1, .int p1)] dX6_rule_7 rfl (Nat.le_of_ble_eq_true rfl) ev2_1 rfl ?_
  refine x_aload_n (pc := 8) C 1 dX6_rule_8 rfl ?_
  refine x_getr (pc := 9) C (k := 0) 1 hO.1 rfl rfl wd_220 dX6_rule_9 (Nat.le_of_ble_eq_true rfl) rfl ?_
  refine x_iload_n (pc := 12) C 2 dX6_rule_12 rfl ?_
  obtain ⟨⟨r_1, S_1⟩, hc_1, h⟩ := of_bd h
  replace h := of_u2 h
  refine x_callV1 (pc := 13) C (o := 1) [.int p1] [] (c_X5_takeRule (b := b) 1 p1 hO.2.1 S _ _ hc_1) cw_X6_137 vi_X5_takeRule ⟨rfl, rfl, Nat.le_of_ble_eq_true rfl, Nat.le_of_ble_eq_true rfl⟩ ⟨Nat.le_refl _, Nat.le_refl _⟩ hO.2.1.1 ⟨rfl, rfl, rfl⟩ rfl ⟨rfl, Nat.le_of_ble_eq_true rfl⟩ dX6_rule_13 (fun hx_1 => ?_)
  refine x_if_eq (pc := 16) C 23 dX6_rule_16 rfl (fun c_1 => ?_) (fun c_1 => ?_)
  · replace h := of_ifp c_1 h
    refine x_aload_n (pc := 23) C 1 dX6_rule_23 rfl ?_
    refine x_bipush (pc := 24) C (v := (-2 : Int32)) dX6_rule_24 rfl ?_
    obtain ⟨⟨r_2, S_2⟩, hc_2, h⟩ := of_bd h
    replace h := of_u2 h
    refine x_callV1 (pc := 26) C (o := 0) [.int (-2 : Int32)] [] (c_X6_refuse (b := b) (-2 : Int32) hO S_1 _ _ hc_2) cw_X6_73 vi_X6_refuse ⟨rfl, rfl, Nat.le_of_ble_eq_true rfl, Nat.le_of_ble_eq_true rfl⟩ ⟨Nat.le_refl _, Nat.le_refl _⟩ hO.1 ⟨rfl, rfl, rfl⟩ rfl ⟨rfl, Nat.le_of_ble_eq_true rfl⟩ dX6_rule_26 (fun hx_2 => ?_)
    exact x_ireturn (pc := 29) C dX6_rule_29 (of_sp h).1 (of_sp h).2
  · replace h := of_ifn c_1 h
    refine x_iload_n (pc := 19) C 0 dX6_rule_19 rfl ?_
    refine x_goto (pc := 20) C 29 dX6_rule_20 rfl ?_
    exact x_ireturn (pc := 29) C dX6_rule_29 (of_sp h).1 (of_sp h).2
set_option maxRecDepth 100000 in
set_option maxHeartbeats 4000000 in
theorem c_X6_share {l : Launch} {G : zz_G} {L : Ly} {b : Nat} (p1 : Int32) (hO : isGu L) (S : Sg) (rf : Int64) (Sf : Sg) (h : f_X6_share p1 S = some (rf, Sf)) : Met l yX6_share (Cond.code yX6_share cX6_share 2 (some .long) :: zz_all) (rmz 5 119) (PC G L b S [.ref (b + 0), .int p1]) (QC G L b Sf (some (.long rf)) True) 0 0 (fun q => b ≤ q) := by
  refine x_met [.ref (b + 0), .int p1] (by decide +kernel) (Nat.le_of_ble_eq_true rfl) fun p e s m args below meth c C => ?_
  unfold f_X6_share at h
  refine x_iload_n (pc := 0) C 1 dX6_share_0 rfl ?_
  refine x_iconst (pc := 1) C (v := (2 : Int32)) dX6_share_1 rfl ?_
  refine x_callS1 (pc := 2) C [.int p1, .int (2 : Int32)] [] (c_X6_isWithin (b := b) p1 (2 : Int32) S) cw_X6_69 vs_X6_isWithin ⟨rfl, rfl, Nat.le_of_ble_eq_true rfl, Nat.le_of_ble_eq_true rfl⟩ ⟨Nat.le_refl _, Nat.le_refl _⟩ rfl ⟨rfl, Nat.le_of_ble_eq_true rfl⟩ dX6_share_2 (fun hx_1 => ?_)
  refine x_if_ne (pc := 5) C 20 dX6_share_5 rfl (fun c_1 => ?_) (fun c_1 => ?_)
  · replace h := of_ifn c_1 h
    refine x_sipush (pc := 20) C (v := (255 : Int32)) dX6_share_20 rfl ?_
    refine x_aload_n (pc := 23) C 0 dX6_share_23 rfl ?_
    refine x_iconst (pc := 24) C (v := (2 : Int32)) dX6_share_24 rfl ?_
    obtain ⟨⟨r_1, S_1⟩, hc_1, h⟩ := of_bd h
    replace h := of_u2 h
    refine x_callV1 (pc := 25) C (o := 0) [.int (2 : Int32)] [.int (255 : Int32)] (c_X6_howMany (b := b) (2 : Int32) hO S _ _ hc_1) cw_X6_169 vi_X6_howMany ⟨rfl, rfl, Nat.le_of_ble_eq_true rfl, Nat.le_of_ble_eq_true rfl⟩ ⟨Nat.le_refl _, Nat.le_refl _⟩ hO.1 ⟨rfl, rfl, rfl⟩ rfl ⟨rfl, Nat.le_of_ble_eq_true rfl⟩ dX6_share_25 (fun hx_2 => ?_)
    refine x_isub (pc := 28) C dX6_share_28 ?_
    refine x_i2l (pc := 29) C dX6_share_29 ?_
    refine x_ldc2 (pc := 30) C wd_663 dX6_share_30 ?_
    refine x_iload_n (pc := 33) C 1 dX6_share_33 rfl ?_
    obtain ⟨r_2, hc_2, h⟩ := of_bd h
    refine x_callS1 (pc := 34) C [.long ((255 : Int32) - r_1).toInt64, .long (255 : Int64), .int p1] [] (c_X6_partInLeastTerms (b := b) (((255 : Int32) - r_1).toInt64) (255 : Int64) p1 S_1 _ hc_2) cw_X6_224 vs_X6_partInLeastTerms ⟨rfl, rfl, Nat.le_of_ble_eq_true rfl, Nat.le_of_ble_eq_true rfl⟩ ⟨Nat.le_refl _, Nat.le_refl _⟩ rfl ⟨rfl, Nat.le_of_ble_eq_true rfl⟩ dX6_share_34 (fun hx_3 => ?_)
    exact x_lreturn (pc := 37) C dX6_share_37 (of_sp h).1 (of_sp h).2
  · replace h := of_ifp c_1 h
    refine x_ldc2 (pc := 8) C wd_557 dX6_share_8 ?_
    refine x_aload_n (pc := 11) C 0 dX6_share_11 rfl ?_
    refine x_bipush (pc := 12) C (v := (-2 : Int32)) dX6_share_12 rfl ?_
    obtain ⟨⟨r_3, S_2⟩, hc_3, h⟩ := of_bd h
    replace h := of_u2 h
    refine x_callV1 (pc := 14) C (o := 0) [.int (-2 : Int32)] [.long (4000000000000000000 : Int64)] (c_X6_refuse (b := b) (-2 : Int32) hO S _ _ hc_3) cw_X6_73 vi_X6_refuse ⟨rfl, rfl, Nat.le_of_ble_eq_true rfl, Nat.le_of_ble_eq_true rfl⟩ ⟨Nat.le_refl _, Nat.le_refl _⟩ hO.1 ⟨rfl, rfl, rfl⟩ rfl ⟨rfl, Nat.le_of_ble_eq_true rfl⟩ dX6_share_14 (fun hx_4 => ?_)
    refine x_i2l (pc := 17) C dX6_share_17 ?_
    refine x_lsub (pc := 18) C dX6_share_18 ?_
    exact x_lreturn (pc := 19) C dX6_share_19 (of_sp h).1 (of_sp h).2
set_option maxRecDepth 100000 in
set_option maxHeartbeats 4000000 in
theorem c_X6_sums {l : Launch} {G : zz_G} {L : Ly} {b : Nat} (p1 : Int32) (hO : isGu L) (S : Sg) (rf : Int32) (Sf : Sg) (h : f_X6_sums p1 S = some (rf, Sf)) : Met l yX6_sums (Cond.code yX6_sums cX6_sums 2 (some .int) :: zz_all) (rmz 5 119) (PC G L b S [.ref (b + 0), .int p1]) (QC G L b Sf (some (.int rf)) True) 0 0 (fun q => b ≤ q) := by
  refine x_met [.ref (b + 0), .int p1] (by decide +kernel) (Nat.le_of_ble_eq_true rfl) fun p e s m args below meth c C => ?_
  unfold f_X6_sums at h
  refine x_iload_n (pc := 0) C 1 dX6_sums_0 rfl ?_
  by_cases c_1 : p1 = (0 : Int32)
  · replace h := of_ifp c_1 h
    refine x_tabIn (pc := 1) C 32 dX6_sums_1 c_1 (by decide) (by decide) rfl rfl ?_
    refine x_aload_n (pc := 32) C 0 dX6_sums_32 rfl ?_
    obtain ⟨⟨r_1, S_1⟩, hc_1, h⟩ := of_bd h
    replace h := of_u2 h
    refine x_callV1 (pc := 33) C (o := 0) [] [] (c_X6_leastJoining (b := b) hO S _ _ hc_1) cw_X6_165 vi_X6_leastJoining ⟨rfl, rfl, Nat.le_of_ble_eq_true rfl, Nat.le_of_ble_eq_true rfl⟩ ⟨Nat.le_refl _, Nat.le_refl _⟩ hO.1 ⟨rfl, rfl, rfl⟩ rfl ⟨rfl, Nat.le_of_ble_eq_true rfl⟩ dX6_sums_33 (fun hx_1 => ?_)
    exact x_ireturn (pc := 36) C dX6_sums_36 (of_sp h).1 (of_sp h).2
  replace h := of_ifn c_1 h
  by_cases c_2 : p1 = (1 : Int32)
  · replace h := of_ifp c_2 h
    refine x_tabIn (pc := 1) C 37 dX6_sums_1 c_2 (by decide) (by decide) rfl rfl ?_
    refine x_aload_n (pc := 37) C 0 dX6_sums_37 rfl ?_
    refine x_iconst (pc := 38) C (v := (1 : Int32)) dX6_sums_38 rfl ?_
    obtain ⟨⟨r_2, S_2⟩, hc_2, h⟩ := of_bd h
    replace h := of_u2 h
    refine x_callV1 (pc := 39) C (o := 0) [.int (1 : Int32)] [] (c_X6_howMany (b := b) (1 : Int32) hO S _ _ hc_2) cw_X6_169 vi_X6_howMany ⟨rfl, rfl, Nat.le_of_ble_eq_true rfl, Nat.le_of_ble_eq_true rfl⟩ ⟨Nat.le_refl _, Nat.le_refl _⟩ hO.1 ⟨rfl, rfl, rfl⟩ rfl ⟨rfl, Nat.le_of_ble_eq_true rfl⟩ dX6_sums_39 (fun hx_2 => ?_)
    exact x_ireturn (pc := 42) C dX6_sums_42 (of_sp h).1 (of_sp h).2
  replace h := of_ifn c_2 h
  by_cases c_3 : p1 = (2 : Int32)
  · replace h := of_ifp c_3 h
    refine x_tabIn (pc := 1) C 43 dX6_sums_1 c_3 (by decide) (by decide) rfl rfl ?_
    refine x_aload_n (pc := 43) C 0 dX6_sums_43 rfl ?_
    refine x_iconst (pc := 44) C (v := (2 : Int32)) dX6_sums_44 rfl ?_
    obtain ⟨⟨r_3, S_3⟩, hc_3, h⟩ := of_bd h
    replace h := of_u2 h
    refine x_callV1 (pc := 45) C (o := 0) [.int (2 : Int32)] [] (c_X6_howMany (b := b) (2 : Int32) hO S _ _ hc_3) cw_X6_169 vi_X6_howMany ⟨rfl, rfl, Nat.le_of_ble_eq_true rfl, Nat.le_of_ble_eq_true rfl⟩ ⟨Nat.le_refl _, Nat.le_refl _⟩ hO.1 ⟨rfl, rfl, rfl⟩ rfl ⟨rfl, Nat.le_of_ble_eq_true rfl⟩ dX6_sums_45 (fun hx_3 => ?_)
    exact x_ireturn (pc := 48) C dX6_sums_48 (of_sp h).1 (of_sp h).2
  replace h := of_ifn c_3 h
  by_cases c_4 : p1 = (3 : Int32)
  · replace h := of_ifp c_4 h
    refine x_tabIn (pc := 1) C 49 dX6_sums_1 c_4 (by decide) (by decide) rfl rfl ?_
    refine x_aload_n (pc := 49) C 0 dX6_sums_49 rfl ?_
    refine x_iconst (pc := 50) C (v := (0 : Int32)) dX6_sums_50 rfl ?_
    obtain ⟨⟨r_4, S_4⟩, hc_4, h⟩ := of_bd h
    replace h := of_u2 h
    refine x_callV1 (pc := 51) C (o := 0) [.int (0 : Int32)] [] (c_X6_howMany (b := b) (0 : Int32) hO S _ _ hc_4) cw_X6_169 vi_X6_howMany ⟨rfl, rfl, Nat.le_of_ble_eq_true rfl, Nat.le_of_ble_eq_true rfl⟩ ⟨Nat.le_refl _, Nat.le_refl _⟩ hO.1 ⟨rfl, rfl, rfl⟩ rfl ⟨rfl, Nat.le_of_ble_eq_true rfl⟩ dX6_sums_51 (fun hx_4 => ?_)
    exact x_ireturn (pc := 54) C dX6_sums_54 (of_sp h).1 (of_sp h).2
  replace h := of_ifn c_4 h
  refine x_tabOut (pc := 1) C 55 dX6_sums_1 (by have := lv_neT c_1 (show ((0 : Int32)).toInt = 0 from rfl); have := lv_neT c_2 (show ((1 : Int32)).toInt = 1 from rfl); have := lv_neT c_3 (show ((2 : Int32)).toInt = 2 from rfl); have := lv_neT c_4 (show ((3 : Int32)).toInt = 3 from rfl); omega) rfl ?_
  refine x_aload_n (pc := 55) C 0 dX6_sums_55 rfl ?_
  refine x_bipush (pc := 56) C (v := (-2 : Int32)) dX6_sums_56 rfl ?_
  obtain ⟨⟨r_5, S_5⟩, hc_5, h⟩ := of_bd h
  replace h := of_u2 h
  refine x_callV1 (pc := 58) C (o := 0) [.int (-2 : Int32)] [] (c_X6_refuse (b := b) (-2 : Int32) hO S _ _ hc_5) cw_X6_73 vi_X6_refuse ⟨rfl, rfl, Nat.le_of_ble_eq_true rfl, Nat.le_of_ble_eq_true rfl⟩ ⟨Nat.le_refl _, Nat.le_refl _⟩ hO.1 ⟨rfl, rfl, rfl⟩ rfl ⟨rfl, Nat.le_of_ble_eq_true rfl⟩ dX6_sums_58 (fun hx_5 => ?_)
  exact x_ireturn (pc := 61) C dX6_sums_61 (of_sp h).1 (of_sp h).2
set_option maxRecDepth 100000 in
set_option maxHeartbeats 4000000 in
theorem c_X6_tells {l : Launch} {G : zz_G} {L : Ly} {b : Nat} (p1 : Int32) (p2 : Int32) (hO : isGu L) (S : Sg) (rf : Int32) (Sf : Sg) (h : f_X6_tells p1 p2 S = some (rf, Sf)) : Met l yX6_tells (Cond.code yX6_tells cX6_tells 5 (some .int) :: zz_all) (rmz 4 88) (PC G L b S [.ref (b + 0), .int p1, .int p2]) (QC G L b Sf (some (.int rf)) True) 0 0 (fun q => b ≤ q) := by
  refine x_met [.ref (b + 0), .int p1, .int p2] (by decide +kernel) (Nat.le_of_ble_eq_true rfl) fun p e s m args below meth c C => ?_
  unfold f_X6_tells at h
  refine x_iload_n (pc := 0) C 1 dX6_tells_0 rfl ?_
  refine x_iload_n (pc := 1) C 2 dX6_tells_1 rfl ?_
  refine x_callS1 (pc := 2) C [.int p1, .int p2] [] (c_X6_misfitOfValue (b := b) p1 p2 S) cw_X6_116 vs_X6_misfitOfValue ⟨rfl, rfl, Nat.le_of_ble_eq_true rfl, Nat.le_of_ble_eq_true rfl⟩ ⟨Nat.le_refl _, Nat.le_refl _⟩ rfl ⟨rfl, Nat.le_of_ble_eq_true rfl⟩ dX6_tells_2 (fun hx_1 => ?_)
  obtain ⟨v3_1, ev3_1, h⟩ := of_lt h
  refine x_istore_n (pc := 5) C 3 [(3, .int v3_1), (0, .ref (b + 0)), (1, .int p1), (2, .int p2)] dX6_tells_5 rfl (Nat.le_of_ble_eq_true rfl) ev3_1 rfl ?_
  refine x_iload_n (pc := 6) C 0 dX6_tells_6 rfl ?_
  refine x_if_eq (pc := 7) C 16 dX6_tells_7 rfl (fun c_1 => ?_) (fun c_1 => ?_)
  · replace h := of_ifp c_1 h
    refine x_aload_n (pc := 16) C 1 dX6_tells_16 rfl ?_
    refine x_getr (pc := 17) C (k := 0) 1 hO.1 rfl rfl wd_220 dX6_tells_17 (Nat.le_of_ble_eq_true rfl) rfl ?_
    refine x_aload_n (pc := 20) C 1 dX6_tells_20 rfl ?_
    refine x_getr (pc := 21) C (k := 0) 1 hO.1 rfl rfl wd_220 dX6_tells_21 (Nat.le_of_ble_eq_true rfl) rfl ?_
    refine x_iload_n (pc := 24) C 2 dX6_tells_24 rfl ?_
    obtain ⟨r_1, hc_1, h⟩ := of_bd h
    refine x_callV1 (pc := 25) C (o := 1) [.int p1] [.ref (b + 1)] (c_X5_variableOf (b := b) 1 p1 hO.2.1 S _ hc_1) cw_X6_77 vi_X5_variableOf ⟨rfl, rfl, Nat.le_of_ble_eq_true rfl, Nat.le_of_ble_eq_true rfl⟩ ⟨Nat.le_refl _, Nat.le_refl _⟩ hO.2.1.1 ⟨rfl, rfl, rfl⟩ rfl ⟨rfl, Nat.le_of_ble_eq_true rfl⟩ dX6_tells_25 (fun hx_2 => ?_)
    obtain ⟨r_2, hc_2, h⟩ := of_bd h
    refine x_callV1 (pc := 28) C (o := 1) [.int r_1] [] (c_X5_valueOf (b := b) 1 r_1 hO.2.1 S _ hc_2) cw_X6_80 vi_X5_valueOf ⟨rfl, rfl, Nat.le_of_ble_eq_true rfl, Nat.le_of_ble_eq_true rfl⟩ ⟨Nat.le_refl _, Nat.le_refl _⟩ hO.2.1.1 ⟨rfl, rfl, rfl⟩ rfl ⟨rfl, Nat.le_of_ble_eq_true rfl⟩ dX6_tells_28 (fun hx_3 => ?_)
    refine x_istore (pc := 31) C [(4, .int r_2), (3, .int v3_1), (0, .ref (b + 0)), (1, .int p1), (2, .int p2)] dX6_tells_31 (Nat.le_of_ble_eq_true rfl) rfl rfl ?_
    refine x_aload_n (pc := 33) C 2 dX6_tells_33 rfl ?_
    refine x_getr (pc := 34) C (k := 0) 1 hO.1 rfl rfl wd_220 dX6_tells_34 (Nat.le_of_ble_eq_true rfl) rfl ?_
    refine x_iload_n (pc := 37) C 3 dX6_tells_37 rfl ?_
    refine x_iload_n (pc := 38) C 4 dX6_tells_38 rfl ?_
    obtain ⟨⟨r_3, S_1⟩, hc_3, h⟩ := of_bd h
    replace h := of_u2 h
    refine x_callV1 (pc := 39) C (o := 1) [.int p1, .int p2] [] (c_X5_takeTold (b := b) 1 p1 p2 hO.2.1 S _ _ hc_3) cw_X6_119 vi_X5_takeTold ⟨rfl, rfl, Nat.le_of_ble_eq_true rfl, Nat.le_of_ble_eq_true rfl⟩ ⟨Nat.le_refl _, Nat.le_refl _⟩ hO.2.1.1 ⟨rfl, rfl, rfl⟩ rfl ⟨rfl, Nat.le_of_ble_eq_true rfl⟩ dX6_tells_39 (fun hx_4 => ?_)
    refine x_if_eq (pc := 42) C 50 dX6_tells_42 rfl (fun c_2 => ?_) (fun c_2 => ?_)
    · replace h := of_ifp c_2 h
      refine x_aload_n (pc := 50) C 2 dX6_tells_50 rfl ?_
      refine x_bipush (pc := 51) C (v := (-3 : Int32)) dX6_tells_51 rfl ?_
      obtain ⟨⟨r_4, S_2⟩, hc_4, h⟩ := of_bd h
      replace h := of_u2 h
      refine x_callV1 (pc := 53) C (o := 0) [.int (-3 : Int32)] [] (c_X6_refuse (b := b) (-3 : Int32) hO S_1 _ _ hc_4) cw_X6_73 vi_X6_refuse ⟨rfl, rfl, Nat.le_of_ble_eq_true rfl, Nat.le_of_ble_eq_true rfl⟩ ⟨Nat.le_refl _, Nat.le_refl _⟩ hO.1 ⟨rfl, rfl, rfl⟩ rfl ⟨rfl, Nat.le_of_ble_eq_true rfl⟩ dX6_tells_53 (fun hx_5 => ?_)
      exact x_ireturn (pc := 56) C dX6_tells_56 (of_sp h).1 (of_sp h).2
    · replace h := of_ifn c_2 h
      refine x_iload (pc := 45) C 0 dX6_tells_45 rfl ?_
      refine x_goto (pc := 47) C 56 dX6_tells_47 rfl ?_
      exact x_ireturn (pc := 56) C dX6_tells_56 (of_sp h).1 (of_sp h).2
  · replace h := of_ifn c_1 h
    refine x_aload_n (pc := 10) C 1 dX6_tells_10 rfl ?_
    refine x_iload_n (pc := 11) C 0 dX6_tells_11 rfl ?_
    obtain ⟨⟨r_5, S_3⟩, hc_5, h⟩ := of_bd h
    replace h := of_u2 h
    refine x_callV1 (pc := 12) C (o := 0) [.int v3_1] [] (c_X6_refuse (b := b) v3_1 hO S _ _ hc_5) cw_X6_73 vi_X6_refuse ⟨rfl, rfl, Nat.le_of_ble_eq_true rfl, Nat.le_of_ble_eq_true rfl⟩ ⟨Nat.le_refl _, Nat.le_refl _⟩ hO.1 ⟨rfl, rfl, rfl⟩ rfl ⟨rfl, Nat.le_of_ble_eq_true rfl⟩ dX6_tells_12 (fun hx_6 => ?_)
    exact x_ireturn (pc := 15) C dX6_tells_15 (of_sp h).1 (of_sp h).2
set_option maxRecDepth 100000 in
set_option maxHeartbeats 4000000 in
theorem l_X6_two_135 {p : Program} {l : Launch} {e : Env} {s : State} {m : MethodId} {args : Array Value} {below : List Frame} {meth : Method} {c : Code} {G : zz_G} {L : Ly} {b : Nat} (C : CX p G s m args meth c cX6_two yX6_two 12 (some .int)) (hO : isGu L) (v4 : Int32) (v5 : Int32) (v6 : Int32) (v7 : Int32) (v8 : Int32) (v9 : Int32) (S : Sg) (rf : Int32) (Sf : Sg) : ∀ (n : Nat) (v10 : Int32) {z}, L_X6_two_135 v4 v5 v6 v7 v8 v9 S n v10 = some z → (∀ q, z = .inl q → q.1 = rf ∧ q.2 = Sf) → (z = .inr () → X p l e (rmz 5 118) s m args below meth c 0 0 (RQ G L b Sf below args s (some (.int rf)) True) 12 G L b S 197 [(4, .int v4), (5, .int v5), (6, .int v6), (7, .int v7)] []) → X p l e (rmz 5 118) s m args below meth c 0 0 (RQ G L b Sf below args s (some (.int rf)) True) 12 G L b S 135 [(4, .int v4), (5, .int v5), (6, .int v6), (7, .int v7), (8, .int v8), (9, .int v9), (10, .int v10)] [] := by
  intro n
  induction n with
  | zero =>
    intro v10 z h
    exact of_none h
  | succ n ih =>
    intro v10 z h hr hx
    rw [L_X6_two_135] at h
    refine x_iload (pc := 135) C 6 dX6_two_135 rfl ?_
    refine x_iconst (pc := 137) C (v := (2 : Int32)) dX6_two_137 rfl ?_
    refine x_icmp_ge (pc := 138) C 197 dX6_two_138 rfl (fun c_1 => ?_) (fun c_1 => ?_)
    · replace h := of_ifn c_1 h
      exact x_sub [0, 1, 2, 3] rfl (hx (of_s1 h).symm)
    · replace h := of_ifp c_1 h
      refine x_iload (pc := 141) C 6 dX6_two_141 rfl ?_
      refine x_iconst (pc := 143) C (v := (1 : Int32)) dX6_two_143 rfl ?_
      obtain ⟨x_1, ex_1, h⟩ := of_lt h
      have kd_1 : X p l e (rmz 5 118) s m args below meth c 0 0 (RQ G L b Sf below args s (some (.int rf)) True) 12 G L b S 170 [(4, .int v4), (5, .int v5), (6, .int v6), (7, .int v7), (8, .int v8), (9, .int v9), (10, .int v10)] [.int x_1] := by
        refine x_istore (pc := 170) C [(11, .int x_1), (4, .int v4), (5, .int v5), (6, .int v6), (7, .int v7), (8, .int v8), (9, .int v9), (10, .int v10)] dX6_two_170 (Nat.le_of_ble_eq_true rfl) rfl rfl ?_
        refine x_iload (pc := 172) C 5 dX6_two_172 rfl ?_
        refine x_if_eq (pc := 174) C 191 dX6_two_174 rfl (fun c_2 => ?_) (fun c_2 => ?_)
        · replace h := of_ifp c_2 h
          obtain ⟨v10_1, ev10_1, h⟩ := of_lt h
          refine x_iinc (pc := 191) C (w := (1 : Int32)) 7 [(10, .int v10_1), (11, .int x_1), (4, .int v4), (5, .int v5), (6, .int v6), (7, .int v7), (8, .int v8), (9, .int v9)] dX6_two_191 rfl rfl (Nat.le_of_ble_eq_true rfl) ev10_1 rfl ?_
          refine x_goto (pc := 194) C 135 dX6_two_194 rfl ?_
          exact x_sub [2, 3, 4, 5, 6, 7, 0] rfl (ih _ h hr hx)
        · replace h := of_ifn c_2 h
          refine x_iload (pc := 177) C 0 dX6_two_177 rfl ?_
          refine x_if_eq (pc := 179) C 191 dX6_two_179 rfl (fun c_3 => ?_) (fun c_3 => ?_)
          · replace h := of_ifp c_3 h
            obtain ⟨v10_2, ev10_2, h⟩ := of_lt h
            refine x_iinc (pc := 191) C (w := (1 : Int32)) 7 [(10, .int v10_2), (11, .int x_1), (4, .int v4), (5, .int v5), (6, .int v6), (7, .int v7), (8, .int v8), (9, .int v9)] dX6_two_191 rfl rfl (Nat.le_of_ble_eq_true rfl) ev10_2 rfl ?_
            refine x_goto (pc := 194) C 135 dX6_two_194 rfl ?_
            exact x_sub [2, 3, 4, 5, 6, 7, 0] rfl (ih _ h hr hx)
          · replace h := of_ifn c_3 h
            refine x_bipush (pc := 182) C (v := (10 : Int32)) dX6_two_182 rfl ?_
            refine x_iload (pc := 184) C 4 dX6_two_184 rfl ?_
            refine x_imul (pc := 186) C dX6_two_186 ?_
            refine x_iload (pc := 187) C 7 dX6_two_187 rfl ?_
            refine x_iadd (pc := 189) C dX6_two_189 ?_
            have hq := hr _ (of_s1 h).symm
            exact x_ireturn (pc := 190) C dX6_two_190 hq.1 hq.2
      refine x_icmp_ne (pc := 144) C 160 dX6_two_144 rfl (fun c_4 => ?_) (fun c_4 => ?_)
      · refine x_iload (pc := 160) C 5 dX6_two_160 rfl ?_
        refine x_if_gt (pc := 162) C 169 dX6_two_162 rfl (fun c_5 => ?_) (fun c_5 => ?_)
        · refine x_iconst (pc := 169) C (v := (0 : Int32)) dX6_two_169 rfl ?_
          refine x_sub [0, 1, 2, 3, 4, 5, 6] rfl ?_
          rw [show x_1 = (0 : Int32) from ((ex_1.trans (if_neg c_4)).trans (if_pos c_5))] at kd_1
          exact kd_1
        · refine x_iconst (pc := 165) C (v := (1 : Int32)) dX6_two_165 rfl ?_
          refine x_goto (pc := 166) C 170 dX6_two_166 rfl ?_
          refine x_sub [0, 1, 2, 3, 4, 5, 6] rfl ?_
          rw [show x_1 = (1 : Int32) from ((ex_1.trans (if_neg c_4)).trans (if_neg c_5))] at kd_1
          exact kd_1
      · refine x_iload (pc := 147) C 5 dX6_two_147 rfl ?_
        refine x_if_lt (pc := 149) C 156 dX6_two_149 rfl (fun c_6 => ?_) (fun c_6 => ?_)
        · refine x_iconst (pc := 156) C (v := (0 : Int32)) dX6_two_156 rfl ?_
          refine x_goto (pc := 157) C 170 dX6_two_157 rfl ?_
          refine x_sub [0, 1, 2, 3, 4, 5, 6] rfl ?_
          rw [show x_1 = (0 : Int32) from ((ex_1.trans (if_pos c_4)).trans (if_pos c_6))] at kd_1
          exact kd_1
        · refine x_iconst (pc := 152) C (v := (1 : Int32)) dX6_two_152 rfl ?_
          refine x_goto (pc := 153) C 170 dX6_two_153 rfl ?_
          refine x_sub [0, 1, 2, 3, 4, 5, 6] rfl ?_
          rw [show x_1 = (1 : Int32) from ((ex_1.trans (if_pos c_4)).trans (if_neg c_6))] at kd_1
          exact kd_1
set_option maxRecDepth 100000 in
set_option maxHeartbeats 4000000 in
theorem l_X6_two_80 {p : Program} {l : Launch} {e : Env} {s : State} {m : MethodId} {args : Array Value} {below : List Frame} {meth : Method} {c : Code} {G : zz_G} {L : Ly} {b : Nat} (C : CX p G s m args meth c cX6_two yX6_two 12 (some .int)) (hO : isGu L) (v4 : Int32) (v5 : Int32) (v6 : Int32) (S : Sg) (rf : Int32) (Sf : Sg) : ∀ (n : Nat) (v7 : Int32) {z}, L_X6_two_80 v4 v5 v6 S n v7 = some z → (∀ q, z = .inl q → q.1 = rf ∧ q.2 = Sf) → (z = .inr () → X p l e (rmz 5 118) s m args below meth c 0 0 (RQ G L b Sf below args s (some (.int rf)) True) 12 G L b S 203 [] []) → X p l e (rmz 5 118) s m args below meth c 0 0 (RQ G L b Sf below args s (some (.int rf)) True) 12 G L b S 80 [(4, .int v4), (5, .int v5), (6, .int v6), (7, .int v7)] [] := by
  intro n
  induction n with
  | zero =>
    intro v7 z h
    exact of_none h
  | succ n ih =>
    intro v7 z h hr hx
    rw [L_X6_two_80] at h
    refine x_iload (pc := 80) C 3 dX6_two_80 rfl ?_
    refine x_iconst (pc := 82) C (v := (2 : Int32)) dX6_two_82 rfl ?_
    refine x_icmp_ge (pc := 83) C 203 dX6_two_83 rfl (fun c_1 => ?_) (fun c_1 => ?_)
    · replace h := of_ifn c_1 h
      exact x_sub [] rfl (hx (of_s1 h).symm)
    · replace h := of_ifp c_1 h
      refine x_iload (pc := 86) C 3 dX6_two_86 rfl ?_
      refine x_iconst (pc := 88) C (v := (1 : Int32)) dX6_two_88 rfl ?_
      obtain ⟨x_1, ex_1, h⟩ := of_lt h
      have kd_1 : X p l e (rmz 5 118) s m args below meth c 0 0 (RQ G L b Sf below args s (some (.int rf)) True) 12 G L b S 115 [(4, .int v4), (5, .int v5), (6, .int v6), (7, .int v7)] [.int x_1] := by
        refine x_istore (pc := 115) C [(8, .int x_1), (4, .int v4), (5, .int v5), (6, .int v6), (7, .int v7)] dX6_two_115 (Nat.le_of_ble_eq_true rfl) rfl rfl ?_
        refine x_iload (pc := 117) C 4 dX6_two_117 rfl ?_
        refine x_iconst (pc := 119) C (v := (1 : Int32)) dX6_two_119 rfl ?_
        obtain ⟨x_2, ex_2, h⟩ := of_lt h
        have kd_2 : X p l e (rmz 5 118) s m args below meth c 0 0 (RQ G L b Sf below args s (some (.int rf)) True) 12 G L b S 130 [(4, .int v4), (5, .int v5), (6, .int v6), (7, .int v7), (8, .int x_1)] [.int x_2] := by
          refine x_istore (pc := 130) C [(9, .int x_2), (4, .int v4), (5, .int v5), (6, .int v6), (7, .int v7), (8, .int x_1)] dX6_two_130 (Nat.le_of_ble_eq_true rfl) rfl rfl ?_
          refine x_iconst (pc := 132) C (v := (0 : Int32)) dX6_two_132 rfl ?_
          refine x_istore (pc := 133) C [(10, .int (0 : Int32)), (9, .int x_2), (4, .int v4), (5, .int v5), (6, .int v6), (7, .int v7), (8, .int x_1)] dX6_two_133 (Nat.le_of_ble_eq_true rfl) rfl rfl ?_
          refine x_sub [2, 3, 4, 5, 6, 1, 0] rfl ?_
          obtain ⟨z_hz_1, hz_1, hl, hrr⟩ := of_bs h
          refine l_X6_two_135 C hO v4 v5 v6 v7 x_1 x_2 S rf Sf 400 _ hz_1 (fun q ez => hr _ (of_s1 (hl _ ez)).symm) (fun ez => ?_)
          replace h := hrr _ ez
          clear hl hrr
          obtain ⟨v7_1, ev7_1, h⟩ := of_lt h
          refine x_iinc (pc := 197) C (w := (1 : Int32)) 3 [(7, .int v7_1), (4, .int v4), (5, .int v5), (6, .int v6)] dX6_two_197 rfl rfl (Nat.le_of_ble_eq_true rfl) ev7_1 rfl ?_
          refine x_goto (pc := 200) C 80 dX6_two_200 rfl ?_
          exact x_sub [1, 2, 3, 0] rfl (ih _ h hr hx)
        refine x_icmp_ne (pc := 120) C 128 dX6_two_120 rfl (fun c_2 => ?_) (fun c_2 => ?_)
        · refine x_iload (pc := 128) C 1 dX6_two_128 rfl ?_
          refine x_sub [1, 2, 3, 4, 0] rfl ?_
          rw [show x_2 = v4 from (ex_2.trans (if_neg c_2))] at kd_2
          exact kd_2
        · refine x_iload (pc := 123) C 3 dX6_two_123 rfl ?_
          refine x_goto (pc := 125) C 130 dX6_two_125 rfl ?_
          refine x_sub [1, 2, 3, 4, 0] rfl ?_
          rw [show x_2 = v6 from (ex_2.trans (if_pos c_2))] at kd_2
          exact kd_2
      refine x_icmp_ne (pc := 89) C 105 dX6_two_89 rfl (fun c_3 => ?_) (fun c_3 => ?_)
      · refine x_iload (pc := 105) C 1 dX6_two_105 rfl ?_
        refine x_if_gt (pc := 107) C 114 dX6_two_107 rfl (fun c_4 => ?_) (fun c_4 => ?_)
        · refine x_iconst (pc := 114) C (v := (0 : Int32)) dX6_two_114 rfl ?_
          refine x_sub [0, 1, 2, 3] rfl ?_
          rw [show x_1 = (0 : Int32) from ((ex_1.trans (if_neg c_3)).trans (if_pos c_4))] at kd_1
          exact kd_1
        · refine x_iconst (pc := 110) C (v := (1 : Int32)) dX6_two_110 rfl ?_
          refine x_goto (pc := 111) C 115 dX6_two_111 rfl ?_
          refine x_sub [0, 1, 2, 3] rfl ?_
          rw [show x_1 = (1 : Int32) from ((ex_1.trans (if_neg c_3)).trans (if_neg c_4))] at kd_1
          exact kd_1
      · refine x_iload (pc := 92) C 1 dX6_two_92 rfl ?_
        refine x_if_lt (pc := 94) C 101 dX6_two_94 rfl (fun c_5 => ?_) (fun c_5 => ?_)
        · refine x_iconst (pc := 101) C (v := (0 : Int32)) dX6_two_101 rfl ?_
          refine x_goto (pc := 102) C 115 dX6_two_102 rfl ?_
          refine x_sub [0, 1, 2, 3] rfl ?_
          rw [show x_1 = (0 : Int32) from ((ex_1.trans (if_pos c_3)).trans (if_pos c_5))] at kd_1
          exact kd_1
        · refine x_iconst (pc := 97) C (v := (1 : Int32)) dX6_two_97 rfl ?_
          refine x_goto (pc := 98) C 115 dX6_two_98 rfl ?_
          refine x_sub [0, 1, 2, 3] rfl ?_
          rw [show x_1 = (1 : Int32) from ((ex_1.trans (if_pos c_3)).trans (if_neg c_5))] at kd_1
          exact kd_1
set_option maxRecDepth 100000 in
set_option maxHeartbeats 4000000 in
theorem c_X6_two {l : Launch} {G : zz_G} {L : Ly} {b : Nat} (p1 : Int32) (p2 : Int32) (hO : isGu L) (S : Sg) (rf : Int32) (Sf : Sg) (h : f_X6_two p1 p2 S = some (rf, Sf)) : Met l yX6_two (Cond.code yX6_two cX6_two 12 (some .int) :: zz_all) (rmz 5 118) (PC G L b S [.ref (b + 0), .int p1, .int p2]) (QC G L b Sf (some (.int rf)) True) 0 0 (fun q => b ≤ q) := by
  refine x_met [.ref (b + 0), .int p1, .int p2] (by decide +kernel) (Nat.le_of_ble_eq_true rfl) fun p e s m args below meth c C => ?_
  unfold f_X6_two at h
  refine x_iload_n (pc := 0) C 1 dX6_two_0 rfl ?_
  refine x_iload_n (pc := 1) C 2 dX6_two_1 rfl ?_
  refine x_callS1 (pc := 2) C [.int p1, .int p2] [] (c_J9_min_7cf53 (b := b) p1 p2 S) cw_X6_228 vs_J9_min_7cf53 ⟨rfl, rfl, Nat.le_of_ble_eq_true rfl, Nat.le_of_ble_eq_true rfl⟩ ⟨Nat.le_refl _, Nat.le_refl _⟩ rfl ⟨rfl, Nat.le_of_ble_eq_true rfl⟩ dX6_two_2 (fun hx_1 => ?_)
  refine x_iload_n (pc := 5) C 1 dX6_two_5 rfl ?_
  refine x_iload_n (pc := 6) C 2 dX6_two_6 rfl ?_
  refine x_callS1 (pc := 7) C [.int p1, .int p2] [.int (f_J9_min_7cf53 p1 p2)] (c_J9_max_7cf53 (b := b) p1 p2 S) cw_X6_233 vs_J9_max_7cf53 ⟨rfl, rfl, Nat.le_of_ble_eq_true rfl, Nat.le_of_ble_eq_true rfl⟩ ⟨Nat.le_refl _, Nat.le_refl _⟩ rfl ⟨rfl, Nat.le_of_ble_eq_true rfl⟩ dX6_two_7 (fun hx_2 => ?_)
  refine x_callS1 (pc := 10) C [.int (f_J9_min_7cf53 p1 p2), .int (f_J9_max_7cf53 p1 p2)] [] (c_X6_misfitOfAll (b := b) (f_J9_min_7cf53 p1 p2) (f_J9_max_7cf53 p1 p2) S) cw_X6_236 vs_X6_misfitOfAll ⟨rfl, rfl, Nat.le_of_ble_eq_true rfl, Nat.le_of_ble_eq_true rfl⟩ ⟨Nat.le_refl _, Nat.le_refl _⟩ rfl ⟨rfl, Nat.le_of_ble_eq_true rfl⟩ dX6_two_10 (fun hx_3 => ?_)
  obtain ⟨v3_1, ev3_1, h⟩ := of_lt h
  refine x_istore_n (pc := 13) C 3 [(3, .int v3_1), (0, .ref (b + 0)), (1, .int p1), (2, .int p2)] dX6_two_13 rfl (Nat.le_of_ble_eq_true rfl) ev3_1 rfl ?_
  refine x_iload_n (pc := 14) C 0 dX6_two_14 rfl ?_
  refine x_if_eq (pc := 15) C 24 dX6_two_15 rfl (fun c_1 => ?_) (fun c_1 => ?_)
  · replace h := of_ifp c_1 h
    refine x_aload_n (pc := 24) C 1 dX6_two_24 rfl ?_
    refine x_aload_n (pc := 25) C 1 dX6_two_25 rfl ?_
    refine x_getr (pc := 26) C (k := 0) 1 hO.1 rfl rfl wd_220 dX6_two_26 (Nat.le_of_ble_eq_true rfl) rfl ?_
    refine x_iload_n (pc := 29) C 3 dX6_two_29 rfl ?_
    obtain ⟨⟨r_1, S_1⟩, hc_1, h⟩ := of_bd h
    replace h := of_u2 h
    refine x_callV1 (pc := 30) C (o := 0) [.ref (b + 1), .int p2] [] (c_X6_meetingOfSum (b := b) 1 p2 hO hO.2.1 S _ _ hc_1) cw_X6_172 vi_X6_meetingOfSum ⟨rfl, rfl, Nat.le_of_ble_eq_true rfl, Nat.le_of_ble_eq_true rfl⟩ ⟨Nat.le_refl _, Nat.le_refl _⟩ hO.1 ⟨rfl, rfl, rfl⟩ rfl ⟨rfl, Nat.le_of_ble_eq_true rfl⟩ dX6_two_30 (fun hx_4 => ?_)
    refine x_callS1 (pc := 33) C [.int r_1] [] (c_X6_gain (b := b) r_1 S_1) cw_X6_249 vs_X6_gain ⟨rfl, rfl, Nat.le_of_ble_eq_true rfl, Nat.le_of_ble_eq_true rfl⟩ ⟨Nat.le_refl _, Nat.le_refl _⟩ rfl ⟨rfl, Nat.le_of_ble_eq_true rfl⟩ dX6_two_33 (fun hx_5 => ?_)
    obtain ⟨v4_1, ev4_1, h⟩ := of_lt h
    refine x_istore (pc := 36) C [(4, .int v4_1), (3, .int v3_1), (0, .ref (b + 0)), (1, .int p1), (2, .int p2)] dX6_two_36 (Nat.le_of_ble_eq_true rfl) ev4_1 rfl ?_
    refine x_aload_n (pc := 38) C 2 dX6_two_38 rfl ?_
    refine x_getr (pc := 39) C (k := 1) 44 hO.1 rfl rfl wd_221 dX6_two_39 (Nat.le_of_ble_eq_true rfl) rfl ?_
    refine x_aload_n (pc := 42) C 2 dX6_two_42 rfl ?_
    refine x_getr (pc := 43) C (k := 0) 1 hO.1 rfl rfl wd_220 dX6_two_43 (Nat.le_of_ble_eq_true rfl) rfl ?_
    obtain ⟨S_2, hc_2, h⟩ := of_bd h
    refine x_callV_ (pc := 46) C (o := 44) [.ref (b + 1)] [] (c_X5_copyFrom (b := b) 44 1 hO.2.2.1 hO.2.1 S_1 _ hc_2) cw_X6_56 vi_X5_copyFrom ⟨rfl, rfl, Nat.le_of_ble_eq_true rfl, Nat.le_of_ble_eq_true rfl⟩ ⟨Nat.le_refl _, Nat.le_refl _⟩ hO.2.2.1.1 ⟨rfl, rfl, rfl⟩ rfl ⟨rfl, Nat.le_of_ble_eq_true rfl⟩ dX6_two_46 (fun hx_6 => ?_)
    refine x_aload_n (pc := 49) C 2 dX6_two_49 rfl ?_
    refine x_aload_n (pc := 50) C 2 dX6_two_50 rfl ?_
    refine x_getr (pc := 51) C (k := 1) 44 hO.1 rfl rfl wd_221 dX6_two_51 (Nat.le_of_ble_eq_true rfl) rfl ?_
    refine x_iload_n (pc := 54) C 3 dX6_two_54 rfl ?_
    obtain ⟨⟨r_2, S_3⟩, hc_3, h⟩ := of_bd h
    replace h := of_u2 h
    refine x_callV1 (pc := 55) C (o := 0) [.ref (b + 44), .int p1] [] (c_X6_takeSum (b := b) 44 p1 hO hO.2.2.1 S_2 _ _ hc_3) cw_X6_246 vi_X6_takeSum ⟨rfl, rfl, Nat.le_of_ble_eq_true rfl, Nat.le_of_ble_eq_true rfl⟩ ⟨Nat.le_refl _, Nat.le_refl _⟩ hO.1 ⟨rfl, rfl, rfl⟩ rfl ⟨rfl, Nat.le_of_ble_eq_true rfl⟩ dX6_two_55 (fun hx_7 => ?_)
    refine x_callS1 (pc := 58) C [.int r_2] [] (c_X6_gain (b := b) r_2 S_3) cw_X6_249 vs_X6_gain ⟨rfl, rfl, Nat.le_of_ble_eq_true rfl, Nat.le_of_ble_eq_true rfl⟩ ⟨Nat.le_refl _, Nat.le_refl _⟩ rfl ⟨rfl, Nat.le_of_ble_eq_true rfl⟩ dX6_two_58 (fun hx_8 => ?_)
    obtain ⟨v5_1, ev5_1, h⟩ := of_lt h
    refine x_istore (pc := 61) C [(5, .int v5_1), (4, .int v4_1), (3, .int v3_1), (0, .ref (b + 0)), (1, .int p1), (2, .int p2)] dX6_two_61 (Nat.le_of_ble_eq_true rfl) ev5_1 rfl ?_
    refine x_aload_n (pc := 63) C 3 dX6_two_63 rfl ?_
    refine x_aload_n (pc := 64) C 3 dX6_two_64 rfl ?_
    refine x_getr (pc := 65) C (k := 1) 44 hO.1 rfl rfl wd_221 dX6_two_65 (Nat.le_of_ble_eq_true rfl) rfl ?_
    refine x_iload_n (pc := 68) C 5 dX6_two_68 rfl ?_
    obtain ⟨⟨r_3, S_4⟩, hc_4, h⟩ := of_bd h
    replace h := of_u2 h
    refine x_callV1 (pc := 69) C (o := 0) [.ref (b + 44), .int p2] [] (c_X6_meetingOfSum (b := b) 44 p2 hO hO.2.2.1 S_3 _ _ hc_4) cw_X6_172 vi_X6_meetingOfSum ⟨rfl, rfl, Nat.le_of_ble_eq_true rfl, Nat.le_of_ble_eq_true rfl⟩ ⟨Nat.le_refl _, Nat.le_refl _⟩ hO.1 ⟨rfl, rfl, rfl⟩ rfl ⟨rfl, Nat.le_of_ble_eq_true rfl⟩ dX6_two_69 (fun hx_9 => ?_)
    refine x_callS1 (pc := 72) C [.int r_3] [] (c_X6_gain (b := b) r_3 S_4) cw_X6_249 vs_X6_gain ⟨rfl, rfl, Nat.le_of_ble_eq_true rfl, Nat.le_of_ble_eq_true rfl⟩ ⟨Nat.le_refl _, Nat.le_refl _⟩ rfl ⟨rfl, Nat.le_of_ble_eq_true rfl⟩ dX6_two_72 (fun hx_10 => ?_)
    obtain ⟨v6_1, ev6_1, h⟩ := of_lt h
    refine x_istore (pc := 75) C [(6, .int v6_1), (5, .int v5_1), (4, .int v4_1), (3, .int v3_1), (0, .ref (b + 0)), (1, .int p1), (2, .int p2)] dX6_two_75 (Nat.le_of_ble_eq_true rfl) ev6_1 rfl ?_
    refine x_iconst (pc := 77) C (v := (0 : Int32)) dX6_two_77 rfl ?_
    refine x_istore (pc := 78) C [(7, .int (0 : Int32)), (6, .int v6_1), (5, .int v5_1), (4, .int v4_1), (3, .int v3_1), (0, .ref (b + 0)), (1, .int p1), (2, .int p2)] dX6_two_78 (Nat.le_of_ble_eq_true rfl) rfl rfl ?_
    refine x_sub [3, 2, 1, 0] rfl ?_
    obtain ⟨z_hz_1, hz_1, hl, hrr⟩ := of_bs h
    refine l_X6_two_80 C hO v4_1 v5_1 v6_1 S_4 rf Sf 400 _ hz_1 (fun q ez => of_sp (x := q.1) (u := q.2) (hl _ ez)) (fun ez => ?_)
    replace h := hrr _ ez
    clear hl hrr
    refine x_bipush (pc := 203) C (v := (-9 : Int32)) dX6_two_203 rfl ?_
    exact x_ireturn (pc := 205) C dX6_two_205 (of_sp h).1 (of_sp h).2
  · replace h := of_ifn c_1 h
    refine x_aload_n (pc := 18) C 1 dX6_two_18 rfl ?_
    refine x_iload_n (pc := 19) C 0 dX6_two_19 rfl ?_
    obtain ⟨⟨r_4, S_5⟩, hc_5, h⟩ := of_bd h
    replace h := of_u2 h
    refine x_callV1 (pc := 20) C (o := 0) [.int v3_1] [] (c_X6_refuse (b := b) v3_1 hO S _ _ hc_5) cw_X6_73 vi_X6_refuse ⟨rfl, rfl, Nat.le_of_ble_eq_true rfl, Nat.le_of_ble_eq_true rfl⟩ ⟨Nat.le_refl _, Nat.le_refl _⟩ hO.1 ⟨rfl, rfl, rfl⟩ rfl ⟨rfl, Nat.le_of_ble_eq_true rfl⟩ dX6_two_20 (fun hx_11 => ?_)
    exact x_ireturn (pc := 23) C dX6_two_23 (of_sp h).1 (of_sp h).2
set_option maxRecDepth 100000 in
set_option maxHeartbeats 4000000 in
theorem c_X6_variable {l : Launch} {G : zz_G} {L : Ly} {b : Nat} (p1 : Int32) (p2 : Int32) (hO : isGu L) (S : Sg) (rf : Int32) (Sf : Sg) (h : f_X6_variable p1 p2 S = some (rf, Sf)) : Met l yX6_variable (Cond.code yX6_variable cX6_variable 3 (some .int) :: zz_all) (rmz 6 140) (PC G L b S [.ref (b + 0), .int p1, .int p2]) (QC G L b Sf (some (.int rf)) True) 0 0 (fun q => b ≤ q) := by
  refine x_met [.ref (b + 0), .int p1, .int p2] (by decide +kernel) (Nat.le_of_ble_eq_true rfl) fun p e s m args below meth c C => ?_
  unfold f_X6_variable at h
  refine x_aload_n (pc := 0) C 0 dX6_variable_0 rfl ?_
  refine x_getr (pc := 1) C (k := 0) 1 hO.1 rfl rfl wd_220 dX6_variable_1 (Nat.le_of_ble_eq_true rfl) rfl ?_
  refine x_iload_n (pc := 4) C 1 dX6_variable_4 rfl ?_
  refine x_callV1 (pc := 5) C (o := 1) [.int p1] [] (c_X5_has (b := b) 1 p1 hO.2.1 S) cw_X6_91 vi_X5_has ⟨rfl, rfl, Nat.le_of_ble_eq_true rfl, Nat.le_of_ble_eq_true rfl⟩ ⟨Nat.le_refl _, Nat.le_refl _⟩ hO.2.1.1 ⟨rfl, rfl, rfl⟩ rfl ⟨rfl, Nat.le_of_ble_eq_true rfl⟩ dX6_variable_5 (fun hx_1 => ?_)
  refine x_if_ne (pc := 8) C 17 dX6_variable_8 rfl (fun c_1 => ?_) (fun c_1 => ?_)
  · replace h := of_ifn c_1 h
    refine x_iload_n (pc := 17) C 2 dX6_variable_17 rfl ?_
    refine x_bipush (pc := 18) C (v := (7 : Int32)) dX6_variable_18 rfl ?_
    refine x_callS1 (pc := 20) C [.int p2, .int (7 : Int32)] [] (c_X6_isWithin (b := b) p2 (7 : Int32) S) cw_X6_69 vs_X6_isWithin ⟨rfl, rfl, Nat.le_of_ble_eq_true rfl, Nat.le_of_ble_eq_true rfl⟩ ⟨Nat.le_refl _, Nat.le_refl _⟩ rfl ⟨rfl, Nat.le_of_ble_eq_true rfl⟩ dX6_variable_20 (fun hx_2 => ?_)
    refine x_if_ne (pc := 23) C 33 dX6_variable_23 rfl (fun c_2 => ?_) (fun c_2 => ?_)
    · replace h := of_ifn c_2 h
      refine x_iload_n (pc := 33) C 2 dX6_variable_33 rfl ?_
      by_cases c_3 : p2 = (0 : Int32)
      · replace h := of_ifp c_3 h
        refine x_tabIn (pc := 34) C 76 dX6_variable_34 c_3 (by decide) (by decide) rfl rfl ?_
        refine x_aload_n (pc := 76) C 0 dX6_variable_76 rfl ?_
        refine x_getr (pc := 77) C (k := 0) 1 hO.1 rfl rfl wd_220 dX6_variable_77 (Nat.le_of_ble_eq_true rfl) rfl ?_
        refine x_iload_n (pc := 80) C 1 dX6_variable_80 rfl ?_
        obtain ⟨r_1, hc_1, h⟩ := of_bd h
        refine x_callV1 (pc := 81) C (o := 1) [.int p1] [] (c_X5_valueOf (b := b) 1 p1 hO.2.1 S _ hc_1) cw_X6_80 vi_X5_valueOf ⟨rfl, rfl, Nat.le_of_ble_eq_true rfl, Nat.le_of_ble_eq_true rfl⟩ ⟨Nat.le_refl _, Nat.le_refl _⟩ hO.2.1.1 ⟨rfl, rfl, rfl⟩ rfl ⟨rfl, Nat.le_of_ble_eq_true rfl⟩ dX6_variable_81 (fun hx_3 => ?_)
        exact x_ireturn (pc := 84) C dX6_variable_84 (of_sp h).1 (of_sp h).2
      replace h := of_ifn c_3 h
      by_cases c_4 : p2 = (1 : Int32)
      · replace h := of_ifp c_4 h
        refine x_tabIn (pc := 34) C 85 dX6_variable_34 c_4 (by decide) (by decide) rfl rfl ?_
        refine x_aload_n (pc := 85) C 0 dX6_variable_85 rfl ?_
        refine x_getr (pc := 86) C (k := 0) 1 hO.1 rfl rfl wd_220 dX6_variable_86 (Nat.le_of_ble_eq_true rfl) rfl ?_
        refine x_iload_n (pc := 89) C 1 dX6_variable_89 rfl ?_
        obtain ⟨r_2, hc_2, h⟩ := of_bd h
        refine x_callV1 (pc := 90) C (o := 1) [.int p1] [] (c_X5_lowOf (b := b) 1 p1 hO.2.1 S _ hc_2) cw_X6_94 vi_X5_lowOf ⟨rfl, rfl, Nat.le_of_ble_eq_true rfl, Nat.le_of_ble_eq_true rfl⟩ ⟨Nat.le_refl _, Nat.le_refl _⟩ hO.2.1.1 ⟨rfl, rfl, rfl⟩ rfl ⟨rfl, Nat.le_of_ble_eq_true rfl⟩ dX6_variable_90 (fun hx_4 => ?_)
        exact x_ireturn (pc := 93) C dX6_variable_93 (of_sp h).1 (of_sp h).2
      replace h := of_ifn c_4 h
      by_cases c_5 : p2 = (2 : Int32)
      · replace h := of_ifp c_5 h
        refine x_tabIn (pc := 34) C 94 dX6_variable_34 c_5 (by decide) (by decide) rfl rfl ?_
        refine x_aload_n (pc := 94) C 0 dX6_variable_94 rfl ?_
        refine x_getr (pc := 95) C (k := 0) 1 hO.1 rfl rfl wd_220 dX6_variable_95 (Nat.le_of_ble_eq_true rfl) rfl ?_
        refine x_iload_n (pc := 98) C 1 dX6_variable_98 rfl ?_
        obtain ⟨r_3, hc_3, h⟩ := of_bd h
        refine x_callV1 (pc := 99) C (o := 1) [.int p1] [] (c_X5_highOf (b := b) 1 p1 hO.2.1 S _ hc_3) cw_X6_97 vi_X5_highOf ⟨rfl, rfl, Nat.le_of_ble_eq_true rfl, Nat.le_of_ble_eq_true rfl⟩ ⟨Nat.le_refl _, Nat.le_refl _⟩ hO.2.1.1 ⟨rfl, rfl, rfl⟩ rfl ⟨rfl, Nat.le_of_ble_eq_true rfl⟩ dX6_variable_99 (fun hx_5 => ?_)
        exact x_ireturn (pc := 102) C dX6_variable_102 (of_sp h).1 (of_sp h).2
      replace h := of_ifn c_5 h
      by_cases c_6 : p2 = (6 : Int32)
      · replace h := of_ifp c_6 h
        refine x_tabIn (pc := 34) C 103 dX6_variable_34 c_6 (by decide) (by decide) rfl rfl ?_
        refine x_aload_n (pc := 103) C 0 dX6_variable_103 rfl ?_
        refine x_getr (pc := 104) C (k := 0) 1 hO.1 rfl rfl wd_220 dX6_variable_104 (Nat.le_of_ble_eq_true rfl) rfl ?_
        refine x_iload_n (pc := 107) C 1 dX6_variable_107 rfl ?_
        obtain ⟨r_4, hc_4, h⟩ := of_bd h
        refine x_callV1 (pc := 108) C (o := 1) [.int p1] [] (c_X5_isFree (b := b) 1 p1 hO.2.1 S _ hc_4) cw_X6_83 vi_X5_isFree ⟨rfl, rfl, Nat.le_of_ble_eq_true rfl, Nat.le_of_ble_eq_true rfl⟩ ⟨Nat.le_refl _, Nat.le_refl _⟩ hO.2.1.1 ⟨rfl, rfl, rfl⟩ rfl ⟨rfl, Nat.le_of_ble_eq_true rfl⟩ dX6_variable_108 (fun hx_6 => ?_)
        refine x_callS1 (pc := 111) C [.int r_4] [] (c_X6_asNumber (b := b) r_4 S) cw_X6_87 vs_X6_asNumber ⟨rfl, rfl, Nat.le_of_ble_eq_true rfl, Nat.le_of_ble_eq_true rfl⟩ ⟨Nat.le_refl _, Nat.le_refl _⟩ rfl ⟨rfl, Nat.le_of_ble_eq_true rfl⟩ dX6_variable_111 (fun hx_7 => ?_)
        exact x_ireturn (pc := 114) C dX6_variable_114 (of_sp h).1 (of_sp h).2
      replace h := of_ifn c_6 h
      by_cases c_7 : p2 = (3 : Int32)
      · refine x_tabIn (pc := 34) C 115 dX6_variable_34 c_7 (by decide) (by decide) rfl rfl ?_
        refine x_aload_n (pc := 115) C 0 dX6_variable_115 rfl ?_
        refine x_iload_n (pc := 116) C 1 dX6_variable_116 rfl ?_
        refine x_iload_n (pc := 117) C 2 dX6_variable_117 rfl ?_
        obtain ⟨⟨r_5, S_1⟩, hc_5, h⟩ := of_bd h
        replace h := of_u2 h
        refine x_callV1 (pc := 118) C (o := 0) [.int p1, .int p2] [] (c_X6_narrowed (b := b) p1 p2 hO S _ _ hc_5) cw_X6_100 vi_X6_narrowed ⟨rfl, rfl, Nat.le_of_ble_eq_true rfl, Nat.le_of_ble_eq_true rfl⟩ ⟨Nat.le_refl _, Nat.le_refl _⟩ hO.1 ⟨rfl, rfl, rfl⟩ rfl ⟨rfl, Nat.le_of_ble_eq_true rfl⟩ dX6_variable_118 (fun hx_8 => ?_)
        exact x_ireturn (pc := 121) C dX6_variable_121 (of_sp h).1 (of_sp h).2
      by_cases c_8 : p2 = (4 : Int32)
      · refine x_tabIn (pc := 34) C 115 dX6_variable_34 c_8 (by decide) (by decide) rfl rfl ?_
        refine x_aload_n (pc := 115) C 0 dX6_variable_115 rfl ?_
        refine x_iload_n (pc := 116) C 1 dX6_variable_116 rfl ?_
        refine x_iload_n (pc := 117) C 2 dX6_variable_117 rfl ?_
        obtain ⟨⟨r_5, S_1⟩, hc_5, h⟩ := of_bd h
        replace h := of_u2 h
        refine x_callV1 (pc := 118) C (o := 0) [.int p1, .int p2] [] (c_X6_narrowed (b := b) p1 p2 hO S _ _ hc_5) cw_X6_100 vi_X6_narrowed ⟨rfl, rfl, Nat.le_of_ble_eq_true rfl, Nat.le_of_ble_eq_true rfl⟩ ⟨Nat.le_refl _, Nat.le_refl _⟩ hO.1 ⟨rfl, rfl, rfl⟩ rfl ⟨rfl, Nat.le_of_ble_eq_true rfl⟩ dX6_variable_118 (fun hx_8 => ?_)
        exact x_ireturn (pc := 121) C dX6_variable_121 (of_sp h).1 (of_sp h).2
      by_cases c_9 : p2 = (5 : Int32)
      · refine x_tabIn (pc := 34) C 115 dX6_variable_34 c_9 (by decide) (by decide) rfl rfl ?_
        refine x_aload_n (pc := 115) C 0 dX6_variable_115 rfl ?_
        refine x_iload_n (pc := 116) C 1 dX6_variable_116 rfl ?_
        refine x_iload_n (pc := 117) C 2 dX6_variable_117 rfl ?_
        obtain ⟨⟨r_5, S_1⟩, hc_5, h⟩ := of_bd h
        replace h := of_u2 h
        refine x_callV1 (pc := 118) C (o := 0) [.int p1, .int p2] [] (c_X6_narrowed (b := b) p1 p2 hO S _ _ hc_5) cw_X6_100 vi_X6_narrowed ⟨rfl, rfl, Nat.le_of_ble_eq_true rfl, Nat.le_of_ble_eq_true rfl⟩ ⟨Nat.le_refl _, Nat.le_refl _⟩ hO.1 ⟨rfl, rfl, rfl⟩ rfl ⟨rfl, Nat.le_of_ble_eq_true rfl⟩ dX6_variable_118 (fun hx_8 => ?_)
        exact x_ireturn (pc := 121) C dX6_variable_121 (of_sp h).1 (of_sp h).2
      refine x_tabOut (pc := 34) C 115 dX6_variable_34 (by have := lv_neT c_3 (show ((0 : Int32)).toInt = 0 from rfl); have := lv_neT c_4 (show ((1 : Int32)).toInt = 1 from rfl); have := lv_neT c_5 (show ((2 : Int32)).toInt = 2 from rfl); have := lv_neT c_6 (show ((6 : Int32)).toInt = 6 from rfl); have := lv_neT c_7 (show ((3 : Int32)).toInt = 3 from rfl); have := lv_neT c_8 (show ((4 : Int32)).toInt = 4 from rfl); have := lv_neT c_9 (show ((5 : Int32)).toInt = 5 from rfl); omega) rfl ?_
      refine x_aload_n (pc := 115) C 0 dX6_variable_115 rfl ?_
      refine x_iload_n (pc := 116) C 1 dX6_variable_116 rfl ?_
      refine x_iload_n (pc := 117) C 2 dX6_variable_117 rfl ?_
      obtain ⟨⟨r_5, S_1⟩, hc_5, h⟩ := of_bd h
      replace h := of_u2 h
      refine x_callV1 (pc := 118) C (o := 0) [.int p1, .int p2] [] (c_X6_narrowed (b := b) p1 p2 hO S _ _ hc_5) cw_X6_100 vi_X6_narrowed ⟨rfl, rfl, Nat.le_of_ble_eq_true rfl, Nat.le_of_ble_eq_true rfl⟩ ⟨Nat.le_refl _, Nat.le_refl _⟩ hO.1 ⟨rfl, rfl, rfl⟩ rfl ⟨rfl, Nat.le_of_ble_eq_true rfl⟩ dX6_variable_118 (fun hx_8 => ?_)
      exact x_ireturn (pc := 121) C dX6_variable_121 (of_sp h).1 (of_sp h).2
    · replace h := of_ifp c_2 h
      refine x_aload_n (pc := 26) C 0 dX6_variable_26 rfl ?_
      refine x_bipush (pc := 27) C (v := (-2 : Int32)) dX6_variable_27 rfl ?_
      obtain ⟨⟨r_6, S_2⟩, hc_6, h⟩ := of_bd h
      replace h := of_u2 h
      refine x_callV1 (pc := 29) C (o := 0) [.int (-2 : Int32)] [] (c_X6_refuse (b := b) (-2 : Int32) hO S _ _ hc_6) cw_X6_73 vi_X6_refuse ⟨rfl, rfl, Nat.le_of_ble_eq_true rfl, Nat.le_of_ble_eq_true rfl⟩ ⟨Nat.le_refl _, Nat.le_refl _⟩ hO.1 ⟨rfl, rfl, rfl⟩ rfl ⟨rfl, Nat.le_of_ble_eq_true rfl⟩ dX6_variable_29 (fun hx_9 => ?_)
      exact x_ireturn (pc := 32) C dX6_variable_32 (of_sp h).1 (of_sp h).2
  · replace h := of_ifp c_1 h
    refine x_aload_n (pc := 11) C 0 dX6_variable_11 rfl ?_
    refine x_iconst (pc := 12) C (v := (-1 : Int32)) dX6_variable_12 rfl ?_
    obtain ⟨⟨r_7, S_3⟩, hc_7, h⟩ := of_bd h
    replace h := of_u2 h
    refine x_callV1 (pc := 13) C (o := 0) [.int (-1 : Int32)] [] (c_X6_refuse (b := b) (-1 : Int32) hO S _ _ hc_7) cw_X6_73 vi_X6_refuse ⟨rfl, rfl, Nat.le_of_ble_eq_true rfl, Nat.le_of_ble_eq_true rfl⟩ ⟨Nat.le_refl _, Nat.le_refl _⟩ hO.1 ⟨rfl, rfl, rfl⟩ rfl ⟨rfl, Nat.le_of_ble_eq_true rfl⟩ dX6_variable_13 (fun hx_10 => ?_)
    exact x_ireturn (pc := 16) C dX6_variable_16 (of_sp h).1 (of_sp h).2
set_option maxRecDepth 100000 in
set_option maxHeartbeats 4000000 in
theorem l_X6_which_45 {p : Program} {l : Launch} {e : Env} {s : State} {m : MethodId} {args : Array Value} {below : List Frame} {meth : Method} {c : Code} {G : zz_G} {L : Ly} {b : Nat} {Q : State → Prop} (C : CX p G s m args meth c cX6_which yX6_which 6 (some .int)) (hO : isGu L) (v1 : Int32) (v3 : Int32) : ∀ (n : Nat) (v2 : Int32) (v4 : Int32) (S : Sg) {z}, L_X6_which_45 v1 v3 n v2 v4 S = some z → (∀ (v2_o : Int32) (S_o : Sg), z = (v2_o, S_o) → X p l e (rmz 4 97) s m args below meth c 0 0 Q 6 G L b S_o 104 [(2, .int v2_o)] []) → X p l e (rmz 4 97) s m args below meth c 0 0 Q 6 G L b S 45 [(0, .ref (b + 0)), (1, .int v1), (2, .int v2), (3, .int v3), (4, .int v4)] [] := by
  intro n
  induction n with
  | zero =>
    intro v2 v4 S z h
    exact of_none h
  | succ n ih =>
    intro v2 v4 S z h hx
    rw [L_X6_which_45] at h
    refine x_iload (pc := 45) C 4 dX6_which_45 rfl ?_
    refine x_iload_n (pc := 47) C 3 dX6_which_47 rfl ?_
    refine x_icmp_ge (pc := 48) C 104 dX6_which_48 rfl (fun c_1 => ?_) (fun c_1 => ?_)
    · replace h := of_ifn c_1 h
      exact x_sub [2] rfl (hx _ _ (of_s1 h).symm)
    · replace h := of_ifp c_1 h
      refine x_iload_n (pc := 51) C 1 dX6_which_51 rfl ?_
      obtain ⟨J_1, eJ_1, h⟩ := of_lt h
      have kJ_1 : ∀ (x_1 : Int32) (S_1 : Sg), J_1 x_1 S_1 = some z → X p l e (rmz 4 97) s m args below meth c 0 0 Q 6 G L b S_1 84 [(0, .ref (b + 0)), (1, .int v1), (2, .int v2), (3, .int v3), (4, .int v4)] [.int x_1] := by
        intro x_1 S_1 h
        replace h := of_J2 eJ_1 h
        refine x_istore (pc := 84) C [(5, .int x_1), (0, .ref (b + 0)), (1, .int v1), (2, .int v2), (3, .int v3), (4, .int v4)] dX6_which_84 (Nat.le_of_ble_eq_true rfl) rfl rfl ?_
        refine x_iload (pc := 86) C 0 dX6_which_86 rfl ?_
        obtain ⟨v2_1, ev2_1, h⟩ := of_lt h
        have kd_1 : X p l e (rmz 4 97) s m args below meth c 0 0 Q 6 G L b S_1 98 [(0, .ref (b + 0)), (1, .int v1), (2, .int v2_1), (3, .int v3), (4, .int v4)] [] := by
          obtain ⟨v4_1, ev4_1, h⟩ := of_lt h
          refine x_iinc (pc := 98) C (w := (1 : Int32)) 4 [(4, .int v4_1), (0, .ref (b + 0)), (1, .int v1), (2, .int v2_1), (3, .int v3)] dX6_which_98 rfl rfl (Nat.le_of_ble_eq_true rfl) ev4_1 rfl ?_
          refine x_goto (pc := 101) C 45 dX6_which_101 rfl ?_
          exact x_sub [1, 2, 3, 4, 0] rfl (ih _ _ _ h hx)
        refine x_if_eq (pc := 88) C 98 dX6_which_88 rfl (fun c_2 => ?_) (fun c_2 => ?_)
        · refine x_sub [1, 2, 3, 4, 5] rfl ?_
          rw [show v2_1 = v2 from (ev2_1.trans (if_pos c_2))] at kd_1
          exact kd_1
        · refine x_iload_n (pc := 91) C 3 dX6_which_91 rfl ?_
          refine x_iconst (pc := 92) C (v := (1 : Int32)) dX6_which_92 rfl ?_
          refine x_iload (pc := 93) C 5 dX6_which_93 rfl ?_
          refine x_ishl (pc := 95) C dX6_which_95 ?_
          refine x_ior (pc := 96) C dX6_which_96 ?_
          refine x_istore_n (pc := 97) C 2 [(2, .int (v2 ||| (isl (1 : Int32) v4))), (5, .int x_1), (0, .ref (b + 0)), (1, .int v1), (3, .int v3), (4, .int v4)] dX6_which_97 rfl (Nat.le_of_ble_eq_true rfl) rfl rfl ?_
          refine x_sub [2, 3, 0, 4, 5] rfl ?_
          rw [show v2_1 = (v2 ||| (isl (1 : Int32) v4)) from (ev2_1.trans (if_neg c_2))] at kd_1
          exact kd_1
      refine x_if_ne (pc := 52) C 71 dX6_which_52 rfl (fun c_3 => ?_) (fun c_3 => ?_)
      · replace h := of_ifn c_3 h
        refine x_aload_n (pc := 71) C 0 dX6_which_71 rfl ?_
        refine x_aload_n (pc := 72) C 0 dX6_which_72 rfl ?_
        refine x_getr (pc := 73) C (k := 0) 1 hO.1 rfl rfl wd_220 dX6_which_73 (Nat.le_of_ble_eq_true rfl) rfl ?_
        refine x_geti (pc := 76) C (k := 5) hO.2.1.1 rfl rfl wd_135 dX6_which_76 ⟨Nat.le_of_ble_eq_true rfl, rfl⟩ ?_
        refine x_iload (pc := 79) C 4 dX6_which_79 rfl ?_
        obtain ⟨⟨r_1, S_2⟩, hc_1, h⟩ := of_bd h
        replace h := of_u2 h
        refine x_callV1 (pc := 81) C (o := 0) [.int (S.1 1 5), .int v4] [] (c_X6_isMetBy (b := b) (S.1 1 5) v4 hO S _ _ hc_1) cw_X6_264 vi_X6_isMetBy ⟨rfl, rfl, Nat.le_of_ble_eq_true rfl, Nat.le_of_ble_eq_true rfl⟩ ⟨Nat.le_refl _, Nat.le_refl _⟩ hO.1 ⟨rfl, rfl, rfl⟩ rfl ⟨rfl, Nat.le_of_ble_eq_true rfl⟩ dX6_which_81 (fun hx_1 => ?_)
        exact x_sub [0, 1, 2, 3, 4] rfl (kJ_1 _ _ h)
      · replace h := of_ifp c_3 h
        refine x_aload_n (pc := 55) C 0 dX6_which_55 rfl ?_
        refine x_iload (pc := 56) C 4 dX6_which_56 rfl ?_
        refine x_aload_n (pc := 58) C 0 dX6_which_58 rfl ?_
        refine x_getr (pc := 59) C (k := 0) 1 hO.1 rfl rfl wd_220 dX6_which_59 (Nat.le_of_ble_eq_true rfl) rfl ?_
        refine x_geti (pc := 62) C (k := 6) hO.2.1.1 rfl rfl wd_137 dX6_which_62 ⟨Nat.le_of_ble_eq_true rfl, rfl⟩ ?_
        obtain ⟨⟨r_2, S_3⟩, hc_2, h⟩ := of_bd h
        replace h := of_u2 h
        refine x_callV1 (pc := 65) C (o := 0) [.int v4, .int (S.1 1 6)] [] (c_X6_isMetBy (b := b) v4 (S.1 1 6) hO S _ _ hc_2) cw_X6_264 vi_X6_isMetBy ⟨rfl, rfl, Nat.le_of_ble_eq_true rfl, Nat.le_of_ble_eq_true rfl⟩ ⟨Nat.le_refl _, Nat.le_refl _⟩ hO.1 ⟨rfl, rfl, rfl⟩ rfl ⟨rfl, Nat.le_of_ble_eq_true rfl⟩ dX6_which_65 (fun hx_2 => ?_)
        refine x_goto (pc := 68) C 84 dX6_which_68 rfl ?_
        exact x_sub [0, 1, 2, 3, 4] rfl (kJ_1 _ _ h)
set_option maxRecDepth 100000 in
set_option maxHeartbeats 4000000 in
theorem c_X6_which {l : Launch} {G : zz_G} {L : Ly} {b : Nat} (p1 : Int32) (hO : isGu L) (S : Sg) (rf : Int32) (Sf : Sg) (h : f_X6_which p1 S = some (rf, Sf)) : Met l yX6_which (Cond.code yX6_which cX6_which 6 (some .int) :: zz_all) (rmz 4 97) (PC G L b S [.ref (b + 0), .int p1]) (QC G L b Sf (some (.int rf)) True) 0 0 (fun q => b ≤ q) := by
  refine x_met [.ref (b + 0), .int p1] (by decide +kernel) (Nat.le_of_ble_eq_true rfl) fun p e s m args below meth c C => ?_
  unfold f_X6_which at h
  refine x_iload_n (pc := 0) C 1 dX6_which_0 rfl ?_
  refine x_iconst (pc := 1) C (v := (2 : Int32)) dX6_which_1 rfl ?_
  refine x_callS1 (pc := 2) C [.int p1, .int (2 : Int32)] [] (c_X6_isWithin (b := b) p1 (2 : Int32) S) cw_X6_69 vs_X6_isWithin ⟨rfl, rfl, Nat.le_of_ble_eq_true rfl, Nat.le_of_ble_eq_true rfl⟩ ⟨Nat.le_refl _, Nat.le_refl _⟩ rfl ⟨rfl, Nat.le_of_ble_eq_true rfl⟩ dX6_which_2 (fun hx_1 => ?_)
  refine x_if_ne (pc := 5) C 15 dX6_which_5 rfl (fun c_1 => ?_) (fun c_1 => ?_)
  · replace h := of_ifn c_1 h
    refine x_aload_n (pc := 15) C 0 dX6_which_15 rfl ?_
    obtain ⟨r_1, hc_1, h⟩ := of_bd h
    refine x_callV1 (pc := 16) C (o := 0) [] [] (c_X6_isRowOfPairs (b := b) hO S _ hc_1) cw_X6_260 vi_X6_isRowOfPairs ⟨rfl, rfl, Nat.le_of_ble_eq_true rfl, Nat.le_of_ble_eq_true rfl⟩ ⟨Nat.le_refl _, Nat.le_refl _⟩ hO.1 ⟨rfl, rfl, rfl⟩ rfl ⟨rfl, Nat.le_of_ble_eq_true rfl⟩ dX6_which_16 (fun hx_2 => ?_)
    refine x_if_ne (pc := 19) C 29 dX6_which_19 rfl (fun c_2 => ?_) (fun c_2 => ?_)
    · replace h := of_ifn c_2 h
      refine x_iconst (pc := 29) C (v := (0 : Int32)) dX6_which_29 rfl ?_
      refine x_istore_n (pc := 30) C 2 [(2, .int (0 : Int32)), (0, .ref (b + 0)), (1, .int p1)] dX6_which_30 rfl (Nat.le_of_ble_eq_true rfl) rfl rfl ?_
      refine x_iload_n (pc := 31) C 2 dX6_which_31 rfl ?_
      obtain ⟨x_1, ex_1, h⟩ := of_lt h
      have kd_1 : X p l e (rmz 4 97) s m args below meth c 0 0 (RQ G L b Sf below args s (some (.int rf)) True) 6 G L b S 41 [(0, .ref (b + 0)), (1, .int p1), (2, .int (0 : Int32))] [.int x_1] := by
        refine x_istore_n (pc := 41) C 3 [(3, .int x_1), (0, .ref (b + 0)), (1, .int p1), (2, .int (0 : Int32))] dX6_which_41 rfl (Nat.le_of_ble_eq_true rfl) rfl rfl ?_
        refine x_iconst (pc := 42) C (v := (0 : Int32)) dX6_which_42 rfl ?_
        refine x_istore (pc := 43) C [(4, .int (0 : Int32)), (3, .int x_1), (0, .ref (b + 0)), (1, .int p1), (2, .int (0 : Int32))] dX6_which_43 (Nat.le_of_ble_eq_true rfl) rfl rfl ?_
        refine x_sub [2, 3, 4, 1, 0] rfl ?_
        obtain ⟨z_hz_1, hz_1, h⟩ := of_bd h
        refine l_X6_which_45 C hO p1 x_1 400 _ _ _ hz_1 (fun v2_1 S_1 ez => ?_)
        subst z_hz_1
        replace h := of_u2 h
        refine x_iload_n (pc := 104) C 0 dX6_which_104 rfl ?_
        exact x_ireturn (pc := 105) C dX6_which_105 (of_sp h).1 (of_sp h).2
      refine x_if_ne (pc := 32) C 39 dX6_which_32 rfl (fun c_3 => ?_) (fun c_3 => ?_)
      · refine x_bipush (pc := 39) C (v := (11 : Int32)) dX6_which_39 rfl ?_
        refine x_sub [1, 2, 0] rfl ?_
        rw [show x_1 = (11 : Int32) from (ex_1.trans (if_neg c_3))] at kd_1
        exact kd_1
      · refine x_iconst (pc := 35) C (v := (4 : Int32)) dX6_which_35 rfl ?_
        refine x_goto (pc := 36) C 41 dX6_which_36 rfl ?_
        refine x_sub [1, 2, 0] rfl ?_
        rw [show x_1 = (4 : Int32) from (ex_1.trans (if_pos c_3))] at kd_1
        exact kd_1
    · replace h := of_ifp c_2 h
      refine x_aload_n (pc := 22) C 0 dX6_which_22 rfl ?_
      refine x_bipush (pc := 23) C (v := (-3 : Int32)) dX6_which_23 rfl ?_
      obtain ⟨⟨r_2, S_2⟩, hc_2, h⟩ := of_bd h
      replace h := of_u2 h
      refine x_callV1 (pc := 25) C (o := 0) [.int (-3 : Int32)] [] (c_X6_refuse (b := b) (-3 : Int32) hO S _ _ hc_2) cw_X6_73 vi_X6_refuse ⟨rfl, rfl, Nat.le_of_ble_eq_true rfl, Nat.le_of_ble_eq_true rfl⟩ ⟨Nat.le_refl _, Nat.le_refl _⟩ hO.1 ⟨rfl, rfl, rfl⟩ rfl ⟨rfl, Nat.le_of_ble_eq_true rfl⟩ dX6_which_25 (fun hx_3 => ?_)
      exact x_ireturn (pc := 28) C dX6_which_28 (of_sp h).1 (of_sp h).2
  · replace h := of_ifp c_1 h
    refine x_aload_n (pc := 8) C 0 dX6_which_8 rfl ?_
    refine x_bipush (pc := 9) C (v := (-2 : Int32)) dX6_which_9 rfl ?_
    obtain ⟨⟨r_3, S_3⟩, hc_3, h⟩ := of_bd h
    replace h := of_u2 h
    refine x_callV1 (pc := 11) C (o := 0) [.int (-2 : Int32)] [] (c_X6_refuse (b := b) (-2 : Int32) hO S _ _ hc_3) cw_X6_73 vi_X6_refuse ⟨rfl, rfl, Nat.le_of_ble_eq_true rfl, Nat.le_of_ble_eq_true rfl⟩ ⟨Nat.le_refl _, Nat.le_refl _⟩ hO.1 ⟨rfl, rfl, rfl⟩ rfl ⟨rfl, Nat.le_of_ble_eq_true rfl⟩ dX6_which_11 (fun hx_4 => ?_)
    exact x_ireturn (pc := 14) C dX6_which_14 (of_sp h).1 (of_sp h).2
set_option maxRecDepth 100000 in
set_option maxHeartbeats 4000000 in
theorem c_X6_would {l : Launch} {G : zz_G} {L : Ly} {b : Nat} (p1 : Int32) (p2 : Int32) (p3 : Int32) (hO : isGu L) (S : Sg) (rf : Int32) (Sf : Sg) (h : f_X6_would p1 p2 p3 S = some (rf, Sf)) : Met l yX6_would (Cond.code yX6_would cX6_would 5 (some .int) :: zz_all) (rmz 3 74) (PC G L b S [.ref (b + 0), .int p1, .int p2, .int p3]) (QC G L b Sf (some (.int rf)) True) 0 0 (fun q => b ≤ q) := by
  refine x_met [.ref (b + 0), .int p1, .int p2, .int p3] (by decide +kernel) (Nat.le_of_ble_eq_true rfl) fun p e s m args below meth c C => ?_
  unfold f_X6_would at h
  refine x_iload_n (pc := 0) C 1 dX6_would_0 rfl ?_
  refine x_iload_n (pc := 1) C 2 dX6_would_1 rfl ?_
  refine x_iload_n (pc := 2) C 3 dX6_would_2 rfl ?_
  refine x_callS1 (pc := 3) C [.int p1, .int p2, .int p3] [] (c_X2_misfitOf (b := b) p1 p2 p3 S) cw_X6_146 vs_X2_misfitOf ⟨rfl, rfl, Nat.le_of_ble_eq_true rfl, Nat.le_of_ble_eq_true rfl⟩ ⟨Nat.le_refl _, Nat.le_refl _⟩ rfl ⟨rfl, Nat.le_of_ble_eq_true rfl⟩ dX6_would_3 (fun hx_1 => ?_)
  obtain ⟨v4_1, ev4_1, h⟩ := of_lt h
  refine x_istore (pc := 6) C [(4, .int v4_1), (0, .ref (b + 0)), (1, .int p1), (2, .int p2), (3, .int p3)] dX6_would_6 (Nat.le_of_ble_eq_true rfl) ev4_1 rfl ?_
  refine x_iload (pc := 8) C 0 dX6_would_8 rfl ?_
  refine x_if_eq (pc := 10) C 20 dX6_would_10 rfl (fun c_1 => ?_) (fun c_1 => ?_)
  · replace h := of_ifp c_1 h
    refine x_aload_n (pc := 20) C 1 dX6_would_20 rfl ?_
    refine x_getr (pc := 21) C (k := 4) 130 hO.1 rfl rfl wd_224 dX6_would_21 (Nat.le_of_ble_eq_true rfl) rfl ?_
    refine x_iload_n (pc := 24) C 2 dX6_would_24 rfl ?_
    refine x_iload_n (pc := 25) C 3 dX6_would_25 rfl ?_
    refine x_iload_n (pc := 26) C 4 dX6_would_26 rfl ?_
    obtain ⟨S_1, hc_1, h⟩ := of_bd h
    refine x_callV_ (pc := 27) C (o := 130) [.int p1, .int p2, .int p3] [] (c_X2_make (b := b) 130 p1 p2 p3 hO.2.2.2.2.1 S _ hc_1) cw_X6_150 vi_X2_make ⟨rfl, rfl, Nat.le_of_ble_eq_true rfl, Nat.le_of_ble_eq_true rfl⟩ ⟨Nat.le_refl _, Nat.le_refl _⟩ hO.2.2.2.2.1.1 ⟨rfl, rfl, rfl⟩ rfl ⟨rfl, Nat.le_of_ble_eq_true rfl⟩ dX6_would_27 (fun hx_2 => ?_)
    refine x_aload_n (pc := 30) C 1 dX6_would_30 rfl ?_
    refine x_getr (pc := 31) C (k := 0) 1 hO.1 rfl rfl wd_220 dX6_would_31 (Nat.le_of_ble_eq_true rfl) rfl ?_
    refine x_aload_n (pc := 34) C 1 dX6_would_34 rfl ?_
    refine x_getr (pc := 35) C (k := 4) 130 hO.1 rfl rfl wd_224 dX6_would_35 (Nat.le_of_ble_eq_true rfl) rfl ?_
    refine x_aload_n (pc := 38) C 1 dX6_would_38 rfl ?_
    refine x_getr (pc := 39) C (k := 0) 1 hO.1 rfl rfl wd_220 dX6_would_39 (Nat.le_of_ble_eq_true rfl) rfl ?_
    refine x_geti (pc := 42) C (k := 5) hO.2.1.1 rfl rfl wd_135 dX6_would_42 ⟨Nat.le_of_ble_eq_true rfl, rfl⟩ ?_
    refine x_aload_n (pc := 45) C 1 dX6_would_45 rfl ?_
    refine x_getr (pc := 46) C (k := 0) 1 hO.1 rfl rfl wd_220 dX6_would_46 (Nat.le_of_ble_eq_true rfl) rfl ?_
    refine x_geti (pc := 49) C (k := 6) hO.2.1.1 rfl rfl wd_137 dX6_would_49 ⟨Nat.le_of_ble_eq_true rfl, rfl⟩ ?_
    obtain ⟨⟨r_1, S_2⟩, hc_2, h⟩ := of_bd h
    replace h := of_u2 h
    refine x_callV1 (pc := 52) C (o := 1) [.ref (b + 130), .int (S_1.1 1 5), .int (S_1.1 1 6)] [] (c_X5_meetingBy (b := b) 1 130 (S_1.1 1 5) (S_1.1 1 6) hO.2.1 hO.2.2.2.2.1 S_1 _ _ hc_2) cw_X6_161 vi_X5_meetingBy ⟨rfl, rfl, Nat.le_of_ble_eq_true rfl, Nat.le_of_ble_eq_true rfl⟩ ⟨Nat.le_refl _, Nat.le_refl _⟩ hO.2.1.1 ⟨rfl, rfl, rfl⟩ rfl ⟨rfl, Nat.le_of_ble_eq_true rfl⟩ dX6_would_52 (fun hx_3 => ?_)
    exact x_ireturn (pc := 55) C dX6_would_55 (of_sp h).1 (of_sp h).2
  · replace h := of_ifn c_1 h
    refine x_aload_n (pc := 13) C 1 dX6_would_13 rfl ?_
    refine x_iload (pc := 14) C 0 dX6_would_14 rfl ?_
    obtain ⟨⟨r_2, S_3⟩, hc_3, h⟩ := of_bd h
    replace h := of_u2 h
    refine x_callV1 (pc := 16) C (o := 0) [.int v4_1] [] (c_X6_refuse (b := b) v4_1 hO S _ _ hc_3) cw_X6_73 vi_X6_refuse ⟨rfl, rfl, Nat.le_of_ble_eq_true rfl, Nat.le_of_ble_eq_true rfl⟩ ⟨Nat.le_refl _, Nat.le_refl _⟩ hO.1 ⟨rfl, rfl, rfl⟩ rfl ⟨rfl, Nat.le_of_ble_eq_true rfl⟩ dX6_would_16 (fun hx_4 => ?_)
    exact x_ireturn (pc := 19) C dX6_would_19 (of_sp h).1 (of_sp h).2
set_option maxRecDepth 100000 in
set_option maxHeartbeats 4000000 in
theorem c_X7_below {l : Launch} {G : zz_G} {L : Ly} {b : Nat} (p0 : Int32) (p1 : Int32) (S : Sg) (rf : Int32) (h : f_X7_below p0 p1 = some rf) : Met l yX7_below (Cond.code yX7_below cX7_below 2 (some .int) :: zz_all) (rmz 0 0) (PC G L b S [.int p0, .int p1]) (QC G L b S (some (.int rf)) True) 0 0 (fun q => b ≤ q) := by
  refine x_met [.int p0, .int p1] (by decide +kernel) (Nat.le_of_ble_eq_true rfl) fun p e s m args below meth c C => ?_
  unfold f_X7_below at h
  refine x_iload_n (pc := 0) C 0 dX7_below_0 rfl ?_
  refine x_if_lt (pc := 1) C 10 dX7_below_1 rfl (fun c_1 => ?_) (fun c_1 => ?_)
  · replace h := of_ifp c_1 h
    refine x_iload_n (pc := 10) C 0 dX7_below_10 rfl ?_
    refine x_ineg (pc := 11) C dX7_below_11 ?_
    refine x_iload_n (pc := 12) C 1 dX7_below_12 rfl ?_
    refine x_iadd (pc := 13) C dX7_below_13 ?_
    refine x_iconst (pc := 14) C (v := (1 : Int32)) dX7_below_14 rfl ?_
    refine x_isub (pc := 15) C dX7_below_15 ?_
    refine x_iload_n (pc := 16) C 1 dX7_below_16 rfl ?_
    obtain ⟨g_1, h⟩ := of_gd h
    refine x_idiv (pc := 17) C dX7_below_17 g_1 ?_
    refine x_ineg (pc := 18) C dX7_below_18 ?_
    exact x_ireturn (pc := 19) C dX7_below_19 (of_s1 h) rfl
  · replace h := of_ifn c_1 h
    refine x_iload_n (pc := 4) C 0 dX7_below_4 rfl ?_
    refine x_iload_n (pc := 5) C 1 dX7_below_5 rfl ?_
    obtain ⟨g_2, h⟩ := of_gd h
    refine x_idiv (pc := 6) C dX7_below_6 g_2 ?_
    refine x_goto (pc := 7) C 19 dX7_below_7 rfl ?_
    exact x_ireturn (pc := 19) C dX7_below_19 (of_s1 h) rfl
set_option maxRecDepth 100000 in
set_option maxHeartbeats 4000000 in
theorem c_X7_above {l : Launch} {G : zz_G} {L : Ly} {b : Nat} (p0 : Int32) (p1 : Int32) (S : Sg) (rf : Int32) (h : f_X7_above p0 p1 = some rf) : Met l yX7_above (Cond.code yX7_above cX7_above 2 (some .int) :: zz_all) (rmz 1 21) (PC G L b S [.int p0, .int p1]) (QC G L b S (some (.int rf)) True) 0 0 (fun q => b ≤ q) := by
  refine x_met [.int p0, .int p1] (by decide +kernel) (Nat.le_of_ble_eq_true rfl) fun p e s m args below meth c C => ?_
  unfold f_X7_above at h
  refine x_iload_n (pc := 0) C 0 dX7_above_0 rfl ?_
  refine x_ineg (pc := 1) C dX7_above_1 ?_
  refine x_iload_n (pc := 2) C 1 dX7_above_2 rfl ?_
  obtain ⟨r_1, hc_1, h⟩ := of_bd h
  refine x_callS1 (pc := 3) C [.int (-p0), .int p1] [] (c_X7_below (b := b) (-p0) p1 S _ hc_1) cw_X7_323 vs_X7_below ⟨rfl, rfl, Nat.le_of_ble_eq_true rfl, Nat.le_of_ble_eq_true rfl⟩ ⟨Nat.le_refl _, Nat.le_refl _⟩ rfl ⟨rfl, Nat.le_of_ble_eq_true rfl⟩ dX7_above_3 (fun hx_1 => ?_)
  refine x_ineg (pc := 6) C dX7_above_6 ?_
  exact x_ireturn (pc := 7) C dX7_above_7 (of_s1 h) rfl
set_option maxRecDepth 100000 in
set_option maxHeartbeats 4000000 in
theorem c_X7_sizeOf {l : Launch} {G : zz_G} {L : Ly} {b : Nat} (p0 : Int64) (S : Sg) : Met l yX7_sizeOf (Cond.code yX7_sizeOf cX7_sizeOf 2 (some .long) :: zz_all) (rmz 0 0) (PC G L b S [.long p0]) (QC G L b S (some (.long (f_X7_sizeOf p0))) True) 0 0 (fun q => b ≤ q) := by
  refine x_met [.long p0] (by decide +kernel) (Nat.le_of_ble_eq_true rfl) fun p e s m args below meth c C => ?_
  generalize h : f_X7_sizeOf p0 = rf
  unfold f_X7_sizeOf at h
  refine x_lload_n (pc := 0) C 0 dX7_sizeOf_0 rfl ?_
  refine x_lconst (pc := 1) C (v := (0 : Int64)) dX7_sizeOf_1 rfl ?_
  obtain ⟨x_1, ex_1, h⟩ := of_lt h
  have kd_1 : X p l e (rmz 0 0) s m args below meth c 0 0 (RQ G L b S below args s (some (.long rf)) True) 2 G L b S 12 [] [.long x_1] := by
    exact x_lreturn (pc := 12) C dX7_sizeOf_12 h rfl
  refine x_lcmp_ge (pc := 2) C 11 dX7_sizeOf_2 dX7_sizeOf_3 rfl (fun c_1 => ?_) (fun c_1 => ?_)
  · refine x_lload_n (pc := 11) C 0 dX7_sizeOf_11 rfl ?_
    refine x_sub [] rfl ?_
    rw [show x_1 = p0 from (ex_1.trans (if_neg c_1))] at kd_1
    exact kd_1
  · refine x_lload_n (pc := 6) C 0 dX7_sizeOf_6 rfl ?_
    refine x_lneg (pc := 7) C dX7_sizeOf_7 ?_
    refine x_goto (pc := 8) C 12 dX7_sizeOf_8 rfl ?_
    refine x_sub [] rfl ?_
    rw [show x_1 = (-p0) from (ex_1.trans (if_pos c_1))] at kd_1
    exact kd_1
set_option maxRecDepth 100000 in
set_option maxHeartbeats 4000000 in
theorem l_X7_divisor_12 {p : Program} {l : Launch} {e : Env} {s : State} {m : MethodId} {args : Array Value} {below : List Frame} {meth : Method} {c : Code} {G : zz_G} {L : Ly} {b : Nat} {Q : State → Prop} (C : CX p G s m args meth c cX7_divisor yX7_divisor 10 (some .long)) (S : Sg) : ∀ (n : Nat) (v4 : Int64) (v6 : Int64) {z}, L_X7_divisor_12 n v4 v6 = some z → (∀ (v4_o : Int64), z = v4_o → X p l e (rmz 1 21) s m args below meth c 0 0 Q 10 G L b S 37 [(4, .long v4_o)] []) → X p l e (rmz 1 21) s m args below meth c 0 0 Q 10 G L b S 12 [(4, .long v4), (6, .long v6)] [] := by
  intro n
  induction n with
  | zero =>
    intro v4 v6 z h
    exact of_none h
  | succ n ih =>
    intro v4 v6 z h hx
    rw [L_X7_divisor_12] at h
    refine x_lload (pc := 12) C 1 dX7_divisor_12 rfl ?_
    refine x_lconst (pc := 14) C (v := (0 : Int64)) dX7_divisor_14 rfl ?_
    refine x_lcmp_eq (pc := 15) C 37 dX7_divisor_15 dX7_divisor_16 rfl (fun c_1 => ?_) (fun c_1 => ?_)
    · replace h := of_ifp c_1 h
      exact x_sub [0] rfl (hx _ (of_s1 h).symm)
    · replace h := of_ifn c_1 h
      refine x_lload (pc := 19) C 0 dX7_divisor_19 rfl ?_
      refine x_lload (pc := 21) C 1 dX7_divisor_21 rfl ?_
      obtain ⟨g_1, h⟩ := of_gd h
      refine x_lrem (pc := 23) C dX7_divisor_23 g_1 ?_
      obtain ⟨v8_1, ev8_1, h⟩ := of_lt h
      refine x_lstore (pc := 24) C [(8, .long v8_1), (4, .long v4), (6, .long v6)] dX7_divisor_24 (Nat.le_of_ble_eq_true rfl) ev8_1 rfl ?_
      refine x_lload (pc := 26) C 2 dX7_divisor_26 rfl ?_
      refine x_lstore (pc := 28) C [(4, .long v6), (8, .long v8_1), (6, .long v6)] dX7_divisor_28 (Nat.le_of_ble_eq_true rfl) rfl rfl ?_
      refine x_lload (pc := 30) C 1 dX7_divisor_30 rfl ?_
      refine x_lstore (pc := 32) C [(6, .long v8_1), (4, .long v6), (8, .long v8_1)] dX7_divisor_32 (Nat.le_of_ble_eq_true rfl) rfl rfl ?_
      refine x_goto (pc := 34) C 12 dX7_divisor_34 rfl ?_
      exact x_sub [1, 0] rfl (ih _ _ h hx)
set_option maxRecDepth 100000 in
set_option maxHeartbeats 4000000 in
theorem c_X7_divisor {l : Launch} {G : zz_G} {L : Ly} {b : Nat} (p0 : Int64) (p1 : Int64) (S : Sg) (rf : Int64) (h : f_X7_divisor p0 p1 = some rf) : Met l yX7_divisor (Cond.code yX7_divisor cX7_divisor 10 (some .long) :: zz_all) (rmz 1 21) (PC G L b S [.long p0, .long p1]) (QC G L b S (some (.long rf)) True) 0 0 (fun q => b ≤ q) := by
  refine x_met [.long p0, .long p1] (by decide +kernel) (Nat.le_of_ble_eq_true rfl) fun p e s m args below meth c C => ?_
  unfold f_X7_divisor at h
  refine x_lload_n (pc := 0) C 0 dX7_divisor_0 rfl ?_
  refine x_callS1 (pc := 1) C [.long p0] [] (c_X7_sizeOf (b := b) p0 S) cw_X7_114 vs_X7_sizeOf ⟨rfl, rfl, Nat.le_of_ble_eq_true rfl, Nat.le_of_ble_eq_true rfl⟩ ⟨Nat.le_refl _, Nat.le_refl _⟩ rfl ⟨rfl, Nat.le_of_ble_eq_true rfl⟩ dX7_divisor_1 (fun hx_1 => ?_)
  obtain ⟨v4_1, ev4_1, h⟩ := of_lt h
  refine x_lstore (pc := 4) C [(4, .long v4_1), (0, .long p0), (2, .long p1)] dX7_divisor_4 (Nat.le_of_ble_eq_true rfl) ev4_1 rfl ?_
  refine x_lload_n (pc := 6) C 2 dX7_divisor_6 rfl ?_
  refine x_callS1 (pc := 7) C [.long p1] [] (c_X7_sizeOf (b := b) p1 S) cw_X7_114 vs_X7_sizeOf ⟨rfl, rfl, Nat.le_of_ble_eq_true rfl, Nat.le_of_ble_eq_true rfl⟩ ⟨Nat.le_refl _, Nat.le_refl _⟩ rfl ⟨rfl, Nat.le_of_ble_eq_true rfl⟩ dX7_divisor_7 (fun hx_2 => ?_)
  obtain ⟨v6_1, ev6_1, h⟩ := of_lt h
  refine x_lstore (pc := 10) C [(6, .long v6_1), (4, .long v4_1), (0, .long p0), (2, .long p1)] dX7_divisor_10 (Nat.le_of_ble_eq_true rfl) ev6_1 rfl ?_
  refine x_sub [1, 0] rfl ?_
  obtain ⟨z_hz_1, hz_1, h⟩ := of_bd h
  refine l_X7_divisor_12 C S 400 _ _ hz_1 (fun v4_2 ez => ?_)
  subst z_hz_1
  refine x_lload (pc := 37) C 0 dX7_divisor_37 rfl ?_
  exact x_lreturn (pc := 39) C dX7_divisor_39 (of_s1 h) rfl
set_option maxRecDepth 100000 in
set_option maxHeartbeats 4000000 in
theorem l_X7_makesLeast_5 {p : Program} {l : Launch} {e : Env} {s : State} {m : MethodId} {args : Array Value} {below : List Frame} {meth : Method} {c : Code} {G : zz_G} {L : Ly} {b : Nat} {Q : State → Prop} (C : CX p G s m args meth c cX7_makesLeast yX7_makesLeast 5 none) (a0 : Nat) (n0 : Nat) (h0 : L.2 a0 = some (2, n0, [])) (v1 : Int32) (S : Sg) : ∀ (n : Nat) (v2 : Int64) (v4 : Int32) {z}, L_X7_makesLeast_5 a0 n0 v1 S n v2 v4 = some z → (∀ (v2_o : Int64), z = v2_o → X p l e (rmz 2 50) s m args below meth c 0 0 Q 5 G L b S 29 [(0, .ref (b + a0)), (1, .int v1), (2, .long v2_o)] []) → X p l e (rmz 2 50) s m args below meth c 0 0 Q 5 G L b S 5 [(0, .ref (b + a0)), (1, .int v1), (2, .long v2), (4, .int v4)] [] := by
  intro n
  induction n with
  | zero =>
    intro v2 v4 z h
    exact of_none h
  | succ n ih =>
    intro v2 v4 z h hx
    rw [L_X7_makesLeast_5] at h
    refine x_iload (pc := 5) C 3 dX7_makesLeast_5 rfl ?_
    refine x_bipush (pc := 7) C (v := (10 : Int32)) dX7_makesLeast_7 rfl ?_
    refine x_icmp_ge (pc := 9) C 29 dX7_makesLeast_9 rfl (fun c_1 => ?_) (fun c_1 => ?_)
    · replace h := of_ifn c_1 h
      exact x_sub [0, 1, 2] rfl (hx _ (of_s1 h).symm)
    · replace h := of_ifp c_1 h
      refine x_lload_n (pc := 12) C 2 dX7_makesLeast_12 rfl ?_
      refine x_aload_n (pc := 13) C 0 dX7_makesLeast_13 rfl ?_
      refine x_iload_n (pc := 14) C 1 dX7_makesLeast_14 rfl ?_
      refine x_iload (pc := 15) C 3 dX7_makesLeast_15 rfl ?_
      refine x_iadd (pc := 17) C dX7_makesLeast_17 ?_
      obtain ⟨g_1, h⟩ := of_gd h
      refine x_laload (pc := 18) C h0 g_1 dX7_makesLeast_18 ?_
      obtain ⟨r_1, hc_1, h⟩ := of_bd h
      refine x_callS1 (pc := 19) C [.long v2, .long (S.2 a0 (ix (v1 + v4)))] [] (c_X7_divisor (b := b) v2 (S.2 a0 (ix (v1 + v4))) S _ hc_1) cw_X7_118 vs_X7_divisor ⟨rfl, rfl, Nat.le_of_ble_eq_true rfl, Nat.le_of_ble_eq_true rfl⟩ ⟨Nat.le_refl _, Nat.le_refl _⟩ rfl ⟨rfl, Nat.le_of_ble_eq_true rfl⟩ dX7_makesLeast_19 (fun hx_1 => ?_)
      refine x_lstore_n (pc := 22) C 2 [(2, .long r_1), (0, .ref (b + a0)), (1, .int v1), (4, .int v4)] dX7_makesLeast_22 rfl (Nat.le_of_ble_eq_true rfl) rfl rfl ?_
      obtain ⟨v4_1, ev4_1, h⟩ := of_lt h
      refine x_iinc (pc := 23) C (w := (1 : Int32)) 3 [(4, .int v4_1), (2, .long r_1), (0, .ref (b + a0)), (1, .int v1)] dX7_makesLeast_23 rfl rfl (Nat.le_of_ble_eq_true rfl) ev4_1 rfl ?_
      refine x_goto (pc := 26) C 5 dX7_makesLeast_26 rfl ?_
      exact x_sub [2, 3, 1, 0] rfl (ih _ _ h hx)
set_option maxRecDepth 100000 in
set_option maxHeartbeats 4000000 in
theorem l_X7_makesLeast_32 {p : Program} {l : Launch} {e : Env} {s : State} {m : MethodId} {args : Array Value} {below : List Frame} {meth : Method} {c : Code} {G : zz_G} {L : Ly} {b : Nat} {Q : State → Prop} (C : CX p G s m args meth c cX7_makesLeast yX7_makesLeast 5 none) (a0 : Nat) (n0 : Nat) (h0 : L.2 a0 = some (2, n0, [])) (v1 : Int32) (v2 : Int64) : ∀ (n : Nat) (v4 : Int32) (S : Sg) {z}, L_X7_makesLeast_32 a0 n0 v1 v2 n v4 S = some z → (∀ (S_o : Sg), z = S_o → X p l e (rmz 2 50) s m args below meth c 0 0 Q 5 G L b S_o 61 [] []) → X p l e (rmz 2 50) s m args below meth c 0 0 Q 5 G L b S 32 [(0, .ref (b + a0)), (1, .int v1), (2, .long v2), (4, .int v4)] [] := by
  intro n
  induction n with
  | zero =>
    intro v4 S z h
    exact of_none h
  | succ n ih =>
    intro v4 S z h hx
    rw [L_X7_makesLeast_32] at h
    refine x_iload (pc := 32) C 3 dX7_makesLeast_32 rfl ?_
    refine x_bipush (pc := 34) C (v := (10 : Int32)) dX7_makesLeast_34 rfl ?_
    refine x_icmp_ge (pc := 36) C 61 dX7_makesLeast_36 rfl (fun c_1 => ?_) (fun c_1 => ?_)
    · replace h := of_ifn c_1 h
      exact x_sub [] rfl (hx _ (of_s1 h).symm)
    · replace h := of_ifp c_1 h
      refine x_lload_n (pc := 39) C 2 dX7_makesLeast_39 rfl ?_
      refine x_lconst (pc := 40) C (v := (1 : Int64)) dX7_makesLeast_40 rfl ?_
      refine x_lcmp_le (pc := 41) C 61 dX7_makesLeast_41 dX7_makesLeast_42 rfl (fun c_2 => ?_) (fun c_2 => ?_)
      · replace h := of_ifn c_2 h
        exact x_sub [] rfl (hx _ (of_s1 h).symm)
      · replace h := of_ifp c_2 h
        refine x_aload_n (pc := 45) C 0 dX7_makesLeast_45 rfl ?_
        refine x_iload_n (pc := 46) C 1 dX7_makesLeast_46 rfl ?_
        refine x_iload (pc := 47) C 3 dX7_makesLeast_47 rfl ?_
        refine x_iadd (pc := 49) C dX7_makesLeast_49 ?_
        refine x_dup2 (pc := 50) C dX7_makesLeast_50 rfl rfl ?_
        obtain ⟨g_1, h⟩ := of_gd h
        refine x_laload (pc := 51) C h0 g_1 dX7_makesLeast_51 ?_
        refine x_lload_n (pc := 52) C 2 dX7_makesLeast_52 rfl ?_
        obtain ⟨g_2, h⟩ := of_gd h
        refine x_ldiv (pc := 53) C dX7_makesLeast_53 g_2 ?_
        obtain ⟨S_1, eS_1, h⟩ := of_lt h
        refine x_lastore (pc := 54) C h0 g_1 eS_1 dX7_makesLeast_54 ?_
        obtain ⟨v4_1, ev4_1, h⟩ := of_lt h
        refine x_iinc (pc := 55) C (w := (1 : Int32)) 3 [(4, .int v4_1), (0, .ref (b + a0)), (1, .int v1), (2, .long v2)] dX7_makesLeast_55 rfl rfl (Nat.le_of_ble_eq_true rfl) ev4_1 rfl ?_
        refine x_goto (pc := 58) C 32 dX7_makesLeast_58 rfl ?_
        exact x_sub [1, 2, 3, 0] rfl (ih _ _ h hx)
set_option maxRecDepth 100000 in
set_option maxHeartbeats 4000000 in
theorem c_X7_makesLeast {l : Launch} {G : zz_G} {L : Ly} {b : Nat} (a0 : Nat) (n0 : Nat) (p1 : Int32) (h0 : L.2 a0 = some (2, n0, [])) (S : Sg) (Sf : Sg) (h : f_X7_makesLeast a0 n0 p1 S = some Sf) : Met l yX7_makesLeast (Cond.code yX7_makesLeast cX7_makesLeast 5 none :: zz_all) (rmz 2 50) (PC G L b S [.ref (b + a0), .int p1]) (QC G L b Sf none True) 0 0 (fun q => b ≤ q) := by
  refine x_met [.ref (b + a0), .int p1] (by decide +kernel) (Nat.le_of_ble_eq_true rfl) fun p e s m args below meth c C => ?_
  unfold f_X7_makesLeast at h
  refine x_lconst (pc := 0) C (v := (0 : Int64)) dX7_makesLeast_0 rfl ?_
  refine x_lstore_n (pc := 1) C 2 [(2, .long (0 : Int64)), (0, .ref (b + a0)), (1, .int p1)] dX7_makesLeast_1 rfl (Nat.le_of_ble_eq_true rfl) rfl rfl ?_
  refine x_iconst (pc := 2) C (v := (0 : Int32)) dX7_makesLeast_2 rfl ?_
  refine x_istore (pc := 3) C [(4, .int (0 : Int32)), (2, .long (0 : Int64)), (0, .ref (b + a0)), (1, .int p1)] dX7_makesLeast_3 (Nat.le_of_ble_eq_true rfl) rfl rfl ?_
  refine x_sub [2, 3, 1, 0] rfl ?_
  obtain ⟨z_hz_2, hz_2, h⟩ := of_bd h
  refine l_X7_makesLeast_5 C a0 n0 h0 p1 S 400 _ _ hz_2 (fun v2_1 ez => ?_)
  subst z_hz_2
  refine x_iconst (pc := 29) C (v := (0 : Int32)) dX7_makesLeast_29 rfl ?_
  refine x_istore (pc := 30) C [(4, .int (0 : Int32)), (0, .ref (b + a0)), (1, .int p1), (2, .long v2_1)] dX7_makesLeast_30 (Nat.le_of_ble_eq_true rfl) rfl rfl ?_
  refine x_sub [1, 2, 3, 0] rfl ?_
  obtain ⟨z_hz_1, hz_1, h⟩ := of_bd h
  refine l_X7_makesLeast_32 C a0 n0 h0 p1 v2_1 400 _ _ hz_1 (fun S_1 ez => ?_)
  subst z_hz_1
  exact x_vreturn (pc := 61) C dX7_makesLeast_61 (of_s1 h)
