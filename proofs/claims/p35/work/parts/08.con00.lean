set_option maxRecDepth 100000 in
set_option maxHeartbeats 4000000 in
theorem c_J6_bitCount_0f7a4 {l : Launch} {G : zz_G} {L : Ly} {b : Nat} (p0 : Int32) (S : Sg) : Met l yJ6_bitCount_0f7a4 (Cond.code yJ6_bitCount_0f7a4 cJ6_bitCount_0f7a4 1 (some .int) :: zz_all) (rmz 0 0) (PC G L b S [.int p0]) (QC G L b S (some (.int (f_J6_bitCount_0f7a4 p0))) True) 0 0 (fun q => b ≤ q) := by
  refine x_metF [.int p0] (by decide +kernel) (Nat.le_of_ble_eq_true rfl) fun p e s m args below meth c C => ?_
  generalize h : f_J6_bitCount_0f7a4 p0 = rf
  unfold f_J6_bitCount_0f7a4 at h
  refine x_iload_n (pc := 0) C 0 dJ6_bitCount_0f7a4_0 rfl ?_
  refine x_iload_n (pc := 1) C 0 dJ6_bitCount_0f7a4_1 rfl ?_
  refine x_iconst (pc := 2) C (v := (1 : Int32)) dJ6_bitCount_0f7a4_2 rfl ?_
  refine x_iushr (pc := 3) C dJ6_bitCount_0f7a4_3 ?_
  refine x_ldcw (pc := 4) C wd_504 dJ6_bitCount_0f7a4_4 ?_
  refine x_iand (pc := 7) C dJ6_bitCount_0f7a4_7 ?_
  refine x_isub (pc := 8) C dJ6_bitCount_0f7a4_8 ?_
  obtain ⟨v0_1, ev0_1, h⟩ := of_lt h
  refine x_istore_n (pc := 9) C 0 [(0, .int v0_1)] dJ6_bitCount_0f7a4_9 rfl (Nat.le_of_ble_eq_true rfl) ev0_1 rfl ?_
  refine x_iload_n (pc := 10) C 0 dJ6_bitCount_0f7a4_10 rfl ?_
  refine x_ldcw (pc := 11) C wd_505 dJ6_bitCount_0f7a4_11 ?_
  refine x_iand (pc := 14) C dJ6_bitCount_0f7a4_14 ?_
  refine x_iload_n (pc := 15) C 0 dJ6_bitCount_0f7a4_15 rfl ?_
  refine x_iconst (pc := 16) C (v := (2 : Int32)) dJ6_bitCount_0f7a4_16 rfl ?_
  refine x_iushr (pc := 17) C dJ6_bitCount_0f7a4_17 ?_
  refine x_ldcw (pc := 18) C wd_505 dJ6_bitCount_0f7a4_18 ?_
  refine x_iand (pc := 21) C dJ6_bitCount_0f7a4_21 ?_
  refine x_iadd (pc := 22) C dJ6_bitCount_0f7a4_22 ?_
  obtain ⟨v0_2, ev0_2, h⟩ := of_lt h
  refine x_istore_n (pc := 23) C 0 [(0, .int v0_2)] dJ6_bitCount_0f7a4_23 rfl (Nat.le_of_ble_eq_true rfl) ev0_2 rfl ?_
  refine x_iload_n (pc := 24) C 0 dJ6_bitCount_0f7a4_24 rfl ?_
  refine x_iload_n (pc := 25) C 0 dJ6_bitCount_0f7a4_25 rfl ?_
  refine x_iconst (pc := 26) C (v := (4 : Int32)) dJ6_bitCount_0f7a4_26 rfl ?_
  refine x_iushr (pc := 27) C dJ6_bitCount_0f7a4_27 ?_
  refine x_iadd (pc := 28) C dJ6_bitCount_0f7a4_28 ?_
  refine x_ldcw (pc := 29) C wd_506 dJ6_bitCount_0f7a4_29 ?_
  refine x_iand (pc := 32) C dJ6_bitCount_0f7a4_32 ?_
  obtain ⟨v0_3, ev0_3, h⟩ := of_lt h
  refine x_istore_n (pc := 33) C 0 [(0, .int v0_3)] dJ6_bitCount_0f7a4_33 rfl (Nat.le_of_ble_eq_true rfl) ev0_3 rfl ?_
  refine x_iload_n (pc := 34) C 0 dJ6_bitCount_0f7a4_34 rfl ?_
  refine x_iload_n (pc := 35) C 0 dJ6_bitCount_0f7a4_35 rfl ?_
  refine x_bipush (pc := 36) C (v := (8 : Int32)) dJ6_bitCount_0f7a4_36 rfl ?_
  refine x_iushr (pc := 38) C dJ6_bitCount_0f7a4_38 ?_
  refine x_iadd (pc := 39) C dJ6_bitCount_0f7a4_39 ?_
  obtain ⟨v0_4, ev0_4, h⟩ := of_lt h
  refine x_istore_n (pc := 40) C 0 [(0, .int v0_4)] dJ6_bitCount_0f7a4_40 rfl (Nat.le_of_ble_eq_true rfl) ev0_4 rfl ?_
  refine x_iload_n (pc := 41) C 0 dJ6_bitCount_0f7a4_41 rfl ?_
  refine x_iload_n (pc := 42) C 0 dJ6_bitCount_0f7a4_42 rfl ?_
  refine x_bipush (pc := 43) C (v := (16 : Int32)) dJ6_bitCount_0f7a4_43 rfl ?_
  refine x_iushr (pc := 45) C dJ6_bitCount_0f7a4_45 ?_
  refine x_iadd (pc := 46) C dJ6_bitCount_0f7a4_46 ?_
  obtain ⟨v0_5, ev0_5, h⟩ := of_lt h
  refine x_istore_n (pc := 47) C 0 [(0, .int v0_5)] dJ6_bitCount_0f7a4_47 rfl (Nat.le_of_ble_eq_true rfl) ev0_5 rfl ?_
  refine x_iload_n (pc := 48) C 0 dJ6_bitCount_0f7a4_48 rfl ?_
  refine x_bipush (pc := 49) C (v := (63 : Int32)) dJ6_bitCount_0f7a4_49 rfl ?_
  refine x_iand (pc := 51) C dJ6_bitCount_0f7a4_51 ?_
  exact x_ireturn (pc := 52) C dJ6_bitCount_0f7a4_52 h rfl
set_option maxRecDepth 100000 in
set_option maxHeartbeats 4000000 in
theorem c_J9_abs_067f4 {l : Launch} {G : zz_G} {L : Ly} {b : Nat} (p0 : Int64) (S : Sg) : Met l yJ9_abs_067f4 (Cond.code yJ9_abs_067f4 cJ9_abs_067f4 2 (some .long) :: zz_all) (rmz 0 0) (PC G L b S [.long p0]) (QC G L b S (some (.long (f_J9_abs_067f4 p0))) True) 0 0 (fun q => b ≤ q) := by
  refine x_metF [.long p0] (by decide +kernel) (Nat.le_of_ble_eq_true rfl) fun p e s m args below meth c C => ?_
  generalize h : f_J9_abs_067f4 p0 = rf
  unfold f_J9_abs_067f4 at h
  refine x_lload_n (pc := 0) C 0 dJ9_abs_067f4_0 rfl ?_
  refine x_lconst (pc := 1) C (v := (0 : Int64)) dJ9_abs_067f4_1 rfl ?_
  obtain ⟨x_1, ex_1, h⟩ := of_lt h
  have kd_1 : X p l e (rmz 0 0) s m args below meth c 0 0 (RQ G L b S below args s (some (.long rf)) True) 2 G L b S 12 [] [.long x_1] := by
    exact x_lreturn (pc := 12) C dJ9_abs_067f4_12 h rfl
  refine x_lcmp_ge (pc := 2) C 11 dJ9_abs_067f4_2 dJ9_abs_067f4_3 rfl (fun c_1 => ?_) (fun c_1 => ?_)
  · refine x_lload_n (pc := 11) C 0 dJ9_abs_067f4_11 rfl ?_
    refine x_sub [] rfl ?_
    rw [show x_1 = p0 from (ex_1.trans (if_neg c_1))] at kd_1
    exact kd_1
  · refine x_lload_n (pc := 6) C 0 dJ9_abs_067f4_6 rfl ?_
    refine x_lneg (pc := 7) C dJ9_abs_067f4_7 ?_
    refine x_goto (pc := 8) C 12 dJ9_abs_067f4_8 rfl ?_
    refine x_sub [] rfl ?_
    rw [show x_1 = (-p0) from (ex_1.trans (if_pos c_1))] at kd_1
    exact kd_1
set_option maxRecDepth 100000 in
set_option maxHeartbeats 4000000 in
theorem c_J9_floorDiv_7cf53 {l : Launch} {G : zz_G} {L : Ly} {b : Nat} (p0 : Int32) (p1 : Int32) (S : Sg) (rf : Int32) (h : f_J9_floorDiv_7cf53 p0 p1 = some rf) : Met l yJ9_floorDiv_7cf53 (Cond.code yJ9_floorDiv_7cf53 cJ9_floorDiv_7cf53 3 (some .int) :: zz_all) (rmz 0 0) (PC G L b S [.int p0, .int p1]) (QC G L b S (some (.int rf)) True) 0 0 (fun q => b ≤ q) := by
  refine x_metF [.int p0, .int p1] (by decide +kernel) (Nat.le_of_ble_eq_true rfl) fun p e s m args below meth c C => ?_
  unfold f_J9_floorDiv_7cf53 at h
  refine x_iload_n (pc := 0) C 0 dJ9_floorDiv_7cf53_0 rfl ?_
  refine x_iload_n (pc := 1) C 1 dJ9_floorDiv_7cf53_1 rfl ?_
  obtain ⟨g_1, h⟩ := of_gd h
  refine x_idiv (pc := 2) C dJ9_floorDiv_7cf53_2 g_1 ?_
  obtain ⟨v2_1, ev2_1, h⟩ := of_lt h
  refine x_istore_n (pc := 3) C 2 [(2, .int v2_1), (0, .int p0), (1, .int p1)] dJ9_floorDiv_7cf53_3 rfl (Nat.le_of_ble_eq_true rfl) ev2_1 rfl ?_
  refine x_iload_n (pc := 4) C 1 dJ9_floorDiv_7cf53_4 rfl ?_
  refine x_iload_n (pc := 5) C 2 dJ9_floorDiv_7cf53_5 rfl ?_
  refine x_ixor (pc := 6) C dJ9_floorDiv_7cf53_6 ?_
  refine x_if_ge (pc := 7) C 21 dJ9_floorDiv_7cf53_7 rfl (fun c_1 => ?_) (fun c_1 => ?_)
  · replace h := of_ifn c_1 h
    refine x_iload_n (pc := 21) C 0 dJ9_floorDiv_7cf53_21 rfl ?_
    exact x_ireturn (pc := 22) C dJ9_floorDiv_7cf53_22 (of_s1 h) rfl
  · replace h := of_ifp c_1 h
    refine x_iload_n (pc := 10) C 0 dJ9_floorDiv_7cf53_10 rfl ?_
    refine x_iload_n (pc := 11) C 2 dJ9_floorDiv_7cf53_11 rfl ?_
    refine x_imul (pc := 12) C dJ9_floorDiv_7cf53_12 ?_
    refine x_iload_n (pc := 13) C 1 dJ9_floorDiv_7cf53_13 rfl ?_
    refine x_icmp_eq (pc := 14) C 21 dJ9_floorDiv_7cf53_14 rfl (fun c_2 => ?_) (fun c_2 => ?_)
    · replace h := of_ifp c_2 h
      refine x_iload_n (pc := 21) C 0 dJ9_floorDiv_7cf53_21 rfl ?_
      exact x_ireturn (pc := 22) C dJ9_floorDiv_7cf53_22 (of_s1 h) rfl
    · replace h := of_ifn c_2 h
      refine x_iload_n (pc := 17) C 0 dJ9_floorDiv_7cf53_17 rfl ?_
      refine x_iconst (pc := 18) C (v := (1 : Int32)) dJ9_floorDiv_7cf53_18 rfl ?_
      refine x_isub (pc := 19) C dJ9_floorDiv_7cf53_19 ?_
      exact x_ireturn (pc := 20) C dJ9_floorDiv_7cf53_20 (of_s1 h) rfl
set_option maxRecDepth 100000 in
set_option maxHeartbeats 4000000 in
theorem c_J9_max_7cf53 {l : Launch} {G : zz_G} {L : Ly} {b : Nat} (p0 : Int32) (p1 : Int32) (S : Sg) : Met l yJ9_max_7cf53 (Cond.code yJ9_max_7cf53 cJ9_max_7cf53 2 (some .int) :: zz_all) (rmz 0 0) (PC G L b S [.int p0, .int p1]) (QC G L b S (some (.int (f_J9_max_7cf53 p0 p1))) True) 0 0 (fun q => b ≤ q) := by
  refine x_metF [.int p0, .int p1] (by decide +kernel) (Nat.le_of_ble_eq_true rfl) fun p e s m args below meth c C => ?_
  generalize h : f_J9_max_7cf53 p0 p1 = rf
  unfold f_J9_max_7cf53 at h
  refine x_iload_n (pc := 0) C 0 dJ9_max_7cf53_0 rfl ?_
  refine x_iload_n (pc := 1) C 1 dJ9_max_7cf53_1 rfl ?_
  obtain ⟨x_1, ex_1, h⟩ := of_lt h
  have kd_1 : X p l e (rmz 0 0) s m args below meth c 0 0 (RQ G L b S below args s (some (.int rf)) True) 2 G L b S 10 [] [.int x_1] := by
    exact x_ireturn (pc := 10) C dJ9_max_7cf53_10 h rfl
  refine x_icmp_lt (pc := 2) C 9 dJ9_max_7cf53_2 rfl (fun c_1 => ?_) (fun c_1 => ?_)
  · refine x_iload_n (pc := 9) C 1 dJ9_max_7cf53_9 rfl ?_
    refine x_sub [] rfl ?_
    rw [show x_1 = p1 from (ex_1.trans (if_pos c_1))] at kd_1
    exact kd_1
  · refine x_iload_n (pc := 5) C 0 dJ9_max_7cf53_5 rfl ?_
    refine x_goto (pc := 6) C 10 dJ9_max_7cf53_6 rfl ?_
    refine x_sub [] rfl ?_
    rw [show x_1 = p0 from (ex_1.trans (if_neg c_1))] at kd_1
    exact kd_1
set_option maxRecDepth 100000 in
set_option maxHeartbeats 4000000 in
theorem c_J9_min_7cf53 {l : Launch} {G : zz_G} {L : Ly} {b : Nat} (p0 : Int32) (p1 : Int32) (S : Sg) : Met l yJ9_min_7cf53 (Cond.code yJ9_min_7cf53 cJ9_min_7cf53 2 (some .int) :: zz_all) (rmz 0 0) (PC G L b S [.int p0, .int p1]) (QC G L b S (some (.int (f_J9_min_7cf53 p0 p1))) True) 0 0 (fun q => b ≤ q) := by
  refine x_metF [.int p0, .int p1] (by decide +kernel) (Nat.le_of_ble_eq_true rfl) fun p e s m args below meth c C => ?_
  generalize h : f_J9_min_7cf53 p0 p1 = rf
  unfold f_J9_min_7cf53 at h
  refine x_iload_n (pc := 0) C 0 dJ9_min_7cf53_0 rfl ?_
  refine x_iload_n (pc := 1) C 1 dJ9_min_7cf53_1 rfl ?_
  obtain ⟨x_1, ex_1, h⟩ := of_lt h
  have kd_1 : X p l e (rmz 0 0) s m args below meth c 0 0 (RQ G L b S below args s (some (.int rf)) True) 2 G L b S 10 [] [.int x_1] := by
    exact x_ireturn (pc := 10) C dJ9_min_7cf53_10 h rfl
  refine x_icmp_gt (pc := 2) C 9 dJ9_min_7cf53_2 rfl (fun c_1 => ?_) (fun c_1 => ?_)
  · refine x_iload_n (pc := 9) C 1 dJ9_min_7cf53_9 rfl ?_
    refine x_sub [] rfl ?_
    rw [show x_1 = p1 from (ex_1.trans (if_pos c_1))] at kd_1
    exact kd_1
  · refine x_iload_n (pc := 5) C 0 dJ9_min_7cf53_5 rfl ?_
    refine x_goto (pc := 6) C 10 dJ9_min_7cf53_6 rfl ?_
    refine x_sub [] rfl ?_
    rw [show x_1 = p0 from (ex_1.trans (if_neg c_1))] at kd_1
    exact kd_1
set_option maxRecDepth 100000 in
set_option maxHeartbeats 4000000 in
theorem c_X6_isWithin {l : Launch} {G : zz_G} {L : Ly} {b : Nat} (p0 : Int32) (p1 : Int32) (S : Sg) : Met l yX6_isWithin (Cond.code yX6_isWithin cX6_isWithin 2 (some .boolean) :: zz_all) (rmz 0 0) (PC G L b S [.int p0, .int p1]) (QC G L b S (some (.int (f_X6_isWithin p0 p1))) (f_X6_isWithin p0 p1 = 0 ∨ f_X6_isWithin p0 p1 = 1)) 0 0 (fun q => b ≤ q) := by
  refine x_met [.int p0, .int p1] (by decide +kernel) (Nat.le_of_ble_eq_true rfl) fun p e s m args below meth c C => ?_
  generalize h : f_X6_isWithin p0 p1 = rf
  unfold f_X6_isWithin at h
  refine x_iload_n (pc := 0) C 0 dX6_isWithin_0 rfl ?_
  obtain ⟨x_1, ex_1, h⟩ := of_lt h
  have kd_1 : X p l e (rmz 0 0) s m args below meth c 0 0 (RQ G L b S below args s (some (.int rf)) (rf = 0 ∨ rf = 1)) 2 G L b S 14 [] [.int x_1] := by
    exact x_zreturn (pc := 14) C (ex_1 ▸ (if01 (by decide) (if01 (by decide) (by decide)))) dX6_isWithin_14 h rfl
  refine x_if_lt (pc := 1) C 13 dX6_isWithin_1 rfl (fun c_1 => ?_) (fun c_1 => ?_)
  · refine x_iconst (pc := 13) C (v := (0 : Int32)) dX6_isWithin_13 rfl ?_
    refine x_sub [] rfl ?_
    rw [show x_1 = (0 : Int32) from (ex_1.trans (if_pos c_1))] at kd_1
    exact kd_1
  · refine x_iload_n (pc := 4) C 0 dX6_isWithin_4 rfl ?_
    refine x_iload_n (pc := 5) C 1 dX6_isWithin_5 rfl ?_
    refine x_icmp_ge (pc := 6) C 13 dX6_isWithin_6 rfl (fun c_2 => ?_) (fun c_2 => ?_)
    · refine x_iconst (pc := 13) C (v := (0 : Int32)) dX6_isWithin_13 rfl ?_
      refine x_sub [] rfl ?_
      rw [show x_1 = (0 : Int32) from ((ex_1.trans (if_neg c_1)).trans (if_neg c_2))] at kd_1
      exact kd_1
    · refine x_iconst (pc := 9) C (v := (1 : Int32)) dX6_isWithin_9 rfl ?_
      refine x_goto (pc := 10) C 14 dX6_isWithin_10 rfl ?_
      refine x_sub [] rfl ?_
      rw [show x_1 = (1 : Int32) from ((ex_1.trans (if_neg c_1)).trans (if_pos c_2))] at kd_1
      exact kd_1
set_option maxRecDepth 100000 in
set_option maxHeartbeats 4000000 in
theorem c_X5_has {l : Launch} {G : zz_G} {L : Ly} {b : Nat} (o : Nat) (p1 : Int32) (hO : isW L o) (S : Sg) : Met l yX5_has (Cond.code yX5_has cX5_has 2 (some .boolean) :: zz_all) (rmz 1 21) (PC G L b S [.ref (b + o), .int p1]) (QC G L b S (some (.int (f_X5_has o p1 S))) (f_X5_has o p1 S = 0 ∨ f_X5_has o p1 S = 1)) 0 0 (fun q => b ≤ q) := by
  refine x_met [.ref (b + o), .int p1] (by decide +kernel) (Nat.le_of_ble_eq_true rfl) fun p e s m args below meth c C => ?_
  generalize h : f_X5_has o p1 S = rf
  unfold f_X5_has at h
  refine x_iload_n (pc := 0) C 1 dX5_has_0 rfl ?_
  refine x_aload_n (pc := 1) C 0 dX5_has_1 rfl ?_
  refine x_geti (pc := 2) C (k := 4) hO.1 rfl rfl wd_63 dX5_has_2 ⟨Nat.le_of_ble_eq_true rfl, rfl⟩ ?_
  refine x_callSN1 (pc := 5) C [.int p1, .int (S.1 o 4)] [] (c_X6_isWithin (b := b) p1 (S.1 o 4) S) cn_X5_72 vs_X6_isWithin ⟨rfl, rfl, Nat.le_of_ble_eq_true rfl, Nat.le_of_ble_eq_true rfl⟩ ⟨Nat.le_refl _, Nat.le_refl _⟩ rfl ⟨rfl, Nat.le_of_ble_eq_true rfl⟩ dX5_has_5 (fun hx_1 => ?_)
  obtain ⟨x_1, ex_1, h⟩ := of_lt h
  have kd_1 : X p l e (rmz 1 21) s m args below meth c 0 0 (RQ G L b S below args s (some (.int rf)) (rf = 0 ∨ rf = 1)) 2 G L b S 25 [] [.int x_1] := by
    exact x_zreturn (pc := 25) C (ex_1 ▸ (if01 (by decide) (if01 (by decide) (by decide)))) dX5_has_25 h rfl
  refine x_if_eq (pc := 8) C 24 dX5_has_8 rfl (fun c_1 => ?_) (fun c_1 => ?_)
  · refine x_iconst (pc := 24) C (v := (0 : Int32)) dX5_has_24 rfl ?_
    refine x_sub [] rfl ?_
    rw [show x_1 = (0 : Int32) from (ex_1.trans (if_pos c_1))] at kd_1
    exact kd_1
  · refine x_iload_n (pc := 11) C 1 dX5_has_11 rfl ?_
    refine x_bipush (pc := 12) C (v := (10 : Int32)) dX5_has_12 rfl ?_
    refine x_callSN1 (pc := 14) C [.int p1, .int (10 : Int32)] [] (c_X6_isWithin (b := b) p1 (10 : Int32) S) cn_X5_72 vs_X6_isWithin ⟨rfl, rfl, Nat.le_of_ble_eq_true rfl, Nat.le_of_ble_eq_true rfl⟩ ⟨Nat.le_refl _, Nat.le_refl _⟩ rfl ⟨rfl, Nat.le_of_ble_eq_true rfl⟩ dX5_has_14 (fun hx_2 => ?_)
    refine x_if_eq (pc := 17) C 24 dX5_has_17 rfl (fun c_2 => ?_) (fun c_2 => ?_)
    · refine x_iconst (pc := 24) C (v := (0 : Int32)) dX5_has_24 rfl ?_
      refine x_sub [] rfl ?_
      rw [show x_1 = (0 : Int32) from ((ex_1.trans (if_neg c_1)).trans (if_pos c_2))] at kd_1
      exact kd_1
    · refine x_iconst (pc := 20) C (v := (1 : Int32)) dX5_has_20 rfl ?_
      refine x_goto (pc := 21) C 25 dX5_has_21 rfl ?_
      refine x_sub [] rfl ?_
      rw [show x_1 = (1 : Int32) from ((ex_1.trans (if_neg c_1)).trans (if_neg c_2))] at kd_1
      exact kd_1
set_option maxRecDepth 100000 in
set_option maxHeartbeats 4000000 in
theorem c_X5_takeBounds {l : Launch} {G : zz_G} {L : Ly} {b : Nat} (o : Nat) (p1 : Int32) (p2 : Int32) (p3 : Int32) (hO : isW L o) (S : Sg) (rf : Int32) (Sf : Sg) (h : f_X5_takeBounds o p1 p2 p3 S = some (rf, Sf)) : Met l yX5_takeBounds (Cond.code yX5_takeBounds cX5_takeBounds 4 (some .boolean) :: zz_all) (rmz 2 42) (PC G L b S [.ref (b + o), .int p1, .int p2, .int p3]) (QC G L b Sf (some (.int rf)) (rf = 0 ∨ rf = 1)) 0 0 (fun q => b ≤ q) := by
  refine x_met [.ref (b + o), .int p1, .int p2, .int p3] (by decide +kernel) (Nat.le_of_ble_eq_true rfl) fun p e s m args below meth c C => ?_
  unfold f_X5_takeBounds at h
  refine x_aload_n (pc := 0) C 0 dX5_takeBounds_0 rfl ?_
  refine x_iload_n (pc := 1) C 1 dX5_takeBounds_1 rfl ?_
  refine x_callV1 (pc := 2) C (o := o) [.int p1] [] (c_X5_has (b := b) o p1 hO S) cw_X5_76 vi_X5_has ⟨rfl, rfl, Nat.le_of_ble_eq_true rfl, Nat.le_of_ble_eq_true rfl⟩ ⟨Nat.le_refl _, Nat.le_refl _⟩ hO.1 ⟨rfl, rfl, rfl⟩ rfl ⟨rfl, Nat.le_of_ble_eq_true rfl⟩ dX5_takeBounds_2 (fun hx_1 => ?_)
  refine x_if_eq (pc := 5) C 28 dX5_takeBounds_5 rfl (fun c_1 => ?_) (fun c_1 => ?_)
  · replace h := of_ifp c_1 h
    refine x_iconst (pc := 28) C (v := (0 : Int32)) dX5_takeBounds_28 rfl ?_
    exact x_zreturn (pc := 29) C (by decide) dX5_takeBounds_29 (of_sp h).1 (of_sp h).2
  · replace h := of_ifn c_1 h
    refine x_iload_n (pc := 8) C 2 dX5_takeBounds_8 rfl ?_
    refine x_aload_n (pc := 9) C 0 dX5_takeBounds_9 rfl ?_
    refine x_getr (pc := 10) C (k := 1) (o + 2) hO.1 rfl rfl wd_60 dX5_takeBounds_10 (Nat.le_of_ble_eq_true rfl) rfl ?_
    refine x_iload_n (pc := 13) C 1 dX5_takeBounds_13 rfl ?_
    obtain ⟨g_1, h⟩ := of_gd h
    refine x_iaload (pc := 14) C hO.2.2.1 g_1 dX5_takeBounds_14 ?_
    refine x_icmp_gt (pc := 15) C 28 dX5_takeBounds_15 rfl (fun c_2 => ?_) (fun c_2 => ?_)
    · replace h := of_ifp c_2 h
      refine x_iconst (pc := 28) C (v := (0 : Int32)) dX5_takeBounds_28 rfl ?_
      exact x_zreturn (pc := 29) C (by decide) dX5_takeBounds_29 (of_sp h).1 (of_sp h).2
    · replace h := of_ifn c_2 h
      refine x_iload_n (pc := 18) C 3 dX5_takeBounds_18 rfl ?_
      refine x_aload_n (pc := 19) C 0 dX5_takeBounds_19 rfl ?_
      refine x_getr (pc := 20) C (k := 1) (o + 2) hO.1 rfl rfl wd_60 dX5_takeBounds_20 (Nat.le_of_ble_eq_true rfl) rfl ?_
      refine x_iload_n (pc := 23) C 1 dX5_takeBounds_23 rfl ?_
      refine x_iaload (pc := 24) C hO.2.2.1 g_1 dX5_takeBounds_24 ?_
      refine x_icmp_ge (pc := 25) C 30 dX5_takeBounds_25 rfl (fun c_3 => ?_) (fun c_3 => ?_)
      · replace h := of_ifn c_3 h
        refine x_aload_n (pc := 30) C 0 dX5_takeBounds_30 rfl ?_
        refine x_getr (pc := 31) C (k := 2) (o + 3) hO.1 rfl rfl wd_61 dX5_takeBounds_31 (Nat.le_of_ble_eq_true rfl) rfl ?_
        refine x_iload_n (pc := 34) C 1 dX5_takeBounds_34 rfl ?_
        refine x_iload_n (pc := 35) C 2 dX5_takeBounds_35 rfl ?_
        obtain ⟨S_1, eS_1, h⟩ := of_lt h
        refine x_iastore (pc := 36) C hO.2.2.2.1 g_1 eS_1 dX5_takeBounds_36 ?_
        refine x_aload_n (pc := 37) C 0 dX5_takeBounds_37 rfl ?_
        refine x_getr (pc := 38) C (k := 3) (o + 4) hO.1 rfl rfl wd_62 dX5_takeBounds_38 (Nat.le_of_ble_eq_true rfl) rfl ?_
        refine x_iload_n (pc := 41) C 1 dX5_takeBounds_41 rfl ?_
        refine x_iload_n (pc := 42) C 3 dX5_takeBounds_42 rfl ?_
        obtain ⟨S_2, eS_2, h⟩ := of_lt h
        refine x_iastore (pc := 43) C hO.2.2.2.2.1 g_1 eS_2 dX5_takeBounds_43 ?_
        refine x_iconst (pc := 44) C (v := (1 : Int32)) dX5_takeBounds_44 rfl ?_
        exact x_zreturn (pc := 45) C (by decide) dX5_takeBounds_45 (of_sp h).1 (of_sp h).2
      · replace h := of_ifp c_3 h
        refine x_iconst (pc := 28) C (v := (0 : Int32)) dX5_takeBounds_28 rfl ?_
        exact x_zreturn (pc := 29) C (by decide) dX5_takeBounds_29 (of_sp h).1 (of_sp h).2
set_option maxRecDepth 100000 in
set_option maxHeartbeats 4000000 in
theorem c_X6_refuse {l : Launch} {G : zz_G} {L : Ly} {b : Nat} (p1 : Int32) (hO : isGu L) (S : Sg) (rf : Int32) (Sf : Sg) (h : f_X6_refuse p1 S = some (rf, Sf)) : Met l yX6_refuse (Cond.code yX6_refuse cX6_refuse 3 (some .int) :: zz_all) (rmz 1 21) (PC G L b S [.ref (b + 0), .int p1]) (QC G L b Sf (some (.int rf)) True) 0 0 (fun q => b ≤ q) := by
  refine x_met [.ref (b + 0), .int p1] (by decide +kernel) (Nat.le_of_ble_eq_true rfl) fun p e s m args below meth c C => ?_
  unfold f_X6_refuse at h
  refine x_iconst (pc := 0) C (v := (-1 : Int32)) dX6_refuse_0 rfl ?_
  refine x_iload_n (pc := 1) C 1 dX6_refuse_1 rfl ?_
  refine x_isub (pc := 2) C dX6_refuse_2 ?_
  obtain ⟨v2_1, ev2_1, h⟩ := of_lt h
  refine x_istore_n (pc := 3) C 2 [(2, .int v2_1), (0, .ref (b + 0)), (1, .int p1)] dX6_refuse_3 rfl (Nat.le_of_ble_eq_true rfl) ev2_1 rfl ?_
  refine x_iload_n (pc := 4) C 0 dX6_refuse_4 rfl ?_
  refine x_bipush (pc := 5) C (v := (6 : Int32)) dX6_refuse_5 rfl ?_
  refine x_callS1 (pc := 7) C [.int v2_1, .int (6 : Int32)] [] (c_X6_isWithin (b := b) v2_1 (6 : Int32) S) cw_X6_69 vs_X6_isWithin ⟨rfl, rfl, Nat.le_of_ble_eq_true rfl, Nat.le_of_ble_eq_true rfl⟩ ⟨Nat.le_refl _, Nat.le_refl _⟩ rfl ⟨rfl, Nat.le_of_ble_eq_true rfl⟩ dX6_refuse_7 (fun hx_1 => ?_)
  refine x_if_eq (pc := 10) C 23 dX6_refuse_10 rfl (fun c_1 => ?_) (fun c_1 => ?_)
  · replace h := of_ifp c_1 h
    refine x_iload_n (pc := 23) C 2 dX6_refuse_23 rfl ?_
    exact x_ireturn (pc := 24) C dX6_refuse_24 (of_sp h).1 (of_sp h).2
  · replace h := of_ifn c_1 h
    refine x_aload_n (pc := 13) C 1 dX6_refuse_13 rfl ?_
    refine x_getr (pc := 14) C (k := 8) 139 hO.1 rfl rfl wd_157 dX6_refuse_14 (Nat.le_of_ble_eq_true rfl) rfl ?_
    refine x_iload_n (pc := 17) C 0 dX6_refuse_17 rfl ?_
    refine x_dup2 (pc := 18) C dX6_refuse_18 rfl rfl ?_
    obtain ⟨g_1, h⟩ := of_gd h
    refine x_iaload (pc := 19) C hO.2.2.2.2.2.2.2.2 g_1 dX6_refuse_19 ?_
    refine x_iconst (pc := 20) C (v := (1 : Int32)) dX6_refuse_20 rfl ?_
    refine x_iadd (pc := 21) C dX6_refuse_21 ?_
    obtain ⟨S_1, eS_1, h⟩ := of_lt h
    refine x_iastore (pc := 22) C hO.2.2.2.2.2.2.2.2 g_1 eS_1 dX6_refuse_22 ?_
    refine x_iload_n (pc := 23) C 2 dX6_refuse_23 rfl ?_
    exact x_ireturn (pc := 24) C dX6_refuse_24 (of_sp h).1 (of_sp h).2
set_option maxRecDepth 100000 in
set_option maxHeartbeats 4000000 in
theorem c_X6_bounds {l : Launch} {G : zz_G} {L : Ly} {b : Nat} (p1 : Int32) (p2 : Int32) (p3 : Int32) (hO : isGu L) (S : Sg) (rf : Int32) (Sf : Sg) (h : f_X6_bounds p1 p2 p3 S = some (rf, Sf)) : Met l yX6_bounds (Cond.code yX6_bounds cX6_bounds 4 (some .int) :: zz_all) (rmz 3 65) (PC G L b S [.ref (b + 0), .int p1, .int p2, .int p3]) (QC G L b Sf (some (.int rf)) True) 0 0 (fun q => b ≤ q) := by
  refine x_met [.ref (b + 0), .int p1, .int p2, .int p3] (by decide +kernel) (Nat.le_of_ble_eq_true rfl) fun p e s m args below meth c C => ?_
  unfold f_X6_bounds at h
  refine x_aload_n (pc := 0) C 0 dX6_bounds_0 rfl ?_
  refine x_getr (pc := 1) C (k := 0) 1 hO.1 rfl rfl wd_149 dX6_bounds_1 (Nat.le_of_ble_eq_true rfl) rfl ?_
  refine x_iload_n (pc := 4) C 1 dX6_bounds_4 rfl ?_
  refine x_callV1 (pc := 5) C (o := 1) [.int p1] [] (c_X5_has (b := b) 1 p1 hO.2.1 S) cw_X6_91 vi_X5_has ⟨rfl, rfl, Nat.le_of_ble_eq_true rfl, Nat.le_of_ble_eq_true rfl⟩ ⟨Nat.le_refl _, Nat.le_refl _⟩ hO.2.1.1 ⟨rfl, rfl, rfl⟩ rfl ⟨rfl, Nat.le_of_ble_eq_true rfl⟩ dX6_bounds_5 (fun hx_1 => ?_)
  refine x_if_ne (pc := 8) C 17 dX6_bounds_8 rfl (fun c_1 => ?_) (fun c_1 => ?_)
  · replace h := of_ifn c_1 h
    refine x_iload_n (pc := 17) C 2 dX6_bounds_17 rfl ?_
    refine x_if_lt (pc := 18) C 25 dX6_bounds_18 rfl (fun c_2 => ?_) (fun c_2 => ?_)
    · replace h := of_ifp c_2 h
      refine x_aload_n (pc := 25) C 0 dX6_bounds_25 rfl ?_
      refine x_bipush (pc := 26) C (v := (-4 : Int32)) dX6_bounds_26 rfl ?_
      obtain ⟨⟨r_1, S_1⟩, hc_1, h⟩ := of_bd h
      replace h := of_u2 h
      refine x_callV1 (pc := 28) C (o := 0) [.int (-4 : Int32)] [] (c_X6_refuse (b := b) (-4 : Int32) hO S _ _ hc_1) cw_X6_73 vi_X6_refuse ⟨rfl, rfl, Nat.le_of_ble_eq_true rfl, Nat.le_of_ble_eq_true rfl⟩ ⟨Nat.le_refl _, Nat.le_refl _⟩ hO.1 ⟨rfl, rfl, rfl⟩ rfl ⟨rfl, Nat.le_of_ble_eq_true rfl⟩ dX6_bounds_28 (fun hx_2 => ?_)
      exact x_ireturn (pc := 31) C dX6_bounds_31 (of_sp h).1 (of_sp h).2
    · replace h := of_ifn c_2 h
      refine x_iload_n (pc := 21) C 3 dX6_bounds_21 rfl ?_
      refine x_if_ge (pc := 22) C 32 dX6_bounds_22 rfl (fun c_3 => ?_) (fun c_3 => ?_)
      · replace h := of_ifn c_3 h
        refine x_iload_n (pc := 32) C 2 dX6_bounds_32 rfl ?_
        refine x_bipush (pc := 33) C (v := (99 : Int32)) dX6_bounds_33 rfl ?_
        refine x_icmp_gt (pc := 35) C 44 dX6_bounds_35 rfl (fun c_4 => ?_) (fun c_4 => ?_)
        · replace h := of_ifp c_4 h
          refine x_aload_n (pc := 44) C 0 dX6_bounds_44 rfl ?_
          refine x_bipush (pc := 45) C (v := (-6 : Int32)) dX6_bounds_45 rfl ?_
          obtain ⟨⟨r_2, S_2⟩, hc_2, h⟩ := of_bd h
          replace h := of_u2 h
          refine x_callV1 (pc := 47) C (o := 0) [.int (-6 : Int32)] [] (c_X6_refuse (b := b) (-6 : Int32) hO S _ _ hc_2) cw_X6_73 vi_X6_refuse ⟨rfl, rfl, Nat.le_of_ble_eq_true rfl, Nat.le_of_ble_eq_true rfl⟩ ⟨Nat.le_refl _, Nat.le_refl _⟩ hO.1 ⟨rfl, rfl, rfl⟩ rfl ⟨rfl, Nat.le_of_ble_eq_true rfl⟩ dX6_bounds_47 (fun hx_3 => ?_)
          exact x_ireturn (pc := 50) C dX6_bounds_50 (of_sp h).1 (of_sp h).2
        · replace h := of_ifn c_4 h
          refine x_iload_n (pc := 38) C 3 dX6_bounds_38 rfl ?_
          refine x_bipush (pc := 39) C (v := (99 : Int32)) dX6_bounds_39 rfl ?_
          refine x_icmp_le (pc := 41) C 51 dX6_bounds_41 rfl (fun c_5 => ?_) (fun c_5 => ?_)
          · replace h := of_ifn c_5 h
            refine x_aload_n (pc := 51) C 0 dX6_bounds_51 rfl ?_
            refine x_getr (pc := 52) C (k := 0) 1 hO.1 rfl rfl wd_149 dX6_bounds_52 (Nat.le_of_ble_eq_true rfl) rfl ?_
            refine x_iload_n (pc := 55) C 1 dX6_bounds_55 rfl ?_
            refine x_iload_n (pc := 56) C 2 dX6_bounds_56 rfl ?_
            refine x_iload_n (pc := 57) C 3 dX6_bounds_57 rfl ?_
            obtain ⟨⟨r_3, S_3⟩, hc_3, h⟩ := of_bd h
            replace h := of_u2 h
            refine x_callV1 (pc := 58) C (o := 1) [.int p1, .int p2, .int p3] [] (c_X5_takeBounds (b := b) 1 p1 p2 p3 hO.2.1 S _ _ hc_3) cw_X6_129 vi_X5_takeBounds ⟨rfl, rfl, Nat.le_of_ble_eq_true rfl, Nat.le_of_ble_eq_true rfl⟩ ⟨Nat.le_refl _, Nat.le_refl _⟩ hO.2.1.1 ⟨rfl, rfl, rfl⟩ rfl ⟨rfl, Nat.le_of_ble_eq_true rfl⟩ dX6_bounds_58 (fun hx_4 => ?_)
            refine x_if_eq (pc := 61) C 68 dX6_bounds_61 rfl (fun c_6 => ?_) (fun c_6 => ?_)
            · replace h := of_ifp c_6 h
              refine x_aload_n (pc := 68) C 0 dX6_bounds_68 rfl ?_
              refine x_bipush (pc := 69) C (v := (-3 : Int32)) dX6_bounds_69 rfl ?_
              obtain ⟨⟨r_4, S_4⟩, hc_4, h⟩ := of_bd h
              replace h := of_u2 h
              refine x_callV1 (pc := 71) C (o := 0) [.int (-3 : Int32)] [] (c_X6_refuse (b := b) (-3 : Int32) hO S_3 _ _ hc_4) cw_X6_73 vi_X6_refuse ⟨rfl, rfl, Nat.le_of_ble_eq_true rfl, Nat.le_of_ble_eq_true rfl⟩ ⟨Nat.le_refl _, Nat.le_refl _⟩ hO.1 ⟨rfl, rfl, rfl⟩ rfl ⟨rfl, Nat.le_of_ble_eq_true rfl⟩ dX6_bounds_71 (fun hx_5 => ?_)
              exact x_ireturn (pc := 74) C dX6_bounds_74 (of_sp h).1 (of_sp h).2
            · replace h := of_ifn c_6 h
              refine x_iconst (pc := 64) C (v := (1 : Int32)) dX6_bounds_64 rfl ?_
              refine x_goto (pc := 65) C 74 dX6_bounds_65 rfl ?_
              exact x_ireturn (pc := 74) C dX6_bounds_74 (of_sp h).1 (of_sp h).2
          · replace h := of_ifp c_5 h
            refine x_aload_n (pc := 44) C 0 dX6_bounds_44 rfl ?_
            refine x_bipush (pc := 45) C (v := (-6 : Int32)) dX6_bounds_45 rfl ?_
            obtain ⟨⟨r_5, S_5⟩, hc_5, h⟩ := of_bd h
            replace h := of_u2 h
            refine x_callV1 (pc := 47) C (o := 0) [.int (-6 : Int32)] [] (c_X6_refuse (b := b) (-6 : Int32) hO S _ _ hc_5) cw_X6_73 vi_X6_refuse ⟨rfl, rfl, Nat.le_of_ble_eq_true rfl, Nat.le_of_ble_eq_true rfl⟩ ⟨Nat.le_refl _, Nat.le_refl _⟩ hO.1 ⟨rfl, rfl, rfl⟩ rfl ⟨rfl, Nat.le_of_ble_eq_true rfl⟩ dX6_bounds_47 (fun hx_6 => ?_)
            exact x_ireturn (pc := 50) C dX6_bounds_50 (of_sp h).1 (of_sp h).2
      · replace h := of_ifp c_3 h
        refine x_aload_n (pc := 25) C 0 dX6_bounds_25 rfl ?_
        refine x_bipush (pc := 26) C (v := (-4 : Int32)) dX6_bounds_26 rfl ?_
        obtain ⟨⟨r_6, S_6⟩, hc_6, h⟩ := of_bd h
        replace h := of_u2 h
        refine x_callV1 (pc := 28) C (o := 0) [.int (-4 : Int32)] [] (c_X6_refuse (b := b) (-4 : Int32) hO S _ _ hc_6) cw_X6_73 vi_X6_refuse ⟨rfl, rfl, Nat.le_of_ble_eq_true rfl, Nat.le_of_ble_eq_true rfl⟩ ⟨Nat.le_refl _, Nat.le_refl _⟩ hO.1 ⟨rfl, rfl, rfl⟩ rfl ⟨rfl, Nat.le_of_ble_eq_true rfl⟩ dX6_bounds_28 (fun hx_7 => ?_)
        exact x_ireturn (pc := 31) C dX6_bounds_31 (of_sp h).1 (of_sp h).2
  · replace h := of_ifp c_1 h
    refine x_aload_n (pc := 11) C 0 dX6_bounds_11 rfl ?_
    refine x_iconst (pc := 12) C (v := (-1 : Int32)) dX6_bounds_12 rfl ?_
    obtain ⟨⟨r_7, S_7⟩, hc_7, h⟩ := of_bd h
    replace h := of_u2 h
    refine x_callV1 (pc := 13) C (o := 0) [.int (-1 : Int32)] [] (c_X6_refuse (b := b) (-1 : Int32) hO S _ _ hc_7) cw_X6_73 vi_X6_refuse ⟨rfl, rfl, Nat.le_of_ble_eq_true rfl, Nat.le_of_ble_eq_true rfl⟩ ⟨Nat.le_refl _, Nat.le_refl _⟩ hO.1 ⟨rfl, rfl, rfl⟩ rfl ⟨rfl, Nat.le_of_ble_eq_true rfl⟩ dX6_bounds_13 (fun hx_8 => ?_)
    exact x_ireturn (pc := 16) C dX6_bounds_16 (of_sp h).1 (of_sp h).2
set_option maxRecDepth 100000 in
set_option maxHeartbeats 4000000 in
theorem c_X5_highOf {l : Launch} {G : zz_G} {L : Ly} {b : Nat} (o : Nat) (p1 : Int32) (hO : isW L o) (S : Sg) (rf : Int32) (h : f_X5_highOf o p1 S = some rf) : Met l yX5_highOf (Cond.code yX5_highOf cX5_highOf 2 (some .int) :: zz_all) (rmz 2 42) (PC G L b S [.ref (b + o), .int p1]) (QC G L b S (some (.int rf)) True) 0 0 (fun q => b ≤ q) := by
  refine x_met [.ref (b + o), .int p1] (by decide +kernel) (Nat.le_of_ble_eq_true rfl) fun p e s m args below meth c C => ?_
  unfold f_X5_highOf at h
  refine x_aload_n (pc := 0) C 0 dX5_highOf_0 rfl ?_
  refine x_iload_n (pc := 1) C 1 dX5_highOf_1 rfl ?_
  refine x_callV1 (pc := 2) C (o := o) [.int p1] [] (c_X5_has (b := b) o p1 hO S) cw_X5_76 vi_X5_has ⟨rfl, rfl, Nat.le_of_ble_eq_true rfl, Nat.le_of_ble_eq_true rfl⟩ ⟨Nat.le_refl _, Nat.le_refl _⟩ hO.1 ⟨rfl, rfl, rfl⟩ rfl ⟨rfl, Nat.le_of_ble_eq_true rfl⟩ dX5_highOf_2 (fun hx_1 => ?_)
  refine x_if_eq (pc := 5) C 17 dX5_highOf_5 rfl (fun c_1 => ?_) (fun c_1 => ?_)
  · replace h := of_ifp c_1 h
    refine x_iconst (pc := 17) C (v := (0 : Int32)) dX5_highOf_17 rfl ?_
    exact x_ireturn (pc := 18) C dX5_highOf_18 (of_s1 h) rfl
  · replace h := of_ifn c_1 h
    refine x_aload_n (pc := 8) C 0 dX5_highOf_8 rfl ?_
    refine x_getr (pc := 9) C (k := 3) (o + 4) hO.1 rfl rfl wd_62 dX5_highOf_9 (Nat.le_of_ble_eq_true rfl) rfl ?_
    refine x_iload_n (pc := 12) C 1 dX5_highOf_12 rfl ?_
    obtain ⟨g_1, h⟩ := of_gd h
    refine x_iaload (pc := 13) C hO.2.2.2.2.1 g_1 dX5_highOf_13 ?_
    refine x_goto (pc := 14) C 18 dX5_highOf_14 rfl ?_
    exact x_ireturn (pc := 18) C dX5_highOf_18 (of_s1 h) rfl
set_option maxRecDepth 100000 in
set_option maxHeartbeats 4000000 in
theorem c_X5_coefficient {l : Launch} {G : zz_G} {L : Ly} {b : Nat} (o : Nat) (p1 : Int32) (p2 : Int32) (hO : isW L o) (S : Sg) (rf : Int32) (h : f_X5_coefficient o p1 p2 S = some rf) : Met l yX5_coefficient (Cond.code yX5_coefficient cX5_coefficient 3 (some .int) :: zz_all) (rmz 1 21) (PC G L b S [.ref (b + o), .int p1, .int p2]) (QC G L b S (some (.int rf)) True) 0 0 (fun q => b ≤ q) := by
  refine x_met [.ref (b + o), .int p1, .int p2] (by decide +kernel) (Nat.le_of_ble_eq_true rfl) fun p e s m args below meth c C => ?_
  unfold f_X5_coefficient at h
  refine x_iload_n (pc := 0) C 1 dX5_coefficient_0 rfl ?_
  refine x_bipush (pc := 1) C (v := (10 : Int32)) dX5_coefficient_1 rfl ?_
  refine x_callSN1 (pc := 3) C [.int p1, .int (10 : Int32)] [] (c_X6_isWithin (b := b) p1 (10 : Int32) S) cn_X5_72 vs_X6_isWithin ⟨rfl, rfl, Nat.le_of_ble_eq_true rfl, Nat.le_of_ble_eq_true rfl⟩ ⟨Nat.le_refl _, Nat.le_refl _⟩ rfl ⟨rfl, Nat.le_of_ble_eq_true rfl⟩ dX5_coefficient_3 (fun hx_1 => ?_)
  refine x_if_eq (pc := 6) C 29 dX5_coefficient_6 rfl (fun c_1 => ?_) (fun c_1 => ?_)
  · replace h := of_ifp c_1 h
    refine x_iconst (pc := 29) C (v := (0 : Int32)) dX5_coefficient_29 rfl ?_
    exact x_ireturn (pc := 30) C dX5_coefficient_30 (of_s1 h) rfl
  · replace h := of_ifn c_1 h
    refine x_iload_n (pc := 9) C 2 dX5_coefficient_9 rfl ?_
    refine x_bipush (pc := 10) C (v := (10 : Int32)) dX5_coefficient_10 rfl ?_
    refine x_callSN1 (pc := 12) C [.int p2, .int (10 : Int32)] [] (c_X6_isWithin (b := b) p2 (10 : Int32) S) cn_X5_72 vs_X6_isWithin ⟨rfl, rfl, Nat.le_of_ble_eq_true rfl, Nat.le_of_ble_eq_true rfl⟩ ⟨Nat.le_refl _, Nat.le_refl _⟩ rfl ⟨rfl, Nat.le_of_ble_eq_true rfl⟩ dX5_coefficient_12 (fun hx_3 => ?_)
    refine x_if_eq (pc := 15) C 29 dX5_coefficient_15 rfl (fun c_2 => ?_) (fun c_2 => ?_)
    · replace h := of_ifp c_2 h
      refine x_iconst (pc := 29) C (v := (0 : Int32)) dX5_coefficient_29 rfl ?_
      exact x_ireturn (pc := 30) C dX5_coefficient_30 (of_s1 h) rfl
    · replace h := of_ifn c_2 h
      refine x_aload_n (pc := 18) C 0 dX5_coefficient_18 rfl ?_
      refine x_getr (pc := 19) C (k := 7) (o + 5) hO.1 rfl rfl wd_70 dX5_coefficient_19 (Nat.le_of_ble_eq_true rfl) rfl ?_
      refine x_iload_n (pc := 22) C 1 dX5_coefficient_22 rfl ?_
      obtain ⟨g_1, h⟩ := of_gd h
      refine x_aaloadI (pc := 23) C hO.2.2.2.2.2.1 g_1 dX5_coefficient_23 ?_
      refine x_iload_n (pc := 24) C 2 dX5_coefficient_24 rfl ?_
      obtain ⟨g_2, h⟩ := of_gd h
      refine x_iaload (pc := 25) C (hO.2.2.2.2.2.2.1 _ (inb_lt (i := p1) g_1)) g_2 dX5_coefficient_25 ?_
      refine x_goto (pc := 26) C 30 dX5_coefficient_26 rfl ?_
      exact x_ireturn (pc := 30) C dX5_coefficient_30 (of_s1 h) rfl
set_option maxRecDepth 100000 in
set_option maxHeartbeats 4000000 in
theorem l_X5_isFree_2 {p : Program} {l : Launch} {e : Env} {s : State} {m : MethodId} {args : Array Value} {below : List Frame} {meth : Method} {c : Code} {G : zz_G} {L : Ly} {b : Nat} (C : CX p G s m args meth c cX5_isFree yX5_isFree 3 (some .boolean)) (o : Nat) (hO : isW L o) (v1 : Int32) (S : Sg) (rf : Int32) : ∀ (n : Nat) (v2 : Int32) {z}, L_X5_isFree_2 o v1 S n v2 = some z → (∀ q, z = .inl q → q = rf) → (z = .inr () → X p l e (rmz 2 43) s m args below meth c 0 0 (RQ G L b S below args s (some (.int rf)) (rf = 0 ∨ rf = 1)) 3 G L b S 27 [] []) → X p l e (rmz 2 43) s m args below meth c 0 0 (RQ G L b S below args s (some (.int rf)) (rf = 0 ∨ rf = 1)) 3 G L b S 2 [(0, .ref (b + o)), (1, .int v1), (2, .int v2)] [] := by
  intro n
  induction n with
  | zero =>
    intro v2 z h
    exact of_none h
  | succ n ih =>
    intro v2 z h hr hx
    rw [L_X5_isFree_2] at h
    refine x_iload_n (pc := 2) C 2 dX5_isFree_2 rfl ?_
    refine x_aload_n (pc := 3) C 0 dX5_isFree_3 rfl ?_
    refine x_geti (pc := 4) C (k := 9) hO.1 rfl rfl wd_73 dX5_isFree_4 ⟨Nat.le_of_ble_eq_true rfl, rfl⟩ ?_
    refine x_icmp_ge (pc := 7) C 27 dX5_isFree_7 rfl (fun c_1 => ?_) (fun c_1 => ?_)
    · replace h := of_ifn c_1 h
      exact x_sub [] rfl (hx (of_s1 h).symm)
    · replace h := of_ifp c_1 h
      refine x_aload_n (pc := 10) C 0 dX5_isFree_10 rfl ?_
      refine x_iload_n (pc := 11) C 2 dX5_isFree_11 rfl ?_
      refine x_iload_n (pc := 12) C 1 dX5_isFree_12 rfl ?_
      obtain ⟨r_1, hc_1, h⟩ := of_bd h
      refine x_callV1 (pc := 13) C (o := o) [.int v2, .int v1] [] (c_X5_coefficient (b := b) o v2 v1 hO S _ hc_1) cw_X5_80 vi_X5_coefficient ⟨rfl, rfl, Nat.le_of_ble_eq_true rfl, Nat.le_of_ble_eq_true rfl⟩ ⟨Nat.le_refl _, Nat.le_refl _⟩ hO.1 ⟨rfl, rfl, rfl⟩ rfl ⟨rfl, Nat.le_of_ble_eq_true rfl⟩ dX5_isFree_13 (fun hx_1 => ?_)
      refine x_if_eq (pc := 16) C 21 dX5_isFree_16 rfl (fun c_2 => ?_) (fun c_2 => ?_)
      · replace h := of_ifp c_2 h
        obtain ⟨v2_1, ev2_1, h⟩ := of_lt h
        refine x_iinc (pc := 21) C (w := (1 : Int32)) 2 [(2, .int v2_1), (0, .ref (b + o)), (1, .int v1)] dX5_isFree_21 rfl rfl (Nat.le_of_ble_eq_true rfl) ev2_1 rfl ?_
        refine x_goto (pc := 24) C 2 dX5_isFree_24 rfl ?_
        exact x_sub [1, 2, 0] rfl (ih _ h hr hx)
      · replace h := of_ifn c_2 h
        refine x_iconst (pc := 19) C (v := (0 : Int32)) dX5_isFree_19 rfl ?_
        have hq := hr _ (of_s1 h).symm
        exact x_zreturn (pc := 20) C (by decide) dX5_isFree_20 hq rfl
set_option maxRecDepth 100000 in
set_option maxHeartbeats 4000000 in
theorem c_X5_isFree {l : Launch} {G : zz_G} {L : Ly} {b : Nat} (o : Nat) (p1 : Int32) (hO : isW L o) (S : Sg) (rf : Int32) (h : f_X5_isFree o p1 S = some rf) : Met l yX5_isFree (Cond.code yX5_isFree cX5_isFree 3 (some .boolean) :: zz_all) (rmz 2 43) (PC G L b S [.ref (b + o), .int p1]) (QC G L b S (some (.int rf)) (rf = 0 ∨ rf = 1)) 0 0 (fun q => b ≤ q) := by
  refine x_met [.ref (b + o), .int p1] (by decide +kernel) (Nat.le_of_ble_eq_true rfl) fun p e s m args below meth c C => ?_
  unfold f_X5_isFree at h
  refine x_iconst (pc := 0) C (v := (0 : Int32)) dX5_isFree_0 rfl ?_
  refine x_istore_n (pc := 1) C 2 [(2, .int (0 : Int32)), (0, .ref (b + o)), (1, .int p1)] dX5_isFree_1 rfl (Nat.le_of_ble_eq_true rfl) rfl rfl ?_
  refine x_sub [1, 2, 0] rfl ?_
  obtain ⟨z_hz_1, hz_1, hl, hrr⟩ := of_bs h
  refine l_X5_isFree_2 C o hO p1 S rf 400 _ hz_1 (fun q ez => of_s1 (hl _ ez)) (fun ez => ?_)
  replace h := hrr _ ez
  clear hl hrr
  refine x_iconst (pc := 27) C (v := (1 : Int32)) dX5_isFree_27 rfl ?_
  exact x_zreturn (pc := 28) C (by decide) dX5_isFree_28 (of_s1 h) rfl
set_option maxRecDepth 100000 in
set_option maxHeartbeats 4000000 in
theorem c_X5_lowOf {l : Launch} {G : zz_G} {L : Ly} {b : Nat} (o : Nat) (p1 : Int32) (hO : isW L o) (S : Sg) (rf : Int32) (h : f_X5_lowOf o p1 S = some rf) : Met l yX5_lowOf (Cond.code yX5_lowOf cX5_lowOf 2 (some .int) :: zz_all) (rmz 2 42) (PC G L b S [.ref (b + o), .int p1]) (QC G L b S (some (.int rf)) True) 0 0 (fun q => b ≤ q) := by
  refine x_met [.ref (b + o), .int p1] (by decide +kernel) (Nat.le_of_ble_eq_true rfl) fun p e s m args below meth c C => ?_
  unfold f_X5_lowOf at h
  refine x_aload_n (pc := 0) C 0 dX5_lowOf_0 rfl ?_
  refine x_iload_n (pc := 1) C 1 dX5_lowOf_1 rfl ?_
  refine x_callV1 (pc := 2) C (o := o) [.int p1] [] (c_X5_has (b := b) o p1 hO S) cw_X5_76 vi_X5_has ⟨rfl, rfl, Nat.le_of_ble_eq_true rfl, Nat.le_of_ble_eq_true rfl⟩ ⟨Nat.le_refl _, Nat.le_refl _⟩ hO.1 ⟨rfl, rfl, rfl⟩ rfl ⟨rfl, Nat.le_of_ble_eq_true rfl⟩ dX5_lowOf_2 (fun hx_1 => ?_)
  refine x_if_eq (pc := 5) C 17 dX5_lowOf_5 rfl (fun c_1 => ?_) (fun c_1 => ?_)
  · replace h := of_ifp c_1 h
    refine x_iconst (pc := 17) C (v := (0 : Int32)) dX5_lowOf_17 rfl ?_
    exact x_ireturn (pc := 18) C dX5_lowOf_18 (of_s1 h) rfl
  · replace h := of_ifn c_1 h
    refine x_aload_n (pc := 8) C 0 dX5_lowOf_8 rfl ?_
    refine x_getr (pc := 9) C (k := 2) (o + 3) hO.1 rfl rfl wd_61 dX5_lowOf_9 (Nat.le_of_ble_eq_true rfl) rfl ?_
    refine x_iload_n (pc := 12) C 1 dX5_lowOf_12 rfl ?_
    obtain ⟨g_1, h⟩ := of_gd h
    refine x_iaload (pc := 13) C hO.2.2.2.1 g_1 dX5_lowOf_13 ?_
    refine x_goto (pc := 14) C 18 dX5_lowOf_14 rfl ?_
    exact x_ireturn (pc := 18) C dX5_lowOf_18 (of_s1 h) rfl
set_option maxRecDepth 100000 in
set_option maxHeartbeats 4000000 in
theorem c_X5_valueOf {l : Launch} {G : zz_G} {L : Ly} {b : Nat} (o : Nat) (p1 : Int32) (hO : isW L o) (S : Sg) (rf : Int32) (h : f_X5_valueOf o p1 S = some rf) : Met l yX5_valueOf (Cond.code yX5_valueOf cX5_valueOf 2 (some .int) :: zz_all) (rmz 2 42) (PC G L b S [.ref (b + o), .int p1]) (QC G L b S (some (.int rf)) True) 0 0 (fun q => b ≤ q) := by
  refine x_met [.ref (b + o), .int p1] (by decide +kernel) (Nat.le_of_ble_eq_true rfl) fun p e s m args below meth c C => ?_
  unfold f_X5_valueOf at h
  refine x_aload_n (pc := 0) C 0 dX5_valueOf_0 rfl ?_
  refine x_iload_n (pc := 1) C 1 dX5_valueOf_1 rfl ?_
  refine x_callV1 (pc := 2) C (o := o) [.int p1] [] (c_X5_has (b := b) o p1 hO S) cw_X5_76 vi_X5_has ⟨rfl, rfl, Nat.le_of_ble_eq_true rfl, Nat.le_of_ble_eq_true rfl⟩ ⟨Nat.le_refl _, Nat.le_refl _⟩ hO.1 ⟨rfl, rfl, rfl⟩ rfl ⟨rfl, Nat.le_of_ble_eq_true rfl⟩ dX5_valueOf_2 (fun hx_1 => ?_)
  refine x_if_eq (pc := 5) C 17 dX5_valueOf_5 rfl (fun c_1 => ?_) (fun c_1 => ?_)
  · replace h := of_ifp c_1 h
    refine x_iconst (pc := 17) C (v := (0 : Int32)) dX5_valueOf_17 rfl ?_
    exact x_ireturn (pc := 18) C dX5_valueOf_18 (of_s1 h) rfl
  · replace h := of_ifn c_1 h
    refine x_aload_n (pc := 8) C 0 dX5_valueOf_8 rfl ?_
    refine x_getr (pc := 9) C (k := 1) (o + 2) hO.1 rfl rfl wd_60 dX5_valueOf_9 (Nat.le_of_ble_eq_true rfl) rfl ?_
    refine x_iload_n (pc := 12) C 1 dX5_valueOf_12 rfl ?_
    obtain ⟨g_1, h⟩ := of_gd h
    refine x_iaload (pc := 13) C hO.2.2.1 g_1 dX5_valueOf_13 ?_
    refine x_goto (pc := 14) C 18 dX5_valueOf_14 rfl ?_
    exact x_ireturn (pc := 18) C dX5_valueOf_18 (of_s1 h) rfl
set_option maxRecDepth 100000 in
set_option maxHeartbeats 4000000 in
theorem c_X6_asNumber {l : Launch} {G : zz_G} {L : Ly} {b : Nat} (p0 : Int32) (S : Sg) : Met l yX6_asNumber (Cond.code yX6_asNumber cX6_asNumber 1 (some .int) :: zz_all) (rmz 0 0) (PC G L b S [.int p0]) (QC G L b S (some (.int (f_X6_asNumber p0))) True) 0 0 (fun q => b ≤ q) := by
  refine x_met [.int p0] (by decide +kernel) (Nat.le_of_ble_eq_true rfl) fun p e s m args below meth c C => ?_
  generalize h : f_X6_asNumber p0 = rf
  unfold f_X6_asNumber at h
  refine x_iload_n (pc := 0) C 0 dX6_asNumber_0 rfl ?_
  obtain ⟨x_1, ex_1, h⟩ := of_lt h
  have kd_1 : X p l e (rmz 0 0) s m args below meth c 0 0 (RQ G L b S below args s (some (.int rf)) True) 1 G L b S 9 [] [.int x_1] := by
    exact x_ireturn (pc := 9) C dX6_asNumber_9 h rfl
  refine x_if_eq (pc := 1) C 8 dX6_asNumber_1 rfl (fun c_1 => ?_) (fun c_1 => ?_)
  · refine x_iconst (pc := 8) C (v := (0 : Int32)) dX6_asNumber_8 rfl ?_
    refine x_sub [] rfl ?_
    rw [show x_1 = (0 : Int32) from (ex_1.trans (if_pos c_1))] at kd_1
    exact kd_1
  · refine x_iconst (pc := 4) C (v := (1 : Int32)) dX6_asNumber_4 rfl ?_
    refine x_goto (pc := 5) C 9 dX6_asNumber_5 rfl ?_
    refine x_sub [] rfl ?_
    rw [show x_1 = (1 : Int32) from (ex_1.trans (if_neg c_1))] at kd_1
    exact kd_1
set_option maxRecDepth 100000 in
set_option maxHeartbeats 4000000 in
theorem c_X0_leastOf {l : Launch} {G : zz_G} {L : Ly} {b : Nat} (o : Nat) (p1 : Int32) (hO : isNa L o) (S : Sg) (rf : Int32) (h : f_X0_leastOf o p1 S = some rf) : Met l yX0_leastOf (Cond.code yX0_leastOf cX0_leastOf 2 (some .int) :: zz_all) (rmz 1 21) (PC G L b S [.ref (b + o), .int p1]) (QC G L b S (some (.int rf)) True) 0 0 (fun q => b ≤ q) := by
  refine x_met [.ref (b + o), .int p1] (by decide +kernel) (Nat.le_of_ble_eq_true rfl) fun p e s m args below meth c C => ?_
  unfold f_X0_leastOf at h
  refine x_iload_n (pc := 0) C 1 dX0_leastOf_0 rfl ?_
  refine x_bipush (pc := 1) C (v := (10 : Int32)) dX0_leastOf_1 rfl ?_
  refine x_callSN1 (pc := 3) C [.int p1, .int (10 : Int32)] [] (c_X6_isWithin (b := b) p1 (10 : Int32) S) cn_X0_61 vs_X6_isWithin ⟨rfl, rfl, Nat.le_of_ble_eq_true rfl, Nat.le_of_ble_eq_true rfl⟩ ⟨Nat.le_refl _, Nat.le_refl _⟩ rfl ⟨rfl, Nat.le_of_ble_eq_true rfl⟩ dX0_leastOf_3 (fun hx_1 => ?_)
  refine x_if_eq (pc := 6) C 18 dX0_leastOf_6 rfl (fun c_1 => ?_) (fun c_1 => ?_)
  · replace h := of_ifp c_1 h
    refine x_iconst (pc := 18) C (v := (0 : Int32)) dX0_leastOf_18 rfl ?_
    exact x_ireturn (pc := 19) C dX0_leastOf_19 (of_s1 h) rfl
  · replace h := of_ifn c_1 h
    refine x_aload_n (pc := 9) C 0 dX0_leastOf_9 rfl ?_
    refine x_getr (pc := 10) C (k := 0) (o + 1) hO.1 rfl rfl wd_126 dX0_leastOf_10 (Nat.le_of_ble_eq_true rfl) rfl ?_
    refine x_iload_n (pc := 13) C 1 dX0_leastOf_13 rfl ?_
    obtain ⟨g_1, h⟩ := of_gd h
    refine x_iaload (pc := 14) C hO.2.1 g_1 dX0_leastOf_14 ?_
    refine x_goto (pc := 15) C 19 dX0_leastOf_15 rfl ?_
    exact x_ireturn (pc := 19) C dX0_leastOf_19 (of_s1 h) rfl
set_option maxRecDepth 100000 in
set_option maxHeartbeats 4000000 in
theorem c_X0_mostOf {l : Launch} {G : zz_G} {L : Ly} {b : Nat} (o : Nat) (p1 : Int32) (hO : isNa L o) (S : Sg) (rf : Int32) (h : f_X0_mostOf o p1 S = some rf) : Met l yX0_mostOf (Cond.code yX0_mostOf cX0_mostOf 2 (some .int) :: zz_all) (rmz 1 21) (PC G L b S [.ref (b + o), .int p1]) (QC G L b S (some (.int rf)) True) 0 0 (fun q => b ≤ q) := by
  refine x_met [.ref (b + o), .int p1] (by decide +kernel) (Nat.le_of_ble_eq_true rfl) fun p e s m args below meth c C => ?_
  unfold f_X0_mostOf at h
  refine x_iload_n (pc := 0) C 1 dX0_mostOf_0 rfl ?_
  refine x_bipush (pc := 1) C (v := (10 : Int32)) dX0_mostOf_1 rfl ?_
  refine x_callSN1 (pc := 3) C [.int p1, .int (10 : Int32)] [] (c_X6_isWithin (b := b) p1 (10 : Int32) S) cn_X0_61 vs_X6_isWithin ⟨rfl, rfl, Nat.le_of_ble_eq_true rfl, Nat.le_of_ble_eq_true rfl⟩ ⟨Nat.le_refl _, Nat.le_refl _⟩ rfl ⟨rfl, Nat.le_of_ble_eq_true rfl⟩ dX0_mostOf_3 (fun hx_1 => ?_)
  refine x_if_eq (pc := 6) C 18 dX0_mostOf_6 rfl (fun c_1 => ?_) (fun c_1 => ?_)
  · replace h := of_ifp c_1 h
    refine x_iconst (pc := 18) C (v := (0 : Int32)) dX0_mostOf_18 rfl ?_
    exact x_ireturn (pc := 19) C dX0_mostOf_19 (of_s1 h) rfl
  · replace h := of_ifn c_1 h
    refine x_aload_n (pc := 9) C 0 dX0_mostOf_9 rfl ?_
    refine x_getr (pc := 10) C (k := 1) (o + 2) hO.1 rfl rfl wd_127 dX0_mostOf_10 (Nat.le_of_ble_eq_true rfl) rfl ?_
    refine x_iload_n (pc := 13) C 1 dX0_mostOf_13 rfl ?_
    obtain ⟨g_1, h⟩ := of_gd h
    refine x_iaload (pc := 14) C hO.2.2 g_1 dX0_mostOf_14 ?_
    refine x_goto (pc := 15) C 19 dX0_mostOf_15 rfl ?_
    exact x_ireturn (pc := 19) C dX0_mostOf_19 (of_s1 h) rfl
set_option maxRecDepth 100000 in
set_option maxHeartbeats 4000000 in
theorem c_X0_highEnd {l : Launch} {G : zz_G} {L : Ly} {b : Nat} (o : Nat) (p1 : Int32) (p2 : Int32) (hO : isNa L o) (S : Sg) (rf : Int32) (h : f_X0_highEnd o p1 p2 S = some rf) : Met l yX0_highEnd (Cond.code yX0_highEnd cX0_highEnd 3 (some .int) :: zz_all) (rmz 2 42) (PC G L b S [.ref (b + o), .int p1, .int p2]) (QC G L b S (some (.int rf)) True) 0 0 (fun q => b ≤ q) := by
  refine x_met [.ref (b + o), .int p1, .int p2] (by decide +kernel) (Nat.le_of_ble_eq_true rfl) fun p e s m args below meth c C => ?_
  unfold f_X0_highEnd at h
  refine x_iload_n (pc := 0) C 1 dX0_highEnd_0 rfl ?_
  refine x_iload_n (pc := 1) C 1 dX0_highEnd_1 rfl ?_
  refine x_if_le (pc := 2) C 13 dX0_highEnd_2 rfl (fun c_1 => ?_) (fun c_1 => ?_)
  · replace h := of_ifn c_1 h
    refine x_aload_n (pc := 13) C 0 dX0_highEnd_13 rfl ?_
    refine x_iload_n (pc := 14) C 2 dX0_highEnd_14 rfl ?_
    obtain ⟨r_1, hc_1, h⟩ := of_bd h
    refine x_callV1 (pc := 15) C (o := o) [.int p2] [.int p1] (c_X0_leastOf (b := b) o p2 hO S _ hc_1) cw_X0_68 vi_X0_leastOf ⟨rfl, rfl, Nat.le_of_ble_eq_true rfl, Nat.le_of_ble_eq_true rfl⟩ ⟨Nat.le_refl _, Nat.le_refl _⟩ hO.1 ⟨rfl, rfl, rfl⟩ rfl ⟨rfl, Nat.le_of_ble_eq_true rfl⟩ dX0_highEnd_15 (fun hx_1 => ?_)
    refine x_imul (pc := 18) C dX0_highEnd_18 ?_
    exact x_ireturn (pc := 19) C dX0_highEnd_19 (of_s1 h) rfl
  · replace h := of_ifp c_1 h
    refine x_aload_n (pc := 5) C 0 dX0_highEnd_5 rfl ?_
    refine x_iload_n (pc := 6) C 2 dX0_highEnd_6 rfl ?_
    obtain ⟨r_2, hc_2, h⟩ := of_bd h
    refine x_callV1 (pc := 7) C (o := o) [.int p2] [.int p1] (c_X0_mostOf (b := b) o p2 hO S _ hc_2) cw_X0_71 vi_X0_mostOf ⟨rfl, rfl, Nat.le_of_ble_eq_true rfl, Nat.le_of_ble_eq_true rfl⟩ ⟨Nat.le_refl _, Nat.le_refl _⟩ hO.1 ⟨rfl, rfl, rfl⟩ rfl ⟨rfl, Nat.le_of_ble_eq_true rfl⟩ dX0_highEnd_7 (fun hx_2 => ?_)
    refine x_goto (pc := 10) C 18 dX0_highEnd_10 rfl ?_
    refine x_imul (pc := 18) C dX0_highEnd_18 ?_
    exact x_ireturn (pc := 19) C dX0_highEnd_19 (of_s1 h) rfl
set_option maxRecDepth 100000 in
set_option maxHeartbeats 4000000 in
theorem c_X0_lowEnd {l : Launch} {G : zz_G} {L : Ly} {b : Nat} (o : Nat) (p1 : Int32) (p2 : Int32) (hO : isNa L o) (S : Sg) (rf : Int32) (h : f_X0_lowEnd o p1 p2 S = some rf) : Met l yX0_lowEnd (Cond.code yX0_lowEnd cX0_lowEnd 3 (some .int) :: zz_all) (rmz 2 42) (PC G L b S [.ref (b + o), .int p1, .int p2]) (QC G L b S (some (.int rf)) True) 0 0 (fun q => b ≤ q) := by
  refine x_met [.ref (b + o), .int p1, .int p2] (by decide +kernel) (Nat.le_of_ble_eq_true rfl) fun p e s m args below meth c C => ?_
  unfold f_X0_lowEnd at h
  refine x_iload_n (pc := 0) C 1 dX0_lowEnd_0 rfl ?_
  refine x_iload_n (pc := 1) C 1 dX0_lowEnd_1 rfl ?_
  refine x_if_le (pc := 2) C 13 dX0_lowEnd_2 rfl (fun c_1 => ?_) (fun c_1 => ?_)
  · replace h := of_ifn c_1 h
    refine x_aload_n (pc := 13) C 0 dX0_lowEnd_13 rfl ?_
    refine x_iload_n (pc := 14) C 2 dX0_lowEnd_14 rfl ?_
    obtain ⟨r_1, hc_1, h⟩ := of_bd h
    refine x_callV1 (pc := 15) C (o := o) [.int p2] [.int p1] (c_X0_mostOf (b := b) o p2 hO S _ hc_1) cw_X0_71 vi_X0_mostOf ⟨rfl, rfl, Nat.le_of_ble_eq_true rfl, Nat.le_of_ble_eq_true rfl⟩ ⟨Nat.le_refl _, Nat.le_refl _⟩ hO.1 ⟨rfl, rfl, rfl⟩ rfl ⟨rfl, Nat.le_of_ble_eq_true rfl⟩ dX0_lowEnd_15 (fun hx_1 => ?_)
    refine x_imul (pc := 18) C dX0_lowEnd_18 ?_
    exact x_ireturn (pc := 19) C dX0_lowEnd_19 (of_s1 h) rfl
  · replace h := of_ifp c_1 h
    refine x_aload_n (pc := 5) C 0 dX0_lowEnd_5 rfl ?_
    refine x_iload_n (pc := 6) C 2 dX0_lowEnd_6 rfl ?_
    obtain ⟨r_2, hc_2, h⟩ := of_bd h
    refine x_callV1 (pc := 7) C (o := o) [.int p2] [.int p1] (c_X0_leastOf (b := b) o p2 hO S _ hc_2) cw_X0_68 vi_X0_leastOf ⟨rfl, rfl, Nat.le_of_ble_eq_true rfl, Nat.le_of_ble_eq_true rfl⟩ ⟨Nat.le_refl _, Nat.le_refl _⟩ hO.1 ⟨rfl, rfl, rfl⟩ rfl ⟨rfl, Nat.le_of_ble_eq_true rfl⟩ dX0_lowEnd_7 (fun hx_2 => ?_)
    refine x_goto (pc := 10) C 18 dX0_lowEnd_10 rfl ?_
    refine x_imul (pc := 18) C dX0_lowEnd_18 ?_
    exact x_ireturn (pc := 19) C dX0_lowEnd_19 (of_s1 h) rfl
set_option maxRecDepth 100000 in
set_option maxHeartbeats 4000000 in
theorem c_X0_narrowOne {l : Launch} {G : zz_G} {L : Ly} {b : Nat} (o : Nat) (p1 : Int32) (p2 : Int32) (p3 : Int32) (p4 : Int32) (hO : isNa L o) (S : Sg) (rf : Int32) (Sf : Sg) (h : f_X0_narrowOne o p1 p2 p3 p4 S = some (rf, Sf)) : Met l yX0_narrowOne (Cond.code yX0_narrowOne cX0_narrowOne 8 (some .boolean) :: zz_all) (rmz 1 22) (PC G L b S [.ref (b + o), .int p1, .int p2, .int p3, .int p4]) (QC G L b Sf (some (.int rf)) (rf = 0 ∨ rf = 1)) 0 0 (fun q => b ≤ q) := by
  refine x_met [.ref (b + o), .int p1, .int p2, .int p3, .int p4] (by decide +kernel) (Nat.le_of_ble_eq_true rfl) fun p e s m args below meth c C => ?_
  unfold f_X0_narrowOne at h
  refine x_iload_n (pc := 0) C 1 dX0_narrowOne_0 rfl ?_
  refine x_bipush (pc := 1) C (v := (10 : Int32)) dX0_narrowOne_1 rfl ?_
  refine x_callSN1 (pc := 3) C [.int p1, .int (10 : Int32)] [] (c_X6_isWithin (b := b) p1 (10 : Int32) S) cn_X0_61 vs_X6_isWithin ⟨rfl, rfl, Nat.le_of_ble_eq_true rfl, Nat.le_of_ble_eq_true rfl⟩ ⟨Nat.le_refl _, Nat.le_refl _⟩ rfl ⟨rfl, Nat.le_of_ble_eq_true rfl⟩ dX0_narrowOne_3 (fun hx_1 => ?_)
  refine x_if_eq (pc := 6) C 13 dX0_narrowOne_6 rfl (fun c_1 => ?_) (fun c_1 => ?_)
  · replace h := of_ifp c_1 h
    refine x_iconst (pc := 13) C (v := (0 : Int32)) dX0_narrowOne_13 rfl ?_
    exact x_zreturn (pc := 14) C (by decide) dX0_narrowOne_14 (of_sp h).1 (of_sp h).2
  · replace h := of_ifn c_1 h
    refine x_iload_n (pc := 9) C 2 dX0_narrowOne_9 rfl ?_
    refine x_if_ne (pc := 10) C 15 dX0_narrowOne_10 rfl (fun c_2 => ?_) (fun c_2 => ?_)
    · replace h := of_ifn c_2 h
      refine x_iload_n (pc := 15) C 2 dX0_narrowOne_15 rfl ?_
      obtain ⟨x_1, ex_1, h⟩ := of_lt h
      have kd_1 : X p l e (rmz 1 22) s m args below meth c 0 0 (RQ G L b Sf below args s (some (.int rf)) (rf = 0 ∨ rf = 1)) 8 G L b S 27 [(0, .ref (b + o)), (1, .int p1), (2, .int p2), (3, .int p3), (4, .int p4)] [.int x_1] := by
        refine x_iload_n (pc := 27) C 2 dX0_narrowOne_27 rfl ?_
        obtain ⟨r_1, hc_1, h⟩ := of_bd h
        refine x_callS1 (pc := 28) C [.int x_1, .int p2] [] (c_J9_floorDiv_7cf53 (b := b) x_1 p2 S _ hc_1) cw_X0_65 vs_J9_floorDiv_7cf53 ⟨rfl, rfl, Nat.le_of_ble_eq_true rfl, Nat.le_of_ble_eq_true rfl⟩ ⟨Nat.le_refl _, Nat.le_refl _⟩ rfl ⟨rfl, Nat.le_of_ble_eq_true rfl⟩ dX0_narrowOne_28 (fun hx_2 => ?_)
        refine x_ineg (pc := 31) C dX0_narrowOne_31 ?_
        obtain ⟨v5_1, ev5_1, h⟩ := of_lt h
        refine x_istore (pc := 32) C [(5, .int v5_1), (0, .ref (b + o)), (1, .int p1), (2, .int p2), (3, .int p3), (4, .int p4)] dX0_narrowOne_32 (Nat.le_of_ble_eq_true rfl) ev5_1 rfl ?_
        refine x_iload_n (pc := 34) C 3 dX0_narrowOne_34 rfl ?_
        obtain ⟨x_2, ex_2, h⟩ := of_lt h
        have kd_2 : X p l e (rmz 1 22) s m args below meth c 0 0 (RQ G L b Sf below args s (some (.int rf)) (rf = 0 ∨ rf = 1)) 8 G L b S 44 [(0, .ref (b + o)), (1, .int p1), (2, .int p2), (5, .int v5_1)] [.int x_2] := by
          refine x_iload_n (pc := 44) C 2 dX0_narrowOne_44 rfl ?_
          obtain ⟨r_2, hc_2, h⟩ := of_bd h
          refine x_callS1 (pc := 45) C [.int x_2, .int p2] [] (c_J9_floorDiv_7cf53 (b := b) x_2 p2 S _ hc_2) cw_X0_65 vs_J9_floorDiv_7cf53 ⟨rfl, rfl, Nat.le_of_ble_eq_true rfl, Nat.le_of_ble_eq_true rfl⟩ ⟨Nat.le_refl _, Nat.le_refl _⟩ rfl ⟨rfl, Nat.le_of_ble_eq_true rfl⟩ dX0_narrowOne_45 (fun hx_3 => ?_)
          refine x_istore (pc := 48) C [(6, .int r_2), (0, .ref (b + o)), (1, .int p1), (2, .int p2), (5, .int v5_1)] dX0_narrowOne_48 (Nat.le_of_ble_eq_true rfl) rfl rfl ?_
          refine x_iconst (pc := 50) C (v := (0 : Int32)) dX0_narrowOne_50 rfl ?_
          refine x_istore (pc := 51) C [(7, .int (0 : Int32)), (6, .int r_2), (0, .ref (b + o)), (1, .int p1), (2, .int p2), (5, .int v5_1)] dX0_narrowOne_51 (Nat.le_of_ble_eq_true rfl) rfl rfl ?_
          refine x_iload (pc := 53) C 5 dX0_narrowOne_53 rfl ?_
          refine x_aload_n (pc := 55) C 2 dX0_narrowOne_55 rfl ?_
          refine x_getr (pc := 56) C (k := 0) (o + 1) hO.1 rfl rfl wd_126 dX0_narrowOne_56 (Nat.le_of_ble_eq_true rfl) rfl ?_
          refine x_iload_n (pc := 59) C 3 dX0_narrowOne_59 rfl ?_
          obtain ⟨g_1, h⟩ := of_gd h
          refine x_iaload (pc := 60) C hO.2.1 g_1 dX0_narrowOne_60 ?_
          obtain ⟨J_1, eJ_1, h⟩ := of_lt h
          have kJ_1 : ∀ (v7_1 : Int32) (S_1 : Sg), J_1 v7_1 S_1 = some (rf, Sf) → X p l e (rmz 1 22) s m args below meth c 0 0 (RQ G L b Sf below args s (some (.int rf)) (rf = 0 ∨ rf = 1)) 8 G L b S_1 75 [(0, .ref (b + o)), (1, .int p1), (6, .int r_2), (7, .int v7_1)] [] := by
            intro v7_1 S_1 h
            replace h := of_J2 eJ_1 h
            refine x_iload (pc := 75) C 2 dX0_narrowOne_75 rfl ?_
            refine x_aload_n (pc := 77) C 0 dX0_narrowOne_77 rfl ?_
            refine x_getr (pc := 78) C (k := 1) (o + 2) hO.1 rfl rfl wd_127 dX0_narrowOne_78 (Nat.le_of_ble_eq_true rfl) rfl ?_
            refine x_iload_n (pc := 81) C 1 dX0_narrowOne_81 rfl ?_
            refine x_iaload (pc := 82) C hO.2.2 g_1 dX0_narrowOne_82 ?_
            refine x_icmp_ge (pc := 83) C 97 dX0_narrowOne_83 rfl (fun c_3 => ?_) (fun c_3 => ?_)
            · replace h := of_ifn c_3 h
              refine x_iload (pc := 97) C 3 dX0_narrowOne_97 rfl ?_
              obtain ⟨g_2, h⟩ := of_gd h
              exact x_zreturn (pc := 99) C (of_isb g_2) dX0_narrowOne_99 (of_sp h).1 (of_sp h).2
            · replace h := of_ifp c_3 h
              refine x_aload_n (pc := 86) C 0 dX0_narrowOne_86 rfl ?_
              refine x_getr (pc := 87) C (k := 1) (o + 2) hO.1 rfl rfl wd_127 dX0_narrowOne_87 (Nat.le_of_ble_eq_true rfl) rfl ?_
              refine x_iload_n (pc := 90) C 1 dX0_narrowOne_90 rfl ?_
              refine x_iload (pc := 91) C 2 dX0_narrowOne_91 rfl ?_
              obtain ⟨S_2, eS_2, h⟩ := of_lt h
              refine x_iastore (pc := 93) C hO.2.2 g_1 eS_2 dX0_narrowOne_93 ?_
              refine x_iconst (pc := 94) C (v := (1 : Int32)) dX0_narrowOne_94 rfl ?_
              refine x_istore (pc := 95) C [(7, .int (1 : Int32)), (0, .ref (b + o)), (1, .int p1), (6, .int r_2)] dX0_narrowOne_95 (Nat.le_of_ble_eq_true rfl) rfl rfl ?_
              refine x_iload (pc := 97) C 0 dX0_narrowOne_97 rfl ?_
              exact x_zreturn (pc := 99) C (by decide) dX0_narrowOne_99 (of_sp h).1 (of_sp h).2
          refine x_icmp_le (pc := 61) C 75 dX0_narrowOne_61 rfl (fun c_4 => ?_) (fun c_4 => ?_)
          · replace h := of_ifn c_4 h
            exact x_sub [2, 3, 1, 0] rfl (kJ_1 _ _ h)
          · replace h := of_ifp c_4 h
            refine x_aload_n (pc := 64) C 2 dX0_narrowOne_64 rfl ?_
            refine x_getr (pc := 65) C (k := 0) (o + 1) hO.1 rfl rfl wd_126 dX0_narrowOne_65 (Nat.le_of_ble_eq_true rfl) rfl ?_
            refine x_iload_n (pc := 68) C 3 dX0_narrowOne_68 rfl ?_
            refine x_iload (pc := 69) C 5 dX0_narrowOne_69 rfl ?_
            obtain ⟨S_3, eS_3, h⟩ := of_lt h
            refine x_iastore (pc := 71) C hO.2.1 g_1 eS_3 dX0_narrowOne_71 ?_
            refine x_iconst (pc := 72) C (v := (1 : Int32)) dX0_narrowOne_72 rfl ?_
            refine x_istore (pc := 73) C [(7, .int (1 : Int32)), (6, .int r_2), (0, .ref (b + o)), (1, .int p1), (2, .int p2), (5, .int v5_1)] dX0_narrowOne_73 (Nat.le_of_ble_eq_true rfl) rfl rfl ?_
            exact x_sub [2, 3, 1, 0] rfl (kJ_1 _ _ h)
        refine x_if_le (pc := 35) C 43 dX0_narrowOne_35 rfl (fun c_5 => ?_) (fun c_5 => ?_)
        · refine x_iload_n (pc := 43) C 4 dX0_narrowOne_43 rfl ?_
          refine x_sub [1, 2, 3, 0] rfl ?_
          rw [show x_2 = p3 from (ex_2.trans (if_neg c_5))] at kd_2
          exact kd_2
        · refine x_iload (pc := 38) C 5 dX0_narrowOne_38 rfl ?_
          refine x_goto (pc := 40) C 44 dX0_narrowOne_40 rfl ?_
          refine x_sub [1, 2, 3, 0] rfl ?_
          rw [show x_2 = p4 from (ex_2.trans (if_pos c_5))] at kd_2
          exact kd_2
      refine x_if_le (pc := 16) C 24 dX0_narrowOne_16 rfl (fun c_6 => ?_) (fun c_6 => ?_)
      · refine x_iload (pc := 24) C 4 dX0_narrowOne_24 rfl ?_
        refine x_ineg (pc := 26) C dX0_narrowOne_26 ?_
        refine x_sub [0, 1, 2, 3, 4] rfl ?_
        rw [show x_1 = (-p4) from (ex_1.trans (if_neg c_6))] at kd_1
        exact kd_1
      · refine x_iload_n (pc := 19) C 3 dX0_narrowOne_19 rfl ?_
        refine x_ineg (pc := 20) C dX0_narrowOne_20 ?_
        refine x_goto (pc := 21) C 27 dX0_narrowOne_21 rfl ?_
        refine x_sub [0, 1, 2, 3, 4] rfl ?_
        rw [show x_1 = (-p3) from (ex_1.trans (if_pos c_6))] at kd_1
        exact kd_1
    · replace h := of_ifp c_2 h
      refine x_iconst (pc := 13) C (v := (0 : Int32)) dX0_narrowOne_13 rfl ?_
      exact x_zreturn (pc := 14) C (by decide) dX0_narrowOne_14 (of_sp h).1 (of_sp h).2
set_option maxRecDepth 100000 in
set_option maxHeartbeats 4000000 in
theorem c_X5_answerOf {l : Launch} {G : zz_G} {L : Ly} {b : Nat} (o : Nat) (p1 : Int32) (hO : isW L o) (S : Sg) (rf : Int32) (h : f_X5_answerOf o p1 S = some rf) : Met l yX5_answerOf (Cond.code yX5_answerOf cX5_answerOf 2 (some .int) :: zz_all) (rmz 1 21) (PC G L b S [.ref (b + o), .int p1]) (QC G L b S (some (.int rf)) True) 0 0 (fun q => b ≤ q) := by
  refine x_met [.ref (b + o), .int p1] (by decide +kernel) (Nat.le_of_ble_eq_true rfl) fun p e s m args below meth c C => ?_
  unfold f_X5_answerOf at h
  refine x_iload_n (pc := 0) C 1 dX5_answerOf_0 rfl ?_
  refine x_bipush (pc := 1) C (v := (10 : Int32)) dX5_answerOf_1 rfl ?_
  refine x_callSN1 (pc := 3) C [.int p1, .int (10 : Int32)] [] (c_X6_isWithin (b := b) p1 (10 : Int32) S) cn_X5_72 vs_X6_isWithin ⟨rfl, rfl, Nat.le_of_ble_eq_true rfl, Nat.le_of_ble_eq_true rfl⟩ ⟨Nat.le_refl _, Nat.le_refl _⟩ rfl ⟨rfl, Nat.le_of_ble_eq_true rfl⟩ dX5_answerOf_3 (fun hx_1 => ?_)
  refine x_if_eq (pc := 6) C 18 dX5_answerOf_6 rfl (fun c_1 => ?_) (fun c_1 => ?_)
  · replace h := of_ifp c_1 h
    refine x_iconst (pc := 18) C (v := (0 : Int32)) dX5_answerOf_18 rfl ?_
    exact x_ireturn (pc := 19) C dX5_answerOf_19 (of_s1 h) rfl
  · replace h := of_ifn c_1 h
    refine x_aload_n (pc := 9) C 0 dX5_answerOf_9 rfl ?_
    refine x_getr (pc := 10) C (k := 8) (o + 16) hO.1 rfl rfl wd_71 dX5_answerOf_10 (Nat.le_of_ble_eq_true rfl) rfl ?_
    refine x_iload_n (pc := 13) C 1 dX5_answerOf_13 rfl ?_
    obtain ⟨g_1, h⟩ := of_gd h
    refine x_iaload (pc := 14) C hO.2.2.2.2.2.2.2.1 g_1 dX5_answerOf_14 ?_
    refine x_goto (pc := 15) C 19 dX5_answerOf_15 rfl ?_
    exact x_ireturn (pc := 19) C dX5_answerOf_19 (of_s1 h) rfl
set_option maxRecDepth 100000 in
set_option maxHeartbeats 4000000 in
theorem l_X0_narrowByRow_8 {p : Program} {l : Launch} {e : Env} {s : State} {m : MethodId} {args : Array Value} {below : List Frame} {meth : Method} {c : Code} {G : zz_G} {L : Ly} {b : Nat} {Q : State → Prop} (C : CX p G s m args meth c cX0_narrowByRow yX0_narrowByRow 11 (some .boolean)) (o : Nat) (o1 : Nat) (hO : isNa L o) (h1 : isW L o1) (v2 : Int32) (S : Sg) : ∀ (n : Nat) (v3 : Int32) (v4 : Int32) (v5 : Int32) {z}, L_X0_narrowByRow_8 o o1 v2 S n v3 v4 v5 = some z → (∀ (v3_o : Int32) (v4_o : Int32), z = (v3_o, v4_o) → X p l e (rmz 3 64) s m args below meth c 0 0 Q 11 G L b S 56 [(0, .ref (b + o)), (1, .ref (b + o1)), (2, .int v2), (3, .int v3_o), (4, .int v4_o)] []) → X p l e (rmz 3 64) s m args below meth c 0 0 Q 11 G L b S 8 [(0, .ref (b + o)), (1, .ref (b + o1)), (2, .int v2), (3, .int v3), (4, .int v4), (5, .int v5)] [] := by
  intro n
  induction n with
  | zero =>
    intro v3 v4 v5 z h
    exact of_none h
  | succ n ih =>
    intro v3 v4 v5 z h hx
    rw [L_X0_narrowByRow_8] at h
    refine x_iload (pc := 8) C 5 dX0_narrowByRow_8 rfl ?_
    refine x_aload_n (pc := 10) C 0 dX0_narrowByRow_10 rfl ?_
    refine x_geti (pc := 11) C (k := 2) hO.1 rfl rfl wd_128 dX0_narrowByRow_11 ⟨Nat.le_of_ble_eq_true rfl, rfl⟩ ?_
    refine x_icmp_ge (pc := 14) C 56 dX0_narrowByRow_14 rfl (fun c_1 => ?_) (fun c_1 => ?_)
    · replace h := of_ifn c_1 h
      exact x_sub [0, 1, 2, 3, 4] rfl (hx _ _ (of_s1 h).symm)
    · replace h := of_ifp c_1 h
      refine x_aload_n (pc := 17) C 1 dX0_narrowByRow_17 rfl ?_
      refine x_iload_n (pc := 18) C 2 dX0_narrowByRow_18 rfl ?_
      refine x_iload (pc := 19) C 5 dX0_narrowByRow_19 rfl ?_
      obtain ⟨r_1, hc_1, h⟩ := of_bd h
      refine x_callV1 (pc := 21) C (o := o1) [.int v2, .int v5] [] (c_X5_coefficient (b := b) o1 v2 v5 h1 S _ hc_1) cw_X0_45 vi_X5_coefficient ⟨rfl, rfl, Nat.le_of_ble_eq_true rfl, Nat.le_of_ble_eq_true rfl⟩ ⟨Nat.le_refl _, Nat.le_refl _⟩ h1.1 ⟨rfl, rfl, rfl⟩ rfl ⟨rfl, Nat.le_of_ble_eq_true rfl⟩ dX0_narrowByRow_21 (fun hx_1 => ?_)
      refine x_istore (pc := 24) C [(6, .int r_1), (0, .ref (b + o)), (1, .ref (b + o1)), (2, .int v2), (3, .int v3), (4, .int v4), (5, .int v5)] dX0_narrowByRow_24 (Nat.le_of_ble_eq_true rfl) rfl rfl ?_
      refine x_iload_n (pc := 26) C 4 dX0_narrowByRow_26 rfl ?_
      refine x_aload_n (pc := 27) C 1 dX0_narrowByRow_27 rfl ?_
      refine x_iload (pc := 28) C 0 dX0_narrowByRow_28 rfl ?_
      refine x_iload (pc := 30) C 6 dX0_narrowByRow_30 rfl ?_
      obtain ⟨r_2, hc_2, h⟩ := of_bd h
      refine x_callV1 (pc := 32) C (o := o) [.int r_1, .int v5] [.int v3] (c_X0_lowEnd (b := b) o r_1 v5 hO S _ hc_2) cw_X0_48 vi_X0_lowEnd ⟨rfl, rfl, Nat.le_of_ble_eq_true rfl, Nat.le_of_ble_eq_true rfl⟩ ⟨Nat.le_refl _, Nat.le_refl _⟩ hO.1 ⟨rfl, rfl, rfl⟩ rfl ⟨rfl, Nat.le_of_ble_eq_true rfl⟩ dX0_narrowByRow_32 (fun hx_2 => ?_)
      refine x_iadd (pc := 35) C dX0_narrowByRow_35 ?_
      obtain ⟨v3_1, ev3_1, h⟩ := of_lt h
      refine x_istore_n (pc := 36) C 3 [(3, .int v3_1), (6, .int r_1), (0, .ref (b + o)), (1, .ref (b + o1)), (2, .int v2), (4, .int v4), (5, .int v5)] dX0_narrowByRow_36 rfl (Nat.le_of_ble_eq_true rfl) ev3_1 rfl ?_
      refine x_iload (pc := 37) C 5 dX0_narrowByRow_37 rfl ?_
      refine x_aload_n (pc := 39) C 2 dX0_narrowByRow_39 rfl ?_
      refine x_iload (pc := 40) C 1 dX0_narrowByRow_40 rfl ?_
      refine x_iload (pc := 42) C 6 dX0_narrowByRow_42 rfl ?_
      obtain ⟨r_3, hc_3, h⟩ := of_bd h
      refine x_callV1 (pc := 44) C (o := o) [.int r_1, .int v5] [.int v4] (c_X0_highEnd (b := b) o r_1 v5 hO S _ hc_3) cw_X0_51 vi_X0_highEnd ⟨rfl, rfl, Nat.le_of_ble_eq_true rfl, Nat.le_of_ble_eq_true rfl⟩ ⟨Nat.le_refl _, Nat.le_refl _⟩ hO.1 ⟨rfl, rfl, rfl⟩ rfl ⟨rfl, Nat.le_of_ble_eq_true rfl⟩ dX0_narrowByRow_44 (fun hx_3 => ?_)
      refine x_iadd (pc := 47) C dX0_narrowByRow_47 ?_
      obtain ⟨v4_1, ev4_1, h⟩ := of_lt h
      refine x_istore (pc := 48) C [(4, .int v4_1), (3, .int v3_1), (6, .int r_1), (0, .ref (b + o)), (1, .ref (b + o1)), (2, .int v2), (5, .int v5)] dX0_narrowByRow_48 (Nat.le_of_ble_eq_true rfl) ev4_1 rfl ?_
      obtain ⟨v5_1, ev5_1, h⟩ := of_lt h
      refine x_iinc (pc := 50) C (w := (1 : Int32)) 6 [(5, .int v5_1), (4, .int v4_1), (3, .int v3_1), (6, .int r_1), (0, .ref (b + o)), (1, .ref (b + o1)), (2, .int v2)] dX0_narrowByRow_50 rfl rfl (Nat.le_of_ble_eq_true rfl) ev5_1 rfl ?_
      refine x_goto (pc := 53) C 8 dX0_narrowByRow_53 rfl ?_
      exact x_sub [4, 5, 6, 2, 1, 0] rfl (ih _ _ _ h hx)
set_option maxRecDepth 100000 in
set_option maxHeartbeats 4000000 in
theorem l_X0_narrowByRow_69 {p : Program} {l : Launch} {e : Env} {s : State} {m : MethodId} {args : Array Value} {below : List Frame} {meth : Method} {c : Code} {G : zz_G} {L : Ly} {b : Nat} {Q : State → Prop} (C : CX p G s m args meth c cX0_narrowByRow yX0_narrowByRow 11 (some .boolean)) (o : Nat) (o1 : Nat) (hO : isNa L o) (h1 : isW L o1) (v2 : Int32) (v5 : Int32) : ∀ (n : Nat) (v3 : Int32) (v4 : Int32) (v6 : Int32) (v7 : Int32) (S : Sg) {z}, L_X0_narrowByRow_69 o o1 v2 v5 n v3 v4 v6 v7 S = some z → (∀ (v6_o : Int32) (S_o : Sg), z = (v6_o, S_o) → X p l e (rmz 3 64) s m args below meth c 0 0 Q 11 G L b S_o 175 [(6, .int v6_o)] []) → X p l e (rmz 3 64) s m args below meth c 0 0 Q 11 G L b S 69 [(0, .ref (b + o)), (1, .ref (b + o1)), (2, .int v2), (3, .int v3), (4, .int v4), (5, .int v5), (6, .int v6), (7, .int v7)] [] := by
  intro n
  induction n with
  | zero =>
    intro v3 v4 v6 v7 S z h
    exact of_none h
  | succ n ih =>
    intro v3 v4 v6 v7 S z h hx
    rw [L_X0_narrowByRow_69] at h
    refine x_iload (pc := 69) C 7 dX0_narrowByRow_69 rfl ?_
    refine x_aload_n (pc := 71) C 0 dX0_narrowByRow_71 rfl ?_
    refine x_geti (pc := 72) C (k := 2) hO.1 rfl rfl wd_128 dX0_narrowByRow_72 ⟨Nat.le_of_ble_eq_true rfl, rfl⟩ ?_
    refine x_icmp_ge (pc := 75) C 175 dX0_narrowByRow_75 rfl (fun c_1 => ?_) (fun c_1 => ?_)
    · replace h := of_ifn c_1 h
      exact x_sub [6] rfl (hx _ _ (of_s1 h).symm)
    · replace h := of_ifp c_1 h
      refine x_aload_n (pc := 78) C 1 dX0_narrowByRow_78 rfl ?_
      refine x_iload_n (pc := 79) C 2 dX0_narrowByRow_79 rfl ?_
      refine x_iload (pc := 80) C 7 dX0_narrowByRow_80 rfl ?_
      obtain ⟨r_1, hc_1, h⟩ := of_bd h
      refine x_callV1 (pc := 82) C (o := o1) [.int v2, .int v7] [] (c_X5_coefficient (b := b) o1 v2 v7 h1 S _ hc_1) cw_X0_45 vi_X5_coefficient ⟨rfl, rfl, Nat.le_of_ble_eq_true rfl, Nat.le_of_ble_eq_true rfl⟩ ⟨Nat.le_refl _, Nat.le_refl _⟩ h1.1 ⟨rfl, rfl, rfl⟩ rfl ⟨rfl, Nat.le_of_ble_eq_true rfl⟩ dX0_narrowByRow_82 (fun hx_1 => ?_)
      refine x_istore (pc := 85) C [(8, .int r_1), (0, .ref (b + o)), (1, .ref (b + o1)), (2, .int v2), (3, .int v3), (4, .int v4), (5, .int v5), (6, .int v6), (7, .int v7)] dX0_narrowByRow_85 (Nat.le_of_ble_eq_true rfl) rfl rfl ?_
      refine x_iload (pc := 87) C 0 dX0_narrowByRow_87 rfl ?_
      refine x_if_ne (pc := 89) C 95 dX0_narrowByRow_89 rfl (fun c_2 => ?_) (fun c_2 => ?_)
      · replace h := of_ifn c_2 h
        refine x_iload_n (pc := 95) C 4 dX0_narrowByRow_95 rfl ?_
        refine x_aload_n (pc := 96) C 1 dX0_narrowByRow_96 rfl ?_
        refine x_iload (pc := 97) C 0 dX0_narrowByRow_97 rfl ?_
        refine x_iload (pc := 99) C 8 dX0_narrowByRow_99 rfl ?_
        obtain ⟨r_2, hc_2, h⟩ := of_bd h
        refine x_callV1 (pc := 101) C (o := o) [.int r_1, .int v7] [.int v3] (c_X0_lowEnd (b := b) o r_1 v7 hO S _ hc_2) cw_X0_48 vi_X0_lowEnd ⟨rfl, rfl, Nat.le_of_ble_eq_true rfl, Nat.le_of_ble_eq_true rfl⟩ ⟨Nat.le_refl _, Nat.le_refl _⟩ hO.1 ⟨rfl, rfl, rfl⟩ rfl ⟨rfl, Nat.le_of_ble_eq_true rfl⟩ dX0_narrowByRow_101 (fun hx_2 => ?_)
        refine x_isub (pc := 104) C dX0_narrowByRow_104 ?_
        obtain ⟨v9_1, ev9_1, h⟩ := of_lt h
        refine x_istore (pc := 105) C [(9, .int v9_1), (8, .int r_1), (0, .ref (b + o)), (1, .ref (b + o1)), (2, .int v2), (3, .int v3), (4, .int v4), (5, .int v5), (6, .int v6), (7, .int v7)] dX0_narrowByRow_105 (Nat.le_of_ble_eq_true rfl) ev9_1 rfl ?_
        refine x_iload (pc := 107) C 6 dX0_narrowByRow_107 rfl ?_
        refine x_aload_n (pc := 109) C 2 dX0_narrowByRow_109 rfl ?_
        refine x_iload (pc := 110) C 1 dX0_narrowByRow_110 rfl ?_
        refine x_iload (pc := 112) C 9 dX0_narrowByRow_112 rfl ?_
        obtain ⟨r_3, hc_3, h⟩ := of_bd h
        refine x_callV1 (pc := 114) C (o := o) [.int r_1, .int v7] [.int v4] (c_X0_highEnd (b := b) o r_1 v7 hO S _ hc_3) cw_X0_51 vi_X0_highEnd ⟨rfl, rfl, Nat.le_of_ble_eq_true rfl, Nat.le_of_ble_eq_true rfl⟩ ⟨Nat.le_refl _, Nat.le_refl _⟩ hO.1 ⟨rfl, rfl, rfl⟩ rfl ⟨rfl, Nat.le_of_ble_eq_true rfl⟩ dX0_narrowByRow_114 (fun hx_3 => ?_)
        refine x_isub (pc := 117) C dX0_narrowByRow_117 ?_
        obtain ⟨v10_1, ev10_1, h⟩ := of_lt h
        refine x_istore (pc := 118) C [(10, .int v10_1), (9, .int v9_1), (8, .int r_1), (0, .ref (b + o)), (1, .ref (b + o1)), (2, .int v2), (3, .int v3), (4, .int v4), (5, .int v5), (6, .int v6), (7, .int v7)] dX0_narrowByRow_118 (Nat.le_of_ble_eq_true rfl) ev10_1 rfl ?_
        refine x_aload_n (pc := 120) C 3 dX0_narrowByRow_120 rfl ?_
        refine x_iload (pc := 121) C 10 dX0_narrowByRow_121 rfl ?_
        refine x_iload (pc := 123) C 2 dX0_narrowByRow_123 rfl ?_
        refine x_iload (pc := 125) C 8 dX0_narrowByRow_125 rfl ?_
        refine x_iload (pc := 127) C 0 dX0_narrowByRow_127 rfl ?_
        refine x_isub (pc := 129) C dX0_narrowByRow_129 ?_
        refine x_iload (pc := 130) C 8 dX0_narrowByRow_130 rfl ?_
        refine x_iload (pc := 132) C 1 dX0_narrowByRow_132 rfl ?_
        refine x_isub (pc := 134) C dX0_narrowByRow_134 ?_
        obtain ⟨⟨r_4, S_1⟩, hc_4, h⟩ := of_bd h
        replace h := of_u2 h
        refine x_callV1 (pc := 135) C (o := o) [.int v7, .int r_1, .int (v5 - v10_1), .int (v5 - v9_1)] [] (c_X0_narrowOne (b := b) o v7 r_1 (v5 - v10_1) (v5 - v9_1) hO S _ _ hc_4) cw_X0_57 vi_X0_narrowOne ⟨rfl, rfl, Nat.le_of_ble_eq_true rfl, Nat.le_of_ble_eq_true rfl⟩ ⟨Nat.le_refl _, Nat.le_refl _⟩ hO.1 ⟨rfl, rfl, rfl⟩ rfl ⟨rfl, Nat.le_of_ble_eq_true rfl⟩ dX0_narrowByRow_135 (fun hx_4 => ?_)
        obtain ⟨v6_1, ev6_1, h⟩ := of_lt h
        have kd_1 : X p l e (rmz 3 64) s m args below meth c 0 0 Q 11 G L b S_1 144 [(0, .ref (b + o)), (1, .ref (b + o1)), (2, .int v2), (5, .int v5), (6, .int v6_1), (7, .int v7), (8, .int r_1), (9, .int v9_1), (10, .int v10_1)] [] := by
          refine x_iload (pc := 144) C 7 dX0_narrowByRow_144 rfl ?_
          refine x_aload_n (pc := 146) C 0 dX0_narrowByRow_146 rfl ?_
          refine x_iload (pc := 147) C 6 dX0_narrowByRow_147 rfl ?_
          refine x_iload (pc := 149) C 5 dX0_narrowByRow_149 rfl ?_
          obtain ⟨r_5, hc_5, h⟩ := of_bd h
          refine x_callV1 (pc := 151) C (o := o) [.int r_1, .int v7] [.int v9_1] (c_X0_lowEnd (b := b) o r_1 v7 hO S_1 _ hc_5) cw_X0_48 vi_X0_lowEnd ⟨rfl, rfl, Nat.le_of_ble_eq_true rfl, Nat.le_of_ble_eq_true rfl⟩ ⟨Nat.le_refl _, Nat.le_refl _⟩ hO.1 ⟨rfl, rfl, rfl⟩ rfl ⟨rfl, Nat.le_of_ble_eq_true rfl⟩ dX0_narrowByRow_151 (fun hx_5 => ?_)
          refine x_iadd (pc := 154) C dX0_narrowByRow_154 ?_
          obtain ⟨v3_1, ev3_1, h⟩ := of_lt h
          refine x_istore_n (pc := 155) C 3 [(3, .int v3_1), (0, .ref (b + o)), (1, .ref (b + o1)), (2, .int v2), (5, .int v5), (6, .int v6_1), (7, .int v7), (8, .int r_1), (9, .int v9_1), (10, .int v10_1)] dX0_narrowByRow_155 rfl (Nat.le_of_ble_eq_true rfl) ev3_1 rfl ?_
          refine x_iload (pc := 156) C 9 dX0_narrowByRow_156 rfl ?_
          refine x_aload_n (pc := 158) C 1 dX0_narrowByRow_158 rfl ?_
          refine x_iload (pc := 159) C 7 dX0_narrowByRow_159 rfl ?_
          refine x_iload (pc := 161) C 6 dX0_narrowByRow_161 rfl ?_
          obtain ⟨r_6, hc_6, h⟩ := of_bd h
          refine x_callV1 (pc := 163) C (o := o) [.int r_1, .int v7] [.int v10_1] (c_X0_highEnd (b := b) o r_1 v7 hO S_1 _ hc_6) cw_X0_51 vi_X0_highEnd ⟨rfl, rfl, Nat.le_of_ble_eq_true rfl, Nat.le_of_ble_eq_true rfl⟩ ⟨Nat.le_refl _, Nat.le_refl _⟩ hO.1 ⟨rfl, rfl, rfl⟩ rfl ⟨rfl, Nat.le_of_ble_eq_true rfl⟩ dX0_narrowByRow_163 (fun hx_6 => ?_)
          refine x_iadd (pc := 166) C dX0_narrowByRow_166 ?_
          obtain ⟨v4_1, ev4_1, h⟩ := of_lt h
          refine x_istore (pc := 167) C [(4, .int v4_1), (3, .int v3_1), (0, .ref (b + o)), (1, .ref (b + o1)), (2, .int v2), (5, .int v5), (6, .int v6_1), (7, .int v7), (8, .int r_1), (9, .int v9_1), (10, .int v10_1)] dX0_narrowByRow_167 (Nat.le_of_ble_eq_true rfl) ev4_1 rfl ?_
          obtain ⟨v7_1, ev7_1, h⟩ := of_lt h
          refine x_iinc (pc := 169) C (w := (1 : Int32)) 7 [(7, .int v7_1), (4, .int v4_1), (3, .int v3_1), (0, .ref (b + o)), (1, .ref (b + o1)), (2, .int v2), (5, .int v5), (6, .int v6_1), (8, .int r_1), (9, .int v9_1), (10, .int v10_1)] dX0_narrowByRow_169 rfl rfl (Nat.le_of_ble_eq_true rfl) ev7_1 rfl ?_
          refine x_goto (pc := 172) C 69 dX0_narrowByRow_172 rfl ?_
          exact x_sub [3, 4, 5, 2, 1, 6, 7, 0] rfl (ih _ _ _ _ _ h hx)
        refine x_if_eq (pc := 138) C 144 dX0_narrowByRow_138 rfl (fun c_3 => ?_) (fun c_3 => ?_)
        · refine x_sub [3, 4, 5, 8, 9, 10, 2, 1, 0] rfl ?_
          rw [show v6_1 = v6 from (ev6_1.trans (if_pos c_3))] at kd_1
          exact kd_1
        · refine x_iconst (pc := 141) C (v := (1 : Int32)) dX0_narrowByRow_141 rfl ?_
          refine x_istore (pc := 142) C [(6, .int (1 : Int32)), (10, .int v10_1), (9, .int v9_1), (8, .int r_1), (0, .ref (b + o)), (1, .ref (b + o1)), (2, .int v2), (3, .int v3), (4, .int v4), (5, .int v5), (7, .int v7)] dX0_narrowByRow_142 (Nat.le_of_ble_eq_true rfl) rfl rfl ?_
          refine x_sub [4, 5, 6, 9, 0, 10, 3, 2, 1] rfl ?_
          rw [show v6_1 = (1 : Int32) from (ev6_1.trans (if_neg c_3))] at kd_1
          exact kd_1
      · replace h := of_ifp c_2 h
        refine x_goto (pc := 92) C 169 dX0_narrowByRow_92 rfl ?_
        obtain ⟨v7_2, ev7_2, h⟩ := of_lt h
        refine x_iinc (pc := 169) C (w := (1 : Int32)) 8 [(7, .int v7_2), (8, .int r_1), (0, .ref (b + o)), (1, .ref (b + o1)), (2, .int v2), (3, .int v3), (4, .int v4), (5, .int v5), (6, .int v6)] dX0_narrowByRow_169 rfl rfl (Nat.le_of_ble_eq_true rfl) ev7_2 rfl ?_
        refine x_goto (pc := 172) C 69 dX0_narrowByRow_172 rfl ?_
        exact x_sub [2, 3, 4, 5, 6, 7, 8, 0] rfl (ih _ _ _ _ _ h hx)
set_option maxRecDepth 100000 in
set_option maxHeartbeats 4000000 in
theorem c_X0_narrowByRow {l : Launch} {G : zz_G} {L : Ly} {b : Nat} (o : Nat) (o1 : Nat) (p2 : Int32) (hO : isNa L o) (h1 : isW L o1) (S : Sg) (rf : Int32) (Sf : Sg) (h : f_X0_narrowByRow o o1 p2 S = some (rf, Sf)) : Met l yX0_narrowByRow (Cond.code yX0_narrowByRow cX0_narrowByRow 11 (some .boolean) :: zz_all) (rmz 3 64) (PC G L b S [.ref (b + o), .ref (b + o1), .int p2]) (QC G L b Sf (some (.int rf)) (rf = 0 ∨ rf = 1)) 0 0 (fun q => b ≤ q) := by
  refine x_met [.ref (b + o), .ref (b + o1), .int p2] (by decide +kernel) (Nat.le_of_ble_eq_true rfl) fun p e s m args below meth c C => ?_
  unfold f_X0_narrowByRow at h
  refine x_iconst (pc := 0) C (v := (0 : Int32)) dX0_narrowByRow_0 rfl ?_
  refine x_istore_n (pc := 1) C 3 [(3, .int (0 : Int32)), (0, .ref (b + o)), (1, .ref (b + o1)), (2, .int p2)] dX0_narrowByRow_1 rfl (Nat.le_of_ble_eq_true rfl) rfl rfl ?_
  refine x_iconst (pc := 2) C (v := (0 : Int32)) dX0_narrowByRow_2 rfl ?_
  refine x_istore (pc := 3) C [(4, .int (0 : Int32)), (3, .int (0 : Int32)), (0, .ref (b + o)), (1, .ref (b + o1)), (2, .int p2)] dX0_narrowByRow_3 (Nat.le_of_ble_eq_true rfl) rfl rfl ?_
  refine x_iconst (pc := 5) C (v := (0 : Int32)) dX0_narrowByRow_5 rfl ?_
  refine x_istore (pc := 6) C [(5, .int (0 : Int32)), (4, .int (0 : Int32)), (3, .int (0 : Int32)), (0, .ref (b + o)), (1, .ref (b + o1)), (2, .int p2)] dX0_narrowByRow_6 (Nat.le_of_ble_eq_true rfl) rfl rfl ?_
  refine x_sub [3, 4, 5, 2, 1, 0] rfl ?_
  obtain ⟨z_hz_2, hz_2, h⟩ := of_bd h
  refine l_X0_narrowByRow_8 C o o1 hO h1 p2 S 400 _ _ _ hz_2 (fun v3_1 v4_1 ez => ?_)
  subst z_hz_2
  replace h := of_u2 h
  refine x_aload_n (pc := 56) C 1 dX0_narrowByRow_56 rfl ?_
  refine x_iload_n (pc := 57) C 2 dX0_narrowByRow_57 rfl ?_
  obtain ⟨r_1, hc_1, h⟩ := of_bd h
  refine x_callV1 (pc := 58) C (o := o1) [.int p2] [] (c_X5_answerOf (b := b) o1 p2 h1 S _ hc_1) cw_X0_54 vi_X5_answerOf ⟨rfl, rfl, Nat.le_of_ble_eq_true rfl, Nat.le_of_ble_eq_true rfl⟩ ⟨Nat.le_refl _, Nat.le_refl _⟩ h1.1 ⟨rfl, rfl, rfl⟩ rfl ⟨rfl, Nat.le_of_ble_eq_true rfl⟩ dX0_narrowByRow_58 (fun hx_1 => ?_)
  refine x_istore (pc := 61) C [(5, .int r_1), (0, .ref (b + o)), (1, .ref (b + o1)), (2, .int p2), (3, .int v3_1), (4, .int v4_1)] dX0_narrowByRow_61 (Nat.le_of_ble_eq_true rfl) rfl rfl ?_
  refine x_iconst (pc := 63) C (v := (0 : Int32)) dX0_narrowByRow_63 rfl ?_
  refine x_istore (pc := 64) C [(6, .int (0 : Int32)), (5, .int r_1), (0, .ref (b + o)), (1, .ref (b + o1)), (2, .int p2), (3, .int v3_1), (4, .int v4_1)] dX0_narrowByRow_64 (Nat.le_of_ble_eq_true rfl) rfl rfl ?_
  refine x_iconst (pc := 66) C (v := (0 : Int32)) dX0_narrowByRow_66 rfl ?_
  refine x_istore (pc := 67) C [(7, .int (0 : Int32)), (6, .int (0 : Int32)), (5, .int r_1), (0, .ref (b + o)), (1, .ref (b + o1)), (2, .int p2), (3, .int v3_1), (4, .int v4_1)] dX0_narrowByRow_67 (Nat.le_of_ble_eq_true rfl) rfl rfl ?_
  refine x_sub [3, 4, 5, 6, 7, 2, 1, 0] rfl ?_
  obtain ⟨z_hz_1, hz_1, h⟩ := of_bd h
  refine l_X0_narrowByRow_69 C o o1 hO h1 p2 r_1 400 _ _ _ _ _ hz_1 (fun v6_1 S_1 ez => ?_)
  subst z_hz_1
  replace h := of_u2 h
  refine x_iload (pc := 175) C 0 dX0_narrowByRow_175 rfl ?_
  obtain ⟨g_1, h⟩ := of_gd h
  exact x_zreturn (pc := 177) C (of_isb g_1) dX0_narrowByRow_177 (of_sp h).1 (of_sp h).2
set_option maxRecDepth 100000 in
set_option maxHeartbeats 4000000 in
theorem l_X0_narrow_15 {p : Program} {l : Launch} {e : Env} {s : State} {m : MethodId} {args : Array Value} {below : List Frame} {meth : Method} {c : Code} {G : zz_G} {L : Ly} {b : Nat} {Q : State → Prop} (C : CX p G s m args meth c cX0_narrow yX0_narrow 5 none) (o : Nat) (o1 : Nat) (hO : isNa L o) (h1 : isW L o1) : ∀ (n : Nat) (v2 : Int32) (S : Sg) {z}, L_X0_narrow_15 o o1 n v2 S = some z → (∀ (S_o : Sg), z = S_o → X p l e (rmz 4 94) s m args below meth c 0 0 Q 5 G L b S_o 51 [(0, .ref (b + o)), (1, .ref (b + o1))] []) → X p l e (rmz 4 94) s m args below meth c 0 0 Q 5 G L b S 15 [(0, .ref (b + o)), (1, .ref (b + o1)), (2, .int v2)] [] := by
  intro n
  induction n with
  | zero =>
    intro v2 S z h
    exact of_none h
  | succ n ih =>
    intro v2 S z h hx
    rw [L_X0_narrow_15] at h
    refine x_iload_n (pc := 15) C 2 dX0_narrow_15 rfl ?_
    refine x_aload_n (pc := 16) C 0 dX0_narrow_16 rfl ?_
    refine x_geti (pc := 17) C (k := 2) hO.1 rfl rfl wd_128 dX0_narrow_17 ⟨Nat.le_of_ble_eq_true rfl, rfl⟩ ?_
    refine x_icmp_ge (pc := 20) C 51 dX0_narrow_20 rfl (fun c_1 => ?_) (fun c_1 => ?_)
    · replace h := of_ifn c_1 h
      exact x_sub [0, 1] rfl (hx _ (of_s1 h).symm)
    · replace h := of_ifp c_1 h
      refine x_aload_n (pc := 23) C 0 dX0_narrow_23 rfl ?_
      refine x_getr (pc := 24) C (k := 0) (o + 1) hO.1 rfl rfl wd_126 dX0_narrow_24 (Nat.le_of_ble_eq_true rfl) rfl ?_
      refine x_iload_n (pc := 27) C 2 dX0_narrow_27 rfl ?_
      refine x_aload_n (pc := 28) C 1 dX0_narrow_28 rfl ?_
      refine x_iload_n (pc := 29) C 2 dX0_narrow_29 rfl ?_
      obtain ⟨r_1, hc_1, h⟩ := of_bd h
      refine x_callV1 (pc := 30) C (o := o1) [.int v2] [.int v2, .ref (b + (o + 1))] (c_X5_lowOf (b := b) o1 v2 h1 S _ hc_1) cw_X0_31 vi_X5_lowOf ⟨rfl, rfl, Nat.le_of_ble_eq_true rfl, Nat.le_of_ble_eq_true rfl⟩ ⟨Nat.le_refl _, Nat.le_refl _⟩ h1.1 ⟨rfl, rfl, rfl⟩ rfl ⟨rfl, Nat.le_of_ble_eq_true rfl⟩ dX0_narrow_30 (fun hx_1 => ?_)
      obtain ⟨g_1, h⟩ := of_gd h
      obtain ⟨S_1, eS_1, h⟩ := of_lt h
      refine x_iastore (pc := 33) C hO.2.1 g_1 eS_1 dX0_narrow_33 ?_
      refine x_aload_n (pc := 34) C 0 dX0_narrow_34 rfl ?_
      refine x_getr (pc := 35) C (k := 1) (o + 2) hO.1 rfl rfl wd_127 dX0_narrow_35 (Nat.le_of_ble_eq_true rfl) rfl ?_
      refine x_iload_n (pc := 38) C 2 dX0_narrow_38 rfl ?_
      refine x_aload_n (pc := 39) C 1 dX0_narrow_39 rfl ?_
      refine x_iload_n (pc := 40) C 2 dX0_narrow_40 rfl ?_
      obtain ⟨r_2, hc_2, h⟩ := of_bd h
      refine x_callV1 (pc := 41) C (o := o1) [.int v2] [.int v2, .ref (b + (o + 2))] (c_X5_highOf (b := b) o1 v2 h1 S_1 _ hc_2) cw_X0_35 vi_X5_highOf ⟨rfl, rfl, Nat.le_of_ble_eq_true rfl, Nat.le_of_ble_eq_true rfl⟩ ⟨Nat.le_refl _, Nat.le_refl _⟩ h1.1 ⟨rfl, rfl, rfl⟩ rfl ⟨rfl, Nat.le_of_ble_eq_true rfl⟩ dX0_narrow_41 (fun hx_2 => ?_)
      obtain ⟨S_2, eS_2, h⟩ := of_lt h
      refine x_iastore (pc := 44) C hO.2.2 g_1 eS_2 dX0_narrow_44 ?_
      obtain ⟨v2_1, ev2_1, h⟩ := of_lt h
      refine x_iinc (pc := 45) C (w := (1 : Int32)) 2 [(2, .int v2_1), (0, .ref (b + o)), (1, .ref (b + o1))] dX0_narrow_45 rfl rfl (Nat.le_of_ble_eq_true rfl) ev2_1 rfl ?_
      refine x_goto (pc := 48) C 15 dX0_narrow_48 rfl ?_
      exact x_sub [1, 2, 0] rfl (ih _ _ h hx)
set_option maxRecDepth 100000 in
set_option maxHeartbeats 4000000 in
theorem l_X0_narrow_70 {p : Program} {l : Launch} {e : Env} {s : State} {m : MethodId} {args : Array Value} {below : List Frame} {meth : Method} {c : Code} {G : zz_G} {L : Ly} {b : Nat} {Q : State → Prop} (C : CX p G s m args meth c cX0_narrow yX0_narrow 5 none) (o : Nat) (o1 : Nat) (hO : isNa L o) (h1 : isW L o1) (v3 : Int32) : ∀ (n : Nat) (v2 : Int32) (v4 : Int32) (S : Sg) {z}, L_X0_narrow_70 o o1 v3 n v2 v4 S = some z → (∀ (v2_o : Int32) (S_o : Sg), z = (v2_o, S_o) → X p l e (rmz 4 94) s m args below meth c 0 0 Q 5 G L b S_o 97 [(0, .ref (b + o)), (1, .ref (b + o1)), (2, .int v2_o), (3, .int v3)] []) → X p l e (rmz 4 94) s m args below meth c 0 0 Q 5 G L b S 70 [(0, .ref (b + o)), (1, .ref (b + o1)), (2, .int v2), (3, .int v3), (4, .int v4)] [] := by
  intro n
  induction n with
  | zero =>
    intro v2 v4 S z h
    exact of_none h
  | succ n ih =>
    intro v2 v4 S z h hx
    rw [L_X0_narrow_70] at h
    refine x_iload (pc := 70) C 4 dX0_narrow_70 rfl ?_
    refine x_aload_n (pc := 72) C 1 dX0_narrow_72 rfl ?_
    refine x_geti (pc := 73) C (k := 9) h1.1 rfl rfl wd_72 dX0_narrow_73 ⟨Nat.le_of_ble_eq_true rfl, rfl⟩ ?_
    refine x_icmp_ge (pc := 76) C 97 dX0_narrow_76 rfl (fun c_1 => ?_) (fun c_1 => ?_)
    · replace h := of_ifn c_1 h
      exact x_sub [0, 1, 2, 3] rfl (hx _ _ (of_s1 h).symm)
    · replace h := of_ifp c_1 h
      refine x_aload_n (pc := 79) C 0 dX0_narrow_79 rfl ?_
      refine x_aload_n (pc := 80) C 1 dX0_narrow_80 rfl ?_
      refine x_iload (pc := 81) C 4 dX0_narrow_81 rfl ?_
      obtain ⟨⟨r_1, S_1⟩, hc_1, h⟩ := of_bd h
      replace h := of_u2 h
      refine x_callV1 (pc := 83) C (o := o) [.ref (b + o1), .int v4] [] (c_X0_narrowByRow (b := b) o o1 v4 hO h1 S _ _ hc_1) cw_X0_41 vi_X0_narrowByRow ⟨rfl, rfl, Nat.le_of_ble_eq_true rfl, Nat.le_of_ble_eq_true rfl⟩ ⟨Nat.le_refl _, Nat.le_refl _⟩ hO.1 ⟨rfl, rfl, rfl⟩ rfl ⟨rfl, Nat.le_of_ble_eq_true rfl⟩ dX0_narrow_83 (fun hx_1 => ?_)
      obtain ⟨v2_1, ev2_1, h⟩ := of_lt h
      have kd_1 : X p l e (rmz 4 94) s m args below meth c 0 0 Q 5 G L b S_1 91 [(0, .ref (b + o)), (1, .ref (b + o1)), (2, .int v2_1), (3, .int v3), (4, .int v4)] [] := by
        obtain ⟨v4_1, ev4_1, h⟩ := of_lt h
        refine x_iinc (pc := 91) C (w := (1 : Int32)) 4 [(4, .int v4_1), (0, .ref (b + o)), (1, .ref (b + o1)), (2, .int v2_1), (3, .int v3)] dX0_narrow_91 rfl rfl (Nat.le_of_ble_eq_true rfl) ev4_1 rfl ?_
        refine x_goto (pc := 94) C 70 dX0_narrow_94 rfl ?_
        exact x_sub [1, 2, 3, 4, 0] rfl (ih _ _ _ h hx)
      refine x_if_eq (pc := 86) C 91 dX0_narrow_86 rfl (fun c_2 => ?_) (fun c_2 => ?_)
      · refine x_sub [0, 1, 2, 3, 4] rfl ?_
        rw [show v2_1 = v2 from (ev2_1.trans (if_pos c_2))] at kd_1
        exact kd_1
      · refine x_iconst (pc := 89) C (v := (1 : Int32)) dX0_narrow_89 rfl ?_
        refine x_istore_n (pc := 90) C 2 [(2, .int (1 : Int32)), (0, .ref (b + o)), (1, .ref (b + o1)), (3, .int v3), (4, .int v4)] dX0_narrow_90 rfl (Nat.le_of_ble_eq_true rfl) rfl rfl ?_
        refine x_sub [1, 2, 0, 3, 4] rfl ?_
        rw [show v2_1 = (1 : Int32) from (ev2_1.trans (if_neg c_2))] at kd_1
        exact kd_1
set_option maxRecDepth 100000 in
set_option maxHeartbeats 4000000 in
theorem l_X0_narrow_55 {p : Program} {l : Launch} {e : Env} {s : State} {m : MethodId} {args : Array Value} {below : List Frame} {meth : Method} {c : Code} {G : zz_G} {L : Ly} {b : Nat} {Q : State → Prop} (C : CX p G s m args meth c cX0_narrow yX0_narrow 5 none) (o : Nat) (o1 : Nat) (hO : isNa L o) (h1 : isW L o1) : ∀ (n : Nat) (v2 : Int32) (v3 : Int32) (S : Sg) {z}, L_X0_narrow_55 o o1 n v2 v3 S = some z → (∀ (S_o : Sg), z = S_o → X p l e (rmz 4 94) s m args below meth c 0 0 Q 5 G L b S_o 103 [] []) → X p l e (rmz 4 94) s m args below meth c 0 0 Q 5 G L b S 55 [(0, .ref (b + o)), (1, .ref (b + o1)), (2, .int v2), (3, .int v3)] [] := by
  intro n
  induction n with
  | zero =>
    intro v2 v3 S z h
    exact of_none h
  | succ n ih =>
    intro v2 v3 S z h hx
    rw [L_X0_narrow_55] at h
    refine x_iload_n (pc := 55) C 3 dX0_narrow_55 rfl ?_
    refine x_bipush (pc := 56) C (v := (60 : Int32)) dX0_narrow_56 rfl ?_
    refine x_icmp_ge (pc := 58) C 103 dX0_narrow_58 rfl (fun c_1 => ?_) (fun c_1 => ?_)
    · replace h := of_ifn c_1 h
      exact x_sub [] rfl (hx _ (of_s1 h).symm)
    · replace h := of_ifp c_1 h
      refine x_iload_n (pc := 61) C 2 dX0_narrow_61 rfl ?_
      refine x_if_eq (pc := 62) C 103 dX0_narrow_62 rfl (fun c_2 => ?_) (fun c_2 => ?_)
      · replace h := of_ifp c_2 h
        exact x_sub [] rfl (hx _ (of_s1 h).symm)
      · replace h := of_ifn c_2 h
        refine x_iconst (pc := 65) C (v := (0 : Int32)) dX0_narrow_65 rfl ?_
        refine x_istore_n (pc := 66) C 2 [(2, .int (0 : Int32)), (0, .ref (b + o)), (1, .ref (b + o1)), (3, .int v3)] dX0_narrow_66 rfl (Nat.le_of_ble_eq_true rfl) rfl rfl ?_
        refine x_iconst (pc := 67) C (v := (0 : Int32)) dX0_narrow_67 rfl ?_
        refine x_istore (pc := 68) C [(4, .int (0 : Int32)), (2, .int (0 : Int32)), (0, .ref (b + o)), (1, .ref (b + o1)), (3, .int v3)] dX0_narrow_68 (Nat.le_of_ble_eq_true rfl) rfl rfl ?_
        refine x_sub [2, 3, 1, 4, 0] rfl ?_
        obtain ⟨z_hz_1, hz_1, h⟩ := of_bd h
        refine l_X0_narrow_70 C o o1 hO h1 v3 400 _ _ _ hz_1 (fun v2_1 S_1 ez => ?_)
        subst z_hz_1
        replace h := of_u2 h
        obtain ⟨v3_1, ev3_1, h⟩ := of_lt h
        refine x_iinc (pc := 97) C (w := (1 : Int32)) 3 [(3, .int v3_1), (0, .ref (b + o)), (1, .ref (b + o1)), (2, .int v2_1)] dX0_narrow_97 rfl rfl (Nat.le_of_ble_eq_true rfl) ev3_1 rfl ?_
        refine x_goto (pc := 100) C 55 dX0_narrow_100 rfl ?_
        exact x_sub [1, 2, 3, 0] rfl (ih _ _ _ h hx)
set_option maxRecDepth 100000 in
set_option maxHeartbeats 4000000 in
theorem c_X0_narrow {l : Launch} {G : zz_G} {L : Ly} {b : Nat} (o : Nat) (o1 : Nat) (hO : isNa L o) (h1 : isW L o1) (S : Sg) (Sf : Sg) (h : f_X0_narrow o o1 S = some Sf) : Met l yX0_narrow (Cond.code yX0_narrow cX0_narrow 5 none :: zz_all) (rmz 4 94) (PC G L b S [.ref (b + o), .ref (b + o1)]) (QC G L b Sf none True) 0 0 (fun q => b ≤ q) := by
  refine x_met [.ref (b + o), .ref (b + o1)] (by decide +kernel) (Nat.le_of_ble_eq_true rfl) fun p e s m args below meth c C => ?_
  unfold f_X0_narrow at h
  refine x_aload_n (pc := 0) C 0 dX0_narrow_0 rfl ?_
  refine x_aload_n (pc := 1) C 1 dX0_narrow_1 rfl ?_
  refine x_geti (pc := 2) C (k := 4) h1.1 rfl rfl wd_64 dX0_narrow_2 ⟨Nat.le_of_ble_eq_true rfl, rfl⟩ ?_
  refine x_bipush (pc := 5) C (v := (10 : Int32)) dX0_narrow_5 rfl ?_
  refine x_callS1 (pc := 7) C [.int (S.1 o1 4), .int (10 : Int32)] [.ref (b + o)] (c_J9_min_7cf53 (b := b) (S.1 o1 4) (10 : Int32) S) cw_X0_24 vs_J9_min_7cf53 ⟨rfl, rfl, Nat.le_of_ble_eq_true rfl, Nat.le_of_ble_eq_true rfl⟩ ⟨Nat.le_refl _, Nat.le_refl _⟩ rfl ⟨rfl, Nat.le_of_ble_eq_true rfl⟩ dX0_narrow_7 (fun hx_1 => ?_)
  obtain ⟨S_1, eS_1, h⟩ := of_lt h
  refine x_puti (pc := 10) C (k := 2) hO.1 rfl rfl wd_128 dX0_narrow_10 ⟨Nat.le_of_ble_eq_true rfl, rfl⟩ eS_1 ?_
  refine x_iconst (pc := 13) C (v := (0 : Int32)) dX0_narrow_13 rfl ?_
  refine x_istore_n (pc := 14) C 2 [(2, .int (0 : Int32)), (0, .ref (b + o)), (1, .ref (b + o1))] dX0_narrow_14 rfl (Nat.le_of_ble_eq_true rfl) rfl rfl ?_
  refine x_sub [1, 2, 0] rfl ?_
  obtain ⟨z_hz_2, hz_2, h⟩ := of_bd h
  refine l_X0_narrow_15 C o o1 hO h1 400 _ _ hz_2 (fun S_2 ez => ?_)
  subst z_hz_2
  refine x_iconst (pc := 51) C (v := (1 : Int32)) dX0_narrow_51 rfl ?_
  refine x_istore_n (pc := 52) C 2 [(2, .int (1 : Int32)), (0, .ref (b + o)), (1, .ref (b + o1))] dX0_narrow_52 rfl (Nat.le_of_ble_eq_true rfl) rfl rfl ?_
  refine x_iconst (pc := 53) C (v := (0 : Int32)) dX0_narrow_53 rfl ?_
  refine x_istore_n (pc := 54) C 3 [(3, .int (0 : Int32)), (2, .int (1 : Int32)), (0, .ref (b + o)), (1, .ref (b + o1))] dX0_narrow_54 rfl (Nat.le_of_ble_eq_true rfl) rfl rfl ?_
  refine x_sub [2, 3, 1, 0] rfl ?_
  obtain ⟨z_hz_1, hz_1, h⟩ := of_bd h
  refine l_X0_narrow_55 C o o1 hO h1 400 _ _ _ hz_1 (fun S_3 ez => ?_)
  subst z_hz_1
  exact x_vreturn (pc := 103) C dX0_narrow_103 (of_s1 h)
set_option maxRecDepth 100000 in
set_option maxHeartbeats 4000000 in
theorem c_X0_widthOf {l : Launch} {G : zz_G} {L : Ly} {b : Nat} (o : Nat) (p1 : Int32) (hO : isNa L o) (S : Sg) (rf : Int32) (h : f_X0_widthOf o p1 S = some rf) : Met l yX0_widthOf (Cond.code yX0_widthOf cX0_widthOf 2 (some .int) :: zz_all) (rmz 2 42) (PC G L b S [.ref (b + o), .int p1]) (QC G L b S (some (.int rf)) True) 0 0 (fun q => b ≤ q) := by
  refine x_met [.ref (b + o), .int p1] (by decide +kernel) (Nat.le_of_ble_eq_true rfl) fun p e s m args below meth c C => ?_
  unfold f_X0_widthOf at h
  refine x_aload_n (pc := 0) C 0 dX0_widthOf_0 rfl ?_
  refine x_iload_n (pc := 1) C 1 dX0_widthOf_1 rfl ?_
  obtain ⟨r_1, hc_1, h⟩ := of_bd h
  refine x_callV1 (pc := 2) C (o := o) [.int p1] [] (c_X0_mostOf (b := b) o p1 hO S _ hc_1) cw_X0_71 vi_X0_mostOf ⟨rfl, rfl, Nat.le_of_ble_eq_true rfl, Nat.le_of_ble_eq_true rfl⟩ ⟨Nat.le_refl _, Nat.le_refl _⟩ hO.1 ⟨rfl, rfl, rfl⟩ rfl ⟨rfl, Nat.le_of_ble_eq_true rfl⟩ dX0_widthOf_2 (fun hx_1 => ?_)
  refine x_aload_n (pc := 5) C 0 dX0_widthOf_5 rfl ?_
  refine x_iload_n (pc := 6) C 1 dX0_widthOf_6 rfl ?_
  obtain ⟨r_2, hc_2, h⟩ := of_bd h
  refine x_callV1 (pc := 7) C (o := o) [.int p1] [.int r_1] (c_X0_leastOf (b := b) o p1 hO S _ hc_2) cw_X0_68 vi_X0_leastOf ⟨rfl, rfl, Nat.le_of_ble_eq_true rfl, Nat.le_of_ble_eq_true rfl⟩ ⟨Nat.le_refl _, Nat.le_refl _⟩ hO.1 ⟨rfl, rfl, rfl⟩ rfl ⟨rfl, Nat.le_of_ble_eq_true rfl⟩ dX0_widthOf_7 (fun hx_2 => ?_)
  refine x_isub (pc := 10) C dX0_widthOf_10 ?_
  refine x_iconst (pc := 11) C (v := (1 : Int32)) dX0_widthOf_11 rfl ?_
  refine x_iadd (pc := 12) C dX0_widthOf_12 ?_
  exact x_ireturn (pc := 13) C dX0_widthOf_13 (of_s1 h) rfl
set_option maxRecDepth 100000 in
set_option maxHeartbeats 4000000 in
theorem c_X6_narrowed {l : Launch} {G : zz_G} {L : Ly} {b : Nat} (p1 : Int32) (p2 : Int32) (hO : isGu L) (S : Sg) (rf : Int32) (Sf : Sg) (h : f_X6_narrowed p1 p2 S = some (rf, Sf)) : Met l yX6_narrowed (Cond.code yX6_narrowed cX6_narrowed 3 (some .int) :: zz_all) (rmz 5 118) (PC G L b S [.ref (b + 0), .int p1, .int p2]) (QC G L b Sf (some (.int rf)) True) 0 0 (fun q => b ≤ q) := by
  refine x_met [.ref (b + 0), .int p1, .int p2] (by decide +kernel) (Nat.le_of_ble_eq_true rfl) fun p e s m args below meth c C => ?_
  unfold f_X6_narrowed at h
  refine x_aload_n (pc := 0) C 0 dX6_narrowed_0 rfl ?_
  refine x_getr (pc := 1) C (k := 5) 132 hO.1 rfl rfl wd_154 dX6_narrowed_1 (Nat.le_of_ble_eq_true rfl) rfl ?_
  refine x_aload_n (pc := 4) C 0 dX6_narrowed_4 rfl ?_
  refine x_getr (pc := 5) C (k := 0) 1 hO.1 rfl rfl wd_149 dX6_narrowed_5 (Nat.le_of_ble_eq_true rfl) rfl ?_
  obtain ⟨S_1, hc_1, h⟩ := of_bd h
  refine x_callV_ (pc := 8) C (o := 132) [.ref (b + 1)] [] (c_X0_narrow (b := b) 132 1 hO.2.2.2.2.2.1 hO.2.1 S _ hc_1) cw_X6_104 vi_X0_narrow ⟨rfl, rfl, Nat.le_of_ble_eq_true rfl, Nat.le_of_ble_eq_true rfl⟩ ⟨Nat.le_refl _, Nat.le_refl _⟩ hO.2.2.2.2.2.1.1 ⟨rfl, rfl, rfl⟩ rfl ⟨rfl, Nat.le_of_ble_eq_true rfl⟩ dX6_narrowed_8 (fun hx_1 => ?_)
  refine x_iload_n (pc := 11) C 2 dX6_narrowed_11 rfl ?_
  refine x_iconst (pc := 12) C (v := (3 : Int32)) dX6_narrowed_12 rfl ?_
  refine x_icmp_ne (pc := 13) C 27 dX6_narrowed_13 rfl (fun c_1 => ?_) (fun c_1 => ?_)
  · replace h := of_ifn c_1 h
    refine x_iload_n (pc := 27) C 2 dX6_narrowed_27 rfl ?_
    refine x_iconst (pc := 28) C (v := (4 : Int32)) dX6_narrowed_28 rfl ?_
    refine x_icmp_ne (pc := 29) C 43 dX6_narrowed_29 rfl (fun c_2 => ?_) (fun c_2 => ?_)
    · replace h := of_ifn c_2 h
      refine x_aload_n (pc := 43) C 0 dX6_narrowed_43 rfl ?_
      refine x_getr (pc := 44) C (k := 5) 132 hO.1 rfl rfl wd_154 dX6_narrowed_44 (Nat.le_of_ble_eq_true rfl) rfl ?_
      refine x_iload_n (pc := 47) C 1 dX6_narrowed_47 rfl ?_
      obtain ⟨r_1, hc_2, h⟩ := of_bd h
      refine x_callV1 (pc := 48) C (o := 132) [.int p1] [] (c_X0_widthOf (b := b) 132 p1 hO.2.2.2.2.2.1 S_1 _ hc_2) cw_X6_113 vi_X0_widthOf ⟨rfl, rfl, Nat.le_of_ble_eq_true rfl, Nat.le_of_ble_eq_true rfl⟩ ⟨Nat.le_refl _, Nat.le_refl _⟩ hO.2.2.2.2.2.1.1 ⟨rfl, rfl, rfl⟩ rfl ⟨rfl, Nat.le_of_ble_eq_true rfl⟩ dX6_narrowed_48 (fun hx_2 => ?_)
      exact x_ireturn (pc := 51) C dX6_narrowed_51 (of_sp h).1 (of_sp h).2
    · replace h := of_ifp c_2 h
      refine x_aload_n (pc := 32) C 0 dX6_narrowed_32 rfl ?_
      refine x_getr (pc := 33) C (k := 5) 132 hO.1 rfl rfl wd_154 dX6_narrowed_33 (Nat.le_of_ble_eq_true rfl) rfl ?_
      refine x_iload_n (pc := 36) C 1 dX6_narrowed_36 rfl ?_
      obtain ⟨r_2, hc_3, h⟩ := of_bd h
      refine x_callV1 (pc := 37) C (o := 132) [.int p1] [] (c_X0_mostOf (b := b) 132 p1 hO.2.2.2.2.2.1 S_1 _ hc_3) cw_X6_110 vi_X0_mostOf ⟨rfl, rfl, Nat.le_of_ble_eq_true rfl, Nat.le_of_ble_eq_true rfl⟩ ⟨Nat.le_refl _, Nat.le_refl _⟩ hO.2.2.2.2.2.1.1 ⟨rfl, rfl, rfl⟩ rfl ⟨rfl, Nat.le_of_ble_eq_true rfl⟩ dX6_narrowed_37 (fun hx_3 => ?_)
      refine x_goto (pc := 40) C 51 dX6_narrowed_40 rfl ?_
      exact x_ireturn (pc := 51) C dX6_narrowed_51 (of_sp h).1 (of_sp h).2
  · replace h := of_ifp c_1 h
    refine x_aload_n (pc := 16) C 0 dX6_narrowed_16 rfl ?_
    refine x_getr (pc := 17) C (k := 5) 132 hO.1 rfl rfl wd_154 dX6_narrowed_17 (Nat.le_of_ble_eq_true rfl) rfl ?_
    refine x_iload_n (pc := 20) C 1 dX6_narrowed_20 rfl ?_
    obtain ⟨r_3, hc_4, h⟩ := of_bd h
    refine x_callV1 (pc := 21) C (o := 132) [.int p1] [] (c_X0_leastOf (b := b) 132 p1 hO.2.2.2.2.2.1 S_1 _ hc_4) cw_X6_107 vi_X0_leastOf ⟨rfl, rfl, Nat.le_of_ble_eq_true rfl, Nat.le_of_ble_eq_true rfl⟩ ⟨Nat.le_refl _, Nat.le_refl _⟩ hO.2.2.2.2.2.1.1 ⟨rfl, rfl, rfl⟩ rfl ⟨rfl, Nat.le_of_ble_eq_true rfl⟩ dX6_narrowed_21 (fun hx_4 => ?_)
    refine x_goto (pc := 24) C 51 dX6_narrowed_24 rfl ?_
    exact x_ireturn (pc := 51) C dX6_narrowed_51 (of_sp h).1 (of_sp h).2
set_option maxRecDepth 100000 in
set_option maxHeartbeats 4000000 in
theorem c_X6_variable {l : Launch} {G : zz_G} {L : Ly} {b : Nat} (p1 : Int32) (p2 : Int32) (hO : isGu L) (S : Sg) (rf : Int32) (Sf : Sg) (h : f_X6_variable p1 p2 S = some (rf, Sf)) : Met l yX6_variable (Cond.code yX6_variable cX6_variable 3 (some .int) :: zz_all) (rmz 6 140) (PC G L b S [.ref (b + 0), .int p1, .int p2]) (QC G L b Sf (some (.int rf)) True) 0 0 (fun q => b ≤ q) := by
  refine x_met [.ref (b + 0), .int p1, .int p2] (by decide +kernel) (Nat.le_of_ble_eq_true rfl) fun p e s m args below meth c C => ?_
  unfold f_X6_variable at h
  refine x_aload_n (pc := 0) C 0 dX6_variable_0 rfl ?_
  refine x_getr (pc := 1) C (k := 0) 1 hO.1 rfl rfl wd_149 dX6_variable_1 (Nat.le_of_ble_eq_true rfl) rfl ?_
  refine x_iload_n (pc := 4) C 1 dX6_variable_4 rfl ?_
  refine x_callV1 (pc := 5) C (o := 1) [.int p1] [] (c_X5_has (b := b) 1 p1 hO.2.1 S) cw_X6_91 vi_X5_has ⟨rfl, rfl, Nat.le_of_ble_eq_true rfl, Nat.le_of_ble_eq_true rfl⟩ ⟨Nat.le_refl _, Nat.le_refl _⟩ hO.2.1.1 ⟨rfl, rfl, rfl⟩ rfl ⟨rfl, Nat.le_of_ble_eq_true rfl⟩ dX6_variable_5 (fun hx_1 => ?_)
  refine x_if_ne (pc := 8) C 17 dX6_variable_8 rfl (fun c_1 => ?_) (fun c_1 => ?_)
  · replace h := of_ifn c_1 h
    refine x_iload_n (pc := 17) C 2 dX6_variable_17 rfl ?_
    refine x_bipush (pc := 18) C (v := (7 : Int32)) dX6_variable_18 rfl ?_
    refine x_callS1 (pc := 20) C [.int p2, .int (7 : Int32)] [] (c_X6_isWithin (b := b) p2 (7 : Int32) S) cw_X6_69 vs_X6_isWithin ⟨rfl, rfl, Nat.le_of_ble_eq_true rfl, Nat.le_of_ble_eq_true rfl⟩ ⟨Nat.le_refl _, Nat.le_refl _⟩ rfl ⟨rfl, Nat.le_of_ble_eq_true rfl⟩ dX6_variable_20 (fun hx_2 => ?_)
    refine x_if_ne (pc := 23) C 33 dX6_variable_23 rfl (fun c_2 => ?_) (fun c_2 => ?_)
    · replace h := of_ifn c_2 h
      refine x_iload_n (pc := 33) C 2 dX6_variable_33 rfl ?_
      by_cases c_3 : p2 = (0 : Int32)
      · replace h := of_ifp c_3 h
        refine x_tabIn (pc := 34) C 76 dX6_variable_34 c_3 (by decide) (by decide) rfl rfl ?_
        refine x_aload_n (pc := 76) C 0 dX6_variable_76 rfl ?_
        refine x_getr (pc := 77) C (k := 0) 1 hO.1 rfl rfl wd_149 dX6_variable_77 (Nat.le_of_ble_eq_true rfl) rfl ?_
        refine x_iload_n (pc := 80) C 1 dX6_variable_80 rfl ?_
        obtain ⟨r_1, hc_1, h⟩ := of_bd h
        refine x_callV1 (pc := 81) C (o := 1) [.int p1] [] (c_X5_valueOf (b := b) 1 p1 hO.2.1 S _ hc_1) cw_X6_80 vi_X5_valueOf ⟨rfl, rfl, Nat.le_of_ble_eq_true rfl, Nat.le_of_ble_eq_true rfl⟩ ⟨Nat.le_refl _, Nat.le_refl _⟩ hO.2.1.1 ⟨rfl, rfl, rfl⟩ rfl ⟨rfl, Nat.le_of_ble_eq_true rfl⟩ dX6_variable_81 (fun hx_3 => ?_)
        exact x_ireturn (pc := 84) C dX6_variable_84 (of_sp h).1 (of_sp h).2
      replace h := of_ifn c_3 h
      by_cases c_4 : p2 = (1 : Int32)
      · replace h := of_ifp c_4 h
        refine x_tabIn (pc := 34) C 85 dX6_variable_34 c_4 (by decide) (by decide) rfl rfl ?_
        refine x_aload_n (pc := 85) C 0 dX6_variable_85 rfl ?_
        refine x_getr (pc := 86) C (k := 0) 1 hO.1 rfl rfl wd_149 dX6_variable_86 (Nat.le_of_ble_eq_true rfl) rfl ?_
        refine x_iload_n (pc := 89) C 1 dX6_variable_89 rfl ?_
        obtain ⟨r_2, hc_2, h⟩ := of_bd h
        refine x_callV1 (pc := 90) C (o := 1) [.int p1] [] (c_X5_lowOf (b := b) 1 p1 hO.2.1 S _ hc_2) cw_X6_94 vi_X5_lowOf ⟨rfl, rfl, Nat.le_of_ble_eq_true rfl, Nat.le_of_ble_eq_true rfl⟩ ⟨Nat.le_refl _, Nat.le_refl _⟩ hO.2.1.1 ⟨rfl, rfl, rfl⟩ rfl ⟨rfl, Nat.le_of_ble_eq_true rfl⟩ dX6_variable_90 (fun hx_4 => ?_)
        exact x_ireturn (pc := 93) C dX6_variable_93 (of_sp h).1 (of_sp h).2
      replace h := of_ifn c_4 h
      by_cases c_5 : p2 = (2 : Int32)
      · replace h := of_ifp c_5 h
        refine x_tabIn (pc := 34) C 94 dX6_variable_34 c_5 (by decide) (by decide) rfl rfl ?_
        refine x_aload_n (pc := 94) C 0 dX6_variable_94 rfl ?_
        refine x_getr (pc := 95) C (k := 0) 1 hO.1 rfl rfl wd_149 dX6_variable_95 (Nat.le_of_ble_eq_true rfl) rfl ?_
        refine x_iload_n (pc := 98) C 1 dX6_variable_98 rfl ?_
        obtain ⟨r_3, hc_3, h⟩ := of_bd h
        refine x_callV1 (pc := 99) C (o := 1) [.int p1] [] (c_X5_highOf (b := b) 1 p1 hO.2.1 S _ hc_3) cw_X6_97 vi_X5_highOf ⟨rfl, rfl, Nat.le_of_ble_eq_true rfl, Nat.le_of_ble_eq_true rfl⟩ ⟨Nat.le_refl _, Nat.le_refl _⟩ hO.2.1.1 ⟨rfl, rfl, rfl⟩ rfl ⟨rfl, Nat.le_of_ble_eq_true rfl⟩ dX6_variable_99 (fun hx_5 => ?_)
        exact x_ireturn (pc := 102) C dX6_variable_102 (of_sp h).1 (of_sp h).2
      replace h := of_ifn c_5 h
      by_cases c_6 : p2 = (6 : Int32)
      · replace h := of_ifp c_6 h
        refine x_tabIn (pc := 34) C 103 dX6_variable_34 c_6 (by decide) (by decide) rfl rfl ?_
        refine x_aload_n (pc := 103) C 0 dX6_variable_103 rfl ?_
        refine x_getr (pc := 104) C (k := 0) 1 hO.1 rfl rfl wd_149 dX6_variable_104 (Nat.le_of_ble_eq_true rfl) rfl ?_
        refine x_iload_n (pc := 107) C 1 dX6_variable_107 rfl ?_
        obtain ⟨r_4, hc_4, h⟩ := of_bd h
        refine x_callV1 (pc := 108) C (o := 1) [.int p1] [] (c_X5_isFree (b := b) 1 p1 hO.2.1 S _ hc_4) cw_X6_83 vi_X5_isFree ⟨rfl, rfl, Nat.le_of_ble_eq_true rfl, Nat.le_of_ble_eq_true rfl⟩ ⟨Nat.le_refl _, Nat.le_refl _⟩ hO.2.1.1 ⟨rfl, rfl, rfl⟩ rfl ⟨rfl, Nat.le_of_ble_eq_true rfl⟩ dX6_variable_108 (fun hx_6 => ?_)
        refine x_callS1 (pc := 111) C [.int r_4] [] (c_X6_asNumber (b := b) r_4 S) cw_X6_87 vs_X6_asNumber ⟨rfl, rfl, Nat.le_of_ble_eq_true rfl, Nat.le_of_ble_eq_true rfl⟩ ⟨Nat.le_refl _, Nat.le_refl _⟩ rfl ⟨rfl, Nat.le_of_ble_eq_true rfl⟩ dX6_variable_111 (fun hx_7 => ?_)
        exact x_ireturn (pc := 114) C dX6_variable_114 (of_sp h).1 (of_sp h).2
      replace h := of_ifn c_6 h
      by_cases c_7 : p2 = (3 : Int32)
      · refine x_tabIn (pc := 34) C 115 dX6_variable_34 c_7 (by decide) (by decide) rfl rfl ?_
        refine x_aload_n (pc := 115) C 0 dX6_variable_115 rfl ?_
        refine x_iload_n (pc := 116) C 1 dX6_variable_116 rfl ?_
        refine x_iload_n (pc := 117) C 2 dX6_variable_117 rfl ?_
        obtain ⟨⟨r_5, S_1⟩, hc_5, h⟩ := of_bd h
        replace h := of_u2 h
        refine x_callV1 (pc := 118) C (o := 0) [.int p1, .int p2] [] (c_X6_narrowed (b := b) p1 p2 hO S _ _ hc_5) cw_X6_100 vi_X6_narrowed ⟨rfl, rfl, Nat.le_of_ble_eq_true rfl, Nat.le_of_ble_eq_true rfl⟩ ⟨Nat.le_refl _, Nat.le_refl _⟩ hO.1 ⟨rfl, rfl, rfl⟩ rfl ⟨rfl, Nat.le_of_ble_eq_true rfl⟩ dX6_variable_118 (fun hx_8 => ?_)
        exact x_ireturn (pc := 121) C dX6_variable_121 (of_sp h).1 (of_sp h).2
      by_cases c_8 : p2 = (4 : Int32)
      · refine x_tabIn (pc := 34) C 115 dX6_variable_34 c_8 (by decide) (by decide) rfl rfl ?_
        refine x_aload_n (pc := 115) C 0 dX6_variable_115 rfl ?_
        refine x_iload_n (pc := 116) C 1 dX6_variable_116 rfl ?_
        refine x_iload_n (pc := 117) C 2 dX6_variable_117 rfl ?_
        obtain ⟨⟨r_5, S_1⟩, hc_5, h⟩ := of_bd h
        replace h := of_u2 h
        refine x_callV1 (pc := 118) C (o := 0) [.int p1, .int p2] [] (c_X6_narrowed (b := b) p1 p2 hO S _ _ hc_5) cw_X6_100 vi_X6_narrowed ⟨rfl, rfl, Nat.le_of_ble_eq_true rfl, Nat.le_of_ble_eq_true rfl⟩ ⟨Nat.le_refl _, Nat.le_refl _⟩ hO.1 ⟨rfl, rfl, rfl⟩ rfl ⟨rfl, Nat.le_of_ble_eq_true rfl⟩ dX6_variable_118 (fun hx_8 => ?_)
        exact x_ireturn (pc := 121) C dX6_variable_121 (of_sp h).1 (of_sp h).2
      by_cases c_9 : p2 = (5 : Int32)
      · refine x_tabIn (pc := 34) C 115 dX6_variable_34 c_9 (by decide) (by decide) rfl rfl ?_
        refine x_aload_n (pc := 115) C 0 dX6_variable_115 rfl ?_
        refine x_iload_n (pc := 116) C 1 dX6_variable_116 rfl ?_
        refine x_iload_n (pc := 117) C 2 dX6_variable_117 rfl ?_
        obtain ⟨⟨r_5, S_1⟩, hc_5, h⟩ := of_bd h
        replace h := of_u2 h
        refine x_callV1 (pc := 118) C (o := 0) [.int p1, .int p2] [] (c_X6_narrowed (b := b) p1 p2 hO S _ _ hc_5) cw_X6_100 vi_X6_narrowed ⟨rfl, rfl, Nat.le_of_ble_eq_true rfl, Nat.le_of_ble_eq_true rfl⟩ ⟨Nat.le_refl _, Nat.le_refl _⟩ hO.1 ⟨rfl, rfl, rfl⟩ rfl ⟨rfl, Nat.le_of_ble_eq_true rfl⟩ dX6_variable_118 (fun hx_8 => ?_)
        exact x_ireturn (pc := 121) C dX6_variable_121 (of_sp h).1 (of_sp h).2
      refine x_tabOut (pc := 34) C 115 dX6_variable_34 (by have := lv_neT c_3 (show ((0 : Int32)).toInt = 0 from rfl); have := lv_neT c_4 (show ((1 : Int32)).toInt = 1 from rfl); have := lv_neT c_5 (show ((2 : Int32)).toInt = 2 from rfl); have := lv_neT c_6 (show ((6 : Int32)).toInt = 6 from rfl); have := lv_neT c_7 (show ((3 : Int32)).toInt = 3 from rfl); have := lv_neT c_8 (show ((4 : Int32)).toInt = 4 from rfl); have := lv_neT c_9 (show ((5 : Int32)).toInt = 5 from rfl); omega) rfl ?_
      refine x_aload_n (pc := 115) C 0 dX6_variable_115 rfl ?_
      refine x_iload_n (pc := 116) C 1 dX6_variable_116 rfl ?_
      refine x_iload_n (pc := 117) C 2 dX6_variable_117 rfl ?_
      obtain ⟨⟨r_5, S_1⟩, hc_5, h⟩ := of_bd h
      replace h := of_u2 h
      refine x_callV1 (pc := 118) C (o := 0) [.int p1, .int p2] [] (c_X6_narrowed (b := b) p1 p2 hO S _ _ hc_5) cw_X6_100 vi_X6_narrowed ⟨rfl, rfl, Nat.le_of_ble_eq_true rfl, Nat.le_of_ble_eq_true rfl⟩ ⟨Nat.le_refl _, Nat.le_refl _⟩ hO.1 ⟨rfl, rfl, rfl⟩ rfl ⟨rfl, Nat.le_of_ble_eq_true rfl⟩ dX6_variable_118 (fun hx_8 => ?_)
      exact x_ireturn (pc := 121) C dX6_variable_121 (of_sp h).1 (of_sp h).2
    · replace h := of_ifp c_2 h
      refine x_aload_n (pc := 26) C 0 dX6_variable_26 rfl ?_
      refine x_bipush (pc := 27) C (v := (-2 : Int32)) dX6_variable_27 rfl ?_
      obtain ⟨⟨r_6, S_2⟩, hc_6, h⟩ := of_bd h
      replace h := of_u2 h
      refine x_callV1 (pc := 29) C (o := 0) [.int (-2 : Int32)] [] (c_X6_refuse (b := b) (-2 : Int32) hO S _ _ hc_6) cw_X6_73 vi_X6_refuse ⟨rfl, rfl, Nat.le_of_ble_eq_true rfl, Nat.le_of_ble_eq_true rfl⟩ ⟨Nat.le_refl _, Nat.le_refl _⟩ hO.1 ⟨rfl, rfl, rfl⟩ rfl ⟨rfl, Nat.le_of_ble_eq_true rfl⟩ dX6_variable_29 (fun hx_9 => ?_)
      exact x_ireturn (pc := 32) C dX6_variable_32 (of_sp h).1 (of_sp h).2
  · replace h := of_ifp c_1 h
    refine x_aload_n (pc := 11) C 0 dX6_variable_11 rfl ?_
    refine x_iconst (pc := 12) C (v := (-1 : Int32)) dX6_variable_12 rfl ?_
    obtain ⟨⟨r_7, S_3⟩, hc_7, h⟩ := of_bd h
    replace h := of_u2 h
    refine x_callV1 (pc := 13) C (o := 0) [.int (-1 : Int32)] [] (c_X6_refuse (b := b) (-1 : Int32) hO S _ _ hc_7) cw_X6_73 vi_X6_refuse ⟨rfl, rfl, Nat.le_of_ble_eq_true rfl, Nat.le_of_ble_eq_true rfl⟩ ⟨Nat.le_refl _, Nat.le_refl _⟩ hO.1 ⟨rfl, rfl, rfl⟩ rfl ⟨rfl, Nat.le_of_ble_eq_true rfl⟩ dX6_variable_13 (fun hx_10 => ?_)
    exact x_ireturn (pc := 16) C dX6_variable_16 (of_sp h).1 (of_sp h).2
set_option maxRecDepth 100000 in
set_option maxHeartbeats 4000000 in
theorem c_L_bound {l : Launch} {G : zz_G} {L : Ly} {b : Nat} (p1 : Int32) (p2 : Int32) (p3 : Int32) (hO : isGu L) (S : Sg) (Sf : Sg) (h : f_L_bound p1 p2 p3 S = some Sf) : Met l yL_bound (Cond.code yL_bound cL_bound 5 none :: zz_all) (rmz 7 162) (PC G L b S [.ref (b + 0), .int p1, .int p2, .int p3]) (QC G L b Sf none True) 0 0 (fun q => b ≤ q) := by
  refine x_met [.ref (b + 0), .int p1, .int p2, .int p3] (by decide +kernel) (Nat.le_of_ble_eq_true rfl) fun p e s m args below meth c C => ?_
  unfold f_L_bound at h
  refine x_aload_n (pc := 0) C 0 dL_bound_0 rfl ?_
  refine x_iload_n (pc := 1) C 1 dL_bound_1 rfl ?_
  refine x_iconst (pc := 2) C (v := (0 : Int32)) dL_bound_2 rfl ?_
  obtain ⟨⟨r_1, S_1⟩, hc_1, h⟩ := of_bd h
  replace h := of_u2 h
  refine x_callV1 (pc := 3) C (o := 0) [.int p1, .int (0 : Int32)] [] (c_X6_variable (b := b) p1 (0 : Int32) hO S _ _ hc_1) cw_L_48 vi_X6_variable ⟨rfl, rfl, Nat.le_of_ble_eq_true rfl, Nat.le_of_ble_eq_true rfl⟩ ⟨Nat.le_refl _, Nat.le_refl _⟩ hO.1 ⟨rfl, rfl, rfl⟩ rfl ⟨rfl, Nat.le_of_ble_eq_true rfl⟩ dL_bound_3 (fun hx_1 => ?_)
  refine x_istore (pc := 6) C [(4, .int r_1), (0, .ref (b + 0)), (1, .int p1), (2, .int p2), (3, .int p3)] dL_bound_6 (Nat.le_of_ble_eq_true rfl) rfl rfl ?_
  refine x_iload (pc := 8) C 0 dL_bound_8 rfl ?_
  refine x_if_lt (pc := 10) C 36 dL_bound_10 rfl (fun c_1 => ?_) (fun c_1 => ?_)
  · replace h := of_ifp c_1 h
    exact x_vreturn (pc := 36) C dL_bound_36 (of_s1 h)
  · replace h := of_ifn c_1 h
    refine x_aload_n (pc := 13) C 1 dL_bound_13 rfl ?_
    refine x_iload_n (pc := 14) C 2 dL_bound_14 rfl ?_
    refine x_iconst (pc := 15) C (v := (0 : Int32)) dL_bound_15 rfl ?_
    refine x_iload (pc := 16) C 0 dL_bound_16 rfl ?_
    refine x_iload_n (pc := 18) C 3 dL_bound_18 rfl ?_
    refine x_isub (pc := 19) C dL_bound_19 ?_
    refine x_callS1 (pc := 20) C [.int (0 : Int32), .int (r_1 - p2)] [.int p1, .ref (b + 0)] (c_J9_max_7cf53 (b := b) (0 : Int32) (r_1 - p2) S_1) cw_L_51 vs_J9_max_7cf53 ⟨rfl, rfl, Nat.le_of_ble_eq_true rfl, Nat.le_of_ble_eq_true rfl⟩ ⟨Nat.le_refl _, Nat.le_refl _⟩ rfl ⟨rfl, Nat.le_of_ble_eq_true rfl⟩ dL_bound_20 (fun hx_4 => ?_)
    refine x_bipush (pc := 23) C (v := (99 : Int32)) dL_bound_23 rfl ?_
    refine x_iload (pc := 25) C 0 dL_bound_25 rfl ?_
    refine x_iload_n (pc := 27) C 4 dL_bound_27 rfl ?_
    refine x_iadd (pc := 28) C dL_bound_28 ?_
    refine x_callS1 (pc := 29) C [.int (99 : Int32), .int (r_1 + p3)] [.int (f_J9_max_7cf53 (0 : Int32) (r_1 - p2)), .int p1, .ref (b + 0)] (c_J9_min_7cf53 (b := b) (99 : Int32) (r_1 + p3) S_1) cw_L_56 vs_J9_min_7cf53 ⟨rfl, rfl, Nat.le_of_ble_eq_true rfl, Nat.le_of_ble_eq_true rfl⟩ ⟨Nat.le_refl _, Nat.le_refl _⟩ rfl ⟨rfl, Nat.le_of_ble_eq_true rfl⟩ dL_bound_29 (fun hx_5 => ?_)
    obtain ⟨⟨r_2, S_2⟩, hc_2, h⟩ := of_bd h
    replace h := of_u2 h
    refine x_callV1 (pc := 32) C (o := 0) [.int p1, .int (f_J9_max_7cf53 (0 : Int32) (r_1 - p2)), .int (f_J9_min_7cf53 (99 : Int32) (r_1 + p3))] [] (c_X6_bounds (b := b) p1 (f_J9_max_7cf53 (0 : Int32) (r_1 - p2)) (f_J9_min_7cf53 (99 : Int32) (r_1 + p3)) hO S_1 _ _ hc_2) cw_L_59 vi_X6_bounds ⟨rfl, rfl, Nat.le_of_ble_eq_true rfl, Nat.le_of_ble_eq_true rfl⟩ ⟨Nat.le_refl _, Nat.le_refl _⟩ hO.1 ⟨rfl, rfl, rfl⟩ rfl ⟨rfl, Nat.le_of_ble_eq_true rfl⟩ dL_bound_32 (fun hx_6 => ?_)
    refine x_pop (pc := 35) C dL_bound_35 rfl ?_
    exact x_vreturn (pc := 36) C dL_bound_36 (of_s1 h)
set_option maxRecDepth 100000 in
set_option maxHeartbeats 4000000 in
theorem c_L_cell {l : Launch} {G : zz_G} {L : Ly} {b : Nat} (ba : Nat) (Ls : Nat) (xs : Nat → Int32) (p1 : Int32) (S : Sg) (rf : Int32) (h : f_L_cell ba Ls xs p1 S = some rf) : Met l yL_cell (Cond.code yL_cell cL_cell 2 (some .int) :: zz_all) (rmz 0 0) (PS G L b S ba Ls xs [.ref ba, .int p1]) (QC G L b S (some (.int rf)) True) 0 0 (fun q => b ≤ q) := by
  refine x_metS [.ref ba, .int p1] (by decide +kernel) (Nat.le_of_ble_eq_true rfl) fun p e s m args below meth c C hX => ?_
  unfold f_L_cell at h
  refine x_iload_n (pc := 0) C 1 dL_cell_0 rfl ?_
  refine x_aload_n (pc := 1) C 0 dL_cell_1 rfl ?_
  refine x_scn (pc := 2) C hX dL_cell_2 ?_
  refine x_icmp_ge (pc := 3) C 12 dL_cell_3 rfl (fun c_1 => ?_) (fun c_1 => ?_)
  · replace h := of_ifn c_1 h
    refine x_sipush (pc := 12) C (v := (7919 : Int32)) dL_cell_12 rfl ?_
    refine x_iload_n (pc := 15) C 1 dL_cell_15 rfl ?_
    refine x_imul (pc := 16) C dL_cell_16 ?_
    refine x_bipush (pc := 17) C (v := (12 : Int32)) dL_cell_17 rfl ?_
    refine x_iadd (pc := 19) C dL_cell_19 ?_
    exact x_ireturn (pc := 20) C dL_cell_20 (of_s1 h) rfl
  · replace h := of_ifp c_1 h
    refine x_aload_n (pc := 6) C 0 dL_cell_6 rfl ?_
    refine x_iload_n (pc := 7) C 1 dL_cell_7 rfl ?_
    obtain ⟨g_1, h⟩ := of_gd h
    refine x_scl (pc := 8) C hX g_1 dL_cell_8 ?_
    refine x_goto (pc := 9) C 20 dL_cell_9 rfl ?_
    exact x_ireturn (pc := 20) C dL_cell_20 (of_s1 h) rfl
set_option maxRecDepth 100000 in
set_option maxHeartbeats 4000000 in
theorem c_L_pick {l : Launch} {G : zz_G} {L : Ly} {b : Nat} (p0 : Int32) (p1 : Int32) (S : Sg) (rf : Int32) (h : f_L_pick p0 p1 = some rf) : Met l yL_pick (Cond.code yL_pick cL_pick 2 (some .int) :: zz_all) (rmz 0 0) (PC G L b S [.int p0, .int p1]) (QC G L b S (some (.int rf)) True) 0 0 (fun q => b ≤ q) := by
  refine x_met [.int p0, .int p1] (by decide +kernel) (Nat.le_of_ble_eq_true rfl) fun p e s m args below meth c C => ?_
  unfold f_L_pick at h
  refine x_iload_n (pc := 0) C 0 dL_pick_0 rfl ?_
  refine x_ldc (pc := 1) C wd_447 dL_pick_1 ?_
  refine x_iand (pc := 3) C dL_pick_3 ?_
  refine x_iload_n (pc := 4) C 1 dL_pick_4 rfl ?_
  obtain ⟨g_1, h⟩ := of_gd h
  refine x_irem (pc := 5) C dL_pick_5 g_1 ?_
  exact x_ireturn (pc := 6) C dL_pick_6 (of_s1 h) rfl
set_option maxRecDepth 100000 in
set_option maxHeartbeats 4000000 in
theorem l_X2_make_3 {p : Program} {l : Launch} {e : Env} {s : State} {m : MethodId} {args : Array Value} {below : List Frame} {meth : Method} {c : Code} {G : zz_G} {L : Ly} {b : Nat} {Q : State → Prop} (C : CX p G s m args meth c cX2_make yX2_make 8 none) (o : Nat) (hO : isQ L o) (v1 : Int32) (v2 : Int32) (v3 : Int32) : ∀ (n : Nat) (v4 : Int32) (S : Sg) {z}, L_X2_make_3 o v1 v2 v3 n v4 S = some z → (∀ (S_o : Sg), z = S_o → X p l e (rmz 0 0) s m args below meth c 0 0 Q 8 G L b S_o 80 [] []) → X p l e (rmz 0 0) s m args below meth c 0 0 Q 8 G L b S 3 [(0, .ref (b + o)), (1, .int v1), (2, .int v2), (3, .int v3), (4, .int v4)] [] := by
  intro n
  induction n with
  | zero =>
    intro v4 S z h
    exact of_none h
  | succ n ih =>
    intro v4 S z h hx
    rw [L_X2_make_3] at h
    refine x_iload (pc := 3) C 4 dX2_make_3 rfl ?_
    refine x_bipush (pc := 5) C (v := (8 : Int32)) dX2_make_5 rfl ?_
    refine x_icmp_ge (pc := 7) C 80 dX2_make_7 rfl (fun c_1 => ?_) (fun c_1 => ?_)
    · replace h := of_ifn c_1 h
      exact x_sub [] rfl (hx _ (of_s1 h).symm)
    · replace h := of_ifp c_1 h
      refine x_iload_n (pc := 10) C 2 dX2_make_10 rfl ?_
      refine x_iload (pc := 11) C 4 dX2_make_11 rfl ?_
      refine x_ishr (pc := 13) C dX2_make_13 ?_
      refine x_iconst (pc := 14) C (v := (1 : Int32)) dX2_make_14 rfl ?_
      refine x_iand (pc := 15) C dX2_make_15 ?_
      obtain ⟨v5_1, ev5_1, h⟩ := of_lt h
      refine x_istore (pc := 16) C [(5, .int v5_1), (0, .ref (b + o)), (1, .int v1), (2, .int v2), (3, .int v3), (4, .int v4)] dX2_make_16 (Nat.le_of_ble_eq_true rfl) ev5_1 rfl ?_
      refine x_iload_n (pc := 18) C 4 dX2_make_18 rfl ?_
      refine x_iload (pc := 19) C 5 dX2_make_19 rfl ?_
      refine x_ishr (pc := 21) C dX2_make_21 ?_
      refine x_iconst (pc := 22) C (v := (1 : Int32)) dX2_make_22 rfl ?_
      refine x_iand (pc := 23) C dX2_make_23 ?_
      obtain ⟨v6_1, ev6_1, h⟩ := of_lt h
      refine x_istore (pc := 24) C [(6, .int v6_1), (5, .int v5_1), (0, .ref (b + o)), (1, .int v1), (2, .int v2), (3, .int v3), (4, .int v4)] dX2_make_24 (Nat.le_of_ble_eq_true rfl) ev6_1 rfl ?_
      refine x_iload (pc := 26) C 1 dX2_make_26 rfl ?_
      refine x_istore (pc := 28) C [(7, .int v5_1), (6, .int v6_1), (5, .int v5_1), (0, .ref (b + o)), (1, .int v1), (2, .int v2), (3, .int v3), (4, .int v4)] dX2_make_28 (Nat.le_of_ble_eq_true rfl) rfl rfl ?_
      refine x_iload_n (pc := 30) C 4 dX2_make_30 rfl ?_
      refine x_iconst (pc := 31) C (v := (1 : Int32)) dX2_make_31 rfl ?_
      refine x_icmp_ne (pc := 32) C 45 dX2_make_32 rfl (fun c_2 => ?_) (fun c_2 => ?_)
      · replace h := of_ifn c_2 h
        refine x_iload_n (pc := 45) C 4 dX2_make_45 rfl ?_
        refine x_iconst (pc := 46) C (v := (2 : Int32)) dX2_make_46 rfl ?_
        refine x_icmp_ne (pc := 47) C 65 dX2_make_47 rfl (fun c_3 => ?_) (fun c_3 => ?_)
        · replace h := of_ifn c_3 h
          refine x_aload_n (pc := 65) C 3 dX2_make_65 rfl ?_
          refine x_getr (pc := 66) C (k := 0) (o + 1) hO.1 rfl rfl wd_115 dX2_make_66 (Nat.le_of_ble_eq_true rfl) rfl ?_
          refine x_iload (pc := 69) C 7 dX2_make_69 rfl ?_
          refine x_iload (pc := 71) C 0 dX2_make_71 rfl ?_
          obtain ⟨g_1, h⟩ := of_gd h
          obtain ⟨S_1, eS_1, h⟩ := of_lt h
          refine x_iastore (pc := 73) C hO.2 g_1 eS_1 dX2_make_73 ?_
          obtain ⟨v4_1, ev4_1, h⟩ := of_lt h
          refine x_iinc (pc := 74) C (w := (1 : Int32)) 7 [(4, .int v4_1), (7, .int v5_1), (6, .int v6_1), (5, .int v5_1), (0, .ref (b + o)), (1, .int v1), (2, .int v2), (3, .int v3)] dX2_make_74 rfl rfl (Nat.le_of_ble_eq_true rfl) ev4_1 rfl ?_
          refine x_goto (pc := 77) C 3 dX2_make_77 rfl ?_
          exact x_sub [4, 5, 6, 7, 0] rfl (ih _ _ h hx)
        · replace h := of_ifp c_3 h
          refine x_iload_n (pc := 50) C 6 dX2_make_50 rfl ?_
          refine x_if_eq (pc := 51) C 65 dX2_make_51 rfl (fun c_4 => ?_) (fun c_4 => ?_)
          · replace h := of_ifp c_4 h
            refine x_aload_n (pc := 65) C 3 dX2_make_65 rfl ?_
            refine x_getr (pc := 66) C (k := 0) (o + 1) hO.1 rfl rfl wd_115 dX2_make_66 (Nat.le_of_ble_eq_true rfl) rfl ?_
            refine x_iload (pc := 69) C 7 dX2_make_69 rfl ?_
            refine x_iload (pc := 71) C 0 dX2_make_71 rfl ?_
            obtain ⟨g_2, h⟩ := of_gd h
            obtain ⟨S_2, eS_2, h⟩ := of_lt h
            refine x_iastore (pc := 73) C hO.2 g_2 eS_2 dX2_make_73 ?_
            obtain ⟨v4_2, ev4_2, h⟩ := of_lt h
            refine x_iinc (pc := 74) C (w := (1 : Int32)) 7 [(4, .int v4_2), (7, .int v5_1), (6, .int v6_1), (5, .int v5_1), (0, .ref (b + o)), (1, .int v1), (2, .int v2), (3, .int v3)] dX2_make_74 rfl rfl (Nat.le_of_ble_eq_true rfl) ev4_2 rfl ?_
            refine x_goto (pc := 77) C 3 dX2_make_77 rfl ?_
            exact x_sub [4, 5, 6, 7, 0] rfl (ih _ _ h hx)
          · replace h := of_ifn c_4 h
            refine x_iload (pc := 54) C 2 dX2_make_54 rfl ?_
            refine x_iconst (pc := 56) C (v := (1 : Int32)) dX2_make_56 rfl ?_
            refine x_iload (pc := 57) C 7 dX2_make_57 rfl ?_
            refine x_iload_n (pc := 59) C 6 dX2_make_59 rfl ?_
            obtain ⟨g_3, h⟩ := of_gd h
            refine x_irem (pc := 60) C dX2_make_60 g_3 ?_
            refine x_iadd (pc := 61) C dX2_make_61 ?_
            refine x_imul (pc := 62) C dX2_make_62 ?_
            obtain ⟨v7_1, ev7_1, h⟩ := of_lt h
            refine x_istore (pc := 63) C [(7, .int v7_1), (6, .int v6_1), (5, .int v5_1), (0, .ref (b + o)), (1, .int v1), (2, .int v2), (3, .int v3), (4, .int v4)] dX2_make_63 (Nat.le_of_ble_eq_true rfl) ev7_1 rfl ?_
            refine x_aload_n (pc := 65) C 3 dX2_make_65 rfl ?_
            refine x_getr (pc := 66) C (k := 0) (o + 1) hO.1 rfl rfl wd_115 dX2_make_66 (Nat.le_of_ble_eq_true rfl) rfl ?_
            refine x_iload (pc := 69) C 7 dX2_make_69 rfl ?_
            refine x_iload (pc := 71) C 0 dX2_make_71 rfl ?_
            obtain ⟨g_4, h⟩ := of_gd h
            obtain ⟨S_3, eS_3, h⟩ := of_lt h
            refine x_iastore (pc := 73) C hO.2 g_4 eS_3 dX2_make_73 ?_
            obtain ⟨v4_3, ev4_3, h⟩ := of_lt h
            refine x_iinc (pc := 74) C (w := (1 : Int32)) 7 [(4, .int v4_3), (7, .int v7_1), (6, .int v6_1), (5, .int v5_1), (0, .ref (b + o)), (1, .int v1), (2, .int v2), (3, .int v3)] dX2_make_74 rfl rfl (Nat.le_of_ble_eq_true rfl) ev4_3 rfl ?_
            refine x_goto (pc := 77) C 3 dX2_make_77 rfl ?_
            exact x_sub [4, 5, 6, 7, 0] rfl (ih _ _ h hx)
      · replace h := of_ifp c_2 h
        refine x_iload (pc := 35) C 2 dX2_make_35 rfl ?_
        refine x_iload (pc := 37) C 1 dX2_make_37 rfl ?_
        refine x_isub (pc := 39) C dX2_make_39 ?_
        obtain ⟨v7_2, ev7_2, h⟩ := of_lt h
        refine x_istore (pc := 40) C [(7, .int v7_2), (6, .int v6_1), (5, .int v5_1), (0, .ref (b + o)), (1, .int v1), (2, .int v2), (3, .int v3), (4, .int v4)] dX2_make_40 (Nat.le_of_ble_eq_true rfl) ev7_2 rfl ?_
        refine x_goto (pc := 42) C 65 dX2_make_42 rfl ?_
        refine x_aload_n (pc := 65) C 3 dX2_make_65 rfl ?_
        refine x_getr (pc := 66) C (k := 0) (o + 1) hO.1 rfl rfl wd_115 dX2_make_66 (Nat.le_of_ble_eq_true rfl) rfl ?_
        refine x_iload (pc := 69) C 7 dX2_make_69 rfl ?_
        refine x_iload (pc := 71) C 0 dX2_make_71 rfl ?_
        obtain ⟨g_5, h⟩ := of_gd h
        obtain ⟨S_4, eS_4, h⟩ := of_lt h
        refine x_iastore (pc := 73) C hO.2 g_5 eS_4 dX2_make_73 ?_
        obtain ⟨v4_4, ev4_4, h⟩ := of_lt h
        refine x_iinc (pc := 74) C (w := (1 : Int32)) 7 [(4, .int v4_4), (7, .int v7_2), (6, .int v6_1), (5, .int v5_1), (0, .ref (b + o)), (1, .int v1), (2, .int v2), (3, .int v3)] dX2_make_74 rfl rfl (Nat.le_of_ble_eq_true rfl) ev4_4 rfl ?_
        refine x_goto (pc := 77) C 3 dX2_make_77 rfl ?_
        exact x_sub [4, 5, 6, 7, 0] rfl (ih _ _ h hx)
set_option maxRecDepth 100000 in
set_option maxHeartbeats 4000000 in
theorem c_X2_make {l : Launch} {G : zz_G} {L : Ly} {b : Nat} (o : Nat) (p1 : Int32) (p2 : Int32) (p3 : Int32) (hO : isQ L o) (S : Sg) (Sf : Sg) (h : f_X2_make o p1 p2 p3 S = some Sf) : Met l yX2_make (Cond.code yX2_make cX2_make 8 none :: zz_all) (rmz 0 0) (PC G L b S [.ref (b + o), .int p1, .int p2, .int p3]) (QC G L b Sf none True) 0 0 (fun q => b ≤ q) := by
  refine x_met [.ref (b + o), .int p1, .int p2, .int p3] (by decide +kernel) (Nat.le_of_ble_eq_true rfl) fun p e s m args below meth c C => ?_
  unfold f_X2_make at h
  refine x_iconst (pc := 0) C (v := (0 : Int32)) dX2_make_0 rfl ?_
  refine x_istore (pc := 1) C [(4, .int (0 : Int32)), (0, .ref (b + o)), (1, .int p1), (2, .int p2), (3, .int p3)] dX2_make_1 (Nat.le_of_ble_eq_true rfl) rfl rfl ?_
  refine x_sub [1, 2, 3, 4, 0] rfl ?_
  obtain ⟨z_hz_1, hz_1, h⟩ := of_bd h
  refine l_X2_make_3 C o hO p1 p2 p3 400 _ _ hz_1 (fun S_1 ez => ?_)
  subst z_hz_1
  exact x_vreturn (pc := 80) C dX2_make_80 (of_s1 h)
