set_option maxRecDepth 100000 in
set_option maxHeartbeats 4000000 in
theorem c_X7_isOrder {l : Launch} {G : zz_G} {L : Ly} {b : Nat} (p0 : Int32) (S : Sg) (rf : Int32) (h : f_X7_isOrder p0 = some rf) : Met l yX7_isOrder (Cond.code yX7_isOrder cX7_isOrder 1 (some .boolean) :: zz_all) (rmz 0 0) (PC G L b S [.int p0]) (QC G L b S (some (.int rf)) (rf = 0 ∨ rf = 1)) 0 0 (fun q => b ≤ q) := by
  refine x_met [.int p0] (by decide +kernel) (Nat.le_of_ble_eq_true rfl) fun p e s m args below meth c C => ?_
  unfold f_X7_isOrder at h
  refine x_iload_n (pc := 0) C 0 dX7_isOrder_0 rfl ?_
  refine x_bipush (pc := 1) C (v := (100 : Int32)) dX7_isOrder_1 rfl ?_
  refine x_idiv (pc := 3) C dX7_isOrder_3 (by decide) ?_
  refine x_iconst (pc := 4) C (v := (3 : Int32)) dX7_isOrder_4 rfl ?_
  obtain ⟨x_1, ex_1, h⟩ := of_lt h
  have kd_1 : X p l e (rmz 0 0) s m args below meth c 0 0 (RQ G L b S below args s (some (.int rf)) (rf = 0 ∨ rf = 1)) 1 G L b S 60 [] [.int x_1] := by
    exact x_zreturn (pc := 60) C (ex_1 ▸ (if01 (if01 (if01 (if01 (by decide) (by decide)) (by decide)) (by decide)) (by decide))) dX7_isOrder_60 (of_s1 h) rfl
  refine x_icmp_ge (pc := 5) C 59 dX7_isOrder_5 rfl (fun c_1 => ?_) (fun c_1 => ?_)
  · refine x_iconst (pc := 59) C (v := (0 : Int32)) dX7_isOrder_59 rfl ?_
    refine x_sub [] rfl ?_
    rw [show x_1 = (0 : Int32) from (ex_1.trans (if_neg c_1))] at kd_1
    exact kd_1
  · refine x_iload_n (pc := 8) C 0 dX7_isOrder_8 rfl ?_
    refine x_bipush (pc := 9) C (v := (10 : Int32)) dX7_isOrder_9 rfl ?_
    refine x_idiv (pc := 11) C dX7_isOrder_11 (by decide) ?_
    refine x_bipush (pc := 12) C (v := (10 : Int32)) dX7_isOrder_12 rfl ?_
    refine x_irem (pc := 14) C dX7_isOrder_14 (by decide) ?_
    refine x_iconst (pc := 15) C (v := (3 : Int32)) dX7_isOrder_15 rfl ?_
    refine x_icmp_ge (pc := 16) C 59 dX7_isOrder_16 rfl (fun c_2 => ?_) (fun c_2 => ?_)
    · refine x_iconst (pc := 59) C (v := (0 : Int32)) dX7_isOrder_59 rfl ?_
      refine x_sub [] rfl ?_
      rw [show x_1 = (0 : Int32) from ((ex_1.trans (if_pos c_1)).trans (if_neg c_2))] at kd_1
      exact kd_1
    · refine x_iload_n (pc := 19) C 0 dX7_isOrder_19 rfl ?_
      refine x_bipush (pc := 20) C (v := (10 : Int32)) dX7_isOrder_20 rfl ?_
      refine x_irem (pc := 22) C dX7_isOrder_22 (by decide) ?_
      refine x_iconst (pc := 23) C (v := (3 : Int32)) dX7_isOrder_23 rfl ?_
      refine x_icmp_ge (pc := 24) C 59 dX7_isOrder_24 rfl (fun c_3 => ?_) (fun c_3 => ?_)
      · refine x_iconst (pc := 59) C (v := (0 : Int32)) dX7_isOrder_59 rfl ?_
        refine x_sub [] rfl ?_
        rw [show x_1 = (0 : Int32) from (((ex_1.trans (if_pos c_1)).trans (if_pos c_2)).trans (if_neg c_3))] at kd_1
        exact kd_1
      · refine x_iconst (pc := 27) C (v := (1 : Int32)) dX7_isOrder_27 rfl ?_
        refine x_iload_n (pc := 28) C 0 dX7_isOrder_28 rfl ?_
        refine x_bipush (pc := 29) C (v := (100 : Int32)) dX7_isOrder_29 rfl ?_
        refine x_idiv (pc := 31) C dX7_isOrder_31 (by decide) ?_
        refine x_ishl (pc := 32) C dX7_isOrder_32 ?_
        refine x_iconst (pc := 33) C (v := (1 : Int32)) dX7_isOrder_33 rfl ?_
        refine x_iload_n (pc := 34) C 0 dX7_isOrder_34 rfl ?_
        refine x_bipush (pc := 35) C (v := (10 : Int32)) dX7_isOrder_35 rfl ?_
        refine x_idiv (pc := 37) C dX7_isOrder_37 (by decide) ?_
        refine x_bipush (pc := 38) C (v := (10 : Int32)) dX7_isOrder_38 rfl ?_
        refine x_irem (pc := 40) C dX7_isOrder_40 (by decide) ?_
        refine x_ishl (pc := 41) C dX7_isOrder_41 ?_
        refine x_ior (pc := 42) C dX7_isOrder_42 ?_
        refine x_iconst (pc := 43) C (v := (1 : Int32)) dX7_isOrder_43 rfl ?_
        refine x_iload_n (pc := 44) C 0 dX7_isOrder_44 rfl ?_
        refine x_bipush (pc := 45) C (v := (10 : Int32)) dX7_isOrder_45 rfl ?_
        refine x_irem (pc := 47) C dX7_isOrder_47 (by decide) ?_
        refine x_ishl (pc := 48) C dX7_isOrder_48 ?_
        refine x_ior (pc := 49) C dX7_isOrder_49 ?_
        refine x_bipush (pc := 50) C (v := (7 : Int32)) dX7_isOrder_50 rfl ?_
        refine x_icmp_ne (pc := 52) C 59 dX7_isOrder_52 rfl (fun c_4 => ?_) (fun c_4 => ?_)
        · refine x_iconst (pc := 59) C (v := (0 : Int32)) dX7_isOrder_59 rfl ?_
          refine x_sub [] rfl ?_
          rw [show x_1 = (0 : Int32) from ((((ex_1.trans (if_pos c_1)).trans (if_pos c_2)).trans (if_pos c_3)).trans (if_neg c_4))] at kd_1
          exact kd_1
        · refine x_iconst (pc := 55) C (v := (1 : Int32)) dX7_isOrder_55 rfl ?_
          refine x_goto (pc := 56) C 60 dX7_isOrder_56 rfl ?_
          refine x_sub [] rfl ?_
          rw [show x_1 = (1 : Int32) from ((((ex_1.trans (if_pos c_1)).trans (if_pos c_2)).trans (if_pos c_3)).trans (if_pos c_4))] at kd_1
          exact kd_1
set_option maxRecDepth 100000 in
set_option maxHeartbeats 4000000 in
theorem l_X7_isRowQuestions_2 {p : Program} {l : Launch} {e : Env} {s : State} {m : MethodId} {args : Array Value} {below : List Frame} {meth : Method} {c : Code} {G : zz_G} {L : Ly} {b : Nat} (C : CX p G s m args meth c cX7_isRowQuestions yX7_isRowQuestions 2 (some .boolean)) (hO : isMo L) (S : Sg) (rf : Int32) : ∀ (n : Nat) (v1 : Int32) {z}, L_X7_isRowQuestions_2 S n v1 = some z → (∀ q, z = .inl q → q = rf) → (z = .inr () → X p l e (rmz 0 0) s m args below meth c 0 0 (RQ G L b S below args s (some (.int rf)) (rf = 0 ∨ rf = 1)) 2 G L b S 27 [(0, .ref (b + 140))] []) → X p l e (rmz 0 0) s m args below meth c 0 0 (RQ G L b S below args s (some (.int rf)) (rf = 0 ∨ rf = 1)) 2 G L b S 2 [(0, .ref (b + 140)), (1, .int v1)] [] := by
  intro n
  induction n with
  | zero =>
    intro v1 z h
    exact of_none h
  | succ n ih =>
    intro v1 z h hr hx
    rw [L_X7_isRowQuestions_2] at h
    refine x_iload_n (pc := 2) C 1 dX7_isRowQuestions_2 rfl ?_
    refine x_aload_n (pc := 3) C 0 dX7_isRowQuestions_3 rfl ?_
    refine x_geti (pc := 4) C (k := 39) hO.1 rfl rfl wd_767 dX7_isRowQuestions_4 ⟨Nat.le_of_ble_eq_true rfl, rfl⟩ ?_
    refine x_icmp_ge (pc := 7) C 27 dX7_isRowQuestions_7 rfl (fun c_1 => ?_) (fun c_1 => ?_)
    · replace h := of_ifn c_1 h
      exact x_sub [0] rfl (hx (of_s1 h).symm)
    · replace h := of_ifp c_1 h
      refine x_aload_n (pc := 10) C 0 dX7_isRowQuestions_10 rfl ?_
      refine x_getr (pc := 11) C (k := 38) 165 hO.1 rfl rfl wd_766 dX7_isRowQuestions_11 (Nat.le_of_ble_eq_true rfl) rfl ?_
      refine x_iload_n (pc := 14) C 1 dX7_isRowQuestions_14 rfl ?_
      obtain ⟨g_1, h⟩ := of_gd h
      refine x_iaload (pc := 15) C hO.2.2.2.2.2.2.2.2.2.2.2.2.2.2.2.2.2.2.2.2.2.2.2.2.2 g_1 dX7_isRowQuestions_15 ?_
      refine x_if_ne (pc := 16) C 21 dX7_isRowQuestions_16 rfl (fun c_2 => ?_) (fun c_2 => ?_)
      · replace h := of_ifn c_2 h
        obtain ⟨v1_1, ev1_1, h⟩ := of_lt h
        refine x_iinc (pc := 21) C (w := (2 : Int32)) 1 [(1, .int v1_1), (0, .ref (b + 140))] dX7_isRowQuestions_21 rfl rfl (Nat.le_of_ble_eq_true rfl) ev1_1 rfl ?_
        refine x_goto (pc := 24) C 2 dX7_isRowQuestions_24 rfl ?_
        exact x_sub [1, 0] rfl (ih _ h hr hx)
      · replace h := of_ifp c_2 h
        refine x_iconst (pc := 19) C (v := (0 : Int32)) dX7_isRowQuestions_19 rfl ?_
        have hq := hr _ (of_s1 h).symm
        exact x_zreturn (pc := 20) C (by decide) dX7_isRowQuestions_20 hq rfl
set_option maxRecDepth 100000 in
set_option maxHeartbeats 4000000 in
theorem c_X7_isRowQuestions {l : Launch} {G : zz_G} {L : Ly} {b : Nat} (hO : isMo L) (S : Sg) (rf : Int32) (h : f_X7_isRowQuestions S = some rf) : Met l yX7_isRowQuestions (Cond.code yX7_isRowQuestions cX7_isRowQuestions 2 (some .boolean) :: zz_all) (rmz 0 0) (PC G L b S [.ref (b + 140)]) (QC G L b S (some (.int rf)) (rf = 0 ∨ rf = 1)) 0 0 (fun q => b ≤ q) := by
  refine x_met [.ref (b + 140)] (by decide +kernel) (Nat.le_of_ble_eq_true rfl) fun p e s m args below meth c C => ?_
  unfold f_X7_isRowQuestions at h
  refine x_iconst (pc := 0) C (v := (0 : Int32)) dX7_isRowQuestions_0 rfl ?_
  refine x_istore_n (pc := 1) C 1 [(1, .int (0 : Int32)), (0, .ref (b + 140))] dX7_isRowQuestions_1 rfl (Nat.le_of_ble_eq_true rfl) rfl rfl ?_
  refine x_sub [1, 0] rfl ?_
  obtain ⟨z_hz_1, hz_1, hl, hrr⟩ := of_bs h
  refine l_X7_isRowQuestions_2 C hO S rf 400 _ hz_1 (fun q ez => of_s1 (hl _ ez)) (fun ez => ?_)
  replace h := hrr _ ez
  clear hl hrr
  refine x_aload_n (pc := 27) C 0 dX7_isRowQuestions_27 rfl ?_
  refine x_geti (pc := 28) C (k := 39) hO.1 rfl rfl wd_767 dX7_isRowQuestions_28 ⟨Nat.le_of_ble_eq_true rfl, rfl⟩ ?_
  refine x_iconst (pc := 31) C (v := (2 : Int32)) dX7_isRowQuestions_31 rfl ?_
  refine x_irem (pc := 32) C dX7_isRowQuestions_32 (by decide) ?_
  obtain ⟨x_1, ex_1, h⟩ := of_lt h
  have kd_1 : X p l e (rmz 0 0) s m args below meth c 0 0 (RQ G L b S below args s (some (.int rf)) (rf = 0 ∨ rf = 1)) 2 G L b S 41 [] [.int x_1] := by
    exact x_zreturn (pc := 41) C (ex_1 ▸ (if01 (by decide) (by decide))) dX7_isRowQuestions_41 (of_s1 h) rfl
  refine x_if_ne (pc := 33) C 40 dX7_isRowQuestions_33 rfl (fun c_1 => ?_) (fun c_1 => ?_)
  · refine x_iconst (pc := 40) C (v := (0 : Int32)) dX7_isRowQuestions_40 rfl ?_
    refine x_sub [] rfl ?_
    rw [show x_1 = (0 : Int32) from (ex_1.trans (if_neg c_1))] at kd_1
    exact kd_1
  · refine x_iconst (pc := 36) C (v := (1 : Int32)) dX7_isRowQuestions_36 rfl ?_
    refine x_goto (pc := 37) C 41 dX7_isRowQuestions_37 rfl ?_
    refine x_sub [] rfl ?_
    rw [show x_1 = (1 : Int32) from (ex_1.trans (if_pos c_1))] at kd_1
    exact kd_1
set_option maxRecDepth 100000 in
set_option maxHeartbeats 4000000 in
theorem c_X7_joinsIn {l : Launch} {G : zz_G} {L : Ly} {b : Nat} (p1 : Int32) (hO : isMo L) (S : Sg) (rf : Int32) (Sf : Sg) (h : f_X7_joinsIn p1 S = some (rf, Sf)) : Met l yX7_joinsIn (Cond.code yX7_joinsIn cX7_joinsIn 3 (some .int) :: zz_all) (rmz 10 238) (PC G L b S [.ref (b + 140), .int p1]) (QC G L b Sf (some (.int rf)) True) 0 0 (fun q => b ≤ q) := by
  refine x_met [.ref (b + 140), .int p1] (by decide +kernel) (Nat.le_of_ble_eq_true rfl) fun p e s m args below meth c C => ?_
  unfold f_X7_joinsIn at h
  refine x_aload_n (pc := 0) C 0 dX7_joinsIn_0 rfl ?_
  obtain ⟨S_1, hc_1, h⟩ := of_bd h
  refine x_callV_ (pc := 1) C (o := 140) [] [] (c_X7_minds (b := b) hO S _ hc_1) cw_X7_341 vi_X7_minds ⟨rfl, rfl, Nat.le_of_ble_eq_true rfl, Nat.le_of_ble_eq_true rfl⟩ ⟨Nat.le_refl _, Nat.le_refl _⟩ hO.1 ⟨rfl, rfl, rfl⟩ rfl ⟨rfl, Nat.le_of_ble_eq_true rfl⟩ dX7_joinsIn_1 (fun hx_1 => ?_)
  refine x_aload_n (pc := 4) C 0 dX7_joinsIn_4 rfl ?_
  refine x_aload_n (pc := 5) C 0 dX7_joinsIn_5 rfl ?_
  refine x_getr (pc := 6) C (k := 36) 163 hO.1 rfl rfl wd_764 dX7_joinsIn_6 (Nat.le_of_ble_eq_true rfl) rfl ?_
  refine x_iload_n (pc := 9) C 1 dX7_joinsIn_9 rfl ?_
  refine x_bipush (pc := 10) C (v := (100 : Int32)) dX7_joinsIn_10 rfl ?_
  refine x_idiv (pc := 12) C dX7_joinsIn_12 (by decide) ?_
  obtain ⟨g_1, h⟩ := of_gd h
  refine x_iaload (pc := 13) C hO.2.2.2.2.2.2.2.2.2.2.2.2.2.2.2.2.2.2.2.2.2.2.2.1 g_1 dX7_joinsIn_13 ?_
  obtain ⟨⟨r_1, S_2⟩, hc_2, h⟩ := of_bd h
  replace h := of_u2 h
  refine x_callV1 (pc := 14) C (o := 140) [.int (S_1.1 163 (ix (p1 / (100 : Int32))))] [] (c_X7_asksSum (b := b) (S_1.1 163 (ix (p1 / (100 : Int32)))) hO S_1 _ _ hc_2) cw_X7_350 vi_X7_asksSum ⟨rfl, rfl, Nat.le_of_ble_eq_true rfl, Nat.le_of_ble_eq_true rfl⟩ ⟨Nat.le_refl _, Nat.le_refl _⟩ hO.1 ⟨rfl, rfl, rfl⟩ rfl ⟨rfl, Nat.le_of_ble_eq_true rfl⟩ dX7_joinsIn_14 (fun hx_2 => ?_)
  refine x_iconst (pc := 17) C (v := (1 : Int32)) dX7_joinsIn_17 rfl ?_
  obtain ⟨x_1, ex_1, h⟩ := of_lt h
  have kd_1 : X p l e (rmz 10 238) s m args below meth c 0 0 (RQ G L b Sf below args s (some (.int rf)) True) 3 G L b S_2 26 [(0, .ref (b + 140)), (1, .int p1)] [.int x_1] := by
    refine x_istore_n (pc := 26) C 2 [(2, .int x_1), (0, .ref (b + 140)), (1, .int p1)] dX7_joinsIn_26 rfl (Nat.le_of_ble_eq_true rfl) rfl rfl ?_
    refine x_iload_n (pc := 27) C 0 dX7_joinsIn_27 rfl ?_
    refine x_aload_n (pc := 28) C 1 dX7_joinsIn_28 rfl ?_
    refine x_aload_n (pc := 29) C 1 dX7_joinsIn_29 rfl ?_
    refine x_getr (pc := 30) C (k := 36) 163 hO.1 rfl rfl wd_764 dX7_joinsIn_30 (Nat.le_of_ble_eq_true rfl) rfl ?_
    refine x_iload_n (pc := 33) C 2 dX7_joinsIn_33 rfl ?_
    refine x_bipush (pc := 34) C (v := (10 : Int32)) dX7_joinsIn_34 rfl ?_
    refine x_idiv (pc := 36) C dX7_joinsIn_36 (by decide) ?_
    refine x_bipush (pc := 37) C (v := (10 : Int32)) dX7_joinsIn_37 rfl ?_
    refine x_irem (pc := 39) C dX7_joinsIn_39 (by decide) ?_
    obtain ⟨g_2, h⟩ := of_gd h
    refine x_iaload (pc := 40) C hO.2.2.2.2.2.2.2.2.2.2.2.2.2.2.2.2.2.2.2.2.2.2.2.1 g_2 dX7_joinsIn_40 ?_
    obtain ⟨⟨r_2, S_3⟩, hc_3, h⟩ := of_bd h
    replace h := of_u2 h
    refine x_callV1 (pc := 41) C (o := 140) [.int (S_2.1 163 (ix (irem (p1 / (10 : Int32)) (10 : Int32))))] [.int x_1] (c_X7_asksSum (b := b) (S_2.1 163 (ix (irem (p1 / (10 : Int32)) (10 : Int32)))) hO S_2 _ _ hc_3) cw_X7_350 vi_X7_asksSum ⟨rfl, rfl, Nat.le_of_ble_eq_true rfl, Nat.le_of_ble_eq_true rfl⟩ ⟨Nat.le_refl _, Nat.le_refl _⟩ hO.1 ⟨rfl, rfl, rfl⟩ rfl ⟨rfl, Nat.le_of_ble_eq_true rfl⟩ dX7_joinsIn_41 (fun hx_3 => ?_)
    refine x_iconst (pc := 44) C (v := (1 : Int32)) dX7_joinsIn_44 rfl ?_
    obtain ⟨x_2, ex_2, h⟩ := of_lt h
    have kd_2 : X p l e (rmz 10 238) s m args below meth c 0 0 (RQ G L b Sf below args s (some (.int rf)) True) 3 G L b S_3 53 [(0, .ref (b + 140)), (1, .int p1)] [.int x_2, .int x_1] := by
      refine x_iadd (pc := 53) C dX7_joinsIn_53 ?_
      obtain ⟨v2_1, ev2_1, h⟩ := of_lt h
      refine x_istore_n (pc := 54) C 2 [(2, .int v2_1), (0, .ref (b + 140)), (1, .int p1)] dX7_joinsIn_54 rfl (Nat.le_of_ble_eq_true rfl) ev2_1 rfl ?_
      refine x_iload_n (pc := 55) C 0 dX7_joinsIn_55 rfl ?_
      refine x_aload_n (pc := 56) C 1 dX7_joinsIn_56 rfl ?_
      refine x_aload_n (pc := 57) C 1 dX7_joinsIn_57 rfl ?_
      refine x_getr (pc := 58) C (k := 36) 163 hO.1 rfl rfl wd_764 dX7_joinsIn_58 (Nat.le_of_ble_eq_true rfl) rfl ?_
      refine x_iload_n (pc := 61) C 2 dX7_joinsIn_61 rfl ?_
      refine x_bipush (pc := 62) C (v := (10 : Int32)) dX7_joinsIn_62 rfl ?_
      refine x_irem (pc := 64) C dX7_joinsIn_64 (by decide) ?_
      obtain ⟨g_3, h⟩ := of_gd h
      refine x_iaload (pc := 65) C hO.2.2.2.2.2.2.2.2.2.2.2.2.2.2.2.2.2.2.2.2.2.2.2.1 g_3 dX7_joinsIn_65 ?_
      obtain ⟨⟨r_3, S_4⟩, hc_4, h⟩ := of_bd h
      replace h := of_u2 h
      refine x_callV1 (pc := 66) C (o := 140) [.int (S_3.1 163 (ix (irem p1 (10 : Int32))))] [.int v2_1] (c_X7_asksSum (b := b) (S_3.1 163 (ix (irem p1 (10 : Int32)))) hO S_3 _ _ hc_4) cw_X7_350 vi_X7_asksSum ⟨rfl, rfl, Nat.le_of_ble_eq_true rfl, Nat.le_of_ble_eq_true rfl⟩ ⟨Nat.le_refl _, Nat.le_refl _⟩ hO.1 ⟨rfl, rfl, rfl⟩ rfl ⟨rfl, Nat.le_of_ble_eq_true rfl⟩ dX7_joinsIn_66 (fun hx_4 => ?_)
      refine x_iconst (pc := 69) C (v := (1 : Int32)) dX7_joinsIn_69 rfl ?_
      obtain ⟨x_3, ex_3, h⟩ := of_lt h
      have kd_3 : X p l e (rmz 10 238) s m args below meth c 0 0 (RQ G L b Sf below args s (some (.int rf)) True) 3 G L b S_4 78 [(0, .ref (b + 140))] [.int x_3, .int v2_1] := by
        refine x_iadd (pc := 78) C dX7_joinsIn_78 ?_
        obtain ⟨v2_2, ev2_2, h⟩ := of_lt h
        refine x_istore_n (pc := 79) C 2 [(2, .int v2_2), (0, .ref (b + 140))] dX7_joinsIn_79 rfl (Nat.le_of_ble_eq_true rfl) ev2_2 rfl ?_
        refine x_aload_n (pc := 80) C 1 dX7_joinsIn_80 rfl ?_
        obtain ⟨S_5, hc_5, h⟩ := of_bd h
        refine x_callV_ (pc := 81) C (o := 140) [] [] (c_X7_forgets (b := b) hO S_4 _ hc_5) cw_X7_347 vi_X7_forgets ⟨rfl, rfl, Nat.le_of_ble_eq_true rfl, Nat.le_of_ble_eq_true rfl⟩ ⟨Nat.le_refl _, Nat.le_refl _⟩ hO.1 ⟨rfl, rfl, rfl⟩ rfl ⟨rfl, Nat.le_of_ble_eq_true rfl⟩ dX7_joinsIn_81 (fun hx_5 => ?_)
        refine x_iload_n (pc := 84) C 0 dX7_joinsIn_84 rfl ?_
        exact x_ireturn (pc := 85) C dX7_joinsIn_85 (of_sp h).1 (of_sp h).2
      refine x_icmp_ne (pc := 70) C 77 dX7_joinsIn_70 rfl (fun c_1 => ?_) (fun c_1 => ?_)
      · refine x_iconst (pc := 77) C (v := (0 : Int32)) dX7_joinsIn_77 rfl ?_
        refine x_sub [1] rfl ?_
        rw [show x_3 = (0 : Int32) from (ex_3.trans (if_neg c_1))] at kd_3
        exact kd_3
      · refine x_iconst (pc := 73) C (v := (1 : Int32)) dX7_joinsIn_73 rfl ?_
        refine x_goto (pc := 74) C 78 dX7_joinsIn_74 rfl ?_
        refine x_sub [1] rfl ?_
        rw [show x_3 = (1 : Int32) from (ex_3.trans (if_pos c_1))] at kd_3
        exact kd_3
    refine x_icmp_ne (pc := 45) C 52 dX7_joinsIn_45 rfl (fun c_2 => ?_) (fun c_2 => ?_)
    · refine x_iconst (pc := 52) C (v := (0 : Int32)) dX7_joinsIn_52 rfl ?_
      refine x_sub [1, 2] rfl ?_
      rw [show x_2 = (0 : Int32) from (ex_2.trans (if_neg c_2))] at kd_2
      exact kd_2
    · refine x_iconst (pc := 48) C (v := (1 : Int32)) dX7_joinsIn_48 rfl ?_
      refine x_goto (pc := 49) C 53 dX7_joinsIn_49 rfl ?_
      refine x_sub [1, 2] rfl ?_
      rw [show x_2 = (1 : Int32) from (ex_2.trans (if_pos c_2))] at kd_2
      exact kd_2
  refine x_icmp_ne (pc := 18) C 25 dX7_joinsIn_18 rfl (fun c_3 => ?_) (fun c_3 => ?_)
  · refine x_iconst (pc := 25) C (v := (0 : Int32)) dX7_joinsIn_25 rfl ?_
    refine x_sub [0, 1] rfl ?_
    rw [show x_1 = (0 : Int32) from (ex_1.trans (if_neg c_3))] at kd_1
    exact kd_1
  · refine x_iconst (pc := 21) C (v := (1 : Int32)) dX7_joinsIn_21 rfl ?_
    refine x_goto (pc := 22) C 26 dX7_joinsIn_22 rfl ?_
    refine x_sub [0, 1] rfl ?_
    rw [show x_1 = (1 : Int32) from (ex_1.trans (if_pos c_3))] at kd_1
    exact kd_1
set_option maxRecDepth 100000 in
set_option maxHeartbeats 4000000 in
theorem l_X7_judge_12 {p : Program} {l : Launch} {e : Env} {s : State} {m : MethodId} {args : Array Value} {below : List Frame} {meth : Method} {c : Code} {G : zz_G} {L : Ly} {b : Nat} (C : CX p G s m args meth c cX7_judge yX7_judge 3 (some .int)) (hO : isMo L) (v1 : Int32) (S : Sg) (rf : Int32) (Sf : Sg) : ∀ (n : Nat) (v2 : Int32) {z}, L_X7_judge_12 v1 S n v2 = some z → (∀ q, z = .inl q → q.1 = rf ∧ q.2 = Sf) → (z = .inr () → X p l e (rmz 1 24) s m args below meth c 0 0 (RQ G L b Sf below args s (some (.int rf)) True) 3 G L b S 43 [] []) → X p l e (rmz 1 24) s m args below meth c 0 0 (RQ G L b Sf below args s (some (.int rf)) True) 3 G L b S 12 [(0, .ref (b + 140)), (1, .int v1), (2, .int v2)] [] := by
  intro n
  induction n with
  | zero =>
    intro v2 z h
    exact of_none h
  | succ n ih =>
    intro v2 z h hr hx
    rw [L_X7_judge_12] at h
    refine x_iload_n (pc := 12) C 2 dX7_judge_12 rfl ?_
    refine x_aload_n (pc := 13) C 0 dX7_judge_13 rfl ?_
    refine x_geti (pc := 14) C (k := 8) hO.1 rfl rfl wd_736 dX7_judge_14 ⟨Nat.le_of_ble_eq_true rfl, rfl⟩ ?_
    refine x_icmp_ge (pc := 17) C 43 dX7_judge_17 rfl (fun c_1 => ?_) (fun c_1 => ?_)
    · replace h := of_ifn c_1 h
      exact x_sub [] rfl (hx (of_s1 h).symm)
    · replace h := of_ifp c_1 h
      refine x_aload_n (pc := 20) C 0 dX7_judge_20 rfl ?_
      refine x_iload_n (pc := 21) C 2 dX7_judge_21 rfl ?_
      refine x_iload_n (pc := 22) C 1 dX7_judge_22 rfl ?_
      obtain ⟨r_1, hc_1, h⟩ := of_bd h
      refine x_callV1 (pc := 23) C (o := 140) [.int v2, .int v1] [] (c_X7_answerBy (b := b) v2 v1 hO S _ hc_1) cw_X7_376 vi_X7_answerBy ⟨rfl, rfl, Nat.le_of_ble_eq_true rfl, Nat.le_of_ble_eq_true rfl⟩ ⟨Nat.le_refl _, Nat.le_refl _⟩ hO.1 ⟨rfl, rfl, rfl⟩ rfl ⟨rfl, Nat.le_of_ble_eq_true rfl⟩ dX7_judge_23 (fun hx_1 => ?_)
      refine x_aload_n (pc := 26) C 0 dX7_judge_26 rfl ?_
      refine x_getr (pc := 27) C (k := 6) 147 hO.1 rfl rfl wd_734 dX7_judge_27 (Nat.le_of_ble_eq_true rfl) rfl ?_
      refine x_iload_n (pc := 30) C 2 dX7_judge_30 rfl ?_
      obtain ⟨g_1, h⟩ := of_gd h
      refine x_iaload (pc := 31) C hO.2.2.2.2.2.2.2.1 g_1 dX7_judge_31 ?_
      refine x_icmp_eq (pc := 32) C 37 dX7_judge_32 rfl (fun c_2 => ?_) (fun c_2 => ?_)
      · replace h := of_ifp c_2 h
        obtain ⟨v2_1, ev2_1, h⟩ := of_lt h
        refine x_iinc (pc := 37) C (w := (1 : Int32)) 2 [(2, .int v2_1), (0, .ref (b + 140)), (1, .int v1)] dX7_judge_37 rfl rfl (Nat.le_of_ble_eq_true rfl) ev2_1 rfl ?_
        refine x_goto (pc := 40) C 12 dX7_judge_40 rfl ?_
        exact x_sub [1, 2, 0] rfl (ih _ h hr hx)
      · replace h := of_ifn c_2 h
        refine x_iload_n (pc := 35) C 2 dX7_judge_35 rfl ?_
        have hq := hr _ (of_s1 h).symm
        exact x_ireturn (pc := 36) C dX7_judge_36 hq.1 hq.2
set_option maxRecDepth 100000 in
set_option maxHeartbeats 4000000 in
theorem c_X7_judge {l : Launch} {G : zz_G} {L : Ly} {b : Nat} (hO : isMo L) (S : Sg) (rf : Int32) (Sf : Sg) (h : f_X7_judge S = some (rf, Sf)) : Met l yX7_judge (Cond.code yX7_judge cX7_judge 3 (some .int) :: zz_all) (rmz 1 24) (PC G L b S [.ref (b + 140)]) (QC G L b Sf (some (.int rf)) True) 0 0 (fun q => b ≤ q) := by
  refine x_met [.ref (b + 140)] (by decide +kernel) (Nat.le_of_ble_eq_true rfl) fun p e s m args below meth c C => ?_
  unfold f_X7_judge at h
  refine x_aload_n (pc := 0) C 0 dX7_judge_0 rfl ?_
  refine x_geti (pc := 1) C (k := 39) hO.1 rfl rfl wd_767 dX7_judge_1 ⟨Nat.le_of_ble_eq_true rfl, rfl⟩ ?_
  obtain ⟨v1_1, ev1_1, h⟩ := of_lt h
  refine x_istore_n (pc := 4) C 1 [(1, .int v1_1), (0, .ref (b + 140))] dX7_judge_4 rfl (Nat.le_of_ble_eq_true rfl) ev1_1 rfl ?_
  refine x_aload_n (pc := 5) C 1 dX7_judge_5 rfl ?_
  refine x_iconst (pc := 6) C (v := (0 : Int32)) dX7_judge_6 rfl ?_
  obtain ⟨S_1, eS_1, h⟩ := of_lt h
  refine x_puti (pc := 7) C (k := 39) hO.1 rfl rfl wd_767 dX7_judge_7 ⟨Nat.le_of_ble_eq_true rfl, rfl⟩ eS_1 ?_
  refine x_iconst (pc := 10) C (v := (0 : Int32)) dX7_judge_10 rfl ?_
  refine x_istore_n (pc := 11) C 2 [(2, .int (0 : Int32)), (1, .int v1_1), (0, .ref (b + 140))] dX7_judge_11 rfl (Nat.le_of_ble_eq_true rfl) rfl rfl ?_
  refine x_sub [2, 1, 0] rfl ?_
  obtain ⟨z_hz_1, hz_1, hl, hrr⟩ := of_bs h
  refine l_X7_judge_12 C hO v1_1 S_1 rf Sf 400 _ hz_1 (fun q ez => of_sp (x := q.1) (u := q.2) (hl _ ez)) (fun ez => ?_)
  replace h := hrr _ ez
  clear hl hrr
  refine x_bipush (pc := 43) C (v := (-9 : Int32)) dX7_judge_43 rfl ?_
  exact x_ireturn (pc := 45) C dX7_judge_45 (of_sp h).1 (of_sp h).2
set_option maxRecDepth 100000 in
set_option maxHeartbeats 4000000 in
theorem c_X7_width {l : Launch} {G : zz_G} {L : Ly} {b : Nat} (p1 : Int32) (hO : isMo L) (S : Sg) (rf : Int32) (h : f_X7_width p1 S = some rf) : Met l yX7_width (Cond.code yX7_width cX7_width 2 (some .int) :: zz_all) (rmz 0 0) (PC G L b S [.ref (b + 140), .int p1]) (QC G L b S (some (.int rf)) True) 0 0 (fun q => b ≤ q) := by
  refine x_met [.ref (b + 140), .int p1] (by decide +kernel) (Nat.le_of_ble_eq_true rfl) fun p e s m args below meth c C => ?_
  unfold f_X7_width at h
  refine x_aload_n (pc := 0) C 0 dX7_width_0 rfl ?_
  refine x_getr (pc := 1) C (k := 35) 162 hO.1 rfl rfl wd_763 dX7_width_1 (Nat.le_of_ble_eq_true rfl) rfl ?_
  refine x_iload_n (pc := 4) C 1 dX7_width_4 rfl ?_
  obtain ⟨g_1, h⟩ := of_gd h
  refine x_iaload (pc := 5) C hO.2.2.2.2.2.2.2.2.2.2.2.2.2.2.2.2.2.2.2.2.2.2.1 g_1 dX7_width_5 ?_
  refine x_aload_n (pc := 6) C 0 dX7_width_6 rfl ?_
  refine x_getr (pc := 7) C (k := 34) 161 hO.1 rfl rfl wd_762 dX7_width_7 (Nat.le_of_ble_eq_true rfl) rfl ?_
  refine x_iload_n (pc := 10) C 1 dX7_width_10 rfl ?_
  refine x_iaload (pc := 11) C hO.2.2.2.2.2.2.2.2.2.2.2.2.2.2.2.2.2.2.2.2.2.1 g_1 dX7_width_11 ?_
  refine x_isub (pc := 12) C dX7_width_12 ?_
  refine x_iconst (pc := 13) C (v := (1 : Int32)) dX7_width_13 rfl ?_
  refine x_iadd (pc := 14) C dX7_width_14 ?_
  exact x_ireturn (pc := 15) C dX7_width_15 (of_s1 h) rfl
set_option maxRecDepth 100000 in
set_option maxHeartbeats 4000000 in
theorem l_X7_knownNow_4 {p : Program} {l : Launch} {e : Env} {s : State} {m : MethodId} {args : Array Value} {below : List Frame} {meth : Method} {c : Code} {G : zz_G} {L : Ly} {b : Nat} {Q : State → Prop} (C : CX p G s m args meth c cX7_knownNow yX7_knownNow 3 (some .int)) (hO : isMo L) (S : Sg) : ∀ (n : Nat) (v1 : Int32) (v2 : Int32) {z}, L_X7_knownNow_4 S n v1 v2 = some z → (∀ (v1_o : Int32), z = v1_o → X p l e (rmz 1 21) s m args below meth c 0 0 Q 3 G L b S 37 [(1, .int v1_o)] []) → X p l e (rmz 1 21) s m args below meth c 0 0 Q 3 G L b S 4 [(0, .ref (b + 140)), (1, .int v1), (2, .int v2)] [] := by
  intro n
  induction n with
  | zero =>
    intro v1 v2 z h
    exact of_none h
  | succ n ih =>
    intro v1 v2 z h hx
    rw [L_X7_knownNow_4] at h
    refine x_iload_n (pc := 4) C 2 dX7_knownNow_4 rfl ?_
    refine x_aload_n (pc := 5) C 0 dX7_knownNow_5 rfl ?_
    refine x_geti (pc := 6) C (k := 7) hO.1 rfl rfl wd_735 dX7_knownNow_6 ⟨Nat.le_of_ble_eq_true rfl, rfl⟩ ?_
    refine x_icmp_ge (pc := 9) C 37 dX7_knownNow_9 rfl (fun c_1 => ?_) (fun c_1 => ?_)
    · replace h := of_ifn c_1 h
      exact x_sub [1] rfl (hx _ (of_s1 h).symm)
    · replace h := of_ifp c_1 h
      refine x_iload_n (pc := 12) C 1 dX7_knownNow_12 rfl ?_
      refine x_aload_n (pc := 13) C 0 dX7_knownNow_13 rfl ?_
      refine x_iload_n (pc := 14) C 2 dX7_knownNow_14 rfl ?_
      obtain ⟨r_1, hc_1, h⟩ := of_bd h
      refine x_callV1 (pc := 15) C (o := 140) [.int v2] [.int v1] (c_X7_width (b := b) v2 hO S _ hc_1) cw_X7_335 vi_X7_width ⟨rfl, rfl, Nat.le_of_ble_eq_true rfl, Nat.le_of_ble_eq_true rfl⟩ ⟨Nat.le_refl _, Nat.le_refl _⟩ hO.1 ⟨rfl, rfl, rfl⟩ rfl ⟨rfl, Nat.le_of_ble_eq_true rfl⟩ dX7_knownNow_15 (fun hx_1 => ?_)
      refine x_iconst (pc := 18) C (v := (1 : Int32)) dX7_knownNow_18 rfl ?_
      obtain ⟨x_1, ex_1, h⟩ := of_lt h
      have kd_1 : X p l e (rmz 1 21) s m args below meth c 0 0 Q 3 G L b S 29 [(0, .ref (b + 140)), (2, .int v2)] [.int x_1, .int v1] := by
        refine x_ior (pc := 29) C dX7_knownNow_29 ?_
        obtain ⟨v1_1, ev1_1, h⟩ := of_lt h
        refine x_istore_n (pc := 30) C 1 [(1, .int v1_1), (0, .ref (b + 140)), (2, .int v2)] dX7_knownNow_30 rfl (Nat.le_of_ble_eq_true rfl) ev1_1 rfl ?_
        obtain ⟨v2_1, ev2_1, h⟩ := of_lt h
        refine x_iinc (pc := 31) C (w := (1 : Int32)) 2 [(2, .int v2_1), (1, .int v1_1), (0, .ref (b + 140))] dX7_knownNow_31 rfl rfl (Nat.le_of_ble_eq_true rfl) ev2_1 rfl ?_
        refine x_goto (pc := 34) C 4 dX7_knownNow_34 rfl ?_
        exact x_sub [2, 1, 0] rfl (ih _ _ h hx)
      refine x_icmp_ne (pc := 19) C 28 dX7_knownNow_19 rfl (fun c_2 => ?_) (fun c_2 => ?_)
      · refine x_iconst (pc := 28) C (v := (0 : Int32)) dX7_knownNow_28 rfl ?_
        refine x_sub [0, 2] rfl ?_
        rw [show x_1 = (0 : Int32) from (ex_1.trans (if_neg c_2))] at kd_1
        exact kd_1
      · refine x_iconst (pc := 22) C (v := (1 : Int32)) dX7_knownNow_22 rfl ?_
        refine x_iload_n (pc := 23) C 2 dX7_knownNow_23 rfl ?_
        refine x_ishl (pc := 24) C dX7_knownNow_24 ?_
        refine x_goto (pc := 25) C 29 dX7_knownNow_25 rfl ?_
        refine x_sub [0, 2] rfl ?_
        rw [show x_1 = (isl (1 : Int32) v2) from (ex_1.trans (if_pos c_2))] at kd_1
        exact kd_1
set_option maxRecDepth 100000 in
set_option maxHeartbeats 4000000 in
theorem c_X7_knownNow {l : Launch} {G : zz_G} {L : Ly} {b : Nat} (hO : isMo L) (S : Sg) (rf : Int32) (h : f_X7_knownNow S = some rf) : Met l yX7_knownNow (Cond.code yX7_knownNow cX7_knownNow 3 (some .int) :: zz_all) (rmz 1 21) (PC G L b S [.ref (b + 140)]) (QC G L b S (some (.int rf)) True) 0 0 (fun q => b ≤ q) := by
  refine x_met [.ref (b + 140)] (by decide +kernel) (Nat.le_of_ble_eq_true rfl) fun p e s m args below meth c C => ?_
  unfold f_X7_knownNow at h
  refine x_iconst (pc := 0) C (v := (0 : Int32)) dX7_knownNow_0 rfl ?_
  refine x_istore_n (pc := 1) C 1 [(1, .int (0 : Int32)), (0, .ref (b + 140))] dX7_knownNow_1 rfl (Nat.le_of_ble_eq_true rfl) rfl rfl ?_
  refine x_iconst (pc := 2) C (v := (0 : Int32)) dX7_knownNow_2 rfl ?_
  refine x_istore_n (pc := 3) C 2 [(2, .int (0 : Int32)), (1, .int (0 : Int32)), (0, .ref (b + 140))] dX7_knownNow_3 rfl (Nat.le_of_ble_eq_true rfl) rfl rfl ?_
  refine x_sub [2, 1, 0] rfl ?_
  obtain ⟨z_hz_1, hz_1, h⟩ := of_bd h
  refine l_X7_knownNow_4 C hO S 400 _ _ hz_1 (fun v1_1 ez => ?_)
  subst z_hz_1
  refine x_iload_n (pc := 37) C 0 dX7_knownNow_37 rfl ?_
  exact x_ireturn (pc := 38) C dX7_knownNow_38 (of_s1 h) rfl
set_option maxRecDepth 100000 in
set_option maxHeartbeats 4000000 in
theorem l_X7_narrowsOne_27 {p : Program} {l : Launch} {e : Env} {s : State} {m : MethodId} {args : Array Value} {below : List Frame} {meth : Method} {c : Code} {G : zz_G} {L : Ly} {b : Nat} {Q : State → Prop} (C : CX p G s m args meth c cX7_narrowsOne yX7_narrowsOne 11 (some .boolean)) (hO : isMo L) (v1 : Int32) (v2 : Int32) (v3 : Int32) (S : Sg) : ∀ (n : Nat) (v4 : Int32) (v5 : Int32) (v6 : Int32) {z}, L_X7_narrowsOne_27 v1 v2 v3 S n v4 v5 v6 = some z → (∀ (v4_o : Int32) (v5_o : Int32), z = (v4_o, v5_o) → X p l e (rmz 2 42) s m args below meth c 0 0 Q 11 G L b S 124 [(0, .ref (b + 140)), (1, .int v1), (2, .int v2), (3, .int v3), (4, .int v4_o), (5, .int v5_o)] []) → X p l e (rmz 2 42) s m args below meth c 0 0 Q 11 G L b S 27 [(0, .ref (b + 140)), (1, .int v1), (2, .int v2), (3, .int v3), (4, .int v4), (5, .int v5), (6, .int v6)] [] := by
  intro n
  induction n with
  | zero =>
    intro v4 v5 v6 z h
    exact of_none h
  | succ n ih =>
    intro v4 v5 v6 z h hx
    rw [L_X7_narrowsOne_27] at h
    refine x_iload (pc := 27) C 6 dX7_narrowsOne_27 rfl ?_
    refine x_bipush (pc := 29) C (v := (10 : Int32)) dX7_narrowsOne_29 rfl ?_
    refine x_icmp_ge (pc := 31) C 124 dX7_narrowsOne_31 rfl (fun c_1 => ?_) (fun c_1 => ?_)
    · replace h := of_ifn c_1 h
      exact x_sub [0, 1, 2, 3, 4, 5] rfl (hx _ _ (of_s1 h).symm)
    · replace h := of_ifp c_1 h
      refine x_iload (pc := 34) C 6 dX7_narrowsOne_34 rfl ?_
      refine x_iload_n (pc := 36) C 2 dX7_narrowsOne_36 rfl ?_
      obtain ⟨J_1, eJ_1, h⟩ := of_lt h
      have kJ_1 : ∀ (x_1 : Int32), J_1 x_1 = some z → X p l e (rmz 2 42) s m args below meth c 0 0 Q 11 G L b S 56 [(0, .ref (b + 140)), (1, .int v1), (2, .int v2), (3, .int v3), (4, .int v4), (5, .int v5), (6, .int v6)] [.int x_1] := by
        intro x_1 h
        replace h := of_J1 eJ_1 h
        refine x_istore (pc := 56) C [(7, .int x_1), (0, .ref (b + 140)), (1, .int v1), (2, .int v2), (3, .int v3), (4, .int v4), (5, .int v5), (6, .int v6)] dX7_narrowsOne_56 (Nat.le_of_ble_eq_true rfl) rfl rfl ?_
        refine x_iload (pc := 58) C 5 dX7_narrowsOne_58 rfl ?_
        refine x_iload (pc := 60) C 0 dX7_narrowsOne_60 rfl ?_
        refine x_iload (pc := 62) C 0 dX7_narrowsOne_62 rfl ?_
        obtain ⟨J_2, eJ_2, h⟩ := of_lt h
        have kJ_2 : ∀ (x_2 : Int32), J_2 x_2 = some z → X p l e (rmz 2 42) s m args below meth c 0 0 Q 11 G L b S 84 [(0, .ref (b + 140)), (1, .int v1), (2, .int v2), (3, .int v3), (5, .int v5), (6, .int v6), (7, .int x_1)] [.int x_2, .int x_1, .int v4] := by
          intro x_2 h
          replace h := of_J1 eJ_2 h
          refine x_imul (pc := 84) C dX7_narrowsOne_84 ?_
          refine x_iadd (pc := 85) C dX7_narrowsOne_85 ?_
          obtain ⟨v4_1, ev4_1, h⟩ := of_lt h
          refine x_istore (pc := 86) C [(4, .int v4_1), (0, .ref (b + 140)), (1, .int v1), (2, .int v2), (3, .int v3), (5, .int v5), (6, .int v6), (7, .int x_1)] dX7_narrowsOne_86 (Nat.le_of_ble_eq_true rfl) ev4_1 rfl ?_
          refine x_iload (pc := 88) C 5 dX7_narrowsOne_88 rfl ?_
          refine x_iload (pc := 90) C 7 dX7_narrowsOne_90 rfl ?_
          refine x_iload (pc := 92) C 7 dX7_narrowsOne_92 rfl ?_
          refine x_if_le (pc := 94) C 107 dX7_narrowsOne_94 rfl (fun c_2 => ?_) (fun c_2 => ?_)
          · replace h := of_ifn c_2 h
            refine x_aload_n (pc := 107) C 1 dX7_narrowsOne_107 rfl ?_
            refine x_getr (pc := 108) C (k := 35) 162 hO.1 rfl rfl wd_763 dX7_narrowsOne_108 (Nat.le_of_ble_eq_true rfl) rfl ?_
            refine x_iload (pc := 111) C 6 dX7_narrowsOne_111 rfl ?_
            obtain ⟨g_1, h⟩ := of_gd h
            refine x_iaload (pc := 113) C hO.2.2.2.2.2.2.2.2.2.2.2.2.2.2.2.2.2.2.2.2.2.2.1 g_1 dX7_narrowsOne_113 ?_
            refine x_imul (pc := 114) C dX7_narrowsOne_114 ?_
            refine x_iadd (pc := 115) C dX7_narrowsOne_115 ?_
            obtain ⟨v5_1, ev5_1, h⟩ := of_lt h
            refine x_istore (pc := 116) C [(5, .int v5_1), (4, .int v4_1), (0, .ref (b + 140)), (1, .int v1), (2, .int v2), (3, .int v3), (6, .int v6), (7, .int x_1)] dX7_narrowsOne_116 (Nat.le_of_ble_eq_true rfl) ev5_1 rfl ?_
            obtain ⟨v6_1, ev6_1, h⟩ := of_lt h
            refine x_iinc (pc := 118) C (w := (1 : Int32)) 6 [(6, .int v6_1), (5, .int v5_1), (4, .int v4_1), (0, .ref (b + 140)), (1, .int v1), (2, .int v2), (3, .int v3), (7, .int x_1)] dX7_narrowsOne_118 rfl rfl (Nat.le_of_ble_eq_true rfl) ev6_1 rfl ?_
            refine x_goto (pc := 121) C 27 dX7_narrowsOne_121 rfl ?_
            exact x_sub [3, 4, 5, 6, 2, 1, 0] rfl (ih _ _ _ h hx)
          · replace h := of_ifp c_2 h
            refine x_aload_n (pc := 97) C 1 dX7_narrowsOne_97 rfl ?_
            refine x_getr (pc := 98) C (k := 34) 161 hO.1 rfl rfl wd_762 dX7_narrowsOne_98 (Nat.le_of_ble_eq_true rfl) rfl ?_
            refine x_iload (pc := 101) C 6 dX7_narrowsOne_101 rfl ?_
            obtain ⟨g_2, h⟩ := of_gd h
            refine x_iaload (pc := 103) C hO.2.2.2.2.2.2.2.2.2.2.2.2.2.2.2.2.2.2.2.2.2.1 g_2 dX7_narrowsOne_103 ?_
            refine x_goto (pc := 104) C 114 dX7_narrowsOne_104 rfl ?_
            refine x_imul (pc := 114) C dX7_narrowsOne_114 ?_
            refine x_iadd (pc := 115) C dX7_narrowsOne_115 ?_
            obtain ⟨v5_2, ev5_2, h⟩ := of_lt h
            refine x_istore (pc := 116) C [(5, .int v5_2), (4, .int v4_1), (0, .ref (b + 140)), (1, .int v1), (2, .int v2), (3, .int v3), (6, .int v6), (7, .int x_1)] dX7_narrowsOne_116 (Nat.le_of_ble_eq_true rfl) ev5_2 rfl ?_
            obtain ⟨v6_2, ev6_2, h⟩ := of_lt h
            refine x_iinc (pc := 118) C (w := (1 : Int32)) 6 [(6, .int v6_2), (5, .int v5_2), (4, .int v4_1), (0, .ref (b + 140)), (1, .int v1), (2, .int v2), (3, .int v3), (7, .int x_1)] dX7_narrowsOne_118 rfl rfl (Nat.le_of_ble_eq_true rfl) ev6_2 rfl ?_
            refine x_goto (pc := 121) C 27 dX7_narrowsOne_121 rfl ?_
            exact x_sub [3, 4, 5, 6, 2, 1, 0] rfl (ih _ _ _ h hx)
        refine x_if_le (pc := 64) C 77 dX7_narrowsOne_64 rfl (fun c_3 => ?_) (fun c_3 => ?_)
        · replace h := of_ifn c_3 h
          refine x_aload_n (pc := 77) C 1 dX7_narrowsOne_77 rfl ?_
          refine x_getr (pc := 78) C (k := 34) 161 hO.1 rfl rfl wd_762 dX7_narrowsOne_78 (Nat.le_of_ble_eq_true rfl) rfl ?_
          refine x_iload (pc := 81) C 7 dX7_narrowsOne_81 rfl ?_
          obtain ⟨g_3, h⟩ := of_gd h
          refine x_iaload (pc := 83) C hO.2.2.2.2.2.2.2.2.2.2.2.2.2.2.2.2.2.2.2.2.2.1 g_3 dX7_narrowsOne_83 ?_
          exact x_sub [1, 2, 3, 4, 6, 7, 0] rfl (kJ_2 _ h)
        · replace h := of_ifp c_3 h
          refine x_aload_n (pc := 67) C 1 dX7_narrowsOne_67 rfl ?_
          refine x_getr (pc := 68) C (k := 35) 162 hO.1 rfl rfl wd_763 dX7_narrowsOne_68 (Nat.le_of_ble_eq_true rfl) rfl ?_
          refine x_iload (pc := 71) C 7 dX7_narrowsOne_71 rfl ?_
          obtain ⟨g_4, h⟩ := of_gd h
          refine x_iaload (pc := 73) C hO.2.2.2.2.2.2.2.2.2.2.2.2.2.2.2.2.2.2.2.2.2.2.1 g_4 dX7_narrowsOne_73 ?_
          refine x_goto (pc := 74) C 84 dX7_narrowsOne_74 rfl ?_
          exact x_sub [1, 2, 3, 4, 6, 7, 0] rfl (kJ_2 _ h)
      refine x_icmp_ne (pc := 37) C 44 dX7_narrowsOne_37 rfl (fun c_4 => ?_) (fun c_4 => ?_)
      · replace h := of_ifn c_4 h
        refine x_aload_n (pc := 44) C 0 dX7_narrowsOne_44 rfl ?_
        refine x_getr (pc := 45) C (k := 5) 146 hO.1 rfl rfl wd_733 dX7_narrowsOne_45 (Nat.le_of_ble_eq_true rfl) rfl ?_
        refine x_bipush (pc := 48) C (v := (10 : Int32)) dX7_narrowsOne_48 rfl ?_
        refine x_iload_n (pc := 50) C 1 dX7_narrowsOne_50 rfl ?_
        refine x_imul (pc := 51) C dX7_narrowsOne_51 ?_
        refine x_iload (pc := 52) C 6 dX7_narrowsOne_52 rfl ?_
        refine x_iadd (pc := 54) C dX7_narrowsOne_54 ?_
        obtain ⟨g_5, h⟩ := of_gd h
        refine x_iaload (pc := 55) C hO.2.2.2.2.2.2.1 g_5 dX7_narrowsOne_55 ?_
        exact x_sub [0, 1, 2, 3, 4, 5, 6] rfl (kJ_1 _ h)
      · replace h := of_ifp c_4 h
        refine x_iconst (pc := 40) C (v := (0 : Int32)) dX7_narrowsOne_40 rfl ?_
        refine x_goto (pc := 41) C 56 dX7_narrowsOne_41 rfl ?_
        exact x_sub [0, 1, 2, 3, 4, 5, 6] rfl (kJ_1 _ h)
set_option maxRecDepth 100000 in
set_option maxHeartbeats 4000000 in
theorem c_X7_narrowsOne {l : Launch} {G : zz_G} {L : Ly} {b : Nat} (p1 : Int32) (p2 : Int32) (hO : isMo L) (S : Sg) (rf : Int32) (Sf : Sg) (h : f_X7_narrowsOne p1 p2 S = some (rf, Sf)) : Met l yX7_narrowsOne (Cond.code yX7_narrowsOne cX7_narrowsOne 11 (some .boolean) :: zz_all) (rmz 2 42) (PC G L b S [.ref (b + 140), .int p1, .int p2]) (QC G L b Sf (some (.int rf)) (rf = 0 ∨ rf = 1)) 0 0 (fun q => b ≤ q) := by
  refine x_met [.ref (b + 140), .int p1, .int p2] (by decide +kernel) (Nat.le_of_ble_eq_true rfl) fun p e s m args below meth c C => ?_
  unfold f_X7_narrowsOne at h
  refine x_aload_n (pc := 0) C 0 dX7_narrowsOne_0 rfl ?_
  refine x_getr (pc := 1) C (k := 5) 146 hO.1 rfl rfl wd_733 dX7_narrowsOne_1 (Nat.le_of_ble_eq_true rfl) rfl ?_
  refine x_bipush (pc := 4) C (v := (10 : Int32)) dX7_narrowsOne_4 rfl ?_
  refine x_iload_n (pc := 6) C 1 dX7_narrowsOne_6 rfl ?_
  refine x_imul (pc := 7) C dX7_narrowsOne_7 ?_
  refine x_iload_n (pc := 8) C 2 dX7_narrowsOne_8 rfl ?_
  refine x_iadd (pc := 9) C dX7_narrowsOne_9 ?_
  obtain ⟨g_1, h⟩ := of_gd h
  refine x_iaload (pc := 10) C hO.2.2.2.2.2.2.1 g_1 dX7_narrowsOne_10 ?_
  obtain ⟨v3_1, ev3_1, h⟩ := of_lt h
  refine x_istore_n (pc := 11) C 3 [(3, .int v3_1), (0, .ref (b + 140)), (1, .int p1), (2, .int p2)] dX7_narrowsOne_11 rfl (Nat.le_of_ble_eq_true rfl) ev3_1 rfl ?_
  refine x_iload_n (pc := 12) C 0 dX7_narrowsOne_12 rfl ?_
  refine x_if_ne (pc := 13) C 18 dX7_narrowsOne_13 rfl (fun c_1 => ?_) (fun c_1 => ?_)
  · replace h := of_ifn c_1 h
    refine x_iconst (pc := 18) C (v := (0 : Int32)) dX7_narrowsOne_18 rfl ?_
    refine x_istore (pc := 19) C [(4, .int (0 : Int32)), (3, .int v3_1), (0, .ref (b + 140)), (1, .int p1), (2, .int p2)] dX7_narrowsOne_19 (Nat.le_of_ble_eq_true rfl) rfl rfl ?_
    refine x_iconst (pc := 21) C (v := (0 : Int32)) dX7_narrowsOne_21 rfl ?_
    refine x_istore (pc := 22) C [(5, .int (0 : Int32)), (4, .int (0 : Int32)), (3, .int v3_1), (0, .ref (b + 140)), (1, .int p1), (2, .int p2)] dX7_narrowsOne_22 (Nat.le_of_ble_eq_true rfl) rfl rfl ?_
    refine x_iconst (pc := 24) C (v := (0 : Int32)) dX7_narrowsOne_24 rfl ?_
    refine x_istore (pc := 25) C [(6, .int (0 : Int32)), (5, .int (0 : Int32)), (4, .int (0 : Int32)), (3, .int v3_1), (0, .ref (b + 140)), (1, .int p1), (2, .int p2)] dX7_narrowsOne_25 (Nat.le_of_ble_eq_true rfl) rfl rfl ?_
    refine x_sub [4, 5, 6, 3, 2, 1, 0] rfl ?_
    obtain ⟨z_hz_1, hz_1, h⟩ := of_bd h
    refine l_X7_narrowsOne_27 C hO p1 p2 v3_1 S 400 _ _ _ hz_1 (fun v4_1 v5_1 ez => ?_)
    subst z_hz_1
    replace h := of_u2 h
    refine x_aload_n (pc := 124) C 0 dX7_narrowsOne_124 rfl ?_
    refine x_getr (pc := 125) C (k := 6) 147 hO.1 rfl rfl wd_734 dX7_narrowsOne_125 (Nat.le_of_ble_eq_true rfl) rfl ?_
    refine x_iload_n (pc := 128) C 1 dX7_narrowsOne_128 rfl ?_
    obtain ⟨g_2, h⟩ := of_gd h
    refine x_iaload (pc := 129) C hO.2.2.2.2.2.2.2.1 g_2 dX7_narrowsOne_129 ?_
    refine x_iload (pc := 130) C 4 dX7_narrowsOne_130 rfl ?_
    refine x_isub (pc := 132) C dX7_narrowsOne_132 ?_
    obtain ⟨v6_1, ev6_1, h⟩ := of_lt h
    refine x_istore (pc := 133) C [(6, .int v6_1), (0, .ref (b + 140)), (1, .int p1), (2, .int p2), (3, .int v3_1), (4, .int v4_1), (5, .int v5_1)] dX7_narrowsOne_133 (Nat.le_of_ble_eq_true rfl) ev6_1 rfl ?_
    refine x_aload_n (pc := 135) C 1 dX7_narrowsOne_135 rfl ?_
    refine x_getr (pc := 136) C (k := 6) 147 hO.1 rfl rfl wd_734 dX7_narrowsOne_136 (Nat.le_of_ble_eq_true rfl) rfl ?_
    refine x_iload_n (pc := 139) C 2 dX7_narrowsOne_139 rfl ?_
    refine x_iaload (pc := 140) C hO.2.2.2.2.2.2.2.1 g_2 dX7_narrowsOne_140 ?_
    refine x_iload (pc := 141) C 6 dX7_narrowsOne_141 rfl ?_
    refine x_isub (pc := 143) C dX7_narrowsOne_143 ?_
    obtain ⟨v7_1, ev7_1, h⟩ := of_lt h
    refine x_istore (pc := 144) C [(7, .int v7_1), (6, .int v6_1), (0, .ref (b + 140)), (1, .int p1), (2, .int p2), (3, .int v3_1), (4, .int v4_1), (5, .int v5_1)] dX7_narrowsOne_144 (Nat.le_of_ble_eq_true rfl) ev7_1 rfl ?_
    refine x_iload_n (pc := 146) C 5 dX7_narrowsOne_146 rfl ?_
    obtain ⟨J_1, eJ_1, h⟩ := of_lt h
    have kJ_1 : ∀ (x_1 : Int32), J_1 x_1 = some (rf, Sf) → X p l e (rmz 2 42) s m args below meth c 0 0 (RQ G L b Sf below args s (some (.int rf)) (rf = 0 ∨ rf = 1)) 11 G L b S 167 [(0, .ref (b + 140)), (2, .int p2), (3, .int v3_1), (6, .int v6_1), (7, .int v7_1)] [.int x_1] := by
      intro x_1 h
      replace h := of_J1 eJ_1 h
      refine x_istore (pc := 167) C [(8, .int x_1), (0, .ref (b + 140)), (2, .int p2), (3, .int v3_1), (6, .int v6_1), (7, .int v7_1)] dX7_narrowsOne_167 (Nat.le_of_ble_eq_true rfl) rfl rfl ?_
      refine x_iload_n (pc := 169) C 3 dX7_narrowsOne_169 rfl ?_
      obtain ⟨J_2, eJ_2, h⟩ := of_lt h
      have kJ_2 : ∀ (x_2 : Int32), J_2 x_2 = some (rf, Sf) → X p l e (rmz 2 42) s m args below meth c 0 0 (RQ G L b Sf below args s (some (.int rf)) (rf = 0 ∨ rf = 1)) 11 G L b S 190 [(0, .ref (b + 140)), (2, .int p2), (8, .int x_1)] [.int x_2] := by
        intro x_2 h
        replace h := of_J1 eJ_2 h
        refine x_istore (pc := 190) C [(9, .int x_2), (0, .ref (b + 140)), (2, .int p2), (8, .int x_1)] dX7_narrowsOne_190 (Nat.le_of_ble_eq_true rfl) rfl rfl ?_
        refine x_iload (pc := 192) C 3 dX7_narrowsOne_192 rfl ?_
        refine x_aload_n (pc := 194) C 1 dX7_narrowsOne_194 rfl ?_
        refine x_getr (pc := 195) C (k := 34) 161 hO.1 rfl rfl wd_762 dX7_narrowsOne_195 (Nat.le_of_ble_eq_true rfl) rfl ?_
        refine x_iload_n (pc := 198) C 2 dX7_narrowsOne_198 rfl ?_
        obtain ⟨g_3, h⟩ := of_gd h
        refine x_iaload (pc := 199) C hO.2.2.2.2.2.2.2.2.2.2.2.2.2.2.2.2.2.2.2.2.2.1 g_3 dX7_narrowsOne_199 ?_
        obtain ⟨x_3, ex_3, h⟩ := of_lt h
        have kd_1 : X p l e (rmz 2 42) s m args below meth c 0 0 (RQ G L b Sf below args s (some (.int rf)) (rf = 0 ∨ rf = 1)) 11 G L b S 219 [(0, .ref (b + 140)), (2, .int p2), (8, .int x_1), (9, .int x_2)] [.int x_3] := by
          refine x_istore (pc := 219) C [(10, .int x_3), (0, .ref (b + 140)), (2, .int p2), (8, .int x_1), (9, .int x_2)] dX7_narrowsOne_219 (Nat.le_of_ble_eq_true rfl) rfl rfl ?_
          refine x_aload_n (pc := 221) C 1 dX7_narrowsOne_221 rfl ?_
          refine x_getr (pc := 222) C (k := 34) 161 hO.1 rfl rfl wd_762 dX7_narrowsOne_222 (Nat.le_of_ble_eq_true rfl) rfl ?_
          refine x_iload_n (pc := 225) C 2 dX7_narrowsOne_225 rfl ?_
          refine x_iload (pc := 226) C 3 dX7_narrowsOne_226 rfl ?_
          refine x_aload_n (pc := 228) C 1 dX7_narrowsOne_228 rfl ?_
          refine x_getr (pc := 229) C (k := 34) 161 hO.1 rfl rfl wd_762 dX7_narrowsOne_229 (Nat.le_of_ble_eq_true rfl) rfl ?_
          refine x_iload_n (pc := 232) C 2 dX7_narrowsOne_232 rfl ?_
          refine x_iaload (pc := 233) C hO.2.2.2.2.2.2.2.2.2.2.2.2.2.2.2.2.2.2.2.2.2.1 g_3 dX7_narrowsOne_233 ?_
          obtain ⟨x_4, ex_4, h⟩ := of_lt h
          have kd_2 : X p l e (rmz 2 42) s m args below meth c 0 0 (RQ G L b Sf below args s (some (.int rf)) (rf = 0 ∨ rf = 1)) 11 G L b S 248 [(0, .ref (b + 140)), (2, .int p2), (9, .int x_2), (10, .int x_3)] [.int x_4, .int p2, .ref (b + 161)] := by
            obtain ⟨S_1, eS_1, h⟩ := of_lt h
            refine x_iastore (pc := 248) C hO.2.2.2.2.2.2.2.2.2.2.2.2.2.2.2.2.2.2.2.2.2.1 g_3 eS_1 dX7_narrowsOne_248 ?_
            refine x_aload_n (pc := 249) C 0 dX7_narrowsOne_249 rfl ?_
            refine x_getr (pc := 250) C (k := 35) 162 hO.1 rfl rfl wd_763 dX7_narrowsOne_250 (Nat.le_of_ble_eq_true rfl) rfl ?_
            refine x_iload_n (pc := 253) C 1 dX7_narrowsOne_253 rfl ?_
            refine x_iload (pc := 254) C 2 dX7_narrowsOne_254 rfl ?_
            refine x_aload_n (pc := 256) C 0 dX7_narrowsOne_256 rfl ?_
            refine x_getr (pc := 257) C (k := 35) 162 hO.1 rfl rfl wd_763 dX7_narrowsOne_257 (Nat.le_of_ble_eq_true rfl) rfl ?_
            refine x_iload_n (pc := 260) C 1 dX7_narrowsOne_260 rfl ?_
            refine x_iaload (pc := 261) C hO.2.2.2.2.2.2.2.2.2.2.2.2.2.2.2.2.2.2.2.2.2.2.1 g_3 dX7_narrowsOne_261 ?_
            obtain ⟨x_5, ex_5, h⟩ := of_lt h
            have kd_3 : X p l e (rmz 2 42) s m args below meth c 0 0 (RQ G L b Sf below args s (some (.int rf)) (rf = 0 ∨ rf = 1)) 11 G L b S_1 276 [(10, .int x_3)] [.int x_5, .int p2, .ref (b + 162)] := by
              obtain ⟨S_2, eS_2, h⟩ := of_lt h
              refine x_iastore (pc := 276) C hO.2.2.2.2.2.2.2.2.2.2.2.2.2.2.2.2.2.2.2.2.2.2.1 g_3 eS_2 dX7_narrowsOne_276 ?_
              refine x_iload (pc := 277) C 0 dX7_narrowsOne_277 rfl ?_
              exact x_zreturn (pc := 279) C (ex_3 ▸ (if01 (by decide) (if01 (by decide) (by decide)))) dX7_narrowsOne_279 (of_sp h).1 (of_sp h).2
            refine x_icmp_ge (pc := 262) C 270 dX7_narrowsOne_262 rfl (fun c_2 => ?_) (fun c_2 => ?_)
            · refine x_aload_n (pc := 270) C 0 dX7_narrowsOne_270 rfl ?_
              refine x_getr (pc := 271) C (k := 35) 162 hO.1 rfl rfl wd_763 dX7_narrowsOne_271 (Nat.le_of_ble_eq_true rfl) rfl ?_
              refine x_iload_n (pc := 274) C 1 dX7_narrowsOne_274 rfl ?_
              refine x_iaload (pc := 275) C hO.2.2.2.2.2.2.2.2.2.2.2.2.2.2.2.2.2.2.2.2.2.2.1 g_3 dX7_narrowsOne_275 ?_
              refine x_sub [3] rfl ?_
              rw [show x_5 = (S_1.1 162 (ix p2)) from (ex_5.trans (if_neg c_2))] at kd_3
              exact kd_3
            · refine x_iload (pc := 265) C 2 dX7_narrowsOne_265 rfl ?_
              refine x_goto (pc := 267) C 276 dX7_narrowsOne_267 rfl ?_
              refine x_sub [3] rfl ?_
              rw [show x_5 = x_2 from (ex_5.trans (if_pos c_2))] at kd_3
              exact kd_3
          refine x_icmp_le (pc := 234) C 242 dX7_narrowsOne_234 rfl (fun c_3 => ?_) (fun c_3 => ?_)
          · refine x_aload_n (pc := 242) C 1 dX7_narrowsOne_242 rfl ?_
            refine x_getr (pc := 243) C (k := 34) 161 hO.1 rfl rfl wd_762 dX7_narrowsOne_243 (Nat.le_of_ble_eq_true rfl) rfl ?_
            refine x_iload_n (pc := 246) C 2 dX7_narrowsOne_246 rfl ?_
            refine x_iaload (pc := 247) C hO.2.2.2.2.2.2.2.2.2.2.2.2.2.2.2.2.2.2.2.2.2.1 g_3 dX7_narrowsOne_247 ?_
            refine x_sub [1, 2, 4, 0] rfl ?_
            rw [show x_4 = (S.1 161 (ix p2)) from (ex_4.trans (if_neg c_3))] at kd_2
            exact kd_2
          · refine x_iload (pc := 237) C 3 dX7_narrowsOne_237 rfl ?_
            refine x_goto (pc := 239) C 248 dX7_narrowsOne_239 rfl ?_
            refine x_sub [1, 2, 4, 0] rfl ?_
            rw [show x_4 = x_1 from (ex_4.trans (if_pos c_3))] at kd_2
            exact kd_2
        refine x_icmp_gt (pc := 200) C 214 dX7_narrowsOne_200 rfl (fun c_4 => ?_) (fun c_4 => ?_)
        · refine x_iconst (pc := 214) C (v := (1 : Int32)) dX7_narrowsOne_214 rfl ?_
          refine x_goto (pc := 215) C 219 dX7_narrowsOne_215 rfl ?_
          refine x_sub [1, 2, 3, 0] rfl ?_
          rw [show x_3 = (1 : Int32) from (ex_3.trans (if_pos c_4))] at kd_1
          exact kd_1
        · refine x_iload (pc := 203) C 0 dX7_narrowsOne_203 rfl ?_
          refine x_aload_n (pc := 205) C 1 dX7_narrowsOne_205 rfl ?_
          refine x_getr (pc := 206) C (k := 35) 162 hO.1 rfl rfl wd_763 dX7_narrowsOne_206 (Nat.le_of_ble_eq_true rfl) rfl ?_
          refine x_iload_n (pc := 209) C 2 dX7_narrowsOne_209 rfl ?_
          refine x_iaload (pc := 210) C hO.2.2.2.2.2.2.2.2.2.2.2.2.2.2.2.2.2.2.2.2.2.2.1 g_3 dX7_narrowsOne_210 ?_
          refine x_icmp_ge (pc := 211) C 218 dX7_narrowsOne_211 rfl (fun c_5 => ?_) (fun c_5 => ?_)
          · refine x_iconst (pc := 218) C (v := (0 : Int32)) dX7_narrowsOne_218 rfl ?_
            refine x_sub [1, 2, 3, 0] rfl ?_
            rw [show x_3 = (0 : Int32) from ((ex_3.trans (if_neg c_4)).trans (if_neg c_5))] at kd_1
            exact kd_1
          · refine x_iconst (pc := 214) C (v := (1 : Int32)) dX7_narrowsOne_214 rfl ?_
            refine x_goto (pc := 215) C 219 dX7_narrowsOne_215 rfl ?_
            refine x_sub [1, 2, 3, 0] rfl ?_
            rw [show x_3 = (1 : Int32) from ((ex_3.trans (if_neg c_4)).trans (if_pos c_5))] at kd_1
            exact kd_1
      refine x_if_le (pc := 170) C 182 dX7_narrowsOne_170 rfl (fun c_6 => ?_) (fun c_6 => ?_)
      · replace h := of_ifn c_6 h
        refine x_iload (pc := 182) C 4 dX7_narrowsOne_182 rfl ?_
        refine x_ineg (pc := 184) C dX7_narrowsOne_184 ?_
        refine x_iload_n (pc := 185) C 3 dX7_narrowsOne_185 rfl ?_
        refine x_ineg (pc := 186) C dX7_narrowsOne_186 ?_
        obtain ⟨r_1, hc_1, h⟩ := of_bd h
        refine x_callS1 (pc := 187) C [.int (-v6_1), .int (-v3_1)] [] (c_X7_below (b := b) (-v6_1) (-v3_1) S _ hc_1) cw_X7_323 vs_X7_below ⟨rfl, rfl, Nat.le_of_ble_eq_true rfl, Nat.le_of_ble_eq_true rfl⟩ ⟨Nat.le_refl _, Nat.le_refl _⟩ rfl ⟨rfl, Nat.le_of_ble_eq_true rfl⟩ dX7_narrowsOne_187 (fun hx_1 => ?_)
        exact x_sub [1, 2, 0] rfl (kJ_2 _ h)
      · replace h := of_ifp c_6 h
        refine x_iload (pc := 173) C 5 dX7_narrowsOne_173 rfl ?_
        refine x_iload_n (pc := 175) C 3 dX7_narrowsOne_175 rfl ?_
        obtain ⟨r_2, hc_2, h⟩ := of_bd h
        refine x_callS1 (pc := 176) C [.int v7_1, .int v3_1] [] (c_X7_below (b := b) v7_1 v3_1 S _ hc_2) cw_X7_323 vs_X7_below ⟨rfl, rfl, Nat.le_of_ble_eq_true rfl, Nat.le_of_ble_eq_true rfl⟩ ⟨Nat.le_refl _, Nat.le_refl _⟩ rfl ⟨rfl, Nat.le_of_ble_eq_true rfl⟩ dX7_narrowsOne_176 (fun hx_2 => ?_)
        refine x_goto (pc := 179) C 190 dX7_narrowsOne_179 rfl ?_
        exact x_sub [1, 2, 0] rfl (kJ_2 _ h)
    refine x_if_le (pc := 147) C 159 dX7_narrowsOne_147 rfl (fun c_7 => ?_) (fun c_7 => ?_)
    · replace h := of_ifn c_7 h
      refine x_iload (pc := 159) C 0 dX7_narrowsOne_159 rfl ?_
      refine x_ineg (pc := 161) C dX7_narrowsOne_161 ?_
      refine x_iload_n (pc := 162) C 5 dX7_narrowsOne_162 rfl ?_
      refine x_ineg (pc := 163) C dX7_narrowsOne_163 ?_
      obtain ⟨r_3, hc_3, h⟩ := of_bd h
      refine x_callS1 (pc := 164) C [.int (-v7_1), .int (-v3_1)] [] (c_X7_above (b := b) (-v7_1) (-v3_1) S _ hc_3) cw_X7_326 vs_X7_above ⟨rfl, rfl, Nat.le_of_ble_eq_true rfl, Nat.le_of_ble_eq_true rfl⟩ ⟨Nat.le_refl _, Nat.le_refl _⟩ rfl ⟨rfl, Nat.le_of_ble_eq_true rfl⟩ dX7_narrowsOne_164 (fun hx_3 => ?_)
      exact x_sub [2, 4, 5, 1, 0] rfl (kJ_1 _ h)
    · replace h := of_ifp c_7 h
      refine x_iload (pc := 150) C 1 dX7_narrowsOne_150 rfl ?_
      refine x_iload_n (pc := 152) C 5 dX7_narrowsOne_152 rfl ?_
      obtain ⟨r_4, hc_4, h⟩ := of_bd h
      refine x_callS1 (pc := 153) C [.int v6_1, .int v3_1] [] (c_X7_above (b := b) v6_1 v3_1 S _ hc_4) cw_X7_326 vs_X7_above ⟨rfl, rfl, Nat.le_of_ble_eq_true rfl, Nat.le_of_ble_eq_true rfl⟩ ⟨Nat.le_refl _, Nat.le_refl _⟩ rfl ⟨rfl, Nat.le_of_ble_eq_true rfl⟩ dX7_narrowsOne_153 (fun hx_4 => ?_)
      refine x_goto (pc := 156) C 167 dX7_narrowsOne_156 rfl ?_
      exact x_sub [2, 4, 5, 1, 0] rfl (kJ_1 _ h)
  · replace h := of_ifp c_1 h
    refine x_iconst (pc := 16) C (v := (0 : Int32)) dX7_narrowsOne_16 rfl ?_
    exact x_zreturn (pc := 17) C (by decide) dX7_narrowsOne_17 (of_sp h).1 (of_sp h).2
set_option maxRecDepth 100000 in
set_option maxHeartbeats 4000000 in
theorem l_X7_narrows_2 {p : Program} {l : Launch} {e : Env} {s : State} {m : MethodId} {args : Array Value} {below : List Frame} {meth : Method} {c : Code} {G : zz_G} {L : Ly} {b : Nat} {Q : State → Prop} (C : CX p G s m args meth c cX7_narrows yX7_narrows 5 none) (hO : isMo L) : ∀ (n : Nat) (v1 : Int32) (S : Sg) {z}, L_X7_narrows_2 n v1 S = some z → (∀ (S_o : Sg), z = S_o → X p l e (rmz 3 72) s m args below meth c 0 0 Q 5 G L b S_o 38 [(0, .ref (b + 140))] []) → X p l e (rmz 3 72) s m args below meth c 0 0 Q 5 G L b S 2 [(0, .ref (b + 140)), (1, .int v1)] [] := by
  intro n
  induction n with
  | zero =>
    intro v1 S z h
    exact of_none h
  | succ n ih =>
    intro v1 S z h hx
    rw [L_X7_narrows_2] at h
    refine x_iload_n (pc := 2) C 1 dX7_narrows_2 rfl ?_
    refine x_bipush (pc := 3) C (v := (10 : Int32)) dX7_narrows_3 rfl ?_
    refine x_icmp_ge (pc := 5) C 38 dX7_narrows_5 rfl (fun c_1 => ?_) (fun c_1 => ?_)
    · replace h := of_ifn c_1 h
      exact x_sub [0] rfl (hx _ (of_s1 h).symm)
    · replace h := of_ifp c_1 h
      refine x_aload_n (pc := 8) C 0 dX7_narrows_8 rfl ?_
      refine x_getr (pc := 9) C (k := 34) 161 hO.1 rfl rfl wd_762 dX7_narrows_9 (Nat.le_of_ble_eq_true rfl) rfl ?_
      refine x_iload_n (pc := 12) C 1 dX7_narrows_12 rfl ?_
      refine x_aload_n (pc := 13) C 0 dX7_narrows_13 rfl ?_
      refine x_getr (pc := 14) C (k := 2) 143 hO.1 rfl rfl wd_730 dX7_narrows_14 (Nat.le_of_ble_eq_true rfl) rfl ?_
      refine x_iload_n (pc := 17) C 1 dX7_narrows_17 rfl ?_
      obtain ⟨g_1, h⟩ := of_gd h
      refine x_iaload (pc := 18) C hO.2.2.2.1 g_1 dX7_narrows_18 ?_
      obtain ⟨S_1, eS_1, h⟩ := of_lt h
      refine x_iastore (pc := 19) C hO.2.2.2.2.2.2.2.2.2.2.2.2.2.2.2.2.2.2.2.2.2.1 g_1 eS_1 dX7_narrows_19 ?_
      refine x_aload_n (pc := 20) C 0 dX7_narrows_20 rfl ?_
      refine x_getr (pc := 21) C (k := 35) 162 hO.1 rfl rfl wd_763 dX7_narrows_21 (Nat.le_of_ble_eq_true rfl) rfl ?_
      refine x_iload_n (pc := 24) C 1 dX7_narrows_24 rfl ?_
      refine x_aload_n (pc := 25) C 0 dX7_narrows_25 rfl ?_
      refine x_getr (pc := 26) C (k := 3) 144 hO.1 rfl rfl wd_731 dX7_narrows_26 (Nat.le_of_ble_eq_true rfl) rfl ?_
      refine x_iload_n (pc := 29) C 1 dX7_narrows_29 rfl ?_
      refine x_iaload (pc := 30) C hO.2.2.2.2.1 g_1 dX7_narrows_30 ?_
      obtain ⟨S_2, eS_2, h⟩ := of_lt h
      refine x_iastore (pc := 31) C hO.2.2.2.2.2.2.2.2.2.2.2.2.2.2.2.2.2.2.2.2.2.2.1 g_1 eS_2 dX7_narrows_31 ?_
      obtain ⟨v1_1, ev1_1, h⟩ := of_lt h
      refine x_iinc (pc := 32) C (w := (1 : Int32)) 1 [(1, .int v1_1), (0, .ref (b + 140))] dX7_narrows_32 rfl rfl (Nat.le_of_ble_eq_true rfl) ev1_1 rfl ?_
      refine x_goto (pc := 35) C 2 dX7_narrows_35 rfl ?_
      exact x_sub [1, 0] rfl (ih _ _ h hx)
set_option maxRecDepth 100000 in
set_option maxHeartbeats 4000000 in
theorem l_X7_narrows_67 {p : Program} {l : Launch} {e : Env} {s : State} {m : MethodId} {args : Array Value} {below : List Frame} {meth : Method} {c : Code} {G : zz_G} {L : Ly} {b : Nat} {Q : State → Prop} (C : CX p G s m args meth c cX7_narrows yX7_narrows 5 none) (hO : isMo L) (v2 : Int32) (v3 : Int32) : ∀ (n : Nat) (v1 : Int32) (v4 : Int32) (S : Sg) {z}, L_X7_narrows_67 v2 v3 n v1 v4 S = some z → (∀ (v1_o : Int32) (S_o : Sg), z = (v1_o, S_o) → X p l e (rmz 3 72) s m args below meth c 0 0 Q 5 G L b S_o 90 [(0, .ref (b + 140)), (1, .int v1_o), (2, .int v2), (3, .int v3)] []) → X p l e (rmz 3 72) s m args below meth c 0 0 Q 5 G L b S 67 [(0, .ref (b + 140)), (1, .int v1), (2, .int v2), (3, .int v3), (4, .int v4)] [] := by
  intro n
  induction n with
  | zero =>
    intro v1 v4 S z h
    exact of_none h
  | succ n ih =>
    intro v1 v4 S z h hx
    rw [L_X7_narrows_67] at h
    refine x_iload (pc := 67) C 4 dX7_narrows_67 rfl ?_
    refine x_bipush (pc := 69) C (v := (10 : Int32)) dX7_narrows_69 rfl ?_
    refine x_icmp_ge (pc := 71) C 90 dX7_narrows_71 rfl (fun c_1 => ?_) (fun c_1 => ?_)
    · replace h := of_ifn c_1 h
      exact x_sub [0, 1, 2, 3] rfl (hx _ _ (of_s1 h).symm)
    · replace h := of_ifp c_1 h
      refine x_iload_n (pc := 74) C 1 dX7_narrows_74 rfl ?_
      refine x_aload_n (pc := 75) C 0 dX7_narrows_75 rfl ?_
      refine x_iload_n (pc := 76) C 3 dX7_narrows_76 rfl ?_
      refine x_iload (pc := 77) C 4 dX7_narrows_77 rfl ?_
      obtain ⟨⟨r_1, S_1⟩, hc_1, h⟩ := of_bd h
      replace h := of_u2 h
      refine x_callV1 (pc := 79) C (o := 140) [.int v3, .int v4] [.int v1] (c_X7_narrowsOne (b := b) v3 v4 hO S _ _ hc_1) cw_X7_329 vi_X7_narrowsOne ⟨rfl, rfl, Nat.le_of_ble_eq_true rfl, Nat.le_of_ble_eq_true rfl⟩ ⟨Nat.le_refl _, Nat.le_refl _⟩ hO.1 ⟨rfl, rfl, rfl⟩ rfl ⟨rfl, Nat.le_of_ble_eq_true rfl⟩ dX7_narrows_79 (fun hx_1 => ?_)
      refine x_ior (pc := 82) C dX7_narrows_82 ?_
      obtain ⟨v1_1, ev1_1, h⟩ := of_lt h
      refine x_istore_n (pc := 83) C 1 [(1, .int v1_1), (0, .ref (b + 140)), (2, .int v2), (3, .int v3), (4, .int v4)] dX7_narrows_83 rfl (Nat.le_of_ble_eq_true rfl) ev1_1 rfl ?_
      obtain ⟨v4_1, ev4_1, h⟩ := of_lt h
      refine x_iinc (pc := 84) C (w := (1 : Int32)) 4 [(4, .int v4_1), (1, .int v1_1), (0, .ref (b + 140)), (2, .int v2), (3, .int v3)] dX7_narrows_84 rfl rfl (Nat.le_of_ble_eq_true rfl) ev4_1 rfl ?_
      refine x_goto (pc := 87) C 67 dX7_narrows_87 rfl ?_
      exact x_sub [2, 1, 3, 4, 0] rfl (ih _ _ _ h hx)
set_option maxRecDepth 100000 in
set_option maxHeartbeats 4000000 in
theorem l_X7_narrows_56 {p : Program} {l : Launch} {e : Env} {s : State} {m : MethodId} {args : Array Value} {below : List Frame} {meth : Method} {c : Code} {G : zz_G} {L : Ly} {b : Nat} {Q : State → Prop} (C : CX p G s m args meth c cX7_narrows yX7_narrows 5 none) (hO : isMo L) (v2 : Int32) : ∀ (n : Nat) (v1 : Int32) (v3 : Int32) (S : Sg) {z}, L_X7_narrows_56 v2 n v1 v3 S = some z → (∀ (v1_o : Int32) (S_o : Sg), z = (v1_o, S_o) → X p l e (rmz 3 72) s m args below meth c 0 0 Q 5 G L b S_o 96 [(0, .ref (b + 140)), (1, .int v1_o), (2, .int v2)] []) → X p l e (rmz 3 72) s m args below meth c 0 0 Q 5 G L b S 56 [(0, .ref (b + 140)), (1, .int v1), (2, .int v2), (3, .int v3)] [] := by
  intro n
  induction n with
  | zero =>
    intro v1 v3 S z h
    exact of_none h
  | succ n ih =>
    intro v1 v3 S z h hx
    rw [L_X7_narrows_56] at h
    refine x_iload_n (pc := 56) C 3 dX7_narrows_56 rfl ?_
    refine x_aload_n (pc := 57) C 0 dX7_narrows_57 rfl ?_
    refine x_geti (pc := 58) C (k := 8) hO.1 rfl rfl wd_736 dX7_narrows_58 ⟨Nat.le_of_ble_eq_true rfl, rfl⟩ ?_
    refine x_icmp_ge (pc := 61) C 96 dX7_narrows_61 rfl (fun c_1 => ?_) (fun c_1 => ?_)
    · replace h := of_ifn c_1 h
      exact x_sub [0, 1, 2] rfl (hx _ _ (of_s1 h).symm)
    · replace h := of_ifp c_1 h
      refine x_iconst (pc := 64) C (v := (0 : Int32)) dX7_narrows_64 rfl ?_
      refine x_istore (pc := 65) C [(4, .int (0 : Int32)), (0, .ref (b + 140)), (1, .int v1), (2, .int v2), (3, .int v3)] dX7_narrows_65 (Nat.le_of_ble_eq_true rfl) rfl rfl ?_
      refine x_sub [1, 2, 3, 4, 0] rfl ?_
      obtain ⟨z_hz_1, hz_1, h⟩ := of_bd h
      refine l_X7_narrows_67 C hO v2 v3 400 _ _ _ hz_1 (fun v1_1 S_1 ez => ?_)
      subst z_hz_1
      replace h := of_u2 h
      obtain ⟨v3_1, ev3_1, h⟩ := of_lt h
      refine x_iinc (pc := 90) C (w := (1 : Int32)) 3 [(3, .int v3_1), (0, .ref (b + 140)), (1, .int v1_1), (2, .int v2)] dX7_narrows_90 rfl rfl (Nat.le_of_ble_eq_true rfl) ev3_1 rfl ?_
      refine x_goto (pc := 93) C 56 dX7_narrows_93 rfl ?_
      exact x_sub [1, 2, 3, 0] rfl (ih _ _ _ h hx)
set_option maxRecDepth 100000 in
set_option maxHeartbeats 4000000 in
theorem l_X7_narrows_42 {p : Program} {l : Launch} {e : Env} {s : State} {m : MethodId} {args : Array Value} {below : List Frame} {meth : Method} {c : Code} {G : zz_G} {L : Ly} {b : Nat} {Q : State → Prop} (C : CX p G s m args meth c cX7_narrows yX7_narrows 5 none) (hO : isMo L) : ∀ (n : Nat) (v1 : Int32) (v2 : Int32) (S : Sg) {z}, L_X7_narrows_42 n v1 v2 S = some z → (∀ (S_o : Sg), z = S_o → X p l e (rmz 3 72) s m args below meth c 0 0 Q 5 G L b S_o 102 [] []) → X p l e (rmz 3 72) s m args below meth c 0 0 Q 5 G L b S 42 [(0, .ref (b + 140)), (1, .int v1), (2, .int v2)] [] := by
  intro n
  induction n with
  | zero =>
    intro v1 v2 S z h
    exact of_none h
  | succ n ih =>
    intro v1 v2 S z h hx
    rw [L_X7_narrows_42] at h
    refine x_iload_n (pc := 42) C 2 dX7_narrows_42 rfl ?_
    refine x_bipush (pc := 43) C (v := (60 : Int32)) dX7_narrows_43 rfl ?_
    refine x_icmp_ge (pc := 45) C 102 dX7_narrows_45 rfl (fun c_1 => ?_) (fun c_1 => ?_)
    · replace h := of_ifn c_1 h
      exact x_sub [] rfl (hx _ (of_s1 h).symm)
    · replace h := of_ifp c_1 h
      refine x_iload_n (pc := 48) C 1 dX7_narrows_48 rfl ?_
      refine x_if_eq (pc := 49) C 102 dX7_narrows_49 rfl (fun c_2 => ?_) (fun c_2 => ?_)
      · replace h := of_ifp c_2 h
        exact x_sub [] rfl (hx _ (of_s1 h).symm)
      · replace h := of_ifn c_2 h
        refine x_iconst (pc := 52) C (v := (0 : Int32)) dX7_narrows_52 rfl ?_
        refine x_istore_n (pc := 53) C 1 [(1, .int (0 : Int32)), (0, .ref (b + 140)), (2, .int v2)] dX7_narrows_53 rfl (Nat.le_of_ble_eq_true rfl) rfl rfl ?_
        refine x_iconst (pc := 54) C (v := (0 : Int32)) dX7_narrows_54 rfl ?_
        refine x_istore_n (pc := 55) C 3 [(3, .int (0 : Int32)), (1, .int (0 : Int32)), (0, .ref (b + 140)), (2, .int v2)] dX7_narrows_55 rfl (Nat.le_of_ble_eq_true rfl) rfl rfl ?_
        refine x_sub [2, 1, 3, 0] rfl ?_
        obtain ⟨z_hz_1, hz_1, h⟩ := of_bd h
        refine l_X7_narrows_56 C hO v2 400 _ _ _ hz_1 (fun v1_1 S_1 ez => ?_)
        subst z_hz_1
        replace h := of_u2 h
        obtain ⟨v2_1, ev2_1, h⟩ := of_lt h
        refine x_iinc (pc := 96) C (w := (1 : Int32)) 2 [(2, .int v2_1), (0, .ref (b + 140)), (1, .int v1_1)] dX7_narrows_96 rfl rfl (Nat.le_of_ble_eq_true rfl) ev2_1 rfl ?_
        refine x_goto (pc := 99) C 42 dX7_narrows_99 rfl ?_
        exact x_sub [1, 2, 0] rfl (ih _ _ _ h hx)
set_option maxRecDepth 100000 in
set_option maxHeartbeats 4000000 in
theorem c_X7_narrows {l : Launch} {G : zz_G} {L : Ly} {b : Nat} (hO : isMo L) (S : Sg) (Sf : Sg) (h : f_X7_narrows S = some Sf) : Met l yX7_narrows (Cond.code yX7_narrows cX7_narrows 5 none :: zz_all) (rmz 3 72) (PC G L b S [.ref (b + 140)]) (QC G L b Sf none True) 0 0 (fun q => b ≤ q) := by
  refine x_met [.ref (b + 140)] (by decide +kernel) (Nat.le_of_ble_eq_true rfl) fun p e s m args below meth c C => ?_
  unfold f_X7_narrows at h
  refine x_iconst (pc := 0) C (v := (0 : Int32)) dX7_narrows_0 rfl ?_
  refine x_istore_n (pc := 1) C 1 [(1, .int (0 : Int32)), (0, .ref (b + 140))] dX7_narrows_1 rfl (Nat.le_of_ble_eq_true rfl) rfl rfl ?_
  refine x_sub [1, 0] rfl ?_
  obtain ⟨z_hz_2, hz_2, h⟩ := of_bd h
  refine l_X7_narrows_2 C hO 400 _ _ hz_2 (fun S_1 ez => ?_)
  subst z_hz_2
  refine x_iconst (pc := 38) C (v := (1 : Int32)) dX7_narrows_38 rfl ?_
  refine x_istore_n (pc := 39) C 1 [(1, .int (1 : Int32)), (0, .ref (b + 140))] dX7_narrows_39 rfl (Nat.le_of_ble_eq_true rfl) rfl rfl ?_
  refine x_iconst (pc := 40) C (v := (0 : Int32)) dX7_narrows_40 rfl ?_
  refine x_istore_n (pc := 41) C 2 [(2, .int (0 : Int32)), (1, .int (1 : Int32)), (0, .ref (b + 140))] dX7_narrows_41 rfl (Nat.le_of_ble_eq_true rfl) rfl rfl ?_
  refine x_sub [2, 1, 0] rfl ?_
  obtain ⟨z_hz_1, hz_1, h⟩ := of_bd h
  refine l_X7_narrows_42 C hO 400 _ _ _ hz_1 (fun S_2 ez => ?_)
  subst z_hz_1
  exact x_vreturn (pc := 102) C dX7_narrows_102 (of_s1 h)
set_option maxRecDepth 100000 in
set_option maxHeartbeats 4000000 in
theorem c_X7_known {l : Launch} {G : zz_G} {L : Ly} {b : Nat} (hO : isMo L) (S : Sg) (rf : Int32) (Sf : Sg) (h : f_X7_known S = some (rf, Sf)) : Met l yX7_known (Cond.code yX7_known cX7_known 1 (some .int) :: zz_all) (rmz 4 96) (PC G L b S [.ref (b + 140)]) (QC G L b Sf (some (.int rf)) True) 0 0 (fun q => b ≤ q) := by
  refine x_met [.ref (b + 140)] (by decide +kernel) (Nat.le_of_ble_eq_true rfl) fun p e s m args below meth c C => ?_
  unfold f_X7_known at h
  refine x_aload_n (pc := 0) C 0 dX7_known_0 rfl ?_
  obtain ⟨S_1, hc_1, h⟩ := of_bd h
  refine x_callV_ (pc := 1) C (o := 140) [] [] (c_X7_narrows (b := b) hO S _ hc_1) cw_X7_332 vi_X7_narrows ⟨rfl, rfl, Nat.le_of_ble_eq_true rfl, Nat.le_of_ble_eq_true rfl⟩ ⟨Nat.le_refl _, Nat.le_refl _⟩ hO.1 ⟨rfl, rfl, rfl⟩ rfl ⟨rfl, Nat.le_of_ble_eq_true rfl⟩ dX7_known_1 (fun hx_1 => ?_)
  refine x_aload_n (pc := 4) C 0 dX7_known_4 rfl ?_
  obtain ⟨r_1, hc_2, h⟩ := of_bd h
  refine x_callV1 (pc := 5) C (o := 140) [] [] (c_X7_knownNow (b := b) hO S_1 _ hc_2) cw_X7_338 vi_X7_knownNow ⟨rfl, rfl, Nat.le_of_ble_eq_true rfl, Nat.le_of_ble_eq_true rfl⟩ ⟨Nat.le_refl _, Nat.le_refl _⟩ hO.1 ⟨rfl, rfl, rfl⟩ rfl ⟨rfl, Nat.le_of_ble_eq_true rfl⟩ dX7_known_5 (fun hx_2 => ?_)
  exact x_ireturn (pc := 8) C dX7_known_8 (of_sp h).1 (of_sp h).2
set_option maxRecDepth 100000 in
set_option maxHeartbeats 4000000 in
theorem l_X7_narrowest_4 {p : Program} {l : Launch} {e : Env} {s : State} {m : MethodId} {args : Array Value} {below : List Frame} {meth : Method} {c : Code} {G : zz_G} {L : Ly} {b : Nat} {Q : State → Prop} (C : CX p G s m args meth c cX7_narrowest yX7_narrowest 3 (some .int)) (hO : isMo L) (S : Sg) : ∀ (n : Nat) (v1 : Int32) (v2 : Int32) {z}, L_X7_narrowest_4 S n v1 v2 = some z → (∀ (v1_o : Int32), z = v1_o → X p l e (rmz 1 21) s m args below meth c 0 0 Q 3 G L b S 37 [(1, .int v1_o)] []) → X p l e (rmz 1 21) s m args below meth c 0 0 Q 3 G L b S 4 [(0, .ref (b + 140)), (1, .int v1), (2, .int v2)] [] := by
  intro n
  induction n with
  | zero =>
    intro v1 v2 z h
    exact of_none h
  | succ n ih =>
    intro v1 v2 z h hx
    rw [L_X7_narrowest_4] at h
    refine x_iload_n (pc := 4) C 2 dX7_narrowest_4 rfl ?_
    refine x_aload_n (pc := 5) C 0 dX7_narrowest_5 rfl ?_
    refine x_geti (pc := 6) C (k := 7) hO.1 rfl rfl wd_735 dX7_narrowest_6 ⟨Nat.le_of_ble_eq_true rfl, rfl⟩ ?_
    refine x_icmp_ge (pc := 9) C 37 dX7_narrowest_9 rfl (fun c_1 => ?_) (fun c_1 => ?_)
    · replace h := of_ifn c_1 h
      exact x_sub [1] rfl (hx _ (of_s1 h).symm)
    · replace h := of_ifp c_1 h
      refine x_aload_n (pc := 12) C 0 dX7_narrowest_12 rfl ?_
      refine x_iload_n (pc := 13) C 2 dX7_narrowest_13 rfl ?_
      obtain ⟨r_1, hc_1, h⟩ := of_bd h
      refine x_callV1 (pc := 14) C (o := 140) [.int v2] [] (c_X7_width (b := b) v2 hO S _ hc_1) cw_X7_335 vi_X7_width ⟨rfl, rfl, Nat.le_of_ble_eq_true rfl, Nat.le_of_ble_eq_true rfl⟩ ⟨Nat.le_refl _, Nat.le_refl _⟩ hO.1 ⟨rfl, rfl, rfl⟩ rfl ⟨rfl, Nat.le_of_ble_eq_true rfl⟩ dX7_narrowest_14 (fun hx_1 => ?_)
      refine x_aload_n (pc := 17) C 0 dX7_narrowest_17 rfl ?_
      refine x_iload_n (pc := 18) C 1 dX7_narrowest_18 rfl ?_
      obtain ⟨r_2, hc_2, h⟩ := of_bd h
      refine x_callV1 (pc := 19) C (o := 140) [.int v1] [.int r_1] (c_X7_width (b := b) v1 hO S _ hc_2) cw_X7_335 vi_X7_width ⟨rfl, rfl, Nat.le_of_ble_eq_true rfl, Nat.le_of_ble_eq_true rfl⟩ ⟨Nat.le_refl _, Nat.le_refl _⟩ hO.1 ⟨rfl, rfl, rfl⟩ rfl ⟨rfl, Nat.le_of_ble_eq_true rfl⟩ dX7_narrowest_19 (fun hx_2 => ?_)
      obtain ⟨x_1, ex_1, h⟩ := of_lt h
      have kd_1 : X p l e (rmz 1 21) s m args below meth c 0 0 Q 3 G L b S 30 [(0, .ref (b + 140)), (2, .int v2)] [.int x_1] := by
        refine x_istore_n (pc := 30) C 1 [(1, .int x_1), (0, .ref (b + 140)), (2, .int v2)] dX7_narrowest_30 rfl (Nat.le_of_ble_eq_true rfl) rfl rfl ?_
        obtain ⟨v2_1, ev2_1, h⟩ := of_lt h
        refine x_iinc (pc := 31) C (w := (1 : Int32)) 2 [(2, .int v2_1), (1, .int x_1), (0, .ref (b + 140))] dX7_narrowest_31 rfl rfl (Nat.le_of_ble_eq_true rfl) ev2_1 rfl ?_
        refine x_goto (pc := 34) C 4 dX7_narrowest_34 rfl ?_
        exact x_sub [2, 1, 0] rfl (ih _ _ h hx)
      refine x_icmp_ge (pc := 22) C 29 dX7_narrowest_22 rfl (fun c_2 => ?_) (fun c_2 => ?_)
      · refine x_iload_n (pc := 29) C 1 dX7_narrowest_29 rfl ?_
        refine x_sub [0, 2] rfl ?_
        rw [show x_1 = v1 from (ex_1.trans (if_neg c_2))] at kd_1
        exact kd_1
      · refine x_iload_n (pc := 25) C 2 dX7_narrowest_25 rfl ?_
        refine x_goto (pc := 26) C 30 dX7_narrowest_26 rfl ?_
        refine x_sub [0, 2] rfl ?_
        rw [show x_1 = v2 from (ex_1.trans (if_pos c_2))] at kd_1
        exact kd_1
set_option maxRecDepth 100000 in
set_option maxHeartbeats 4000000 in
theorem c_X7_narrowest {l : Launch} {G : zz_G} {L : Ly} {b : Nat} (hO : isMo L) (S : Sg) (rf : Int32) (h : f_X7_narrowest S = some rf) : Met l yX7_narrowest (Cond.code yX7_narrowest cX7_narrowest 3 (some .int) :: zz_all) (rmz 1 21) (PC G L b S [.ref (b + 140)]) (QC G L b S (some (.int rf)) True) 0 0 (fun q => b ≤ q) := by
  refine x_met [.ref (b + 140)] (by decide +kernel) (Nat.le_of_ble_eq_true rfl) fun p e s m args below meth c C => ?_
  unfold f_X7_narrowest at h
  refine x_iconst (pc := 0) C (v := (0 : Int32)) dX7_narrowest_0 rfl ?_
  refine x_istore_n (pc := 1) C 1 [(1, .int (0 : Int32)), (0, .ref (b + 140))] dX7_narrowest_1 rfl (Nat.le_of_ble_eq_true rfl) rfl rfl ?_
  refine x_iconst (pc := 2) C (v := (1 : Int32)) dX7_narrowest_2 rfl ?_
  refine x_istore_n (pc := 3) C 2 [(2, .int (1 : Int32)), (1, .int (0 : Int32)), (0, .ref (b + 140))] dX7_narrowest_3 rfl (Nat.le_of_ble_eq_true rfl) rfl rfl ?_
  refine x_sub [2, 1, 0] rfl ?_
  obtain ⟨z_hz_1, hz_1, h⟩ := of_bd h
  refine l_X7_narrowest_4 C hO S 400 _ _ hz_1 (fun v1_1 ez => ?_)
  subst z_hz_1
  refine x_iload_n (pc := 37) C 0 dX7_narrowest_37 rfl ?_
  exact x_ireturn (pc := 38) C dX7_narrowest_38 (of_s1 h) rfl
set_option maxRecDepth 100000 in
set_option maxHeartbeats 4000000 in
theorem c_X7_learns {l : Launch} {G : zz_G} {L : Ly} {b : Nat} (p1 : Int32) (p2 : Int32) (p3 : Int32) (p4 : Int32) (hO : isMo L) (S : Sg) (rf : Int32) (Sf : Sg) (h : f_X7_learns p1 p2 p3 p4 S = some (rf, Sf)) : Met l yX7_learns (Cond.code yX7_learns cX7_learns 8 (some .int) :: zz_all) (rmz 8 196) (PC G L b S [.ref (b + 140), .int p1, .int p2, .int p3, .int p4]) (QC G L b Sf (some (.int rf)) True) 0 0 (fun q => b ≤ q) := by
  refine x_met [.ref (b + 140), .int p1, .int p2, .int p3, .int p4] (by decide +kernel) (Nat.le_of_ble_eq_true rfl) fun p e s m args below meth c C => ?_
  unfold f_X7_learns at h
  refine x_iload_n (pc := 0) C 1 dX7_learns_0 rfl ?_
  refine x_iload_n (pc := 1) C 2 dX7_learns_1 rfl ?_
  refine x_iload_n (pc := 2) C 3 dX7_learns_2 rfl ?_
  refine x_callS1 (pc := 3) C [.int p1, .int p2, .int p3] [] (c_X7_notQuestion (b := b) p1 p2 p3 S) cw_X7_263 vs_X7_notQuestion ⟨rfl, rfl, Nat.le_of_ble_eq_true rfl, Nat.le_of_ble_eq_true rfl⟩ ⟨Nat.le_refl _, Nat.le_refl _⟩ rfl ⟨rfl, Nat.le_of_ble_eq_true rfl⟩ dX7_learns_3 (fun hx_1 => ?_)
  obtain ⟨v5_1, ev5_1, h⟩ := of_lt h
  refine x_istore (pc := 6) C [(5, .int v5_1), (0, .ref (b + 140)), (1, .int p1), (2, .int p2), (3, .int p3), (4, .int p4)] dX7_learns_6 (Nat.le_of_ble_eq_true rfl) ev5_1 rfl ?_
  refine x_iload (pc := 8) C 0 dX7_learns_8 rfl ?_
  obtain ⟨v5_2, ev5_2, h⟩ := of_lt h
  have kd_1 : X p l e (rmz 8 196) s m args below meth c 0 0 (RQ G L b Sf below args s (some (.int rf)) True) 8 G L b S 27 [(0, .ref (b + 140)), (1, .int p1), (2, .int p2), (3, .int p3), (4, .int p4), (5, .int v5_2)] [] := by
    refine x_iload (pc := 27) C 5 dX7_learns_27 rfl ?_
    refine x_if_eq (pc := 29) C 39 dX7_learns_29 rfl (fun c_1 => ?_) (fun c_1 => ?_)
    · replace h := of_ifp c_1 h
      refine x_aload_n (pc := 39) C 0 dX7_learns_39 rfl ?_
      obtain ⟨S_1, hc_1, h⟩ := of_bd h
      refine x_callV_ (pc := 40) C (o := 140) [] [] (c_X7_minds (b := b) hO S _ hc_1) cw_X7_341 vi_X7_minds ⟨rfl, rfl, Nat.le_of_ble_eq_true rfl, Nat.le_of_ble_eq_true rfl⟩ ⟨Nat.le_refl _, Nat.le_refl _⟩ hO.1 ⟨rfl, rfl, rfl⟩ rfl ⟨rfl, Nat.le_of_ble_eq_true rfl⟩ dX7_learns_40 (fun hx_3 => ?_)
      refine x_aload_n (pc := 43) C 0 dX7_learns_43 rfl ?_
      refine x_iload_n (pc := 44) C 1 dX7_learns_44 rfl ?_
      refine x_iload_n (pc := 45) C 2 dX7_learns_45 rfl ?_
      refine x_iload_n (pc := 46) C 3 dX7_learns_46 rfl ?_
      obtain ⟨S_2, hc_2, h⟩ := of_bd h
      refine x_callV_ (pc := 47) C (o := 140) [.int p1, .int p2, .int p3] [] (c_X7_asks (b := b) p1 p2 p3 hO S_1 _ hc_2) cw_X7_266 vi_X7_asks ⟨rfl, rfl, Nat.le_of_ble_eq_true rfl, Nat.le_of_ble_eq_true rfl⟩ ⟨Nat.le_refl _, Nat.le_refl _⟩ hO.1 ⟨rfl, rfl, rfl⟩ rfl ⟨rfl, Nat.le_of_ble_eq_true rfl⟩ dX7_learns_47 (fun hx_4 => ?_)
      refine x_aload_n (pc := 50) C 0 dX7_learns_50 rfl ?_
      obtain ⟨⟨r_1, S_3⟩, hc_3, h⟩ := of_bd h
      replace h := of_u2 h
      refine x_callV1 (pc := 51) C (o := 140) [] [] (c_X7_meetsNow (b := b) hO S_2 _ _ hc_3) cw_X7_186 vi_X7_meetsNow ⟨rfl, rfl, Nat.le_of_ble_eq_true rfl, Nat.le_of_ble_eq_true rfl⟩ ⟨Nat.le_refl _, Nat.le_refl _⟩ hO.1 ⟨rfl, rfl, rfl⟩ rfl ⟨rfl, Nat.le_of_ble_eq_true rfl⟩ dX7_learns_51 (fun hx_5 => ?_)
      obtain ⟨J_1, eJ_1, h⟩ := of_lt h
      have kJ_1 : ∀ (S_4 : Sg), J_1 S_4 = some (rf, Sf) → X p l e (rmz 8 196) s m args below meth c 0 0 (RQ G L b Sf below args s (some (.int rf)) True) 8 G L b S_4 61 [(0, .ref (b + 140)), (4, .int p4)] [] := by
        intro S_4 h
        replace h := of_J1 eJ_1 h
        refine x_aload_n (pc := 61) C 0 dX7_learns_61 rfl ?_
        obtain ⟨S_5, hc_4, h⟩ := of_bd h
        refine x_callV_ (pc := 62) C (o := 140) [] [] (c_X7_narrows (b := b) hO S_4 _ hc_4) cw_X7_332 vi_X7_narrows ⟨rfl, rfl, Nat.le_of_ble_eq_true rfl, Nat.le_of_ble_eq_true rfl⟩ ⟨Nat.le_refl _, Nat.le_refl _⟩ hO.1 ⟨rfl, rfl, rfl⟩ rfl ⟨rfl, Nat.le_of_ble_eq_true rfl⟩ dX7_learns_62 (fun hx_6 => ?_)
        refine x_aload_n (pc := 65) C 0 dX7_learns_65 rfl ?_
        obtain ⟨r_2, hc_5, h⟩ := of_bd h
        refine x_callV1 (pc := 66) C (o := 140) [] [] (c_X7_narrowest (b := b) hO S_5 _ hc_5) cw_X7_344 vi_X7_narrowest ⟨rfl, rfl, Nat.le_of_ble_eq_true rfl, Nat.le_of_ble_eq_true rfl⟩ ⟨Nat.le_refl _, Nat.le_refl _⟩ hO.1 ⟨rfl, rfl, rfl⟩ rfl ⟨rfl, Nat.le_of_ble_eq_true rfl⟩ dX7_learns_66 (fun hx_7 => ?_)
        refine x_istore (pc := 69) C [(6, .int r_2), (0, .ref (b + 140)), (4, .int p4)] dX7_learns_69 (Nat.le_of_ble_eq_true rfl) rfl rfl ?_
        refine x_iload (pc := 71) C 2 dX7_learns_71 rfl ?_
        refine x_if_ne (pc := 73) C 85 dX7_learns_73 rfl (fun c_2 => ?_) (fun c_2 => ?_)
        · replace h := of_ifn c_2 h
          refine x_iload (pc := 85) C 2 dX7_learns_85 rfl ?_
          refine x_iconst (pc := 87) C (v := (1 : Int32)) dX7_learns_87 rfl ?_
          refine x_icmp_ne (pc := 88) C 96 dX7_learns_88 rfl (fun c_3 => ?_) (fun c_3 => ?_)
          · replace h := of_ifn c_3 h
            refine x_aload_n (pc := 96) C 1 dX7_learns_96 rfl ?_
            obtain ⟨r_3, hc_6, h⟩ := of_bd h
            refine x_callV1 (pc := 97) C (o := 140) [] [] (c_X7_knownNow (b := b) hO S_5 _ hc_6) cw_X7_338 vi_X7_knownNow ⟨rfl, rfl, Nat.le_of_ble_eq_true rfl, Nat.le_of_ble_eq_true rfl⟩ ⟨Nat.le_refl _, Nat.le_refl _⟩ hO.1 ⟨rfl, rfl, rfl⟩ rfl ⟨rfl, Nat.le_of_ble_eq_true rfl⟩ dX7_learns_97 (fun hx_8 => ?_)
            obtain ⟨r_4, hc_7, h⟩ := of_bd h
            refine x_callS1 (pc := 100) C [.int r_3] [] (c_X7_bits (b := b) r_3 S_5 _ hc_7) cw_X7_303 vs_X7_bits ⟨rfl, rfl, Nat.le_of_ble_eq_true rfl, Nat.le_of_ble_eq_true rfl⟩ ⟨Nat.le_refl _, Nat.le_refl _⟩ rfl ⟨rfl, Nat.le_of_ble_eq_true rfl⟩ dX7_learns_100 (fun hx_9 => ?_)
            refine x_istore (pc := 103) C [(7, .int r_4), (6, .int r_2), (0, .ref (b + 140)), (4, .int p4)] dX7_learns_103 (Nat.le_of_ble_eq_true rfl) rfl rfl ?_
            refine x_aload_n (pc := 105) C 2 dX7_learns_105 rfl ?_
            obtain ⟨S_6, hc_8, h⟩ := of_bd h
            refine x_callV_ (pc := 106) C (o := 140) [] [] (c_X7_forgets (b := b) hO S_5 _ hc_8) cw_X7_347 vi_X7_forgets ⟨rfl, rfl, Nat.le_of_ble_eq_true rfl, Nat.le_of_ble_eq_true rfl⟩ ⟨Nat.le_refl _, Nat.le_refl _⟩ hO.1 ⟨rfl, rfl, rfl⟩ rfl ⟨rfl, Nat.le_of_ble_eq_true rfl⟩ dX7_learns_106 (fun hx_10 => ?_)
            refine x_iload (pc := 109) C 0 dX7_learns_109 rfl ?_
            exact x_ireturn (pc := 111) C dX7_learns_111 (of_sp h).1 (of_sp h).2
          · replace h := of_ifp c_3 h
            refine x_iload (pc := 91) C 0 dX7_learns_91 rfl ?_
            refine x_goto (pc := 93) C 103 dX7_learns_93 rfl ?_
            refine x_istore (pc := 103) C [(7, .int r_2), (6, .int r_2), (0, .ref (b + 140)), (4, .int p4)] dX7_learns_103 (Nat.le_of_ble_eq_true rfl) rfl rfl ?_
            refine x_aload_n (pc := 105) C 2 dX7_learns_105 rfl ?_
            obtain ⟨S_7, hc_9, h⟩ := of_bd h
            refine x_callV_ (pc := 106) C (o := 140) [] [] (c_X7_forgets (b := b) hO S_5 _ hc_9) cw_X7_347 vi_X7_forgets ⟨rfl, rfl, Nat.le_of_ble_eq_true rfl, Nat.le_of_ble_eq_true rfl⟩ ⟨Nat.le_refl _, Nat.le_refl _⟩ hO.1 ⟨rfl, rfl, rfl⟩ rfl ⟨rfl, Nat.le_of_ble_eq_true rfl⟩ dX7_learns_106 (fun hx_11 => ?_)
            refine x_iload (pc := 109) C 0 dX7_learns_109 rfl ?_
            exact x_ireturn (pc := 111) C dX7_learns_111 (of_sp h).1 (of_sp h).2
        · replace h := of_ifp c_2 h
          refine x_aload_n (pc := 76) C 1 dX7_learns_76 rfl ?_
          refine x_iload (pc := 77) C 0 dX7_learns_77 rfl ?_
          obtain ⟨r_5, hc_10, h⟩ := of_bd h
          refine x_callV1 (pc := 79) C (o := 140) [.int r_2] [] (c_X7_width (b := b) r_2 hO S_5 _ hc_10) cw_X7_335 vi_X7_width ⟨rfl, rfl, Nat.le_of_ble_eq_true rfl, Nat.le_of_ble_eq_true rfl⟩ ⟨Nat.le_refl _, Nat.le_refl _⟩ hO.1 ⟨rfl, rfl, rfl⟩ rfl ⟨rfl, Nat.le_of_ble_eq_true rfl⟩ dX7_learns_79 (fun hx_12 => ?_)
          refine x_goto (pc := 82) C 103 dX7_learns_82 rfl ?_
          refine x_istore (pc := 103) C [(7, .int r_5), (6, .int r_2), (0, .ref (b + 140)), (4, .int p4)] dX7_learns_103 (Nat.le_of_ble_eq_true rfl) rfl rfl ?_
          refine x_aload_n (pc := 105) C 2 dX7_learns_105 rfl ?_
          obtain ⟨S_8, hc_11, h⟩ := of_bd h
          refine x_callV_ (pc := 106) C (o := 140) [] [] (c_X7_forgets (b := b) hO S_5 _ hc_11) cw_X7_347 vi_X7_forgets ⟨rfl, rfl, Nat.le_of_ble_eq_true rfl, Nat.le_of_ble_eq_true rfl⟩ ⟨Nat.le_refl _, Nat.le_refl _⟩ hO.1 ⟨rfl, rfl, rfl⟩ rfl ⟨rfl, Nat.le_of_ble_eq_true rfl⟩ dX7_learns_106 (fun hx_13 => ?_)
          refine x_iload (pc := 109) C 0 dX7_learns_109 rfl ?_
          exact x_ireturn (pc := 111) C dX7_learns_111 (of_sp h).1 (of_sp h).2
      refine x_if_eq (pc := 54) C 61 dX7_learns_54 rfl (fun c_4 => ?_) (fun c_4 => ?_)
      · replace h := of_ifp c_4 h
        exact x_sub [0, 4] rfl (kJ_1 _ h)
      · replace h := of_ifn c_4 h
        refine x_aload_n (pc := 57) C 0 dX7_learns_57 rfl ?_
        obtain ⟨S_9, hc_12, h⟩ := of_bd h
        refine x_callV_ (pc := 58) C (o := 140) [] [] (c_X7_joins (b := b) hO S_3 _ hc_12) cw_X7_189 vi_X7_joins ⟨rfl, rfl, Nat.le_of_ble_eq_true rfl, Nat.le_of_ble_eq_true rfl⟩ ⟨Nat.le_refl _, Nat.le_refl _⟩ hO.1 ⟨rfl, rfl, rfl⟩ rfl ⟨rfl, Nat.le_of_ble_eq_true rfl⟩ dX7_learns_58 (fun hx_14 => ?_)
        exact x_sub [0, 4] rfl (kJ_1 _ h)
    · replace h := of_ifn c_1 h
      refine x_aload_n (pc := 32) C 0 dX7_learns_32 rfl ?_
      refine x_iload (pc := 33) C 5 dX7_learns_33 rfl ?_
      obtain ⟨⟨r_6, S_10⟩, hc_13, h⟩ := of_bd h
      replace h := of_u2 h
      refine x_callV1 (pc := 35) C (o := 140) [.int v5_2] [] (c_X7_no (b := b) v5_2 hO S _ _ hc_13) cw_X7_213 vi_X7_no ⟨rfl, rfl, Nat.le_of_ble_eq_true rfl, Nat.le_of_ble_eq_true rfl⟩ ⟨Nat.le_refl _, Nat.le_refl _⟩ hO.1 ⟨rfl, rfl, rfl⟩ rfl ⟨rfl, Nat.le_of_ble_eq_true rfl⟩ dX7_learns_35 (fun hx_15 => ?_)
      exact x_ireturn (pc := 38) C dX7_learns_38 (of_sp h).1 (of_sp h).2
  refine x_if_ne (pc := 10) C 27 dX7_learns_10 rfl (fun c_5 => ?_) (fun c_5 => ?_)
  · refine x_sub [1, 2, 3, 4, 5, 0] rfl ?_
    rw [show v5_2 = v5_1 from (ev5_2.trans (if_neg c_5))] at kd_1
    exact kd_1
  · refine x_iload (pc := 13) C 5 dX7_learns_13 rfl ?_
    refine x_iconst (pc := 15) C (v := (0 : Int32)) dX7_learns_15 rfl ?_
    refine x_iconst (pc := 16) C (v := (2 : Int32)) dX7_learns_16 rfl ?_
    refine x_callS1 (pc := 17) C [.int p4, .int (0 : Int32), .int (2 : Int32)] [] (c_X7_isIn (b := b) p4 (0 : Int32) (2 : Int32) S) cw_X7_96 vs_X7_isIn ⟨rfl, rfl, Nat.le_of_ble_eq_true rfl, Nat.le_of_ble_eq_true rfl⟩ ⟨Nat.le_refl _, Nat.le_refl _⟩ rfl ⟨rfl, Nat.le_of_ble_eq_true rfl⟩ dX7_learns_17 (fun hx_2 => ?_)
    refine x_if_ne (pc := 20) C 27 dX7_learns_20 rfl (fun c_6 => ?_) (fun c_6 => ?_)
    · refine x_sub [1, 2, 3, 4, 5, 0] rfl ?_
      rw [show v5_2 = v5_1 from ((ev5_2.trans (if_pos c_5)).trans (if_neg c_6))] at kd_1
      exact kd_1
    · refine x_bipush (pc := 23) C (v := (-2 : Int32)) dX7_learns_23 rfl ?_
      refine x_istore (pc := 25) C [(5, .int (-2 : Int32)), (0, .ref (b + 140)), (1, .int p1), (2, .int p2), (3, .int p3), (4, .int p4)] dX7_learns_25 (Nat.le_of_ble_eq_true rfl) rfl rfl ?_
      refine x_sub [1, 2, 3, 4, 5, 0] rfl ?_
      rw [show v5_2 = (-2 : Int32) from ((ev5_2.trans (if_pos c_5)).trans (if_pos c_6))] at kd_1
      exact kd_1
set_option maxRecDepth 100000 in
set_option maxHeartbeats 4000000 in
theorem c_X7_ledger {l : Launch} {G : zz_G} {L : Ly} {b : Nat} (p1 : Int32) (p2 : Int32) (hO : isMo L) (S : Sg) (rf : Int32) (Sf : Sg) (h : f_X7_ledger p1 p2 S = some (rf, Sf)) : Met l yX7_ledger (Cond.code yX7_ledger cX7_ledger 3 (some .int) :: zz_all) (rmz 2 43) (PC G L b S [.ref (b + 140), .int p1, .int p2]) (QC G L b Sf (some (.int rf)) True) 0 0 (fun q => b ≤ q) := by
  refine x_met [.ref (b + 140), .int p1, .int p2] (by decide +kernel) (Nat.le_of_ble_eq_true rfl) fun p e s m args below meth c C => ?_
  unfold f_X7_ledger at h
  refine x_aload_n (pc := 0) C 0 dX7_ledger_0 rfl ?_
  refine x_iload_n (pc := 1) C 1 dX7_ledger_1 rfl ?_
  refine x_callV1 (pc := 2) C (o := 140) [.int p1] [] (c_X7_isRow (b := b) p1 hO S) cw_X7_306 vi_X7_isRow ⟨rfl, rfl, Nat.le_of_ble_eq_true rfl, Nat.le_of_ble_eq_true rfl⟩ ⟨Nat.le_refl _, Nat.le_refl _⟩ hO.1 ⟨rfl, rfl, rfl⟩ rfl ⟨rfl, Nat.le_of_ble_eq_true rfl⟩ dX7_ledger_2 (fun hx_1 => ?_)
  refine x_if_eq (pc := 5) C 33 dX7_ledger_5 rfl (fun c_1 => ?_) (fun c_1 => ?_)
  · replace h := of_ifp c_1 h
    refine x_aload_n (pc := 33) C 0 dX7_ledger_33 rfl ?_
    refine x_iconst (pc := 34) C (v := (-1 : Int32)) dX7_ledger_34 rfl ?_
    obtain ⟨⟨r_1, S_1⟩, hc_1, h⟩ := of_bd h
    replace h := of_u2 h
    refine x_callV1 (pc := 35) C (o := 140) [.int (-1 : Int32)] [] (c_X7_no (b := b) (-1 : Int32) hO S _ _ hc_1) cw_X7_213 vi_X7_no ⟨rfl, rfl, Nat.le_of_ble_eq_true rfl, Nat.le_of_ble_eq_true rfl⟩ ⟨Nat.le_refl _, Nat.le_refl _⟩ hO.1 ⟨rfl, rfl, rfl⟩ rfl ⟨rfl, Nat.le_of_ble_eq_true rfl⟩ dX7_ledger_35 (fun hx_2 => ?_)
    exact x_ireturn (pc := 38) C dX7_ledger_38 (of_sp h).1 (of_sp h).2
  · replace h := of_ifn c_1 h
    refine x_aload_n (pc := 8) C 0 dX7_ledger_8 rfl ?_
    refine x_iload_n (pc := 9) C 2 dX7_ledger_9 rfl ?_
    refine x_callV1 (pc := 10) C (o := 140) [.int p2] [] (c_X7_isVariable (b := b) p2 hO S) cw_X7_257 vi_X7_isVariable ⟨rfl, rfl, Nat.le_of_ble_eq_true rfl, Nat.le_of_ble_eq_true rfl⟩ ⟨Nat.le_refl _, Nat.le_refl _⟩ hO.1 ⟨rfl, rfl, rfl⟩ rfl ⟨rfl, Nat.le_of_ble_eq_true rfl⟩ dX7_ledger_10 (fun hx_3 => ?_)
    refine x_if_eq (pc := 13) C 33 dX7_ledger_13 rfl (fun c_2 => ?_) (fun c_2 => ?_)
    · replace h := of_ifp c_2 h
      refine x_aload_n (pc := 33) C 0 dX7_ledger_33 rfl ?_
      refine x_iconst (pc := 34) C (v := (-1 : Int32)) dX7_ledger_34 rfl ?_
      obtain ⟨⟨r_2, S_2⟩, hc_2, h⟩ := of_bd h
      replace h := of_u2 h
      refine x_callV1 (pc := 35) C (o := 140) [.int (-1 : Int32)] [] (c_X7_no (b := b) (-1 : Int32) hO S _ _ hc_2) cw_X7_213 vi_X7_no ⟨rfl, rfl, Nat.le_of_ble_eq_true rfl, Nat.le_of_ble_eq_true rfl⟩ ⟨Nat.le_refl _, Nat.le_refl _⟩ hO.1 ⟨rfl, rfl, rfl⟩ rfl ⟨rfl, Nat.le_of_ble_eq_true rfl⟩ dX7_ledger_35 (fun hx_4 => ?_)
      exact x_ireturn (pc := 38) C dX7_ledger_38 (of_sp h).1 (of_sp h).2
    · replace h := of_ifn c_2 h
      refine x_aload_n (pc := 16) C 0 dX7_ledger_16 rfl ?_
      refine x_getr (pc := 17) C (k := 5) 146 hO.1 rfl rfl wd_733 dX7_ledger_17 (Nat.le_of_ble_eq_true rfl) rfl ?_
      refine x_bipush (pc := 20) C (v := (10 : Int32)) dX7_ledger_20 rfl ?_
      refine x_iload_n (pc := 22) C 1 dX7_ledger_22 rfl ?_
      refine x_imul (pc := 23) C dX7_ledger_23 ?_
      refine x_iload_n (pc := 24) C 2 dX7_ledger_24 rfl ?_
      refine x_iadd (pc := 25) C dX7_ledger_25 ?_
      obtain ⟨g_1, h⟩ := of_gd h
      refine x_iaload (pc := 26) C hO.2.2.2.2.2.2.1 g_1 dX7_ledger_26 ?_
      refine x_bipush (pc := 27) C (v := (100 : Int32)) dX7_ledger_27 rfl ?_
      refine x_iadd (pc := 29) C dX7_ledger_29 ?_
      refine x_goto (pc := 30) C 38 dX7_ledger_30 rfl ?_
      exact x_ireturn (pc := 38) C dX7_ledger_38 (of_sp h).1 (of_sp h).2
set_option maxRecDepth 100000 in
set_option maxHeartbeats 4000000 in
theorem c_X7_letter {l : Launch} {G : zz_G} {L : Ly} {b : Nat} (p1 : Int32) (hO : isMo L) (S : Sg) (rf : Int32) (Sf : Sg) (h : f_X7_letter p1 S = some (rf, Sf)) : Met l yX7_letter (Cond.code yX7_letter cX7_letter 3 (some .int) :: zz_all) (rmz 1 22) (PC G L b S [.ref (b + 140), .int p1]) (QC G L b Sf (some (.int rf)) True) 0 0 (fun q => b ≤ q) := by
  refine x_met [.ref (b + 140), .int p1] (by decide +kernel) (Nat.le_of_ble_eq_true rfl) fun p e s m args below meth c C => ?_
  unfold f_X7_letter at h
  refine x_iload_n (pc := 0) C 1 dX7_letter_0 rfl ?_
  refine x_iconst (pc := 1) C (v := (0 : Int32)) dX7_letter_1 rfl ?_
  refine x_sipush (pc := 2) C (v := (255 : Int32)) dX7_letter_2 rfl ?_
  refine x_callS1 (pc := 5) C [.int p1, .int (0 : Int32), .int (255 : Int32)] [] (c_X7_bound (b := b) p1 (0 : Int32) (255 : Int32) S) cw_X7_216 vs_X7_bound ⟨rfl, rfl, Nat.le_of_ble_eq_true rfl, Nat.le_of_ble_eq_true rfl⟩ ⟨Nat.le_refl _, Nat.le_refl _⟩ rfl ⟨rfl, Nat.le_of_ble_eq_true rfl⟩ dX7_letter_5 (fun hx_1 => ?_)
  obtain ⟨v2_1, ev2_1, h⟩ := of_lt h
  refine x_istore_n (pc := 8) C 2 [(2, .int v2_1), (0, .ref (b + 140)), (1, .int p1)] dX7_letter_8 rfl (Nat.le_of_ble_eq_true rfl) ev2_1 rfl ?_
  refine x_iload_n (pc := 9) C 0 dX7_letter_9 rfl ?_
  obtain ⟨v2_2, ev2_2, h⟩ := of_lt h
  have kd_1 : X p l e (rmz 1 22) s m args below meth c 0 0 (RQ G L b Sf below args s (some (.int rf)) True) 3 G L b S 25 [(0, .ref (b + 140)), (1, .int p1), (2, .int v2_2)] [] := by
    refine x_iload_n (pc := 25) C 2 dX7_letter_25 rfl ?_
    refine x_if_eq (pc := 26) C 35 dX7_letter_26 rfl (fun c_1 => ?_) (fun c_1 => ?_)
    · replace h := of_ifp c_1 h
      refine x_aload_n (pc := 35) C 0 dX7_letter_35 rfl ?_
      refine x_getr (pc := 36) C (k := 24) 155 hO.1 rfl rfl wd_752 dX7_letter_36 (Nat.le_of_ble_eq_true rfl) rfl ?_
      refine x_aload_n (pc := 39) C 0 dX7_letter_39 rfl ?_
      refine x_geti (pc := 40) C (k := 28) hO.1 rfl rfl wd_756 dX7_letter_40 ⟨Nat.le_of_ble_eq_true rfl, rfl⟩ ?_
      refine x_iload_n (pc := 43) C 1 dX7_letter_43 rfl ?_
      obtain ⟨g_1, h⟩ := of_gd h
      obtain ⟨S_1, eS_1, h⟩ := of_lt h
      refine x_iastore (pc := 44) C hO.2.2.2.2.2.2.2.2.2.2.2.2.2.2.2.1 g_1 eS_1 dX7_letter_44 ?_
      refine x_aload_n (pc := 45) C 0 dX7_letter_45 rfl ?_
      refine x_dup (pc := 46) C dX7_letter_46 rfl ?_
      refine x_geti (pc := 47) C (k := 28) hO.1 rfl rfl wd_756 dX7_letter_47 ⟨Nat.le_of_ble_eq_true rfl, rfl⟩ ?_
      refine x_iconst (pc := 50) C (v := (1 : Int32)) dX7_letter_50 rfl ?_
      refine x_iadd (pc := 51) C dX7_letter_51 ?_
      obtain ⟨S_2, eS_2, h⟩ := of_lt h
      refine x_puti (pc := 52) C (k := 28) hO.1 rfl rfl wd_756 dX7_letter_52 ⟨Nat.le_of_ble_eq_true rfl, rfl⟩ eS_2 ?_
      refine x_aload_n (pc := 55) C 0 dX7_letter_55 rfl ?_
      refine x_geti (pc := 56) C (k := 28) hO.1 rfl rfl wd_756 dX7_letter_56 ⟨Nat.le_of_ble_eq_true rfl, rfl⟩ ?_
      exact x_ireturn (pc := 59) C dX7_letter_59 (of_sp h).1 (of_sp h).2
    · replace h := of_ifn c_1 h
      refine x_aload_n (pc := 29) C 0 dX7_letter_29 rfl ?_
      refine x_iload_n (pc := 30) C 2 dX7_letter_30 rfl ?_
      obtain ⟨⟨r_1, S_3⟩, hc_1, h⟩ := of_bd h
      replace h := of_u2 h
      refine x_callV1 (pc := 31) C (o := 140) [.int v2_2] [] (c_X7_no (b := b) v2_2 hO S _ _ hc_1) cw_X7_213 vi_X7_no ⟨rfl, rfl, Nat.le_of_ble_eq_true rfl, Nat.le_of_ble_eq_true rfl⟩ ⟨Nat.le_refl _, Nat.le_refl _⟩ hO.1 ⟨rfl, rfl, rfl⟩ rfl ⟨rfl, Nat.le_of_ble_eq_true rfl⟩ dX7_letter_31 (fun hx_2 => ?_)
      exact x_ireturn (pc := 34) C dX7_letter_34 (of_sp h).1 (of_sp h).2
  refine x_if_ne (pc := 10) C 25 dX7_letter_10 rfl (fun c_2 => ?_) (fun c_2 => ?_)
  · refine x_sub [1, 2, 0] rfl ?_
    rw [show v2_2 = v2_1 from (ev2_2.trans (if_neg c_2))] at kd_1
    exact kd_1
  · refine x_aload_n (pc := 13) C 1 dX7_letter_13 rfl ?_
    refine x_geti (pc := 14) C (k := 28) hO.1 rfl rfl wd_756 dX7_letter_14 ⟨Nat.le_of_ble_eq_true rfl, rfl⟩ ?_
    refine x_bipush (pc := 17) C (v := (96 : Int32)) dX7_letter_17 rfl ?_
    refine x_icmp_ne (pc := 19) C 25 dX7_letter_19 rfl (fun c_3 => ?_) (fun c_3 => ?_)
    · refine x_sub [1, 2, 0] rfl ?_
      rw [show v2_2 = v2_1 from ((ev2_2.trans (if_pos c_2)).trans (if_neg c_3))] at kd_1
      exact kd_1
    · refine x_bipush (pc := 22) C (v := (-6 : Int32)) dX7_letter_22 rfl ?_
      refine x_istore_n (pc := 24) C 2 [(2, .int (-6 : Int32)), (0, .ref (b + 140)), (1, .int p1)] dX7_letter_24 rfl (Nat.le_of_ble_eq_true rfl) rfl rfl ?_
      refine x_sub [1, 2, 0] rfl ?_
      rw [show v2_2 = (-6 : Int32) from ((ev2_2.trans (if_pos c_2)).trans (if_pos c_3))] at kd_1
      exact kd_1
set_option maxRecDepth 100000 in
set_option maxHeartbeats 4000000 in
theorem c_X7_limit {l : Launch} {G : zz_G} {L : Ly} {b : Nat} (p1 : Int32) (hO : isMo L) (S : Sg) (rf : Int32) (Sf : Sg) (h : f_X7_limit p1 S = some (rf, Sf)) : Met l yX7_limit (Cond.code yX7_limit cX7_limit 4 (some .int) :: zz_all) (rmz 1 22) (PC G L b S [.ref (b + 140), .int p1]) (QC G L b Sf (some (.int rf)) True) 0 0 (fun q => b ≤ q) := by
  refine x_met [.ref (b + 140), .int p1] (by decide +kernel) (Nat.le_of_ble_eq_true rfl) fun p e s m args below meth c C => ?_
  unfold f_X7_limit at h
  refine x_iload_n (pc := 0) C 1 dX7_limit_0 rfl ?_
  refine x_iconst (pc := 1) C (v := (0 : Int32)) dX7_limit_1 rfl ?_
  refine x_bipush (pc := 2) C (v := (10 : Int32)) dX7_limit_2 rfl ?_
  refine x_callS1 (pc := 4) C [.int p1, .int (0 : Int32), .int (10 : Int32)] [] (c_X7_bound (b := b) p1 (0 : Int32) (10 : Int32) S) cw_X7_216 vs_X7_bound ⟨rfl, rfl, Nat.le_of_ble_eq_true rfl, Nat.le_of_ble_eq_true rfl⟩ ⟨Nat.le_refl _, Nat.le_refl _⟩ rfl ⟨rfl, Nat.le_of_ble_eq_true rfl⟩ dX7_limit_4 (fun hx_1 => ?_)
  obtain ⟨v2_1, ev2_1, h⟩ := of_lt h
  refine x_istore_n (pc := 7) C 2 [(2, .int v2_1), (0, .ref (b + 140)), (1, .int p1)] dX7_limit_7 rfl (Nat.le_of_ble_eq_true rfl) ev2_1 rfl ?_
  refine x_iload_n (pc := 8) C 0 dX7_limit_8 rfl ?_
  refine x_if_eq (pc := 9) C 18 dX7_limit_9 rfl (fun c_1 => ?_) (fun c_1 => ?_)
  · replace h := of_ifp c_1 h
    refine x_aload_n (pc := 18) C 1 dX7_limit_18 rfl ?_
    refine x_geti (pc := 19) C (k := 10) hO.1 rfl rfl wd_738 dX7_limit_19 ⟨Nat.le_of_ble_eq_true rfl, rfl⟩ ?_
    obtain ⟨v3_1, ev3_1, h⟩ := of_lt h
    refine x_istore_n (pc := 22) C 3 [(3, .int v3_1), (2, .int v2_1), (0, .ref (b + 140)), (1, .int p1)] dX7_limit_22 rfl (Nat.le_of_ble_eq_true rfl) ev3_1 rfl ?_
    refine x_aload_n (pc := 23) C 2 dX7_limit_23 rfl ?_
    refine x_iload_n (pc := 24) C 3 dX7_limit_24 rfl ?_
    obtain ⟨S_1, eS_1, h⟩ := of_lt h
    refine x_puti (pc := 25) C (k := 10) hO.1 rfl rfl wd_738 dX7_limit_25 ⟨Nat.le_of_ble_eq_true rfl, rfl⟩ eS_1 ?_
    refine x_iload_n (pc := 28) C 0 dX7_limit_28 rfl ?_
    exact x_ireturn (pc := 29) C dX7_limit_29 (of_sp h).1 (of_sp h).2
  · replace h := of_ifn c_1 h
    refine x_aload_n (pc := 12) C 1 dX7_limit_12 rfl ?_
    refine x_iload_n (pc := 13) C 0 dX7_limit_13 rfl ?_
    obtain ⟨⟨r_1, S_2⟩, hc_1, h⟩ := of_bd h
    replace h := of_u2 h
    refine x_callV1 (pc := 14) C (o := 140) [.int v2_1] [] (c_X7_no (b := b) v2_1 hO S _ _ hc_1) cw_X7_213 vi_X7_no ⟨rfl, rfl, Nat.le_of_ble_eq_true rfl, Nat.le_of_ble_eq_true rfl⟩ ⟨Nat.le_refl _, Nat.le_refl _⟩ hO.1 ⟨rfl, rfl, rfl⟩ rfl ⟨rfl, Nat.le_of_ble_eq_true rfl⟩ dX7_limit_14 (fun hx_2 => ?_)
    exact x_ireturn (pc := 17) C dX7_limit_17 (of_sp h).1 (of_sp h).2
set_option maxRecDepth 100000 in
set_option maxHeartbeats 4000000 in
theorem l_X7_lots_63 {p : Program} {l : Launch} {e : Env} {s : State} {m : MethodId} {args : Array Value} {below : List Frame} {meth : Method} {c : Code} {G : zz_G} {L : Ly} {b : Nat} {Q : State → Prop} (C : CX p G s m args meth c cX7_lots yX7_lots 8 (some .int)) (hO : isMo L) (v1 : Int32) (v3 : Int32) (v6 : Int32) : ∀ (n : Nat) (v5 : Int32) (v7 : Int32) (S : Sg) {z}, L_X7_lots_63 v1 v3 v6 n v5 v7 S = some z → (∀ (v5_o : Int32) (S_o : Sg), z = (v5_o, S_o) → X p l e (rmz 10 238) s m args below meth c 0 0 Q 8 G L b S_o 111 [(0, .ref (b + 140)), (1, .int v1), (3, .int v3), (5, .int v5_o), (6, .int v6)] []) → X p l e (rmz 10 238) s m args below meth c 0 0 Q 8 G L b S 63 [(0, .ref (b + 140)), (1, .int v1), (3, .int v3), (5, .int v5), (6, .int v6), (7, .int v7)] [] := by
  intro n
  induction n with
  | zero =>
    intro v5 v7 S z h
    exact of_none h
  | succ n ih =>
    intro v5 v7 S z h hx
    rw [L_X7_lots_63] at h
    refine x_iload (pc := 63) C 5 dX7_lots_63 rfl ?_
    refine x_bipush (pc := 65) C (v := (8 : Int32)) dX7_lots_65 rfl ?_
    refine x_icmp_ge (pc := 67) C 111 dX7_lots_67 rfl (fun c_1 => ?_) (fun c_1 => ?_)
    · replace h := of_ifn c_1 h
      exact x_sub [0, 1, 2, 3, 4] rfl (hx _ _ (of_s1 h).symm)
    · replace h := of_ifp c_1 h
      refine x_iload (pc := 70) C 3 dX7_lots_70 rfl ?_
      refine x_aload_n (pc := 72) C 0 dX7_lots_72 rfl ?_
      refine x_iconst (pc := 73) C (v := (1 : Int32)) dX7_lots_73 rfl ?_
      refine x_aload_n (pc := 74) C 0 dX7_lots_74 rfl ?_
      refine x_sipush (pc := 75) C (v := (255 : Int32)) dX7_lots_75 rfl ?_
      obtain ⟨⟨r_1, S_1⟩, hc_1, h⟩ := of_bd h
      replace h := of_u2 h
      refine x_callV1 (pc := 78) C (o := 140) [.int (255 : Int32)] [.int (1 : Int32), .ref (b + 140), .int v5] (c_X7_draw (b := b) (255 : Int32) hO S _ _ hc_1) cw_X7_385 vi_X7_draw ⟨rfl, rfl, Nat.le_of_ble_eq_true rfl, Nat.le_of_ble_eq_true rfl⟩ ⟨Nat.le_refl _, Nat.le_refl _⟩ hO.1 ⟨rfl, rfl, rfl⟩ rfl ⟨rfl, Nat.le_of_ble_eq_true rfl⟩ dX7_lots_78 (fun hx_1 => ?_)
      refine x_iadd (pc := 81) C dX7_lots_81 ?_
      obtain ⟨⟨r_2, S_2⟩, hc_2, h⟩ := of_bd h
      replace h := of_u2 h
      refine x_callV1 (pc := 82) C (o := 140) [.int ((1 : Int32) + r_1)] [.int v5] (c_X7_asksSum (b := b) ((1 : Int32) + r_1) hO S_1 _ _ hc_2) cw_X7_350 vi_X7_asksSum ⟨rfl, rfl, Nat.le_of_ble_eq_true rfl, Nat.le_of_ble_eq_true rfl⟩ ⟨Nat.le_refl _, Nat.le_refl _⟩ hO.1 ⟨rfl, rfl, rfl⟩ rfl ⟨rfl, Nat.le_of_ble_eq_true rfl⟩ dX7_lots_82 (fun hx_2 => ?_)
      refine x_iload_n (pc := 85) C 2 dX7_lots_85 rfl ?_
      obtain ⟨x_1, ex_1, h⟩ := of_lt h
      have kd_1 : X p l e (rmz 10 238) s m args below meth c 0 0 Q 8 G L b S_2 94 [(0, .ref (b + 140)), (1, .int v1), (3, .int v3), (6, .int v6), (7, .int v7)] [.int x_1, .int r_2, .int v5] := by
        obtain ⟨x_2, ex_2, h⟩ := of_lt h
        have kd_2 : X p l e (rmz 10 238) s m args below meth c 0 0 Q 8 G L b S_2 102 [(0, .ref (b + 140)), (1, .int v1), (3, .int v3), (6, .int v6), (7, .int v7)] [.int x_2, .int v5] := by
          refine x_iadd (pc := 102) C dX7_lots_102 ?_
          obtain ⟨v5_1, ev5_1, h⟩ := of_lt h
          refine x_istore (pc := 103) C [(5, .int v5_1), (0, .ref (b + 140)), (1, .int v1), (3, .int v3), (6, .int v6), (7, .int v7)] dX7_lots_103 (Nat.le_of_ble_eq_true rfl) ev5_1 rfl ?_
          obtain ⟨v7_1, ev7_1, h⟩ := of_lt h
          refine x_iinc (pc := 105) C (w := (1 : Int32)) 5 [(7, .int v7_1), (5, .int v5_1), (0, .ref (b + 140)), (1, .int v1), (3, .int v3), (6, .int v6)] dX7_lots_105 rfl rfl (Nat.le_of_ble_eq_true rfl) ev7_1 rfl ?_
          refine x_goto (pc := 108) C 63 dX7_lots_108 rfl ?_
          exact x_sub [2, 3, 4, 1, 5, 0] rfl (ih _ _ _ h hx)
        refine x_icmp_ne (pc := 94) C 101 dX7_lots_94 rfl (fun c_2 => ?_) (fun c_2 => ?_)
        · refine x_iconst (pc := 101) C (v := (0 : Int32)) dX7_lots_101 rfl ?_
          refine x_sub [0, 1, 2, 3, 4] rfl ?_
          rw [show x_2 = (0 : Int32) from (ex_2.trans (if_neg c_2))] at kd_2
          exact kd_2
        · refine x_iconst (pc := 97) C (v := (1 : Int32)) dX7_lots_97 rfl ?_
          refine x_goto (pc := 98) C 102 dX7_lots_98 rfl ?_
          refine x_sub [0, 1, 2, 3, 4] rfl ?_
          rw [show x_2 = (1 : Int32) from (ex_2.trans (if_pos c_2))] at kd_2
          exact kd_2
      refine x_if_ne (pc := 86) C 93 dX7_lots_86 rfl (fun c_3 => ?_) (fun c_3 => ?_)
      · refine x_iconst (pc := 93) C (v := (2 : Int32)) dX7_lots_93 rfl ?_
        refine x_sub [0, 1, 2, 4, 5] rfl ?_
        rw [show x_1 = (2 : Int32) from (ex_1.trans (if_neg c_3))] at kd_1
        exact kd_1
      · refine x_iconst (pc := 89) C (v := (1 : Int32)) dX7_lots_89 rfl ?_
        refine x_goto (pc := 90) C 94 dX7_lots_90 rfl ?_
        refine x_sub [0, 1, 2, 4, 5] rfl ?_
        rw [show x_1 = (1 : Int32) from (ex_1.trans (if_pos c_3))] at kd_1
        exact kd_1
set_option maxRecDepth 100000 in
set_option maxHeartbeats 4000000 in
theorem l_X7_lots_50 {p : Program} {l : Launch} {e : Env} {s : State} {m : MethodId} {args : Array Value} {below : List Frame} {meth : Method} {c : Code} {G : zz_G} {L : Ly} {b : Nat} {Q : State → Prop} (C : CX p G s m args meth c cX7_lots yX7_lots 8 (some .int)) (hO : isMo L) (v1 : Int32) (v3 : Int32) : ∀ (n : Nat) (v5 : Int32) (v6 : Int32) (S : Sg) {z}, L_X7_lots_50 v1 v3 n v5 v6 S = some z → (∀ (v5_o : Int32) (S_o : Sg), z = (v5_o, S_o) → X p l e (rmz 10 238) s m args below meth c 0 0 Q 8 G L b S_o 121 [(5, .int v5_o)] []) → X p l e (rmz 10 238) s m args below meth c 0 0 Q 8 G L b S 50 [(0, .ref (b + 140)), (1, .int v1), (3, .int v3), (5, .int v5), (6, .int v6)] [] := by
  intro n
  induction n with
  | zero =>
    intro v5 v6 S z h
    exact of_none h
  | succ n ih =>
    intro v5 v6 S z h hx
    rw [L_X7_lots_50] at h
    refine x_iload (pc := 50) C 4 dX7_lots_50 rfl ?_
    refine x_iload_n (pc := 52) C 1 dX7_lots_52 rfl ?_
    refine x_icmp_ge (pc := 53) C 121 dX7_lots_53 rfl (fun c_1 => ?_) (fun c_1 => ?_)
    · replace h := of_ifn c_1 h
      exact x_sub [3] rfl (hx _ _ (of_s1 h).symm)
    · replace h := of_ifp c_1 h
      refine x_aload_n (pc := 56) C 0 dX7_lots_56 rfl ?_
      obtain ⟨S_1, hc_1, h⟩ := of_bd h
      refine x_callV_ (pc := 57) C (o := 140) [] [] (c_X7_minds (b := b) hO S _ hc_1) cw_X7_341 vi_X7_minds ⟨rfl, rfl, Nat.le_of_ble_eq_true rfl, Nat.le_of_ble_eq_true rfl⟩ ⟨Nat.le_refl _, Nat.le_refl _⟩ hO.1 ⟨rfl, rfl, rfl⟩ rfl ⟨rfl, Nat.le_of_ble_eq_true rfl⟩ dX7_lots_57 (fun hx_1 => ?_)
      refine x_iconst (pc := 60) C (v := (0 : Int32)) dX7_lots_60 rfl ?_
      refine x_istore (pc := 61) C [(7, .int (0 : Int32)), (0, .ref (b + 140)), (1, .int v1), (3, .int v3), (5, .int v5), (6, .int v6)] dX7_lots_61 (Nat.le_of_ble_eq_true rfl) rfl rfl ?_
      refine x_sub [1, 2, 3, 4, 5, 0] rfl ?_
      obtain ⟨z_hz_1, hz_1, h⟩ := of_bd h
      refine l_X7_lots_63 C hO v1 v3 v6 400 _ _ _ hz_1 (fun v5_1 S_2 ez => ?_)
      subst z_hz_1
      replace h := of_u2 h
      refine x_aload_n (pc := 111) C 0 dX7_lots_111 rfl ?_
      obtain ⟨S_3, hc_2, h⟩ := of_bd h
      refine x_callV_ (pc := 112) C (o := 140) [] [] (c_X7_forgets (b := b) hO S_2 _ hc_2) cw_X7_347 vi_X7_forgets ⟨rfl, rfl, Nat.le_of_ble_eq_true rfl, Nat.le_of_ble_eq_true rfl⟩ ⟨Nat.le_refl _, Nat.le_refl _⟩ hO.1 ⟨rfl, rfl, rfl⟩ rfl ⟨rfl, Nat.le_of_ble_eq_true rfl⟩ dX7_lots_112 (fun hx_2 => ?_)
      obtain ⟨v6_1, ev6_1, h⟩ := of_lt h
      refine x_iinc (pc := 115) C (w := (1 : Int32)) 4 [(6, .int v6_1), (0, .ref (b + 140)), (1, .int v1), (3, .int v3), (5, .int v5_1)] dX7_lots_115 rfl rfl (Nat.le_of_ble_eq_true rfl) ev6_1 rfl ?_
      refine x_goto (pc := 118) C 50 dX7_lots_118 rfl ?_
      exact x_sub [1, 2, 3, 4, 0] rfl (ih _ _ _ h hx)
set_option maxRecDepth 100000 in
set_option maxHeartbeats 4000000 in
theorem c_X7_lots {l : Launch} {G : zz_G} {L : Ly} {b : Nat} (p1 : Int32) (p2 : Int32) (p3 : Int32) (hO : isMo L) (S : Sg) (rf : Int32) (Sf : Sg) (h : f_X7_lots p1 p2 p3 S = some (rf, Sf)) : Met l yX7_lots (Cond.code yX7_lots cX7_lots 8 (some .int) :: zz_all) (rmz 10 238) (PC G L b S [.ref (b + 140), .int p1, .int p2, .int p3]) (QC G L b Sf (some (.int rf)) True) 0 0 (fun q => b ≤ q) := by
  refine x_met [.ref (b + 140), .int p1, .int p2, .int p3] (by decide +kernel) (Nat.le_of_ble_eq_true rfl) fun p e s m args below meth c C => ?_
  unfold f_X7_lots at h
  refine x_iload_n (pc := 0) C 1 dX7_lots_0 rfl ?_
  refine x_iconst (pc := 1) C (v := (1 : Int32)) dX7_lots_1 rfl ?_
  refine x_bipush (pc := 2) C (v := (20 : Int32)) dX7_lots_2 rfl ?_
  refine x_callS1 (pc := 4) C [.int p1, .int (1 : Int32), .int (20 : Int32)] [] (c_X7_bound (b := b) p1 (1 : Int32) (20 : Int32) S) cw_X7_216 vs_X7_bound ⟨rfl, rfl, Nat.le_of_ble_eq_true rfl, Nat.le_of_ble_eq_true rfl⟩ ⟨Nat.le_refl _, Nat.le_refl _⟩ rfl ⟨rfl, Nat.le_of_ble_eq_true rfl⟩ dX7_lots_4 (fun hx_1 => ?_)
  obtain ⟨v4_1, ev4_1, h⟩ := of_lt h
  refine x_istore (pc := 7) C [(4, .int v4_1), (0, .ref (b + 140)), (1, .int p1), (2, .int p2), (3, .int p3)] dX7_lots_7 (Nat.le_of_ble_eq_true rfl) ev4_1 rfl ?_
  refine x_iload (pc := 9) C 0 dX7_lots_9 rfl ?_
  obtain ⟨v4_2, ev4_2, h⟩ := of_lt h
  have kd_1 : X p l e (rmz 10 238) s m args below meth c 0 0 (RQ G L b Sf below args s (some (.int rf)) True) 8 G L b S 27 [(0, .ref (b + 140)), (1, .int p1), (2, .int p2), (3, .int p3), (4, .int v4_2)] [] := by
    refine x_iload (pc := 27) C 4 dX7_lots_27 rfl ?_
    refine x_if_eq (pc := 29) C 39 dX7_lots_29 rfl (fun c_1 => ?_) (fun c_1 => ?_)
    · replace h := of_ifp c_1 h
      refine x_aload_n (pc := 39) C 0 dX7_lots_39 rfl ?_
      refine x_iload_n (pc := 40) C 2 dX7_lots_40 rfl ?_
      obtain ⟨S_1, eS_1, h⟩ := of_lt h
      refine x_puti (pc := 41) C (k := 40) hO.1 rfl rfl wd_768 dX7_lots_41 ⟨Nat.le_of_ble_eq_true rfl, rfl⟩ eS_1 ?_
      refine x_iconst (pc := 44) C (v := (0 : Int32)) dX7_lots_44 rfl ?_
      refine x_istore (pc := 45) C [(5, .int (0 : Int32)), (0, .ref (b + 140)), (1, .int p1), (2, .int p2), (3, .int p3), (4, .int v4_2)] dX7_lots_45 (Nat.le_of_ble_eq_true rfl) rfl rfl ?_
      refine x_iconst (pc := 47) C (v := (0 : Int32)) dX7_lots_47 rfl ?_
      refine x_istore (pc := 48) C [(6, .int (0 : Int32)), (5, .int (0 : Int32)), (0, .ref (b + 140)), (1, .int p1), (2, .int p2), (3, .int p3), (4, .int v4_2)] dX7_lots_48 (Nat.le_of_ble_eq_true rfl) rfl rfl ?_
      refine x_sub [2, 3, 5, 1, 0] rfl ?_
      obtain ⟨z_hz_1, hz_1, h⟩ := of_bd h
      refine l_X7_lots_50 C hO p1 p3 400 _ _ _ hz_1 (fun v5_1 S_2 ez => ?_)
      subst z_hz_1
      replace h := of_u2 h
      refine x_iload (pc := 121) C 0 dX7_lots_121 rfl ?_
      exact x_ireturn (pc := 123) C dX7_lots_123 (of_sp h).1 (of_sp h).2
    · replace h := of_ifn c_1 h
      refine x_aload_n (pc := 32) C 0 dX7_lots_32 rfl ?_
      refine x_iload (pc := 33) C 4 dX7_lots_33 rfl ?_
      obtain ⟨⟨r_1, S_3⟩, hc_1, h⟩ := of_bd h
      replace h := of_u2 h
      refine x_callV1 (pc := 35) C (o := 140) [.int v4_2] [] (c_X7_no (b := b) v4_2 hO S _ _ hc_1) cw_X7_213 vi_X7_no ⟨rfl, rfl, Nat.le_of_ble_eq_true rfl, Nat.le_of_ble_eq_true rfl⟩ ⟨Nat.le_refl _, Nat.le_refl _⟩ hO.1 ⟨rfl, rfl, rfl⟩ rfl ⟨rfl, Nat.le_of_ble_eq_true rfl⟩ dX7_lots_35 (fun hx_3 => ?_)
      exact x_ireturn (pc := 38) C dX7_lots_38 (of_sp h).1 (of_sp h).2
  refine x_if_ne (pc := 11) C 27 dX7_lots_11 rfl (fun c_2 => ?_) (fun c_2 => ?_)
  · refine x_sub [1, 2, 3, 4, 0] rfl ?_
    rw [show v4_2 = v4_1 from (ev4_2.trans (if_neg c_2))] at kd_1
    exact kd_1
  · refine x_iload_n (pc := 14) C 4 dX7_lots_14 rfl ?_
    refine x_iconst (pc := 15) C (v := (0 : Int32)) dX7_lots_15 rfl ?_
    refine x_iconst (pc := 16) C (v := (1 : Int32)) dX7_lots_16 rfl ?_
    refine x_callS1 (pc := 17) C [.int p3, .int (0 : Int32), .int (1 : Int32)] [] (c_X7_isIn (b := b) p3 (0 : Int32) (1 : Int32) S) cw_X7_96 vs_X7_isIn ⟨rfl, rfl, Nat.le_of_ble_eq_true rfl, Nat.le_of_ble_eq_true rfl⟩ ⟨Nat.le_refl _, Nat.le_refl _⟩ rfl ⟨rfl, Nat.le_of_ble_eq_true rfl⟩ dX7_lots_17 (fun hx_2 => ?_)
    refine x_if_ne (pc := 20) C 27 dX7_lots_20 rfl (fun c_3 => ?_) (fun c_3 => ?_)
    · refine x_sub [1, 2, 3, 4, 0] rfl ?_
      rw [show v4_2 = v4_1 from ((ev4_2.trans (if_pos c_2)).trans (if_neg c_3))] at kd_1
      exact kd_1
    · refine x_bipush (pc := 23) C (v := (-2 : Int32)) dX7_lots_23 rfl ?_
      refine x_istore (pc := 25) C [(4, .int (-2 : Int32)), (0, .ref (b + 140)), (1, .int p1), (2, .int p2), (3, .int p3)] dX7_lots_25 (Nat.le_of_ble_eq_true rfl) rfl rfl ?_
      refine x_sub [1, 2, 3, 4, 0] rfl ?_
      rw [show v4_2 = (-2 : Int32) from ((ev4_2.trans (if_pos c_2)).trans (if_pos c_3))] at kd_1
      exact kd_1
set_option maxRecDepth 100000 in
set_option maxHeartbeats 4000000 in
theorem c_X7_partOf {l : Launch} {G : zz_G} {L : Ly} {b : Nat} (p0 : Int64) (p1 : Int64) (p2 : Int32) (S : Sg) (rf : Int64) (h : f_X7_partOf p0 p1 p2 = some rf) : Met l yX7_partOf (Cond.code yX7_partOf cX7_partOf 5 (some .long) :: zz_all) (rmz 2 50) (PC G L b S [.long p0, .long p1, .int p2]) (QC G L b S (some (.long rf)) True) 0 0 (fun q => b ≤ q) := by
  refine x_met [.long p0, .long p1, .int p2] (by decide +kernel) (Nat.le_of_ble_eq_true rfl) fun p e s m args below meth c C => ?_
  unfold f_X7_partOf at h
  refine x_iload (pc := 0) C 2 dX7_partOf_0 rfl ?_
  obtain ⟨x_1, ex_1, h⟩ := of_lt h
  have kd_1 : X p l e (rmz 2 50) s m args below meth c 0 0 (RQ G L b S below args s (some (.long rf)) True) 5 G L b S 10 [(0, .long p0), (2, .long p1)] [.long x_1] := by
    refine x_lload_n (pc := 10) C 0 dX7_partOf_10 rfl ?_
    refine x_lload_n (pc := 11) C 1 dX7_partOf_11 rfl ?_
    obtain ⟨r_1, hc_1, h⟩ := of_bd h
    refine x_callS1 (pc := 12) C [.long p0, .long p1] [.long x_1] (c_X7_divisor (b := b) p0 p1 S _ hc_1) cw_X7_118 vs_X7_divisor ⟨rfl, rfl, Nat.le_of_ble_eq_true rfl, Nat.le_of_ble_eq_true rfl⟩ ⟨Nat.le_refl _, Nat.le_refl _⟩ rfl ⟨rfl, Nat.le_of_ble_eq_true rfl⟩ dX7_partOf_12 (fun hx_1 => ?_)
    obtain ⟨g_1, h⟩ := of_gd h
    refine x_ldiv (pc := 15) C dX7_partOf_15 g_1 ?_
    exact x_lreturn (pc := 16) C dX7_partOf_16 (of_s1 h) rfl
  refine x_if_ne (pc := 2) C 9 dX7_partOf_2 rfl (fun c_1 => ?_) (fun c_1 => ?_)
  · refine x_lload_n (pc := 9) C 1 dX7_partOf_9 rfl ?_
    refine x_sub [0, 1] rfl ?_
    rw [show x_1 = p1 from (ex_1.trans (if_neg c_1))] at kd_1
    exact kd_1
  · refine x_lload_n (pc := 5) C 0 dX7_partOf_5 rfl ?_
    refine x_goto (pc := 6) C 10 dX7_partOf_6 rfl ?_
    refine x_sub [0, 1] rfl ?_
    rw [show x_1 = p0 from (ex_1.trans (if_pos c_1))] at kd_1
    exact kd_1
set_option maxRecDepth 100000 in
set_option maxHeartbeats 4000000 in
theorem l_X7_mean_24 {p : Program} {l : Launch} {e : Env} {s : State} {m : MethodId} {args : Array Value} {below : List Frame} {meth : Method} {c : Code} {G : zz_G} {L : Ly} {b : Nat} {Q : State → Prop} (C : CX p G s m args meth c cX7_mean yX7_mean 4 (some .long)) (hO : isMo L) (v1 : Int32) (S : Sg) : ∀ (n : Nat) (v2 : Int32) (v3 : Int32) {z}, L_X7_mean_24 v1 S n v2 v3 = some z → (∀ (v2_o : Int32), z = v2_o → X p l e (rmz 4 96) s m args below meth c 0 0 Q 4 G L b S 46 [(0, .ref (b + 140)), (1, .int v1), (2, .int v2_o)] []) → X p l e (rmz 4 96) s m args below meth c 0 0 Q 4 G L b S 24 [(0, .ref (b + 140)), (1, .int v1), (2, .int v2), (3, .int v3)] [] := by
  intro n
  induction n with
  | zero =>
    intro v2 v3 z h
    exact of_none h
  | succ n ih =>
    intro v2 v3 z h hx
    rw [L_X7_mean_24] at h
    refine x_iload_n (pc := 24) C 3 dX7_mean_24 rfl ?_
    refine x_aload_n (pc := 25) C 0 dX7_mean_25 rfl ?_
    refine x_geti (pc := 26) C (k := 7) hO.1 rfl rfl wd_735 dX7_mean_26 ⟨Nat.le_of_ble_eq_true rfl, rfl⟩ ?_
    refine x_icmp_ge (pc := 29) C 46 dX7_mean_29 rfl (fun c_1 => ?_) (fun c_1 => ?_)
    · replace h := of_ifn c_1 h
      exact x_sub [0, 1, 2] rfl (hx _ (of_s1 h).symm)
    · replace h := of_ifp c_1 h
      refine x_iload_n (pc := 32) C 2 dX7_mean_32 rfl ?_
      refine x_aload_n (pc := 33) C 0 dX7_mean_33 rfl ?_
      refine x_iload_n (pc := 34) C 3 dX7_mean_34 rfl ?_
      obtain ⟨r_1, hc_1, h⟩ := of_bd h
      refine x_callV1 (pc := 35) C (o := 140) [.int v3] [.int v2] (c_X7_width (b := b) v3 hO S _ hc_1) cw_X7_335 vi_X7_width ⟨rfl, rfl, Nat.le_of_ble_eq_true rfl, Nat.le_of_ble_eq_true rfl⟩ ⟨Nat.le_refl _, Nat.le_refl _⟩ hO.1 ⟨rfl, rfl, rfl⟩ rfl ⟨rfl, Nat.le_of_ble_eq_true rfl⟩ dX7_mean_35 (fun hx_1 => ?_)
      refine x_iadd (pc := 38) C dX7_mean_38 ?_
      obtain ⟨v2_1, ev2_1, h⟩ := of_lt h
      refine x_istore_n (pc := 39) C 2 [(2, .int v2_1), (0, .ref (b + 140)), (1, .int v1), (3, .int v3)] dX7_mean_39 rfl (Nat.le_of_ble_eq_true rfl) ev2_1 rfl ?_
      obtain ⟨v3_1, ev3_1, h⟩ := of_lt h
      refine x_iinc (pc := 40) C (w := (1 : Int32)) 3 [(3, .int v3_1), (2, .int v2_1), (0, .ref (b + 140)), (1, .int v1)] dX7_mean_40 rfl rfl (Nat.le_of_ble_eq_true rfl) ev3_1 rfl ?_
      refine x_goto (pc := 43) C 24 dX7_mean_43 rfl ?_
      exact x_sub [2, 3, 1, 0] rfl (ih _ _ h hx)
set_option maxRecDepth 100000 in
set_option maxHeartbeats 4000000 in
theorem c_X7_mean {l : Launch} {G : zz_G} {L : Ly} {b : Nat} (p1 : Int32) (hO : isMo L) (S : Sg) (rf : Int64) (Sf : Sg) (h : f_X7_mean p1 S = some (rf, Sf)) : Met l yX7_mean (Cond.code yX7_mean cX7_mean 4 (some .long) :: zz_all) (rmz 4 96) (PC G L b S [.ref (b + 140), .int p1]) (QC G L b Sf (some (.long rf)) True) 0 0 (fun q => b ≤ q) := by
  refine x_met [.ref (b + 140), .int p1] (by decide +kernel) (Nat.le_of_ble_eq_true rfl) fun p e s m args below meth c C => ?_
  unfold f_X7_mean at h
  refine x_iload_n (pc := 0) C 1 dX7_mean_0 rfl ?_
  refine x_iconst (pc := 1) C (v := (0 : Int32)) dX7_mean_1 rfl ?_
  refine x_iconst (pc := 2) C (v := (1 : Int32)) dX7_mean_2 rfl ?_
  refine x_callS1 (pc := 3) C [.int p1, .int (0 : Int32), .int (1 : Int32)] [] (c_X7_isIn (b := b) p1 (0 : Int32) (1 : Int32) S) cw_X7_96 vs_X7_isIn ⟨rfl, rfl, Nat.le_of_ble_eq_true rfl, Nat.le_of_ble_eq_true rfl⟩ ⟨Nat.le_refl _, Nat.le_refl _⟩ rfl ⟨rfl, Nat.le_of_ble_eq_true rfl⟩ dX7_mean_3 (fun hx_1 => ?_)
  refine x_if_ne (pc := 6) C 16 dX7_mean_6 rfl (fun c_1 => ?_) (fun c_1 => ?_)
  · replace h := of_ifn c_1 h
    refine x_aload_n (pc := 16) C 0 dX7_mean_16 rfl ?_
    obtain ⟨S_1, hc_1, h⟩ := of_bd h
    refine x_callV_ (pc := 17) C (o := 140) [] [] (c_X7_narrows (b := b) hO S _ hc_1) cw_X7_332 vi_X7_narrows ⟨rfl, rfl, Nat.le_of_ble_eq_true rfl, Nat.le_of_ble_eq_true rfl⟩ ⟨Nat.le_refl _, Nat.le_refl _⟩ hO.1 ⟨rfl, rfl, rfl⟩ rfl ⟨rfl, Nat.le_of_ble_eq_true rfl⟩ dX7_mean_17 (fun hx_2 => ?_)
    refine x_iconst (pc := 20) C (v := (0 : Int32)) dX7_mean_20 rfl ?_
    refine x_istore_n (pc := 21) C 2 [(2, .int (0 : Int32)), (0, .ref (b + 140)), (1, .int p1)] dX7_mean_21 rfl (Nat.le_of_ble_eq_true rfl) rfl rfl ?_
    refine x_iconst (pc := 22) C (v := (0 : Int32)) dX7_mean_22 rfl ?_
    refine x_istore_n (pc := 23) C 3 [(3, .int (0 : Int32)), (2, .int (0 : Int32)), (0, .ref (b + 140)), (1, .int p1)] dX7_mean_23 rfl (Nat.le_of_ble_eq_true rfl) rfl rfl ?_
    refine x_sub [2, 3, 1, 0] rfl ?_
    obtain ⟨z_hz_1, hz_1, h⟩ := of_bd h
    refine l_X7_mean_24 C hO p1 S_1 400 _ _ hz_1 (fun v2_1 ez => ?_)
    subst z_hz_1
    refine x_iload_n (pc := 46) C 2 dX7_mean_46 rfl ?_
    refine x_i2l (pc := 47) C dX7_mean_47 ?_
    refine x_aload_n (pc := 48) C 0 dX7_mean_48 rfl ?_
    refine x_geti (pc := 49) C (k := 7) hO.1 rfl rfl wd_735 dX7_mean_49 ⟨Nat.le_of_ble_eq_true rfl, rfl⟩ ?_
    refine x_i2l (pc := 52) C dX7_mean_52 ?_
    refine x_iload_n (pc := 53) C 1 dX7_mean_53 rfl ?_
    obtain ⟨r_1, hc_2, h⟩ := of_bd h
    refine x_callS1 (pc := 54) C [.long v2_1.toInt64, .long (S_1.1 140 7).toInt64, .int p1] [] (c_X7_partOf (b := b) v2_1.toInt64 ((S_1.1 140 7).toInt64) p1 S_1 _ hc_2) cw_X7_316 vs_X7_partOf ⟨rfl, rfl, Nat.le_of_ble_eq_true rfl, Nat.le_of_ble_eq_true rfl⟩ ⟨Nat.le_refl _, Nat.le_refl _⟩ rfl ⟨rfl, Nat.le_of_ble_eq_true rfl⟩ dX7_mean_54 (fun hx_3 => ?_)
    exact x_lreturn (pc := 57) C dX7_mean_57 (of_sp h).1 (of_sp h).2
  · replace h := of_ifp c_1 h
    refine x_aload_n (pc := 9) C 0 dX7_mean_9 rfl ?_
    refine x_bipush (pc := 10) C (v := (-2 : Int32)) dX7_mean_10 rfl ?_
    obtain ⟨⟨r_2, S_2⟩, hc_3, h⟩ := of_bd h
    replace h := of_u2 h
    refine x_callV1 (pc := 12) C (o := 140) [.int (-2 : Int32)] [] (c_X7_lowestOf (b := b) (-2 : Int32) hO S _ _ hc_3) cw_X7_309 vi_X7_lowestOf ⟨rfl, rfl, Nat.le_of_ble_eq_true rfl, Nat.le_of_ble_eq_true rfl⟩ ⟨Nat.le_refl _, Nat.le_refl _⟩ hO.1 ⟨rfl, rfl, rfl⟩ rfl ⟨rfl, Nat.le_of_ble_eq_true rfl⟩ dX7_mean_12 (fun hx_4 => ?_)
    exact x_lreturn (pc := 15) C dX7_mean_15 (of_sp h).1 (of_sp h).2
set_option maxRecDepth 100000 in
set_option maxHeartbeats 4000000 in
theorem c_X7_on {l : Launch} {G : zz_G} {L : Ly} {b : Nat} (hO : isMo L) (S : Sg) (rf : Int32) (Sf : Sg) (h : f_X7_on S = some (rf, Sf)) : Met l yX7_on (Cond.code yX7_on cX7_on 1 (some .int) :: zz_all) (rmz 2 44) (PC G L b S [.ref (b + 140)]) (QC G L b Sf (some (.int rf)) True) 0 0 (fun q => b ≤ q) := by
  refine x_met [.ref (b + 140)] (by decide +kernel) (Nat.le_of_ble_eq_true rfl) fun p e s m args below meth c C => ?_
  unfold f_X7_on at h
  refine x_aload_n (pc := 0) C 0 dX7_on_0 rfl ?_
  refine x_geti (pc := 1) C (k := 21) hO.1 rfl rfl wd_749 dX7_on_1 ⟨Nat.le_of_ble_eq_true rfl, rfl⟩ ?_
  refine x_if_ne (pc := 4) C 14 dX7_on_4 rfl (fun c_1 => ?_) (fun c_1 => ?_)
  · replace h := of_ifn c_1 h
    refine x_aload_n (pc := 14) C 0 dX7_on_14 rfl ?_
    refine x_iconst (pc := 15) C (v := (0 : Int32)) dX7_on_15 rfl ?_
    refine x_iconst (pc := 16) C (v := (0 : Int32)) dX7_on_16 rfl ?_
    obtain ⟨S_1, hc_1, h⟩ := of_bd h
    refine x_callV_ (pc := 17) C (o := 140) [.int (0 : Int32), .int (0 : Int32)] [] (c_X7_passesAll (b := b) (0 : Int32) (0 : Int32) hO S _ hc_1) cw_X7_206 vi_X7_passesAll ⟨rfl, rfl, Nat.le_of_ble_eq_true rfl, Nat.le_of_ble_eq_true rfl⟩ ⟨Nat.le_refl _, Nat.le_refl _⟩ hO.1 ⟨rfl, rfl, rfl⟩ rfl ⟨rfl, Nat.le_of_ble_eq_true rfl⟩ dX7_on_17 (fun hx_1 => ?_)
    refine x_aload_n (pc := 20) C 0 dX7_on_20 rfl ?_
    refine x_geti (pc := 21) C (k := 8) hO.1 rfl rfl wd_736 dX7_on_21 ⟨Nat.le_of_ble_eq_true rfl, rfl⟩ ?_
    exact x_ireturn (pc := 24) C dX7_on_24 (of_sp h).1 (of_sp h).2
  · replace h := of_ifp c_1 h
    refine x_aload_n (pc := 7) C 0 dX7_on_7 rfl ?_
    refine x_bipush (pc := 8) C (v := (-3 : Int32)) dX7_on_8 rfl ?_
    obtain ⟨⟨r_1, S_2⟩, hc_2, h⟩ := of_bd h
    replace h := of_u2 h
    refine x_callV1 (pc := 10) C (o := 140) [.int (-3 : Int32)] [] (c_X7_no (b := b) (-3 : Int32) hO S _ _ hc_2) cw_X7_213 vi_X7_no ⟨rfl, rfl, Nat.le_of_ble_eq_true rfl, Nat.le_of_ble_eq_true rfl⟩ ⟨Nat.le_refl _, Nat.le_refl _⟩ hO.1 ⟨rfl, rfl, rfl⟩ rfl ⟨rfl, Nat.le_of_ble_eq_true rfl⟩ dX7_on_10 (fun hx_2 => ?_)
    exact x_ireturn (pc := 13) C dX7_on_13 (of_sp h).1 (of_sp h).2
