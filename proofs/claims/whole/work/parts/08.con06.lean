set_option maxRecDepth 100000 in
set_option maxHeartbeats 4000000 in
theorem l_X7_loads_2 {p : Program} {l : Launch} {e : Env} {s : State} {m : MethodId} {args : Array Value} {below : List Frame} {meth : Method} {c : Code} {G : zz_G} {L : Ly} {b : Nat} {Q : State → Prop} (C : CX p G s m args meth c cX7_loads yX7_loads 2 none) (hO : isMo L) : ∀ (n : Nat) (v1 : Int32) (S : Sg) {z}, L_X7_loads_2 n v1 S = some z → (∀ (S_o : Sg), z = S_o → X p l e (rmz 0 0) s m args below meth c 0 0 Q 2 G L b S_o 26 [(0, .ref (b + 140))] []) → X p l e (rmz 0 0) s m args below meth c 0 0 Q 2 G L b S 2 [(0, .ref (b + 140)), (1, .int v1)] [] := by
  intro n
  induction n with
  | zero =>
    intro v1 S z h
    exact of_none h
  | succ n ih =>
    intro v1 S z h hx
    rw [L_X7_loads_2] at h
    refine x_iload_n (pc := 2) C 1 dX7_loads_2 rfl ?_
    refine x_bipush (pc := 3) C (v := (110 : Int32)) dX7_loads_3 rfl ?_
    refine x_icmp_ge (pc := 5) C 26 dX7_loads_5 rfl (fun c_1 => ?_) (fun c_1 => ?_)
    · replace h := of_ifn c_1 h
      exact x_sub [0] rfl (hx _ (of_s1 h).symm)
    · replace h := of_ifp c_1 h
      refine x_aload_n (pc := 8) C 0 dX7_loads_8 rfl ?_
      refine x_getr (pc := 9) C (k := 14) 150 hO.1 rfl rfl wd_742 dX7_loads_9 (Nat.le_of_ble_eq_true rfl) rfl ?_
      refine x_iload_n (pc := 12) C 1 dX7_loads_12 rfl ?_
      refine x_aload_n (pc := 13) C 0 dX7_loads_13 rfl ?_
      refine x_getr (pc := 14) C (k := 13) 149 hO.1 rfl rfl wd_741 dX7_loads_14 (Nat.le_of_ble_eq_true rfl) rfl ?_
      refine x_iload_n (pc := 17) C 1 dX7_loads_17 rfl ?_
      obtain ⟨g_1, h⟩ := of_gd h
      refine x_laload (pc := 18) C hO.2.2.2.2.2.2.2.2.2.1 g_1 dX7_loads_18 ?_
      obtain ⟨S_1, eS_1, h⟩ := of_lt h
      refine x_lastore (pc := 19) C hO.2.2.2.2.2.2.2.2.2.2.1 g_1 eS_1 dX7_loads_19 ?_
      obtain ⟨v1_1, ev1_1, h⟩ := of_lt h
      refine x_iinc (pc := 20) C (w := (1 : Int32)) 1 [(1, .int v1_1), (0, .ref (b + 140))] dX7_loads_20 rfl rfl (Nat.le_of_ble_eq_true rfl) ev1_1 rfl ?_
      refine x_goto (pc := 23) C 2 dX7_loads_23 rfl ?_
      exact x_sub [1, 0] rfl (ih _ _ h hx)
set_option maxRecDepth 100000 in
set_option maxHeartbeats 4000000 in
theorem l_X7_loads_28 {p : Program} {l : Launch} {e : Env} {s : State} {m : MethodId} {args : Array Value} {below : List Frame} {meth : Method} {c : Code} {G : zz_G} {L : Ly} {b : Nat} {Q : State → Prop} (C : CX p G s m args meth c cX7_loads yX7_loads 2 none) (hO : isMo L) : ∀ (n : Nat) (v1 : Int32) (S : Sg) {z}, L_X7_loads_28 n v1 S = some z → (∀ (S_o : Sg), z = S_o → X p l e (rmz 0 0) s m args below meth c 0 0 Q 2 G L b S_o 52 [(0, .ref (b + 140))] []) → X p l e (rmz 0 0) s m args below meth c 0 0 Q 2 G L b S 28 [(0, .ref (b + 140)), (1, .int v1)] [] := by
  intro n
  induction n with
  | zero =>
    intro v1 S z h
    exact of_none h
  | succ n ih =>
    intro v1 S z h hx
    rw [L_X7_loads_28] at h
    refine x_iload_n (pc := 28) C 1 dX7_loads_28 rfl ?_
    refine x_bipush (pc := 29) C (v := (11 : Int32)) dX7_loads_29 rfl ?_
    refine x_icmp_ge (pc := 31) C 52 dX7_loads_31 rfl (fun c_1 => ?_) (fun c_1 => ?_)
    · replace h := of_ifn c_1 h
      exact x_sub [0] rfl (hx _ (of_s1 h).symm)
    · replace h := of_ifp c_1 h
      refine x_aload_n (pc := 34) C 0 dX7_loads_34 rfl ?_
      refine x_getr (pc := 35) C (k := 17) 153 hO.1 rfl rfl wd_745 dX7_loads_35 (Nat.le_of_ble_eq_true rfl) rfl ?_
      refine x_iload_n (pc := 38) C 1 dX7_loads_38 rfl ?_
      refine x_aload_n (pc := 39) C 0 dX7_loads_39 rfl ?_
      refine x_getr (pc := 40) C (k := 16) 152 hO.1 rfl rfl wd_744 dX7_loads_40 (Nat.le_of_ble_eq_true rfl) rfl ?_
      refine x_iload_n (pc := 43) C 1 dX7_loads_43 rfl ?_
      obtain ⟨g_1, h⟩ := of_gd h
      refine x_iaload (pc := 44) C hO.2.2.2.2.2.2.2.2.2.2.2.2.1 g_1 dX7_loads_44 ?_
      obtain ⟨S_1, eS_1, h⟩ := of_lt h
      refine x_iastore (pc := 45) C hO.2.2.2.2.2.2.2.2.2.2.2.2.2.1 g_1 eS_1 dX7_loads_45 ?_
      obtain ⟨v1_1, ev1_1, h⟩ := of_lt h
      refine x_iinc (pc := 46) C (w := (1 : Int32)) 1 [(1, .int v1_1), (0, .ref (b + 140))] dX7_loads_46 rfl rfl (Nat.le_of_ble_eq_true rfl) ev1_1 rfl ?_
      refine x_goto (pc := 49) C 28 dX7_loads_49 rfl ?_
      exact x_sub [1, 0] rfl (ih _ _ h hx)
set_option maxRecDepth 100000 in
set_option maxHeartbeats 4000000 in
theorem c_X7_loads {l : Launch} {G : zz_G} {L : Ly} {b : Nat} (hO : isMo L) (S : Sg) (Sf : Sg) (h : f_X7_loads S = some Sf) : Met l yX7_loads (Cond.code yX7_loads cX7_loads 2 none :: zz_all) (rmz 0 0) (PC G L b S [.ref (b + 140)]) (QC G L b Sf none True) 0 0 (fun q => b ≤ q) := by
  refine x_met [.ref (b + 140)] (by decide +kernel) (Nat.le_of_ble_eq_true rfl) fun p e s m args below meth c C => ?_
  unfold f_X7_loads at h
  refine x_iconst (pc := 0) C (v := (0 : Int32)) dX7_loads_0 rfl ?_
  refine x_istore_n (pc := 1) C 1 [(1, .int (0 : Int32)), (0, .ref (b + 140))] dX7_loads_1 rfl (Nat.le_of_ble_eq_true rfl) rfl rfl ?_
  refine x_sub [1, 0] rfl ?_
  obtain ⟨z_hz_2, hz_2, h⟩ := of_bd h
  refine l_X7_loads_2 C hO 400 _ _ hz_2 (fun S_1 ez => ?_)
  subst z_hz_2
  refine x_iconst (pc := 26) C (v := (0 : Int32)) dX7_loads_26 rfl ?_
  refine x_istore_n (pc := 27) C 1 [(1, .int (0 : Int32)), (0, .ref (b + 140))] dX7_loads_27 rfl (Nat.le_of_ble_eq_true rfl) rfl rfl ?_
  refine x_sub [1, 0] rfl ?_
  obtain ⟨z_hz_1, hz_1, h⟩ := of_bd h
  refine l_X7_loads_28 C hO 400 _ _ hz_1 (fun S_2 ez => ?_)
  subst z_hz_1
  refine x_aload_n (pc := 52) C 0 dX7_loads_52 rfl ?_
  refine x_aload_n (pc := 53) C 0 dX7_loads_53 rfl ?_
  refine x_geti (pc := 54) C (k := 18) hO.1 rfl rfl wd_746 dX7_loads_54 ⟨Nat.le_of_ble_eq_true rfl, rfl⟩ ?_
  obtain ⟨S_3, eS_3, h⟩ := of_lt h
  refine x_puti (pc := 57) C (k := 19) hO.1 rfl rfl wd_747 dX7_loads_57 ⟨Nat.le_of_ble_eq_true rfl, rfl⟩ eS_3 ?_
  exact x_vreturn (pc := 60) C dX7_loads_60 (of_s1 h)
set_option maxRecDepth 100000 in
set_option maxHeartbeats 4000000 in
theorem c_X7_meetsBy {l : Launch} {G : zz_G} {L : Ly} {b : Nat} (p1 : Int32) (p2 : Int32) (hO : isMo L) (S : Sg) (rf : Int32) (Sf : Sg) (h : f_X7_meetsBy p1 p2 S = some (rf, Sf)) : Met l yX7_meetsBy (Cond.code yX7_meetsBy cX7_meetsBy 3 (some .int) :: zz_all) (rmz 6 154) (PC G L b S [.ref (b + 140), .int p1, .int p2]) (QC G L b Sf (some (.int rf)) True) 0 0 (fun q => b ≤ q) := by
  refine x_met [.ref (b + 140), .int p1, .int p2] (by decide +kernel) (Nat.le_of_ble_eq_true rfl) fun p e s m args below meth c C => ?_
  unfold f_X7_meetsBy at h
  refine x_aload_n (pc := 0) C 0 dX7_meetsBy_0 rfl ?_
  obtain ⟨S_1, hc_1, h⟩ := of_bd h
  refine x_callV_ (pc := 1) C (o := 140) [] [] (c_X7_loads (b := b) hO S _ hc_1) cw_X7_167 vi_X7_loads ⟨rfl, rfl, Nat.le_of_ble_eq_true rfl, Nat.le_of_ble_eq_true rfl⟩ ⟨Nat.le_refl _, Nat.le_refl _⟩ hO.1 ⟨rfl, rfl, rfl⟩ rfl ⟨rfl, Nat.le_of_ble_eq_true rfl⟩ dX7_meetsBy_1 (fun hx_1 => ?_)
  refine x_aload_n (pc := 4) C 0 dX7_meetsBy_4 rfl ?_
  refine x_aload_n (pc := 5) C 0 dX7_meetsBy_5 rfl ?_
  refine x_getr (pc := 6) C (k := 11) 148 hO.1 rfl rfl wd_739 dX7_meetsBy_6 (Nat.le_of_ble_eq_true rfl) rfl ?_
  refine x_iconst (pc := 9) C (v := (0 : Int32)) dX7_meetsBy_9 rfl ?_
  obtain ⟨S_2, hc_2, h⟩ := of_bd h
  refine x_callV_ (pc := 10) C (o := 140) [.ref (b + 148), .int (0 : Int32)] [] (c_X7_reduces (b := b) 148 10 (0 : Int32) hO hO.2.2.2.2.2.2.2.2.1 S_1 _ hc_2) cw_X7_136 vi_X7_reduces ⟨rfl, rfl, Nat.le_of_ble_eq_true rfl, Nat.le_of_ble_eq_true rfl⟩ ⟨Nat.le_refl _, Nat.le_refl _⟩ hO.1 ⟨rfl, rfl, rfl⟩ rfl ⟨rfl, Nat.le_of_ble_eq_true rfl⟩ dX7_meetsBy_10 (fun hx_2 => ?_)
  refine x_aload_n (pc := 13) C 0 dX7_meetsBy_13 rfl ?_
  obtain ⟨r_1, hc_3, h⟩ := of_bd h
  refine x_callV1 (pc := 14) C (o := 140) [] [] (c_X7_firstOfOne (b := b) hO S_2 _ hc_3) cw_X7_140 vi_X7_firstOfOne ⟨rfl, rfl, Nat.le_of_ble_eq_true rfl, Nat.le_of_ble_eq_true rfl⟩ ⟨Nat.le_refl _, Nat.le_refl _⟩ hO.1 ⟨rfl, rfl, rfl⟩ rfl ⟨rfl, Nat.le_of_ble_eq_true rfl⟩ dX7_meetsBy_14 (fun hx_3 => ?_)
  refine x_if_ge (pc := 17) C 22 dX7_meetsBy_17 rfl (fun c_1 => ?_) (fun c_1 => ?_)
  · replace h := of_ifn c_1 h
    refine x_aload_n (pc := 22) C 0 dX7_meetsBy_22 rfl ?_
    refine x_aload_n (pc := 23) C 0 dX7_meetsBy_23 rfl ?_
    refine x_getr (pc := 24) C (k := 11) 148 hO.1 rfl rfl wd_739 dX7_meetsBy_24 (Nat.le_of_ble_eq_true rfl) rfl ?_
    refine x_iconst (pc := 27) C (v := (0 : Int32)) dX7_meetsBy_27 rfl ?_
    obtain ⟨S_3, hc_4, h⟩ := of_bd h
    refine x_callV_ (pc := 28) C (o := 140) [.ref (b + 148), .int (0 : Int32)] [] (c_X7_adds (b := b) 148 10 (0 : Int32) hO hO.2.2.2.2.2.2.2.2.1 S_2 _ hc_4) cw_X7_146 vi_X7_adds ⟨rfl, rfl, Nat.le_of_ble_eq_true rfl, Nat.le_of_ble_eq_true rfl⟩ ⟨Nat.le_refl _, Nat.le_refl _⟩ hO.1 ⟨rfl, rfl, rfl⟩ rfl ⟨rfl, Nat.le_of_ble_eq_true rfl⟩ dX7_meetsBy_28 (fun hx_4 => ?_)
    refine x_aload_n (pc := 31) C 0 dX7_meetsBy_31 rfl ?_
    refine x_iload_n (pc := 32) C 1 dX7_meetsBy_32 rfl ?_
    refine x_iload_n (pc := 33) C 2 dX7_meetsBy_33 rfl ?_
    obtain ⟨r_2, hc_5, h⟩ := of_bd h
    refine x_callV1 (pc := 34) C (o := 140) [.int p1, .int p2] [] (c_X7_isForbidden (b := b) p1 p2 hO S_3 _ hc_5) cw_X7_170 vi_X7_isForbidden ⟨rfl, rfl, Nat.le_of_ble_eq_true rfl, Nat.le_of_ble_eq_true rfl⟩ ⟨Nat.le_refl _, Nat.le_refl _⟩ hO.1 ⟨rfl, rfl, rfl⟩ rfl ⟨rfl, Nat.le_of_ble_eq_true rfl⟩ dX7_meetsBy_34 (fun hx_5 => ?_)
    obtain ⟨x_1, ex_1, h⟩ := of_lt h
    have kd_1 : X p l e (rmz 6 154) s m args below meth c 0 0 (RQ G L b Sf below args s (some (.int rf)) True) 3 G L b S_3 45 [] [.int x_1] := by
      exact x_ireturn (pc := 45) C dX7_meetsBy_45 (of_sp h).1 (of_sp h).2
    refine x_if_eq (pc := 37) C 44 dX7_meetsBy_37 rfl (fun c_2 => ?_) (fun c_2 => ?_)
    · refine x_iconst (pc := 44) C (v := (1 : Int32)) dX7_meetsBy_44 rfl ?_
      refine x_sub [] rfl ?_
      rw [show x_1 = (1 : Int32) from (ex_1.trans (if_pos c_2))] at kd_1
      exact kd_1
    · refine x_iconst (pc := 40) C (v := (2 : Int32)) dX7_meetsBy_40 rfl ?_
      refine x_goto (pc := 41) C 45 dX7_meetsBy_41 rfl ?_
      refine x_sub [] rfl ?_
      rw [show x_1 = (2 : Int32) from (ex_1.trans (if_neg c_2))] at kd_1
      exact kd_1
  · replace h := of_ifp c_1 h
    refine x_iconst (pc := 20) C (v := (0 : Int32)) dX7_meetsBy_20 rfl ?_
    exact x_ireturn (pc := 21) C dX7_meetsBy_21 (of_sp h).1 (of_sp h).2
set_option maxRecDepth 100000 in
set_option maxHeartbeats 4000000 in
theorem c_X7_meetsNow {l : Launch} {G : zz_G} {L : Ly} {b : Nat} (hO : isMo L) (S : Sg) (rf : Int32) (Sf : Sg) (h : f_X7_meetsNow S = some (rf, Sf)) : Met l yX7_meetsNow (Cond.code yX7_meetsNow cX7_meetsNow 1 (some .int) :: zz_all) (rmz 7 176) (PC G L b S [.ref (b + 140)]) (QC G L b Sf (some (.int rf)) True) 0 0 (fun q => b ≤ q) := by
  refine x_met [.ref (b + 140)] (by decide +kernel) (Nat.le_of_ble_eq_true rfl) fun p e s m args below meth c C => ?_
  unfold f_X7_meetsNow at h
  refine x_aload_n (pc := 0) C 0 dX7_meetsNow_0 rfl ?_
  obtain ⟨S_1, hc_1, h⟩ := of_bd h
  refine x_callV_ (pc := 1) C (o := 140) [] [] (c_X7_builds (b := b) hO S _ hc_1) cw_X7_173 vi_X7_builds ⟨rfl, rfl, Nat.le_of_ble_eq_true rfl, Nat.le_of_ble_eq_true rfl⟩ ⟨Nat.le_refl _, Nat.le_refl _⟩ hO.1 ⟨rfl, rfl, rfl⟩ rfl ⟨rfl, Nat.le_of_ble_eq_true rfl⟩ dX7_meetsNow_1 (fun hx_1 => ?_)
  refine x_aload_n (pc := 4) C 0 dX7_meetsNow_4 rfl ?_
  refine x_aload_n (pc := 5) C 0 dX7_meetsNow_5 rfl ?_
  refine x_geti (pc := 6) C (k := 9) hO.1 rfl rfl wd_737 dX7_meetsNow_6 ⟨Nat.le_of_ble_eq_true rfl, rfl⟩ ?_
  refine x_aload_n (pc := 9) C 0 dX7_meetsNow_9 rfl ?_
  refine x_geti (pc := 10) C (k := 10) hO.1 rfl rfl wd_738 dX7_meetsNow_10 ⟨Nat.le_of_ble_eq_true rfl, rfl⟩ ?_
  obtain ⟨⟨r_1, S_2⟩, hc_2, h⟩ := of_bd h
  replace h := of_u2 h
  refine x_callV1 (pc := 13) C (o := 140) [.int (S_1.1 140 9), .int (S_1.1 140 10)] [] (c_X7_meetsBy (b := b) (S_1.1 140 9) (S_1.1 140 10) hO S_1 _ _ hc_2) cw_X7_179 vi_X7_meetsBy ⟨rfl, rfl, Nat.le_of_ble_eq_true rfl, Nat.le_of_ble_eq_true rfl⟩ ⟨Nat.le_refl _, Nat.le_refl _⟩ hO.1 ⟨rfl, rfl, rfl⟩ rfl ⟨rfl, Nat.le_of_ble_eq_true rfl⟩ dX7_meetsNow_13 (fun hx_2 => ?_)
  exact x_ireturn (pc := 16) C dX7_meetsNow_16 (of_sp h).1 (of_sp h).2
set_option maxRecDepth 100000 in
set_option maxHeartbeats 4000000 in
theorem c_X7_isAsked {l : Launch} {G : zz_G} {L : Ly} {b : Nat} (hO : isMo L) (S : Sg) (rf : Int32) (Sf : Sg) (h : f_X7_isAsked S = some (rf, Sf)) : Met l yX7_isAsked (Cond.code yX7_isAsked cX7_isAsked 2 (some .int) :: zz_all) (rmz 8 196) (PC G L b S [.ref (b + 140)]) (QC G L b Sf (some (.int rf)) True) 0 0 (fun q => b ≤ q) := by
  refine x_met [.ref (b + 140)] (by decide +kernel) (Nat.le_of_ble_eq_true rfl) fun p e s m args below meth c C => ?_
  unfold f_X7_isAsked at h
  refine x_aload_n (pc := 0) C 0 dX7_isAsked_0 rfl ?_
  obtain ⟨⟨r_1, S_1⟩, hc_1, h⟩ := of_bd h
  replace h := of_u2 h
  refine x_callV1 (pc := 1) C (o := 140) [] [] (c_X7_meetsNow (b := b) hO S _ _ hc_1) cw_X7_186 vi_X7_meetsNow ⟨rfl, rfl, Nat.le_of_ble_eq_true rfl, Nat.le_of_ble_eq_true rfl⟩ ⟨Nat.le_refl _, Nat.le_refl _⟩ hO.1 ⟨rfl, rfl, rfl⟩ rfl ⟨rfl, Nat.le_of_ble_eq_true rfl⟩ dX7_isAsked_1 (fun hx_1 => ?_)
  refine x_istore_n (pc := 4) C 1 [(1, .int r_1), (0, .ref (b + 140))] dX7_isAsked_4 rfl (Nat.le_of_ble_eq_true rfl) rfl rfl ?_
  refine x_iload_n (pc := 5) C 0 dX7_isAsked_5 rfl ?_
  refine x_iconst (pc := 6) C (v := (1 : Int32)) dX7_isAsked_6 rfl ?_
  refine x_icmp_ne (pc := 7) C 14 dX7_isAsked_7 rfl (fun c_1 => ?_) (fun c_1 => ?_)
  · replace h := of_ifn c_1 h
    refine x_iload_n (pc := 14) C 0 dX7_isAsked_14 rfl ?_
    exact x_ireturn (pc := 15) C dX7_isAsked_15 (of_sp h).1 (of_sp h).2
  · replace h := of_ifp c_1 h
    refine x_aload_n (pc := 10) C 1 dX7_isAsked_10 rfl ?_
    obtain ⟨S_2, hc_2, h⟩ := of_bd h
    refine x_callV_ (pc := 11) C (o := 140) [] [] (c_X7_joins (b := b) hO S_1 _ hc_2) cw_X7_189 vi_X7_joins ⟨rfl, rfl, Nat.le_of_ble_eq_true rfl, Nat.le_of_ble_eq_true rfl⟩ ⟨Nat.le_refl _, Nat.le_refl _⟩ hO.1 ⟨rfl, rfl, rfl⟩ rfl ⟨rfl, Nat.le_of_ble_eq_true rfl⟩ dX7_isAsked_11 (fun hx_2 => ?_)
    refine x_iload_n (pc := 14) C 0 dX7_isAsked_14 rfl ?_
    exact x_ireturn (pc := 15) C dX7_isAsked_15 (of_sp h).1 (of_sp h).2
set_option maxRecDepth 100000 in
set_option maxHeartbeats 4000000 in
theorem c_X7_lower {l : Launch} {G : zz_G} {L : Ly} {b : Nat} (p1 : Int32) (hO : isMo L) (S : Sg) (rf : Int32) (Sf : Sg) (h : f_X7_lower p1 S = some (rf, Sf)) : Met l yX7_lower (Cond.code yX7_lower cX7_lower 2 (some .int) :: zz_all) (rmz 0 0) (PC G L b S [.ref (b + 140), .int p1]) (QC G L b Sf (some (.int rf)) True) 0 0 (fun q => b ≤ q) := by
  refine x_met [.ref (b + 140), .int p1] (by decide +kernel) (Nat.le_of_ble_eq_true rfl) fun p e s m args below meth c C => ?_
  unfold f_X7_lower at h
  refine x_aload_n (pc := 0) C 0 dX7_lower_0 rfl ?_
  refine x_getr (pc := 1) C (k := 0) 141 hO.1 rfl rfl wd_728 dX7_lower_1 (Nat.le_of_ble_eq_true rfl) rfl ?_
  refine x_iload_n (pc := 4) C 1 dX7_lower_4 rfl ?_
  refine x_ineg (pc := 5) C dX7_lower_5 ?_
  refine x_dup2 (pc := 6) C dX7_lower_6 rfl rfl ?_
  obtain ⟨g_1, h⟩ := of_gd h
  refine x_iaload (pc := 7) C hO.2.1 g_1 dX7_lower_7 ?_
  refine x_iconst (pc := 8) C (v := (1 : Int32)) dX7_lower_8 rfl ?_
  refine x_iadd (pc := 9) C dX7_lower_9 ?_
  obtain ⟨S_1, eS_1, h⟩ := of_lt h
  refine x_iastore (pc := 10) C hO.2.1 g_1 eS_1 dX7_lower_10 ?_
  refine x_ldc (pc := 11) C wd_1079 dX7_lower_11 ?_
  refine x_iload_n (pc := 13) C 1 dX7_lower_13 rfl ?_
  refine x_isub (pc := 14) C dX7_lower_14 ?_
  exact x_ireturn (pc := 15) C dX7_lower_15 (of_sp h).1 (of_sp h).2
set_option maxRecDepth 100000 in
set_option maxHeartbeats 4000000 in
theorem c_X7_notQuestion {l : Launch} {G : zz_G} {L : Ly} {b : Nat} (p0 : Int32) (p1 : Int32) (p2 : Int32) (S : Sg) : Met l yX7_notQuestion (Cond.code yX7_notQuestion cX7_notQuestion 4 (some .int) :: zz_all) (rmz 1 22) (PC G L b S [.int p0, .int p1, .int p2]) (QC G L b S (some (.int (f_X7_notQuestion p0 p1 p2))) True) 0 0 (fun q => b ≤ q) := by
  refine x_met [.int p0, .int p1, .int p2] (by decide +kernel) (Nat.le_of_ble_eq_true rfl) fun p e s m args below meth c C => ?_
  generalize h : f_X7_notQuestion p0 p1 p2 = rf
  unfold f_X7_notQuestion at h
  refine x_iload_n (pc := 0) C 0 dX7_notQuestion_0 rfl ?_
  refine x_iconst (pc := 1) C (v := (0 : Int32)) dX7_notQuestion_1 rfl ?_
  refine x_iconst (pc := 2) C (v := (2 : Int32)) dX7_notQuestion_2 rfl ?_
  refine x_callS1 (pc := 3) C [.int p0, .int (0 : Int32), .int (2 : Int32)] [] (c_X7_isIn (b := b) p0 (0 : Int32) (2 : Int32) S) cw_X7_96 vs_X7_isIn ⟨rfl, rfl, Nat.le_of_ble_eq_true rfl, Nat.le_of_ble_eq_true rfl⟩ ⟨Nat.le_refl _, Nat.le_refl _⟩ rfl ⟨rfl, Nat.le_of_ble_eq_true rfl⟩ dX7_notQuestion_3 (fun hx_1 => ?_)
  refine x_if_ne (pc := 6) C 12 dX7_notQuestion_6 rfl (fun c_1 => ?_) (fun c_1 => ?_)
  · replace h := of_ifn c_1 h
    refine x_iload_n (pc := 12) C 0 dX7_notQuestion_12 rfl ?_
    refine x_iconst (pc := 13) C (v := (1 : Int32)) dX7_notQuestion_13 rfl ?_
    obtain ⟨x_1, ex_1, h⟩ := of_lt h
    have kd_1 : X p l e (rmz 1 22) s m args below meth c 0 0 (RQ G L b S below args s (some (.int rf)) True) 4 G L b S 24 [(0, .int p0), (1, .int p1), (2, .int p2)] [.int x_1] := by
      refine x_istore_n (pc := 24) C 3 [(3, .int x_1), (0, .int p0), (1, .int p1), (2, .int p2)] dX7_notQuestion_24 rfl (Nat.le_of_ble_eq_true rfl) rfl rfl ?_
      refine x_iload_n (pc := 25) C 2 dX7_notQuestion_25 rfl ?_
      refine x_iconst (pc := 26) C (v := (1 : Int32)) dX7_notQuestion_26 rfl ?_
      refine x_icmp_lt (pc := 27) C 39 dX7_notQuestion_27 rfl (fun c_2 => ?_) (fun c_2 => ?_)
      · replace h := of_ifp c_2 h
        refine x_bipush (pc := 39) C (v := (-4 : Int32)) dX7_notQuestion_39 rfl ?_
        exact x_ireturn (pc := 41) C dX7_notQuestion_41 h rfl
      · replace h := of_ifn c_2 h
        refine x_iload_n (pc := 30) C 1 dX7_notQuestion_30 rfl ?_
        obtain ⟨J_1, eJ_1, h⟩ := of_lt h
        have kJ_1 : ∀ (_ : Unit), J_1 () = rf → X p l e (rmz 1 22) s m args below meth c 0 0 (RQ G L b S below args s (some (.int rf)) True) 4 G L b S 42 [(0, .int p0), (1, .int p1), (2, .int p2), (3, .int x_1)] [] := by
          intro _ h
          replace h := of_J1 eJ_1 h
          refine x_iload_n (pc := 42) C 1 dX7_notQuestion_42 rfl ?_
          refine x_sipush (pc := 43) C (v := (255 : Int32)) dX7_notQuestion_43 rfl ?_
          refine x_icmp_gt (pc := 46) C 58 dX7_notQuestion_46 rfl (fun c_3 => ?_) (fun c_3 => ?_)
          · replace h := of_ifp c_3 h
            refine x_bipush (pc := 58) C (v := (-6 : Int32)) dX7_notQuestion_58 rfl ?_
            exact x_ireturn (pc := 60) C dX7_notQuestion_60 h rfl
          · replace h := of_ifn c_3 h
            refine x_iload_n (pc := 49) C 0 dX7_notQuestion_49 rfl ?_
            obtain ⟨J_2, eJ_2, h⟩ := of_lt h
            have kJ_2 : ∀ (_ : Unit), J_2 () = rf → X p l e (rmz 1 22) s m args below meth c 0 0 (RQ G L b S below args s (some (.int rf)) True) 4 G L b S 61 [(0, .int p0), (1, .int p1), (2, .int p2)] [] := by
              intro _ h
              replace h := of_J1 eJ_2 h
              refine x_iload_n (pc := 61) C 0 dX7_notQuestion_61 rfl ?_
              refine x_iconst (pc := 62) C (v := (1 : Int32)) dX7_notQuestion_62 rfl ?_
              obtain ⟨x_2, ex_2, h⟩ := of_lt h
              have kd_2 : X p l e (rmz 1 22) s m args below meth c 0 0 (RQ G L b S below args s (some (.int rf)) True) 4 G L b S 78 [] [.int x_2] := by
                exact x_ireturn (pc := 78) C dX7_notQuestion_78 h rfl
              refine x_icmp_ne (pc := 63) C 77 dX7_notQuestion_63 rfl (fun c_4 => ?_) (fun c_4 => ?_)
              · refine x_iconst (pc := 77) C (v := (0 : Int32)) dX7_notQuestion_77 rfl ?_
                refine x_sub [] rfl ?_
                rw [show x_2 = (0 : Int32) from (ex_2.trans (if_neg c_4))] at kd_2
                exact kd_2
              · refine x_iload_n (pc := 66) C 1 dX7_notQuestion_66 rfl ?_
                refine x_iload_n (pc := 67) C 2 dX7_notQuestion_67 rfl ?_
                refine x_iand (pc := 68) C dX7_notQuestion_68 ?_
                refine x_if_eq (pc := 69) C 77 dX7_notQuestion_69 rfl (fun c_5 => ?_) (fun c_5 => ?_)
                · refine x_iconst (pc := 77) C (v := (0 : Int32)) dX7_notQuestion_77 rfl ?_
                  refine x_sub [] rfl ?_
                  rw [show x_2 = (0 : Int32) from ((ex_2.trans (if_pos c_4)).trans (if_pos c_5))] at kd_2
                  exact kd_2
                · refine x_bipush (pc := 72) C (v := (-3 : Int32)) dX7_notQuestion_72 rfl ?_
                  refine x_goto (pc := 74) C 78 dX7_notQuestion_74 rfl ?_
                  refine x_sub [] rfl ?_
                  rw [show x_2 = (-3 : Int32) from ((ex_2.trans (if_pos c_4)).trans (if_neg c_5))] at kd_2
                  exact kd_2
            refine x_if_eq (pc := 50) C 61 dX7_notQuestion_50 rfl (fun c_6 => ?_) (fun c_6 => ?_)
            · replace h := of_ifp c_6 h
              exact x_sub [0, 1, 2] rfl (kJ_2 () h)
            · replace h := of_ifn c_6 h
              refine x_iload_n (pc := 53) C 2 dX7_notQuestion_53 rfl ?_
              refine x_iload_n (pc := 54) C 3 dX7_notQuestion_54 rfl ?_
              refine x_icmp_le (pc := 55) C 61 dX7_notQuestion_55 rfl (fun c_7 => ?_) (fun c_7 => ?_)
              · replace h := of_ifn c_7 h
                exact x_sub [0, 1, 2] rfl (kJ_2 () h)
              · replace h := of_ifp c_7 h
                refine x_bipush (pc := 58) C (v := (-6 : Int32)) dX7_notQuestion_58 rfl ?_
                exact x_ireturn (pc := 60) C dX7_notQuestion_60 h rfl
        refine x_if_eq (pc := 31) C 42 dX7_notQuestion_31 rfl (fun c_8 => ?_) (fun c_8 => ?_)
        · replace h := of_ifp c_8 h
          exact x_sub [1, 2, 3, 0] rfl (kJ_1 () h)
        · replace h := of_ifn c_8 h
          refine x_iload_n (pc := 34) C 3 dX7_notQuestion_34 rfl ?_
          refine x_iconst (pc := 35) C (v := (1 : Int32)) dX7_notQuestion_35 rfl ?_
          refine x_icmp_ge (pc := 36) C 42 dX7_notQuestion_36 rfl (fun c_9 => ?_) (fun c_9 => ?_)
          · replace h := of_ifn c_9 h
            exact x_sub [1, 2, 3, 0] rfl (kJ_1 () h)
          · replace h := of_ifp c_9 h
            refine x_bipush (pc := 39) C (v := (-4 : Int32)) dX7_notQuestion_39 rfl ?_
            exact x_ireturn (pc := 41) C dX7_notQuestion_41 h rfl
    refine x_icmp_ne (pc := 14) C 23 dX7_notQuestion_14 rfl (fun c_10 => ?_) (fun c_10 => ?_)
    · refine x_iconst (pc := 23) C (v := (3 : Int32)) dX7_notQuestion_23 rfl ?_
      refine x_sub [0, 1, 2] rfl ?_
      rw [show x_1 = (3 : Int32) from (ex_1.trans (if_neg c_10))] at kd_1
      exact kd_1
    · refine x_sipush (pc := 17) C (v := (255 : Int32)) dX7_notQuestion_17 rfl ?_
      refine x_goto (pc := 20) C 24 dX7_notQuestion_20 rfl ?_
      refine x_sub [0, 1, 2] rfl ?_
      rw [show x_1 = (255 : Int32) from (ex_1.trans (if_pos c_10))] at kd_1
      exact kd_1
  · replace h := of_ifp c_1 h
    refine x_bipush (pc := 9) C (v := (-2 : Int32)) dX7_notQuestion_9 rfl ?_
    exact x_ireturn (pc := 11) C dX7_notQuestion_11 h rfl
set_option maxRecDepth 100000 in
set_option maxHeartbeats 4000000 in
theorem c_X7_ask {l : Launch} {G : zz_G} {L : Ly} {b : Nat} (p1 : Int32) (p2 : Int32) (p3 : Int32) (hO : isMo L) (S : Sg) (rf : Int32) (Sf : Sg) (h : f_X7_ask p1 p2 p3 S = some (rf, Sf)) : Met l yX7_ask (Cond.code yX7_ask cX7_ask 5 (some .int) :: zz_all) (rmz 9 217) (PC G L b S [.ref (b + 140), .int p1, .int p2, .int p3]) (QC G L b Sf (some (.int rf)) True) 0 0 (fun q => b ≤ q) := by
  refine x_met [.ref (b + 140), .int p1, .int p2, .int p3] (by decide +kernel) (Nat.le_of_ble_eq_true rfl) fun p e s m args below meth c C => ?_
  unfold f_X7_ask at h
  refine x_iload_n (pc := 0) C 1 dX7_ask_0 rfl ?_
  refine x_iload_n (pc := 1) C 2 dX7_ask_1 rfl ?_
  refine x_iload_n (pc := 2) C 3 dX7_ask_2 rfl ?_
  refine x_callS1 (pc := 3) C [.int p1, .int p2, .int p3] [] (c_X7_notQuestion (b := b) p1 p2 p3 S) cw_X7_263 vs_X7_notQuestion ⟨rfl, rfl, Nat.le_of_ble_eq_true rfl, Nat.le_of_ble_eq_true rfl⟩ ⟨Nat.le_refl _, Nat.le_refl _⟩ rfl ⟨rfl, Nat.le_of_ble_eq_true rfl⟩ dX7_ask_3 (fun hx_1 => ?_)
  obtain ⟨v4_1, ev4_1, h⟩ := of_lt h
  refine x_istore (pc := 6) C [(4, .int v4_1), (0, .ref (b + 140)), (1, .int p1), (2, .int p2), (3, .int p3)] dX7_ask_6 (Nat.le_of_ble_eq_true rfl) ev4_1 rfl ?_
  refine x_iload (pc := 8) C 0 dX7_ask_8 rfl ?_
  refine x_if_eq (pc := 10) C 20 dX7_ask_10 rfl (fun c_1 => ?_) (fun c_1 => ?_)
  · replace h := of_ifp c_1 h
    refine x_aload_n (pc := 20) C 1 dX7_ask_20 rfl ?_
    refine x_iload_n (pc := 21) C 2 dX7_ask_21 rfl ?_
    refine x_iload_n (pc := 22) C 3 dX7_ask_22 rfl ?_
    refine x_iload_n (pc := 23) C 4 dX7_ask_23 rfl ?_
    obtain ⟨S_1, hc_1, h⟩ := of_bd h
    refine x_callV_ (pc := 24) C (o := 140) [.int p1, .int p2, .int p3] [] (c_X7_asks (b := b) p1 p2 p3 hO S _ hc_1) cw_X7_266 vi_X7_asks ⟨rfl, rfl, Nat.le_of_ble_eq_true rfl, Nat.le_of_ble_eq_true rfl⟩ ⟨Nat.le_refl _, Nat.le_refl _⟩ hO.1 ⟨rfl, rfl, rfl⟩ rfl ⟨rfl, Nat.le_of_ble_eq_true rfl⟩ dX7_ask_24 (fun hx_2 => ?_)
    refine x_aload_n (pc := 27) C 1 dX7_ask_27 rfl ?_
    obtain ⟨⟨r_1, S_2⟩, hc_2, h⟩ := of_bd h
    replace h := of_u2 h
    refine x_callV1 (pc := 28) C (o := 140) [] [] (c_X7_isAsked (b := b) hO S_1 _ _ hc_2) cw_X7_270 vi_X7_isAsked ⟨rfl, rfl, Nat.le_of_ble_eq_true rfl, Nat.le_of_ble_eq_true rfl⟩ ⟨Nat.le_refl _, Nat.le_refl _⟩ hO.1 ⟨rfl, rfl, rfl⟩ rfl ⟨rfl, Nat.le_of_ble_eq_true rfl⟩ dX7_ask_28 (fun hx_3 => ?_)
    refine x_iconst (pc := 31) C (v := (2 : Int32)) dX7_ask_31 rfl ?_
    refine x_icmp_ne (pc := 32) C 44 dX7_ask_32 rfl (fun c_2 => ?_) (fun c_2 => ?_)
    · replace h := of_ifn c_2 h
      refine x_aload_n (pc := 44) C 1 dX7_ask_44 rfl ?_
      obtain ⟨r_2, hc_3, h⟩ := of_bd h
      refine x_callV1 (pc := 45) C (o := 140) [] [] (c_X7_trueAnswer (b := b) hO S_2 _ hc_3) cw_X7_183 vi_X7_trueAnswer ⟨rfl, rfl, Nat.le_of_ble_eq_true rfl, Nat.le_of_ble_eq_true rfl⟩ ⟨Nat.le_refl _, Nat.le_refl _⟩ hO.1 ⟨rfl, rfl, rfl⟩ rfl ⟨rfl, Nat.le_of_ble_eq_true rfl⟩ dX7_ask_45 (fun hx_4 => ?_)
      exact x_ireturn (pc := 48) C dX7_ask_48 (of_sp h).1 (of_sp h).2
    · replace h := of_ifp c_2 h
      refine x_aload_n (pc := 35) C 1 dX7_ask_35 rfl ?_
      refine x_bipush (pc := 36) C (v := (-5 : Int32)) dX7_ask_36 rfl ?_
      obtain ⟨⟨r_3, S_3⟩, hc_4, h⟩ := of_bd h
      replace h := of_u2 h
      refine x_callV1 (pc := 38) C (o := 140) [.int (-5 : Int32)] [] (c_X7_lower (b := b) (-5 : Int32) hO S_2 _ _ hc_4) cw_X7_294 vi_X7_lower ⟨rfl, rfl, Nat.le_of_ble_eq_true rfl, Nat.le_of_ble_eq_true rfl⟩ ⟨Nat.le_refl _, Nat.le_refl _⟩ hO.1 ⟨rfl, rfl, rfl⟩ rfl ⟨rfl, Nat.le_of_ble_eq_true rfl⟩ dX7_ask_38 (fun hx_5 => ?_)
      refine x_goto (pc := 41) C 48 dX7_ask_41 rfl ?_
      exact x_ireturn (pc := 48) C dX7_ask_48 (of_sp h).1 (of_sp h).2
  · replace h := of_ifn c_1 h
    refine x_aload_n (pc := 13) C 1 dX7_ask_13 rfl ?_
    refine x_iload (pc := 14) C 0 dX7_ask_14 rfl ?_
    obtain ⟨⟨r_4, S_4⟩, hc_5, h⟩ := of_bd h
    replace h := of_u2 h
    refine x_callV1 (pc := 16) C (o := 140) [.int v4_1] [] (c_X7_lower (b := b) v4_1 hO S _ _ hc_5) cw_X7_294 vi_X7_lower ⟨rfl, rfl, Nat.le_of_ble_eq_true rfl, Nat.le_of_ble_eq_true rfl⟩ ⟨Nat.le_refl _, Nat.le_refl _⟩ hO.1 ⟨rfl, rfl, rfl⟩ rfl ⟨rfl, Nat.le_of_ble_eq_true rfl⟩ dX7_ask_16 (fun hx_6 => ?_)
    exact x_ireturn (pc := 19) C dX7_ask_19 (of_sp h).1 (of_sp h).2
set_option maxRecDepth 100000 in
set_option maxHeartbeats 4000000 in
theorem c_X7_asksSum {l : Launch} {G : zz_G} {L : Ly} {b : Nat} (p1 : Int32) (hO : isMo L) (S : Sg) (rf : Int32) (Sf : Sg) (h : f_X7_asksSum p1 S = some (rf, Sf)) : Met l yX7_asksSum (Cond.code yX7_asksSum cX7_asksSum 2 (some .int) :: zz_all) (rmz 9 217) (PC G L b S [.ref (b + 140), .int p1]) (QC G L b Sf (some (.int rf)) True) 0 0 (fun q => b ≤ q) := by
  refine x_met [.ref (b + 140), .int p1] (by decide +kernel) (Nat.le_of_ble_eq_true rfl) fun p e s m args below meth c C => ?_
  unfold f_X7_asksSum at h
  refine x_aload_n (pc := 0) C 0 dX7_asksSum_0 rfl ?_
  refine x_iconst (pc := 1) C (v := (0 : Int32)) dX7_asksSum_1 rfl ?_
  refine x_iload_n (pc := 2) C 1 dX7_asksSum_2 rfl ?_
  refine x_iconst (pc := 3) C (v := (0 : Int32)) dX7_asksSum_3 rfl ?_
  obtain ⟨S_1, hc_1, h⟩ := of_bd h
  refine x_callV_ (pc := 4) C (o := 140) [.int (0 : Int32), .int p1, .int (0 : Int32)] [] (c_X7_asks (b := b) (0 : Int32) p1 (0 : Int32) hO S _ hc_1) cw_X7_266 vi_X7_asks ⟨rfl, rfl, Nat.le_of_ble_eq_true rfl, Nat.le_of_ble_eq_true rfl⟩ ⟨Nat.le_refl _, Nat.le_refl _⟩ hO.1 ⟨rfl, rfl, rfl⟩ rfl ⟨rfl, Nat.le_of_ble_eq_true rfl⟩ dX7_asksSum_4 (fun hx_1 => ?_)
  refine x_aload_n (pc := 7) C 0 dX7_asksSum_7 rfl ?_
  obtain ⟨⟨r_1, S_2⟩, hc_2, h⟩ := of_bd h
  replace h := of_u2 h
  refine x_callV1 (pc := 8) C (o := 140) [] [] (c_X7_isAsked (b := b) hO S_1 _ _ hc_2) cw_X7_270 vi_X7_isAsked ⟨rfl, rfl, Nat.le_of_ble_eq_true rfl, Nat.le_of_ble_eq_true rfl⟩ ⟨Nat.le_refl _, Nat.le_refl _⟩ hO.1 ⟨rfl, rfl, rfl⟩ rfl ⟨rfl, Nat.le_of_ble_eq_true rfl⟩ dX7_asksSum_8 (fun hx_2 => ?_)
  exact x_ireturn (pc := 11) C dX7_asksSum_11 (of_sp h).1 (of_sp h).2
set_option maxRecDepth 100000 in
set_option maxHeartbeats 4000000 in
theorem l_X7_isFixed_2 {p : Program} {l : Launch} {e : Env} {s : State} {m : MethodId} {args : Array Value} {below : List Frame} {meth : Method} {c : Code} {G : zz_G} {L : Ly} {b : Nat} (C : CX p G s m args meth c cX7_isFixed yX7_isFixed 3 (some .boolean)) (hO : isMo L) (v1 : Int32) (S : Sg) (rf : Int32) : ∀ (n : Nat) (v2 : Int32) {z}, L_X7_isFixed_2 v1 S n v2 = some z → (∀ q, z = .inl q → q = rf) → (z = .inr () → X p l e (rmz 1 23) s m args below meth c 0 0 (RQ G L b S below args s (some (.int rf)) (rf = 0 ∨ rf = 1)) 3 G L b S 37 [] []) → X p l e (rmz 1 23) s m args below meth c 0 0 (RQ G L b S below args s (some (.int rf)) (rf = 0 ∨ rf = 1)) 3 G L b S 2 [(0, .ref (b + 140)), (1, .int v1), (2, .int v2)] [] := by
  intro n
  induction n with
  | zero =>
    intro v2 z h
    exact of_none h
  | succ n ih =>
    intro v2 z h hr hx
    rw [L_X7_isFixed_2] at h
    refine x_iload_n (pc := 2) C 2 dX7_isFixed_2 rfl ?_
    refine x_aload_n (pc := 3) C 0 dX7_isFixed_3 rfl ?_
    refine x_geti (pc := 4) C (k := 19) hO.1 rfl rfl wd_747 dX7_isFixed_4 ⟨Nat.le_of_ble_eq_true rfl, rfl⟩ ?_
    refine x_icmp_ge (pc := 7) C 37 dX7_isFixed_7 rfl (fun c_1 => ?_) (fun c_1 => ?_)
    · replace h := of_ifn c_1 h
      exact x_sub [] rfl (hx (of_s1 h).symm)
    · replace h := of_ifp c_1 h
      refine x_aload_n (pc := 10) C 0 dX7_isFixed_10 rfl ?_
      refine x_getr (pc := 11) C (k := 17) 153 hO.1 rfl rfl wd_745 dX7_isFixed_11 (Nat.le_of_ble_eq_true rfl) rfl ?_
      refine x_iload_n (pc := 14) C 2 dX7_isFixed_14 rfl ?_
      obtain ⟨g_1, h⟩ := of_gd h
      refine x_iaload (pc := 15) C hO.2.2.2.2.2.2.2.2.2.2.2.2.2.1 g_1 dX7_isFixed_15 ?_
      refine x_iload_n (pc := 16) C 1 dX7_isFixed_16 rfl ?_
      refine x_icmp_ne (pc := 17) C 31 dX7_isFixed_17 rfl (fun c_2 => ?_) (fun c_2 => ?_)
      · replace h := of_ifn c_2 h
        obtain ⟨v2_1, ev2_1, h⟩ := of_lt h
        refine x_iinc (pc := 31) C (w := (1 : Int32)) 2 [(2, .int v2_1), (0, .ref (b + 140)), (1, .int v1)] dX7_isFixed_31 rfl rfl (Nat.le_of_ble_eq_true rfl) ev2_1 rfl ?_
        refine x_goto (pc := 34) C 2 dX7_isFixed_34 rfl ?_
        exact x_sub [1, 2, 0] rfl (ih _ h hr hx)
      · replace h := of_ifp c_2 h
        refine x_aload_n (pc := 20) C 0 dX7_isFixed_20 rfl ?_
        refine x_iload_n (pc := 21) C 2 dX7_isFixed_21 rfl ?_
        obtain ⟨r_1, hc_1, h⟩ := of_bd h
        refine x_callV1 (pc := 22) C (o := 140) [.int v2] [] (c_X7_manyNot0 (b := b) v2 hO S _ hc_1) cw_X7_149 vi_X7_manyNot0 ⟨rfl, rfl, Nat.le_of_ble_eq_true rfl, Nat.le_of_ble_eq_true rfl⟩ ⟨Nat.le_refl _, Nat.le_refl _⟩ hO.1 ⟨rfl, rfl, rfl⟩ rfl ⟨rfl, Nat.le_of_ble_eq_true rfl⟩ dX7_isFixed_22 (fun hx_1 => ?_)
        refine x_iconst (pc := 25) C (v := (1 : Int32)) dX7_isFixed_25 rfl ?_
        refine x_icmp_ne (pc := 26) C 31 dX7_isFixed_26 rfl (fun c_3 => ?_) (fun c_3 => ?_)
        · replace h := of_ifn c_3 h
          obtain ⟨v2_2, ev2_2, h⟩ := of_lt h
          refine x_iinc (pc := 31) C (w := (1 : Int32)) 2 [(2, .int v2_2), (0, .ref (b + 140)), (1, .int v1)] dX7_isFixed_31 rfl rfl (Nat.le_of_ble_eq_true rfl) ev2_2 rfl ?_
          refine x_goto (pc := 34) C 2 dX7_isFixed_34 rfl ?_
          exact x_sub [1, 2, 0] rfl (ih _ h hr hx)
        · replace h := of_ifp c_3 h
          refine x_iconst (pc := 29) C (v := (1 : Int32)) dX7_isFixed_29 rfl ?_
          have hq := hr _ (of_s1 h).symm
          exact x_zreturn (pc := 30) C (by decide) dX7_isFixed_30 hq rfl
set_option maxRecDepth 100000 in
set_option maxHeartbeats 4000000 in
theorem c_X7_isFixed {l : Launch} {G : zz_G} {L : Ly} {b : Nat} (p1 : Int32) (hO : isMo L) (S : Sg) (rf : Int32) (h : f_X7_isFixed p1 S = some rf) : Met l yX7_isFixed (Cond.code yX7_isFixed cX7_isFixed 3 (some .boolean) :: zz_all) (rmz 1 23) (PC G L b S [.ref (b + 140), .int p1]) (QC G L b S (some (.int rf)) (rf = 0 ∨ rf = 1)) 0 0 (fun q => b ≤ q) := by
  refine x_met [.ref (b + 140), .int p1] (by decide +kernel) (Nat.le_of_ble_eq_true rfl) fun p e s m args below meth c C => ?_
  unfold f_X7_isFixed at h
  refine x_iconst (pc := 0) C (v := (0 : Int32)) dX7_isFixed_0 rfl ?_
  refine x_istore_n (pc := 1) C 2 [(2, .int (0 : Int32)), (0, .ref (b + 140)), (1, .int p1)] dX7_isFixed_1 rfl (Nat.le_of_ble_eq_true rfl) rfl rfl ?_
  refine x_sub [1, 2, 0] rfl ?_
  obtain ⟨z_hz_1, hz_1, hl, hrr⟩ := of_bs h
  refine l_X7_isFixed_2 C hO p1 S rf 400 _ hz_1 (fun q ez => of_s1 (hl _ ez)) (fun ez => ?_)
  replace h := hrr _ ez
  clear hl hrr
  refine x_iconst (pc := 37) C (v := (0 : Int32)) dX7_isFixed_37 rfl ?_
  exact x_zreturn (pc := 38) C (by decide) dX7_isFixed_38 (of_s1 h) rfl
set_option maxRecDepth 100000 in
set_option maxHeartbeats 4000000 in
theorem c_X7_isVariable {l : Launch} {G : zz_G} {L : Ly} {b : Nat} (p1 : Int32) (hO : isMo L) (S : Sg) : Met l yX7_isVariable (Cond.code yX7_isVariable cX7_isVariable 2 (some .boolean) :: zz_all) (rmz 1 22) (PC G L b S [.ref (b + 140), .int p1]) (QC G L b S (some (.int (f_X7_isVariable p1 S))) (f_X7_isVariable p1 S = 0 ∨ f_X7_isVariable p1 S = 1)) 0 0 (fun q => b ≤ q) := by
  refine x_met [.ref (b + 140), .int p1] (by decide +kernel) (Nat.le_of_ble_eq_true rfl) fun p e s m args below meth c C => ?_
  generalize h : f_X7_isVariable p1 S = rf
  unfold f_X7_isVariable at h
  refine x_iload_n (pc := 0) C 1 dX7_isVariable_0 rfl ?_
  refine x_iconst (pc := 1) C (v := (0 : Int32)) dX7_isVariable_1 rfl ?_
  refine x_aload_n (pc := 2) C 0 dX7_isVariable_2 rfl ?_
  refine x_geti (pc := 3) C (k := 7) hO.1 rfl rfl wd_735 dX7_isVariable_3 ⟨Nat.le_of_ble_eq_true rfl, rfl⟩ ?_
  refine x_iconst (pc := 6) C (v := (1 : Int32)) dX7_isVariable_6 rfl ?_
  refine x_isub (pc := 7) C dX7_isVariable_7 ?_
  refine x_callS1 (pc := 8) C [.int p1, .int (0 : Int32), .int ((S.1 140 7) - (1 : Int32))] [] (c_X7_isIn (b := b) p1 (0 : Int32) ((S.1 140 7) - (1 : Int32)) S) cw_X7_96 vs_X7_isIn ⟨rfl, rfl, Nat.le_of_ble_eq_true rfl, Nat.le_of_ble_eq_true rfl⟩ ⟨Nat.le_refl _, Nat.le_refl _⟩ rfl ⟨rfl, Nat.le_of_ble_eq_true rfl⟩ dX7_isVariable_8 (fun hx_1 => ?_)
  exact x_zreturn (pc := 11) C hx_1 dX7_isVariable_11 h rfl
set_option maxRecDepth 100000 in
set_option maxHeartbeats 4000000 in
theorem c_X7_no {l : Launch} {G : zz_G} {L : Ly} {b : Nat} (p1 : Int32) (hO : isMo L) (S : Sg) (rf : Int32) (Sf : Sg) (h : f_X7_no p1 S = some (rf, Sf)) : Met l yX7_no (Cond.code yX7_no cX7_no 2 (some .int) :: zz_all) (rmz 0 0) (PC G L b S [.ref (b + 140), .int p1]) (QC G L b Sf (some (.int rf)) True) 0 0 (fun q => b ≤ q) := by
  refine x_met [.ref (b + 140), .int p1] (by decide +kernel) (Nat.le_of_ble_eq_true rfl) fun p e s m args below meth c C => ?_
  unfold f_X7_no at h
  refine x_aload_n (pc := 0) C 0 dX7_no_0 rfl ?_
  refine x_getr (pc := 1) C (k := 0) 141 hO.1 rfl rfl wd_728 dX7_no_1 (Nat.le_of_ble_eq_true rfl) rfl ?_
  refine x_iload_n (pc := 4) C 1 dX7_no_4 rfl ?_
  refine x_ineg (pc := 5) C dX7_no_5 ?_
  refine x_dup2 (pc := 6) C dX7_no_6 rfl rfl ?_
  obtain ⟨g_1, h⟩ := of_gd h
  refine x_iaload (pc := 7) C hO.2.1 g_1 dX7_no_7 ?_
  refine x_iconst (pc := 8) C (v := (1 : Int32)) dX7_no_8 rfl ?_
  refine x_iadd (pc := 9) C dX7_no_9 ?_
  obtain ⟨S_1, eS_1, h⟩ := of_lt h
  refine x_iastore (pc := 10) C hO.2.1 g_1 eS_1 dX7_no_10 ?_
  refine x_iload_n (pc := 11) C 1 dX7_no_11 rfl ?_
  exact x_ireturn (pc := 12) C dX7_no_12 (of_sp h).1 (of_sp h).2
set_option maxRecDepth 100000 in
set_option maxHeartbeats 4000000 in
theorem l_X7_attack_54 {p : Program} {l : Launch} {e : Env} {s : State} {m : MethodId} {args : Array Value} {below : List Frame} {meth : Method} {c : Code} {G : zz_G} {L : Ly} {b : Nat} {Q : State → Prop} (C : CX p G s m args meth c cX7_attack yX7_attack 7 (some .int)) (hO : isMo L) (v1 : Int32) (v2 : Int32) : ∀ (n : Nat) (v4 : Int32) (v5 : Int32) (v6 : Int32) (S : Sg) {z}, L_X7_attack_54 v1 v2 n v4 v5 v6 S = some z → (∀ (v4_o : Int32) (v5_o : Int32) (S_o : Sg), z = (v4_o, v5_o, S_o) → X p l e (rmz 7 175) s m args below meth c 0 0 Q 7 G L b S_o 105 [(2, .int v2), (4, .int v4_o), (5, .int v5_o)] []) → X p l e (rmz 7 175) s m args below meth c 0 0 Q 7 G L b S 54 [(0, .ref (b + 140)), (1, .int v1), (2, .int v2), (4, .int v4), (5, .int v5), (6, .int v6)] [] := by
  intro n
  induction n with
  | zero =>
    intro v4 v5 v6 S z h
    exact of_none h
  | succ n ih =>
    intro v4 v5 v6 S z h hx
    rw [L_X7_attack_54] at h
    refine x_iload (pc := 54) C 5 dX7_attack_54 rfl ?_
    refine x_iconst (pc := 56) C (v := (1 : Int32)) dX7_attack_56 rfl ?_
    refine x_icmp_lt (pc := 57) C 105 dX7_attack_57 rfl (fun c_1 => ?_) (fun c_1 => ?_)
    · replace h := of_ifp c_1 h
      exact x_sub [2, 3, 4] rfl (hx _ _ _ (of_s1 h).symm)
    · replace h := of_ifn c_1 h
      refine x_aload_n (pc := 60) C 0 dX7_attack_60 rfl ?_
      refine x_iconst (pc := 61) C (v := (0 : Int32)) dX7_attack_61 rfl ?_
      refine x_iload (pc := 62) C 5 dX7_attack_62 rfl ?_
      refine x_iconst (pc := 64) C (v := (0 : Int32)) dX7_attack_64 rfl ?_
      obtain ⟨S_1, hc_1, h⟩ := of_bd h
      refine x_callV_ (pc := 65) C (o := 140) [.int (0 : Int32), .int v6, .int (0 : Int32)] [] (c_X7_asks (b := b) (0 : Int32) v6 (0 : Int32) hO S _ hc_1) cw_X7_266 vi_X7_asks ⟨rfl, rfl, Nat.le_of_ble_eq_true rfl, Nat.le_of_ble_eq_true rfl⟩ ⟨Nat.le_refl _, Nat.le_refl _⟩ hO.1 ⟨rfl, rfl, rfl⟩ rfl ⟨rfl, Nat.le_of_ble_eq_true rfl⟩ dX7_attack_65 (fun hx_1 => ?_)
      refine x_aload_n (pc := 68) C 0 dX7_attack_68 rfl ?_
      obtain ⟨S_2, hc_2, h⟩ := of_bd h
      refine x_callV_ (pc := 69) C (o := 140) [] [] (c_X7_loads (b := b) hO S_1 _ hc_2) cw_X7_167 vi_X7_loads ⟨rfl, rfl, Nat.le_of_ble_eq_true rfl, Nat.le_of_ble_eq_true rfl⟩ ⟨Nat.le_refl _, Nat.le_refl _⟩ hO.1 ⟨rfl, rfl, rfl⟩ rfl ⟨rfl, Nat.le_of_ble_eq_true rfl⟩ dX7_attack_69 (fun hx_2 => ?_)
      refine x_aload_n (pc := 72) C 0 dX7_attack_72 rfl ?_
      refine x_aload_n (pc := 73) C 0 dX7_attack_73 rfl ?_
      refine x_getr (pc := 74) C (k := 11) 148 hO.1 rfl rfl wd_739 dX7_attack_74 (Nat.le_of_ble_eq_true rfl) rfl ?_
      refine x_iconst (pc := 77) C (v := (0 : Int32)) dX7_attack_77 rfl ?_
      obtain ⟨S_3, hc_3, h⟩ := of_bd h
      refine x_callV_ (pc := 78) C (o := 140) [.ref (b + 148), .int (0 : Int32)] [] (c_X7_adds (b := b) 148 10 (0 : Int32) hO hO.2.2.2.2.2.2.2.2.1 S_2 _ hc_3) cw_X7_146 vi_X7_adds ⟨rfl, rfl, Nat.le_of_ble_eq_true rfl, Nat.le_of_ble_eq_true rfl⟩ ⟨Nat.le_refl _, Nat.le_refl _⟩ hO.1 ⟨rfl, rfl, rfl⟩ rfl ⟨rfl, Nat.le_of_ble_eq_true rfl⟩ dX7_attack_78 (fun hx_3 => ?_)
      refine x_aload_n (pc := 81) C 0 dX7_attack_81 rfl ?_
      refine x_iload_n (pc := 82) C 1 dX7_attack_82 rfl ?_
      obtain ⟨r_1, hc_4, h⟩ := of_bd h
      refine x_callV1 (pc := 83) C (o := 140) [.int v1] [] (c_X7_isFixed (b := b) v1 hO S_3 _ hc_4) cw_X7_320 vi_X7_isFixed ⟨rfl, rfl, Nat.le_of_ble_eq_true rfl, Nat.le_of_ble_eq_true rfl⟩ ⟨Nat.le_refl _, Nat.le_refl _⟩ hO.1 ⟨rfl, rfl, rfl⟩ rfl ⟨rfl, Nat.le_of_ble_eq_true rfl⟩ dX7_attack_83 (fun hx_4 => ?_)
      obtain ⟨v4_1, ev4_1, h⟩ := of_lt h
      obtain ⟨v5_1, ev5_1, h⟩ := of_lt h
      have kd_1 : X p l e (rmz 7 175) s m args below meth c 0 0 Q 7 G L b S_3 99 [(0, .ref (b + 140)), (1, .int v1), (2, .int v2), (4, .int v4_1), (5, .int v5_1), (6, .int v6)] [] := by
        obtain ⟨v6_1, ev6_1, h⟩ := of_lt h
        refine x_iinc (pc := 99) C (w := (-1 : Int32)) 5 [(6, .int v6_1), (0, .ref (b + 140)), (1, .int v1), (2, .int v2), (4, .int v4_1), (5, .int v5_1)] dX7_attack_99 rfl rfl (Nat.le_of_ble_eq_true rfl) ev6_1 rfl ?_
        refine x_goto (pc := 102) C 54 dX7_attack_102 rfl ?_
        exact x_sub [1, 2, 3, 4, 5, 0] rfl (ih _ _ _ _ h hx)
      refine x_if_ne (pc := 86) C 92 dX7_attack_86 rfl (fun c_2 => ?_) (fun c_2 => ?_)
      · refine x_iload (pc := 92) C 5 dX7_attack_92 rfl ?_
        refine x_istore (pc := 94) C [(4, .int v6), (0, .ref (b + 140)), (1, .int v1), (2, .int v2), (5, .int v5), (6, .int v6)] dX7_attack_94 (Nat.le_of_ble_eq_true rfl) rfl rfl ?_
        refine x_iinc (pc := 96) C (w := (1 : Int32)) 4 [(5, .int (v5 + (1 : Int32))), (4, .int v6), (0, .ref (b + 140)), (1, .int v1), (2, .int v2), (6, .int v6)] dX7_attack_96 rfl rfl (Nat.le_of_ble_eq_true rfl) rfl rfl ?_
        refine x_sub [2, 3, 4, 1, 0, 5] rfl ?_
        rw [show v4_1 = v6 from (ev4_1.trans (if_neg c_2))] at kd_1
        rw [show v5_1 = (v5 + (1 : Int32)) from (ev5_1.trans (if_neg c_2))] at kd_1
        exact kd_1
      · refine x_goto (pc := 89) C 99 dX7_attack_89 rfl ?_
        refine x_sub [0, 1, 2, 3, 4, 5] rfl ?_
        rw [show v4_1 = v4 from (ev4_1.trans (if_pos c_2))] at kd_1
        rw [show v5_1 = v5 from (ev5_1.trans (if_pos c_2))] at kd_1
        exact kd_1
set_option maxRecDepth 100000 in
set_option maxHeartbeats 4000000 in
theorem c_X7_attack {l : Launch} {G : zz_G} {L : Ly} {b : Nat} (p1 : Int32) (p2 : Int32) (hO : isMo L) (S : Sg) (rf : Int32) (Sf : Sg) (h : f_X7_attack p1 p2 S = some (rf, Sf)) : Met l yX7_attack (Cond.code yX7_attack cX7_attack 7 (some .int) :: zz_all) (rmz 7 175) (PC G L b S [.ref (b + 140), .int p1, .int p2]) (QC G L b Sf (some (.int rf)) True) 0 0 (fun q => b ≤ q) := by
  refine x_met [.ref (b + 140), .int p1, .int p2] (by decide +kernel) (Nat.le_of_ble_eq_true rfl) fun p e s m args below meth c C => ?_
  unfold f_X7_attack at h
  refine x_aload_n (pc := 0) C 0 dX7_attack_0 rfl ?_
  refine x_iload_n (pc := 1) C 1 dX7_attack_1 rfl ?_
  refine x_callV1 (pc := 2) C (o := 140) [.int p1] [] (c_X7_isVariable (b := b) p1 hO S) cw_X7_257 vi_X7_isVariable ⟨rfl, rfl, Nat.le_of_ble_eq_true rfl, Nat.le_of_ble_eq_true rfl⟩ ⟨Nat.le_refl _, Nat.le_refl _⟩ hO.1 ⟨rfl, rfl, rfl⟩ rfl ⟨rfl, Nat.le_of_ble_eq_true rfl⟩ dX7_attack_2 (fun hx_1 => ?_)
  obtain ⟨x_1, ex_1, h⟩ := of_lt h
  have kd_1 : X p l e (rmz 7 175) s m args below meth c 0 0 (RQ G L b Sf below args s (some (.int rf)) True) 7 G L b S 27 [(0, .ref (b + 140)), (1, .int p1), (2, .int p2)] [.int x_1] := by
    refine x_istore_n (pc := 27) C 3 [(3, .int x_1), (0, .ref (b + 140)), (1, .int p1), (2, .int p2)] dX7_attack_27 rfl (Nat.le_of_ble_eq_true rfl) rfl rfl ?_
    refine x_iload_n (pc := 28) C 0 dX7_attack_28 rfl ?_
    refine x_if_eq (pc := 29) C 38 dX7_attack_29 rfl (fun c_1 => ?_) (fun c_1 => ?_)
    · replace h := of_ifp c_1 h
      refine x_aload_n (pc := 38) C 1 dX7_attack_38 rfl ?_
      obtain ⟨S_1, hc_1, h⟩ := of_bd h
      refine x_callV_ (pc := 39) C (o := 140) [] [] (c_X7_builds (b := b) hO S _ hc_1) cw_X7_173 vi_X7_builds ⟨rfl, rfl, Nat.le_of_ble_eq_true rfl, Nat.le_of_ble_eq_true rfl⟩ ⟨Nat.le_refl _, Nat.le_refl _⟩ hO.1 ⟨rfl, rfl, rfl⟩ rfl ⟨rfl, Nat.le_of_ble_eq_true rfl⟩ dX7_attack_39 (fun hx_3 => ?_)
      refine x_bipush (pc := 42) C (v := (-9 : Int32)) dX7_attack_42 rfl ?_
      refine x_istore (pc := 44) C [(4, .int (-9 : Int32)), (3, .int x_1), (0, .ref (b + 140)), (1, .int p1), (2, .int p2)] dX7_attack_44 (Nat.le_of_ble_eq_true rfl) rfl rfl ?_
      refine x_iconst (pc := 46) C (v := (0 : Int32)) dX7_attack_46 rfl ?_
      refine x_istore (pc := 47) C [(5, .int (0 : Int32)), (4, .int (-9 : Int32)), (3, .int x_1), (0, .ref (b + 140)), (1, .int p1), (2, .int p2)] dX7_attack_47 (Nat.le_of_ble_eq_true rfl) rfl rfl ?_
      refine x_sipush (pc := 49) C (v := (255 : Int32)) dX7_attack_49 rfl ?_
      refine x_istore (pc := 52) C [(6, .int (255 : Int32)), (5, .int (0 : Int32)), (4, .int (-9 : Int32)), (3, .int x_1), (0, .ref (b + 140)), (1, .int p1), (2, .int p2)] dX7_attack_52 (Nat.le_of_ble_eq_true rfl) rfl rfl ?_
      refine x_sub [4, 5, 6, 2, 1, 0] rfl ?_
      obtain ⟨z_hz_1, hz_1, h⟩ := of_bd h
      refine l_X7_attack_54 C hO p1 p2 400 _ _ _ _ hz_1 (fun v4_1 v5_1 S_2 ez => ?_)
      subst z_hz_1
      replace h := of_u3 h
      refine x_iload_n (pc := 105) C 0 dX7_attack_105 rfl ?_
      obtain ⟨x_2, ex_2, h⟩ := of_lt h
      have kd_2 : X p l e (rmz 7 175) s m args below meth c 0 0 (RQ G L b Sf below args s (some (.int rf)) True) 7 G L b S_2 116 [] [.int x_2] := by
        exact x_ireturn (pc := 116) C dX7_attack_116 (of_sp h).1 (of_sp h).2
      refine x_if_ne (pc := 106) C 114 dX7_attack_106 rfl (fun c_2 => ?_) (fun c_2 => ?_)
      · refine x_iload (pc := 114) C 2 dX7_attack_114 rfl ?_
        refine x_sub [] rfl ?_
        rw [show x_2 = v5_1 from (ex_2.trans (if_neg c_2))] at kd_2
        exact kd_2
      · refine x_iload (pc := 109) C 1 dX7_attack_109 rfl ?_
        refine x_goto (pc := 111) C 116 dX7_attack_111 rfl ?_
        refine x_sub [] rfl ?_
        rw [show x_2 = v4_1 from (ex_2.trans (if_pos c_2))] at kd_2
        exact kd_2
    · replace h := of_ifn c_1 h
      refine x_aload_n (pc := 32) C 1 dX7_attack_32 rfl ?_
      refine x_iload_n (pc := 33) C 0 dX7_attack_33 rfl ?_
      obtain ⟨⟨r_1, S_3⟩, hc_2, h⟩ := of_bd h
      replace h := of_u2 h
      refine x_callV1 (pc := 34) C (o := 140) [.int x_1] [] (c_X7_no (b := b) x_1 hO S _ _ hc_2) cw_X7_213 vi_X7_no ⟨rfl, rfl, Nat.le_of_ble_eq_true rfl, Nat.le_of_ble_eq_true rfl⟩ ⟨Nat.le_refl _, Nat.le_refl _⟩ hO.1 ⟨rfl, rfl, rfl⟩ rfl ⟨rfl, Nat.le_of_ble_eq_true rfl⟩ dX7_attack_34 (fun hx_4 => ?_)
      exact x_ireturn (pc := 37) C dX7_attack_37 (of_sp h).1 (of_sp h).2
  refine x_if_ne (pc := 5) C 12 dX7_attack_5 rfl (fun c_3 => ?_) (fun c_3 => ?_)
  · refine x_iload_n (pc := 12) C 2 dX7_attack_12 rfl ?_
    refine x_iconst (pc := 13) C (v := (0 : Int32)) dX7_attack_13 rfl ?_
    refine x_iconst (pc := 14) C (v := (1 : Int32)) dX7_attack_14 rfl ?_
    refine x_callS1 (pc := 15) C [.int p2, .int (0 : Int32), .int (1 : Int32)] [] (c_X7_isIn (b := b) p2 (0 : Int32) (1 : Int32) S) cw_X7_96 vs_X7_isIn ⟨rfl, rfl, Nat.le_of_ble_eq_true rfl, Nat.le_of_ble_eq_true rfl⟩ ⟨Nat.le_refl _, Nat.le_refl _⟩ rfl ⟨rfl, Nat.le_of_ble_eq_true rfl⟩ dX7_attack_15 (fun hx_2 => ?_)
    refine x_if_ne (pc := 18) C 26 dX7_attack_18 rfl (fun c_4 => ?_) (fun c_4 => ?_)
    · refine x_iconst (pc := 26) C (v := (0 : Int32)) dX7_attack_26 rfl ?_
      refine x_sub [0, 1, 2] rfl ?_
      rw [show x_1 = (0 : Int32) from ((ex_1.trans (if_neg c_3)).trans (if_neg c_4))] at kd_1
      exact kd_1
    · refine x_bipush (pc := 21) C (v := (-2 : Int32)) dX7_attack_21 rfl ?_
      refine x_goto (pc := 23) C 27 dX7_attack_23 rfl ?_
      refine x_sub [0, 1, 2] rfl ?_
      rw [show x_1 = (-2 : Int32) from ((ex_1.trans (if_neg c_3)).trans (if_pos c_4))] at kd_1
      exact kd_1
  · refine x_iconst (pc := 8) C (v := (-1 : Int32)) dX7_attack_8 rfl ?_
    refine x_goto (pc := 9) C 27 dX7_attack_9 rfl ?_
    refine x_sub [0, 1, 2] rfl ?_
    rw [show x_1 = (-1 : Int32) from (ex_1.trans (if_pos c_3))] at kd_1
    exact kd_1
set_option maxRecDepth 100000 in
set_option maxHeartbeats 4000000 in
theorem l_X7_bits_4 {p : Program} {l : Launch} {e : Env} {s : State} {m : MethodId} {args : Array Value} {below : List Frame} {meth : Method} {c : Code} {G : zz_G} {L : Ly} {b : Nat} {Q : State → Prop} (C : CX p G s m args meth c cX7_bits yX7_bits 3 (some .int)) (v0 : Int32) (S : Sg) : ∀ (n : Nat) (v1 : Int32) (v2 : Int32) {z}, L_X7_bits_4 v0 n v1 v2 = some z → (∀ (v1_o : Int32), z = v1_o → X p l e (rmz 0 0) s m args below meth c 0 0 Q 3 G L b S 24 [(1, .int v1_o)] []) → X p l e (rmz 0 0) s m args below meth c 0 0 Q 3 G L b S 4 [(0, .int v0), (1, .int v1), (2, .int v2)] [] := by
  intro n
  induction n with
  | zero =>
    intro v1 v2 z h
    exact of_none h
  | succ n ih =>
    intro v1 v2 z h hx
    rw [L_X7_bits_4] at h
    refine x_iload_n (pc := 4) C 2 dX7_bits_4 rfl ?_
    refine x_bipush (pc := 5) C (v := (31 : Int32)) dX7_bits_5 rfl ?_
    refine x_icmp_ge (pc := 7) C 24 dX7_bits_7 rfl (fun c_1 => ?_) (fun c_1 => ?_)
    · replace h := of_ifn c_1 h
      exact x_sub [1] rfl (hx _ (of_s1 h).symm)
    · replace h := of_ifp c_1 h
      refine x_iload_n (pc := 10) C 1 dX7_bits_10 rfl ?_
      refine x_iload_n (pc := 11) C 0 dX7_bits_11 rfl ?_
      refine x_iload_n (pc := 12) C 2 dX7_bits_12 rfl ?_
      refine x_ishr (pc := 13) C dX7_bits_13 ?_
      refine x_iconst (pc := 14) C (v := (1 : Int32)) dX7_bits_14 rfl ?_
      refine x_iand (pc := 15) C dX7_bits_15 ?_
      refine x_iadd (pc := 16) C dX7_bits_16 ?_
      obtain ⟨v1_1, ev1_1, h⟩ := of_lt h
      refine x_istore_n (pc := 17) C 1 [(1, .int v1_1), (0, .int v0), (2, .int v2)] dX7_bits_17 rfl (Nat.le_of_ble_eq_true rfl) ev1_1 rfl ?_
      obtain ⟨v2_1, ev2_1, h⟩ := of_lt h
      refine x_iinc (pc := 18) C (w := (1 : Int32)) 2 [(2, .int v2_1), (1, .int v1_1), (0, .int v0)] dX7_bits_18 rfl rfl (Nat.le_of_ble_eq_true rfl) ev2_1 rfl ?_
      refine x_goto (pc := 21) C 4 dX7_bits_21 rfl ?_
      exact x_sub [2, 1, 0] rfl (ih _ _ h hx)
set_option maxRecDepth 100000 in
set_option maxHeartbeats 4000000 in
theorem c_X7_bits {l : Launch} {G : zz_G} {L : Ly} {b : Nat} (p0 : Int32) (S : Sg) (rf : Int32) (h : f_X7_bits p0 = some rf) : Met l yX7_bits (Cond.code yX7_bits cX7_bits 3 (some .int) :: zz_all) (rmz 0 0) (PC G L b S [.int p0]) (QC G L b S (some (.int rf)) True) 0 0 (fun q => b ≤ q) := by
  refine x_met [.int p0] (by decide +kernel) (Nat.le_of_ble_eq_true rfl) fun p e s m args below meth c C => ?_
  unfold f_X7_bits at h
  refine x_iconst (pc := 0) C (v := (0 : Int32)) dX7_bits_0 rfl ?_
  refine x_istore_n (pc := 1) C 1 [(1, .int (0 : Int32)), (0, .int p0)] dX7_bits_1 rfl (Nat.le_of_ble_eq_true rfl) rfl rfl ?_
  refine x_iconst (pc := 2) C (v := (0 : Int32)) dX7_bits_2 rfl ?_
  refine x_istore_n (pc := 3) C 2 [(2, .int (0 : Int32)), (1, .int (0 : Int32)), (0, .int p0)] dX7_bits_3 rfl (Nat.le_of_ble_eq_true rfl) rfl rfl ?_
  refine x_sub [2, 1, 0] rfl ?_
  obtain ⟨z_hz_1, hz_1, h⟩ := of_bd h
  refine l_X7_bits_4 C p0 S 400 _ _ hz_1 (fun v1_1 ez => ?_)
  subst z_hz_1
  refine x_iload_n (pc := 24) C 0 dX7_bits_24 rfl ?_
  exact x_ireturn (pc := 25) C dX7_bits_25 (of_s1 h) rfl
set_option maxRecDepth 100000 in
set_option maxHeartbeats 4000000 in
theorem c_X7_bound {l : Launch} {G : zz_G} {L : Ly} {b : Nat} (p0 : Int32) (p1 : Int32) (p2 : Int32) (S : Sg) : Met l yX7_bound (Cond.code yX7_bound cX7_bound 3 (some .int) :: zz_all) (rmz 0 0) (PC G L b S [.int p0, .int p1, .int p2]) (QC G L b S (some (.int (f_X7_bound p0 p1 p2))) True) 0 0 (fun q => b ≤ q) := by
  refine x_met [.int p0, .int p1, .int p2] (by decide +kernel) (Nat.le_of_ble_eq_true rfl) fun p e s m args below meth c C => ?_
  generalize h : f_X7_bound p0 p1 p2 = rf
  unfold f_X7_bound at h
  refine x_iload_n (pc := 0) C 0 dX7_bound_0 rfl ?_
  refine x_iload_n (pc := 1) C 1 dX7_bound_1 rfl ?_
  obtain ⟨x_1, ex_1, h⟩ := of_lt h
  have kd_1 : X p l e (rmz 0 0) s m args below meth c 0 0 (RQ G L b S below args s (some (.int rf)) True) 3 G L b S 21 [] [.int x_1] := by
    exact x_ireturn (pc := 21) C dX7_bound_21 h rfl
  refine x_icmp_ge (pc := 2) C 10 dX7_bound_2 rfl (fun c_1 => ?_) (fun c_1 => ?_)
  · refine x_iload_n (pc := 10) C 0 dX7_bound_10 rfl ?_
    refine x_iload_n (pc := 11) C 2 dX7_bound_11 rfl ?_
    refine x_icmp_le (pc := 12) C 20 dX7_bound_12 rfl (fun c_2 => ?_) (fun c_2 => ?_)
    · refine x_iconst (pc := 20) C (v := (0 : Int32)) dX7_bound_20 rfl ?_
      refine x_sub [] rfl ?_
      rw [show x_1 = (0 : Int32) from ((ex_1.trans (if_neg c_1)).trans (if_neg c_2))] at kd_1
      exact kd_1
    · refine x_bipush (pc := 15) C (v := (-6 : Int32)) dX7_bound_15 rfl ?_
      refine x_goto (pc := 17) C 21 dX7_bound_17 rfl ?_
      refine x_sub [] rfl ?_
      rw [show x_1 = (-6 : Int32) from ((ex_1.trans (if_neg c_1)).trans (if_pos c_2))] at kd_1
      exact kd_1
  · refine x_bipush (pc := 5) C (v := (-4 : Int32)) dX7_bound_5 rfl ?_
    refine x_goto (pc := 7) C 21 dX7_bound_7 rfl ?_
    refine x_sub [] rfl ?_
    rw [show x_1 = (-4 : Int32) from (ex_1.trans (if_pos c_1))] at kd_1
    exact kd_1
set_option maxRecDepth 100000 in
set_option maxHeartbeats 4000000 in
theorem c_X7_comesBounds {l : Launch} {G : zz_G} {L : Ly} {b : Nat} (p1 : Int32) (p2 : Int32) (p3 : Int32) (hO : isMo L) (S : Sg) (rf : Int32) (Sf : Sg) (h : f_X7_comesBounds p1 p2 p3 S = some (rf, Sf)) : Met l yX7_comesBounds (Cond.code yX7_comesBounds cX7_comesBounds 4 (some .boolean) :: zz_all) (rmz 2 43) (PC G L b S [.ref (b + 140), .int p1, .int p2, .int p3]) (QC G L b Sf (some (.int rf)) (rf = 0 ∨ rf = 1)) 0 0 (fun q => b ≤ q) := by
  refine x_met [.ref (b + 140), .int p1, .int p2, .int p3] (by decide +kernel) (Nat.le_of_ble_eq_true rfl) fun p e s m args below meth c C => ?_
  unfold f_X7_comesBounds at h
  refine x_aload_n (pc := 0) C 0 dX7_comesBounds_0 rfl ?_
  refine x_iload_n (pc := 1) C 1 dX7_comesBounds_1 rfl ?_
  refine x_callV1 (pc := 2) C (o := 140) [.int p1] [] (c_X7_isVariable (b := b) p1 hO S) cw_X7_257 vi_X7_isVariable ⟨rfl, rfl, Nat.le_of_ble_eq_true rfl, Nat.le_of_ble_eq_true rfl⟩ ⟨Nat.le_refl _, Nat.le_refl _⟩ hO.1 ⟨rfl, rfl, rfl⟩ rfl ⟨rfl, Nat.le_of_ble_eq_true rfl⟩ dX7_comesBounds_2 (fun hx_1 => ?_)
  refine x_if_eq (pc := 5) C 22 dX7_comesBounds_5 rfl (fun c_1 => ?_) (fun c_1 => ?_)
  · replace h := of_ifp c_1 h
    refine x_iconst (pc := 22) C (v := (0 : Int32)) dX7_comesBounds_22 rfl ?_
    exact x_zreturn (pc := 23) C (by decide) dX7_comesBounds_23 (of_sp h).1 (of_sp h).2
  · replace h := of_ifn c_1 h
    refine x_aload_n (pc := 8) C 0 dX7_comesBounds_8 rfl ?_
    refine x_getr (pc := 9) C (k := 1) 142 hO.1 rfl rfl wd_729 dX7_comesBounds_9 (Nat.le_of_ble_eq_true rfl) rfl ?_
    refine x_iload_n (pc := 12) C 1 dX7_comesBounds_12 rfl ?_
    obtain ⟨g_1, h⟩ := of_gd h
    refine x_iaload (pc := 13) C hO.2.2.1 g_1 dX7_comesBounds_13 ?_
    refine x_iload_n (pc := 14) C 2 dX7_comesBounds_14 rfl ?_
    refine x_iload_n (pc := 15) C 3 dX7_comesBounds_15 rfl ?_
    refine x_callS1 (pc := 16) C [.int (S.1 142 (ix p1)), .int p2, .int p3] [] (c_X7_isIn (b := b) (S.1 142 (ix p1)) p2 p3 S) cw_X7_96 vs_X7_isIn ⟨rfl, rfl, Nat.le_of_ble_eq_true rfl, Nat.le_of_ble_eq_true rfl⟩ ⟨Nat.le_refl _, Nat.le_refl _⟩ rfl ⟨rfl, Nat.le_of_ble_eq_true rfl⟩ dX7_comesBounds_16 (fun hx_2 => ?_)
    refine x_if_ne (pc := 19) C 24 dX7_comesBounds_19 rfl (fun c_2 => ?_) (fun c_2 => ?_)
    · replace h := of_ifn c_2 h
      refine x_aload_n (pc := 24) C 0 dX7_comesBounds_24 rfl ?_
      refine x_getr (pc := 25) C (k := 2) 143 hO.1 rfl rfl wd_730 dX7_comesBounds_25 (Nat.le_of_ble_eq_true rfl) rfl ?_
      refine x_iload_n (pc := 28) C 1 dX7_comesBounds_28 rfl ?_
      refine x_iload_n (pc := 29) C 2 dX7_comesBounds_29 rfl ?_
      obtain ⟨S_1, eS_1, h⟩ := of_lt h
      refine x_iastore (pc := 30) C hO.2.2.2.1 g_1 eS_1 dX7_comesBounds_30 ?_
      refine x_aload_n (pc := 31) C 0 dX7_comesBounds_31 rfl ?_
      refine x_getr (pc := 32) C (k := 3) 144 hO.1 rfl rfl wd_731 dX7_comesBounds_32 (Nat.le_of_ble_eq_true rfl) rfl ?_
      refine x_iload_n (pc := 35) C 1 dX7_comesBounds_35 rfl ?_
      refine x_iload_n (pc := 36) C 3 dX7_comesBounds_36 rfl ?_
      obtain ⟨S_2, eS_2, h⟩ := of_lt h
      refine x_iastore (pc := 37) C hO.2.2.2.2.1 g_1 eS_2 dX7_comesBounds_37 ?_
      refine x_iconst (pc := 38) C (v := (1 : Int32)) dX7_comesBounds_38 rfl ?_
      exact x_zreturn (pc := 39) C (by decide) dX7_comesBounds_39 (of_sp h).1 (of_sp h).2
    · replace h := of_ifp c_2 h
      refine x_iconst (pc := 22) C (v := (0 : Int32)) dX7_comesBounds_22 rfl ?_
      exact x_zreturn (pc := 23) C (by decide) dX7_comesBounds_23 (of_sp h).1 (of_sp h).2
set_option maxRecDepth 100000 in
set_option maxHeartbeats 4000000 in
theorem c_X7_bounds {l : Launch} {G : zz_G} {L : Ly} {b : Nat} (p1 : Int32) (p2 : Int32) (p3 : Int32) (hO : isMo L) (S : Sg) (rf : Int32) (Sf : Sg) (h : f_X7_bounds p1 p2 p3 S = some (rf, Sf)) : Met l yX7_bounds (Cond.code yX7_bounds cX7_bounds 5 (some .int) :: zz_all) (rmz 3 66) (PC G L b S [.ref (b + 140), .int p1, .int p2, .int p3]) (QC G L b Sf (some (.int rf)) True) 0 0 (fun q => b ≤ q) := by
  refine x_met [.ref (b + 140), .int p1, .int p2, .int p3] (by decide +kernel) (Nat.le_of_ble_eq_true rfl) fun p e s m args below meth c C => ?_
  unfold f_X7_bounds at h
  refine x_aload_n (pc := 0) C 0 dX7_bounds_0 rfl ?_
  refine x_iload_n (pc := 1) C 1 dX7_bounds_1 rfl ?_
  refine x_callV1 (pc := 2) C (o := 140) [.int p1] [] (c_X7_isVariable (b := b) p1 hO S) cw_X7_257 vi_X7_isVariable ⟨rfl, rfl, Nat.le_of_ble_eq_true rfl, Nat.le_of_ble_eq_true rfl⟩ ⟨Nat.le_refl _, Nat.le_refl _⟩ hO.1 ⟨rfl, rfl, rfl⟩ rfl ⟨rfl, Nat.le_of_ble_eq_true rfl⟩ dX7_bounds_2 (fun hx_1 => ?_)
  obtain ⟨x_1, ex_1, h⟩ := of_lt h
  have kd_1 : X p l e (rmz 3 66) s m args below meth c 0 0 (RQ G L b Sf below args s (some (.int rf)) True) 5 G L b S 43 [(0, .ref (b + 140)), (1, .int p1), (2, .int p2), (3, .int p3)] [.int x_1] := by
    refine x_istore (pc := 43) C [(4, .int x_1), (0, .ref (b + 140)), (1, .int p1), (2, .int p2), (3, .int p3)] dX7_bounds_43 (Nat.le_of_ble_eq_true rfl) rfl rfl ?_
    refine x_iload (pc := 45) C 0 dX7_bounds_45 rfl ?_
    obtain ⟨J_1, eJ_1, h⟩ := of_lt h
    have kJ_1 : ∀ (v4_1 : Int32) (S_1 : Sg), J_1 v4_1 S_1 = some (rf, Sf) → X p l e (rmz 3 66) s m args below meth c 0 0 (RQ G L b Sf below args s (some (.int rf)) True) 5 G L b S_1 64 [(0, .ref (b + 140)), (4, .int v4_1)] [] := by
      intro v4_1 S_1 h
      replace h := of_J2 eJ_1 h
      refine x_iload (pc := 64) C 1 dX7_bounds_64 rfl ?_
      refine x_if_eq (pc := 66) C 78 dX7_bounds_66 rfl (fun c_1 => ?_) (fun c_1 => ?_)
      · replace h := of_ifp c_1 h
        refine x_iconst (pc := 78) C (v := (1 : Int32)) dX7_bounds_78 rfl ?_
        exact x_ireturn (pc := 79) C dX7_bounds_79 (of_sp h).1 (of_sp h).2
      · replace h := of_ifn c_1 h
        refine x_aload_n (pc := 69) C 0 dX7_bounds_69 rfl ?_
        refine x_iload (pc := 70) C 1 dX7_bounds_70 rfl ?_
        obtain ⟨⟨r_1, S_2⟩, hc_1, h⟩ := of_bd h
        replace h := of_u2 h
        refine x_callV1 (pc := 72) C (o := 140) [.int v4_1] [] (c_X7_no (b := b) v4_1 hO S_1 _ _ hc_1) cw_X7_213 vi_X7_no ⟨rfl, rfl, Nat.le_of_ble_eq_true rfl, Nat.le_of_ble_eq_true rfl⟩ ⟨Nat.le_refl _, Nat.le_refl _⟩ hO.1 ⟨rfl, rfl, rfl⟩ rfl ⟨rfl, Nat.le_of_ble_eq_true rfl⟩ dX7_bounds_72 (fun hx_2 => ?_)
        refine x_goto (pc := 75) C 79 dX7_bounds_75 rfl ?_
        exact x_ireturn (pc := 79) C dX7_bounds_79 (of_sp h).1 (of_sp h).2
    refine x_if_ne (pc := 47) C 64 dX7_bounds_47 rfl (fun c_2 => ?_) (fun c_2 => ?_)
    · replace h := of_ifn c_2 h
      exact x_sub [1, 0] rfl (kJ_1 _ _ h)
    · replace h := of_ifp c_2 h
      refine x_aload_n (pc := 50) C 1 dX7_bounds_50 rfl ?_
      refine x_iload_n (pc := 51) C 2 dX7_bounds_51 rfl ?_
      refine x_iload_n (pc := 52) C 3 dX7_bounds_52 rfl ?_
      refine x_iload_n (pc := 53) C 4 dX7_bounds_53 rfl ?_
      obtain ⟨⟨r_2, S_3⟩, hc_2, h⟩ := of_bd h
      replace h := of_u2 h
      refine x_callV1 (pc := 54) C (o := 140) [.int p1, .int p2, .int p3] [] (c_X7_comesBounds (b := b) p1 p2 p3 hO S _ _ hc_2) cw_X7_279 vi_X7_comesBounds ⟨rfl, rfl, Nat.le_of_ble_eq_true rfl, Nat.le_of_ble_eq_true rfl⟩ ⟨Nat.le_refl _, Nat.le_refl _⟩ hO.1 ⟨rfl, rfl, rfl⟩ rfl ⟨rfl, Nat.le_of_ble_eq_true rfl⟩ dX7_bounds_54 (fun hx_3 => ?_)
      obtain ⟨v4_2, ev4_2, h⟩ := of_lt h
      have kd_2 : X p l e (rmz 3 66) s m args below meth c 0 0 (RQ G L b Sf below args s (some (.int rf)) True) 5 G L b S_3 64 [(0, .ref (b + 140)), (4, .int v4_2)] [] := by
        exact x_sub [0, 1] rfl (kJ_1 _ _ h)
      refine x_if_ne (pc := 57) C 64 dX7_bounds_57 rfl (fun c_3 => ?_) (fun c_3 => ?_)
      · refine x_sub [1, 0] rfl ?_
        rw [show v4_2 = x_1 from (ev4_2.trans (if_neg c_3))] at kd_2
        exact kd_2
      · refine x_bipush (pc := 60) C (v := (-3 : Int32)) dX7_bounds_60 rfl ?_
        refine x_istore (pc := 62) C [(4, .int (-3 : Int32)), (0, .ref (b + 140)), (1, .int p1), (2, .int p2), (3, .int p3)] dX7_bounds_62 (Nat.le_of_ble_eq_true rfl) rfl rfl ?_
        refine x_sub [1, 0] rfl ?_
        rw [show v4_2 = (-3 : Int32) from (ev4_2.trans (if_pos c_3))] at kd_2
        exact kd_2
  refine x_if_ne (pc := 5) C 12 dX7_bounds_5 rfl (fun c_4 => ?_) (fun c_4 => ?_)
  · refine x_iload_n (pc := 12) C 2 dX7_bounds_12 rfl ?_
    refine x_if_lt (pc := 13) C 20 dX7_bounds_13 rfl (fun c_5 => ?_) (fun c_5 => ?_)
    · refine x_bipush (pc := 20) C (v := (-4 : Int32)) dX7_bounds_20 rfl ?_
      refine x_goto (pc := 22) C 43 dX7_bounds_22 rfl ?_
      refine x_sub [0, 1, 2, 3] rfl ?_
      rw [show x_1 = (-4 : Int32) from ((ex_1.trans (if_neg c_4)).trans (if_pos c_5))] at kd_1
      exact kd_1
    · refine x_iload_n (pc := 16) C 3 dX7_bounds_16 rfl ?_
      refine x_if_ge (pc := 17) C 25 dX7_bounds_17 rfl (fun c_6 => ?_) (fun c_6 => ?_)
      · refine x_iload_n (pc := 25) C 2 dX7_bounds_25 rfl ?_
        refine x_bipush (pc := 26) C (v := (99 : Int32)) dX7_bounds_26 rfl ?_
        refine x_icmp_gt (pc := 28) C 37 dX7_bounds_28 rfl (fun c_7 => ?_) (fun c_7 => ?_)
        · refine x_bipush (pc := 37) C (v := (-6 : Int32)) dX7_bounds_37 rfl ?_
          refine x_goto (pc := 39) C 43 dX7_bounds_39 rfl ?_
          refine x_sub [0, 1, 2, 3] rfl ?_
          rw [show x_1 = (-6 : Int32) from ((((ex_1.trans (if_neg c_4)).trans (if_neg c_5)).trans (if_neg c_6)).trans (if_pos c_7))] at kd_1
          exact kd_1
        · refine x_iload_n (pc := 31) C 3 dX7_bounds_31 rfl ?_
          refine x_bipush (pc := 32) C (v := (99 : Int32)) dX7_bounds_32 rfl ?_
          refine x_icmp_le (pc := 34) C 42 dX7_bounds_34 rfl (fun c_8 => ?_) (fun c_8 => ?_)
          · refine x_iconst (pc := 42) C (v := (0 : Int32)) dX7_bounds_42 rfl ?_
            refine x_sub [0, 1, 2, 3] rfl ?_
            rw [show x_1 = (0 : Int32) from (((((ex_1.trans (if_neg c_4)).trans (if_neg c_5)).trans (if_neg c_6)).trans (if_neg c_7)).trans (if_neg c_8))] at kd_1
            exact kd_1
          · refine x_bipush (pc := 37) C (v := (-6 : Int32)) dX7_bounds_37 rfl ?_
            refine x_goto (pc := 39) C 43 dX7_bounds_39 rfl ?_
            refine x_sub [0, 1, 2, 3] rfl ?_
            rw [show x_1 = (-6 : Int32) from (((((ex_1.trans (if_neg c_4)).trans (if_neg c_5)).trans (if_neg c_6)).trans (if_neg c_7)).trans (if_pos c_8))] at kd_1
            exact kd_1
      · refine x_bipush (pc := 20) C (v := (-4 : Int32)) dX7_bounds_20 rfl ?_
        refine x_goto (pc := 22) C 43 dX7_bounds_22 rfl ?_
        refine x_sub [0, 1, 2, 3] rfl ?_
        rw [show x_1 = (-4 : Int32) from (((ex_1.trans (if_neg c_4)).trans (if_neg c_5)).trans (if_pos c_6))] at kd_1
        exact kd_1
  · refine x_iconst (pc := 8) C (v := (-1 : Int32)) dX7_bounds_8 rfl ?_
    refine x_goto (pc := 9) C 43 dX7_bounds_9 rfl ?_
    refine x_sub [0, 1, 2, 3] rfl ?_
    rw [show x_1 = (-1 : Int32) from (ex_1.trans (if_pos c_4))] at kd_1
    exact kd_1
set_option maxRecDepth 100000 in
set_option maxHeartbeats 4000000 in
theorem l_X7_byPivots_15 {p : Program} {l : Launch} {e : Env} {s : State} {m : MethodId} {args : Array Value} {below : List Frame} {meth : Method} {c : Code} {G : zz_G} {L : Ly} {b : Nat} {Q : State → Prop} (C : CX p G s m args meth c cX7_byPivots yX7_byPivots 5 (some .int)) (hO : isMo L) (v1 : Int32) (v2 : Int32) (S : Sg) : ∀ (n : Nat) (v3 : Int32) (v4 : Int32) {z}, L_X7_byPivots_15 v1 v2 S n v3 v4 = some z → (∀ (v3_o : Int32), z = v3_o → X p l e (rmz 0 0) s m args below meth c 0 0 Q 5 G L b S 54 [(0, .ref (b + 140)), (1, .int v1), (2, .int v2), (3, .int v3_o)] []) → X p l e (rmz 0 0) s m args below meth c 0 0 Q 5 G L b S 15 [(0, .ref (b + 140)), (1, .int v1), (2, .int v2), (3, .int v3), (4, .int v4)] [] := by
  intro n
  induction n with
  | zero =>
    intro v3 v4 z h
    exact of_none h
  | succ n ih =>
    intro v3 v4 z h hx
    rw [L_X7_byPivots_15] at h
    refine x_iload (pc := 15) C 4 dX7_byPivots_15 rfl ?_
    refine x_aload_n (pc := 17) C 0 dX7_byPivots_17 rfl ?_
    refine x_geti (pc := 18) C (k := 19) hO.1 rfl rfl wd_747 dX7_byPivots_18 ⟨Nat.le_of_ble_eq_true rfl, rfl⟩ ?_
    refine x_icmp_ge (pc := 21) C 54 dX7_byPivots_21 rfl (fun c_1 => ?_) (fun c_1 => ?_)
    · replace h := of_ifn c_1 h
      exact x_sub [0, 1, 2, 3] rfl (hx _ (of_s1 h).symm)
    · replace h := of_ifp c_1 h
      refine x_iload_n (pc := 24) C 3 dX7_byPivots_24 rfl ?_
      refine x_aload_n (pc := 25) C 0 dX7_byPivots_25 rfl ?_
      refine x_getr (pc := 26) C (k := 17) 153 hO.1 rfl rfl wd_745 dX7_byPivots_26 (Nat.le_of_ble_eq_true rfl) rfl ?_
      refine x_iload (pc := 29) C 4 dX7_byPivots_29 rfl ?_
      obtain ⟨g_1, h⟩ := of_gd h
      refine x_iaload (pc := 31) C hO.2.2.2.2.2.2.2.2.2.2.2.2.2.1 g_1 dX7_byPivots_31 ?_
      refine x_aload_n (pc := 32) C 0 dX7_byPivots_32 rfl ?_
      refine x_getr (pc := 33) C (k := 17) 153 hO.1 rfl rfl wd_745 dX7_byPivots_33 (Nat.le_of_ble_eq_true rfl) rfl ?_
      refine x_iload_n (pc := 36) C 2 dX7_byPivots_36 rfl ?_
      obtain ⟨g_2, h⟩ := of_gd h
      refine x_iaload (pc := 37) C hO.2.2.2.2.2.2.2.2.2.2.2.2.2.1 g_2 dX7_byPivots_37 ?_
      obtain ⟨x_1, ex_1, h⟩ := of_lt h
      have kd_1 : X p l e (rmz 0 0) s m args below meth c 0 0 Q 5 G L b S 46 [(0, .ref (b + 140)), (1, .int v1), (2, .int v2), (4, .int v4)] [.int x_1, .int v3] := by
        refine x_iadd (pc := 46) C dX7_byPivots_46 ?_
        obtain ⟨v3_1, ev3_1, h⟩ := of_lt h
        refine x_istore_n (pc := 47) C 3 [(3, .int v3_1), (0, .ref (b + 140)), (1, .int v1), (2, .int v2), (4, .int v4)] dX7_byPivots_47 rfl (Nat.le_of_ble_eq_true rfl) ev3_1 rfl ?_
        obtain ⟨v4_1, ev4_1, h⟩ := of_lt h
        refine x_iinc (pc := 48) C (w := (1 : Int32)) 4 [(4, .int v4_1), (3, .int v3_1), (0, .ref (b + 140)), (1, .int v1), (2, .int v2)] dX7_byPivots_48 rfl rfl (Nat.le_of_ble_eq_true rfl) ev4_1 rfl ?_
        refine x_goto (pc := 51) C 15 dX7_byPivots_51 rfl ?_
        exact x_sub [2, 3, 4, 1, 0] rfl (ih _ _ h hx)
      refine x_icmp_ge (pc := 38) C 45 dX7_byPivots_38 rfl (fun c_2 => ?_) (fun c_2 => ?_)
      · refine x_iconst (pc := 45) C (v := (0 : Int32)) dX7_byPivots_45 rfl ?_
        refine x_sub [0, 1, 2, 4] rfl ?_
        rw [show x_1 = (0 : Int32) from (ex_1.trans (if_neg c_2))] at kd_1
        exact kd_1
      · refine x_iconst (pc := 41) C (v := (1 : Int32)) dX7_byPivots_41 rfl ?_
        refine x_goto (pc := 42) C 46 dX7_byPivots_42 rfl ?_
        refine x_sub [0, 1, 2, 4] rfl ?_
        rw [show x_1 = (1 : Int32) from (ex_1.trans (if_pos c_2))] at kd_1
        exact kd_1
set_option maxRecDepth 100000 in
set_option maxHeartbeats 4000000 in
theorem l_X7_byPivots_2 {p : Program} {l : Launch} {e : Env} {s : State} {m : MethodId} {args : Array Value} {below : List Frame} {meth : Method} {c : Code} {G : zz_G} {L : Ly} {b : Nat} (C : CX p G s m args meth c cX7_byPivots yX7_byPivots 5 (some .int)) (hO : isMo L) (v1 : Int32) (S : Sg) (rf : Int32) : ∀ (n : Nat) (v2 : Int32) {z}, L_X7_byPivots_2 v1 S n v2 = some z → (∀ q, z = .inl q → q = rf) → (z = .inr () → X p l e (rmz 0 0) s m args below meth c 0 0 (RQ G L b S below args s (some (.int rf)) True) 5 G L b S 67 [] []) → X p l e (rmz 0 0) s m args below meth c 0 0 (RQ G L b S below args s (some (.int rf)) True) 5 G L b S 2 [(0, .ref (b + 140)), (1, .int v1), (2, .int v2)] [] := by
  intro n
  induction n with
  | zero =>
    intro v2 z h
    exact of_none h
  | succ n ih =>
    intro v2 z h hr hx
    rw [L_X7_byPivots_2] at h
    refine x_iload_n (pc := 2) C 2 dX7_byPivots_2 rfl ?_
    refine x_aload_n (pc := 3) C 0 dX7_byPivots_3 rfl ?_
    refine x_geti (pc := 4) C (k := 19) hO.1 rfl rfl wd_747 dX7_byPivots_4 ⟨Nat.le_of_ble_eq_true rfl, rfl⟩ ?_
    refine x_icmp_ge (pc := 7) C 67 dX7_byPivots_7 rfl (fun c_1 => ?_) (fun c_1 => ?_)
    · replace h := of_ifn c_1 h
      exact x_sub [] rfl (hx (of_s1 h).symm)
    · replace h := of_ifp c_1 h
      refine x_iconst (pc := 10) C (v := (0 : Int32)) dX7_byPivots_10 rfl ?_
      refine x_istore_n (pc := 11) C 3 [(3, .int (0 : Int32)), (0, .ref (b + 140)), (1, .int v1), (2, .int v2)] dX7_byPivots_11 rfl (Nat.le_of_ble_eq_true rfl) rfl rfl ?_
      refine x_iconst (pc := 12) C (v := (0 : Int32)) dX7_byPivots_12 rfl ?_
      refine x_istore (pc := 13) C [(4, .int (0 : Int32)), (3, .int (0 : Int32)), (0, .ref (b + 140)), (1, .int v1), (2, .int v2)] dX7_byPivots_13 (Nat.le_of_ble_eq_true rfl) rfl rfl ?_
      refine x_sub [2, 3, 4, 1, 0] rfl ?_
      obtain ⟨z_hz_1, hz_1, h⟩ := of_bd h
      refine l_X7_byPivots_15 C hO v1 v2 S 400 _ _ hz_1 (fun v3_1 ez => ?_)
      subst z_hz_1
      refine x_iload_n (pc := 54) C 3 dX7_byPivots_54 rfl ?_
      refine x_iload_n (pc := 55) C 1 dX7_byPivots_55 rfl ?_
      refine x_icmp_ne (pc := 56) C 61 dX7_byPivots_56 rfl (fun c_2 => ?_) (fun c_2 => ?_)
      · replace h := of_ifn c_2 h
        obtain ⟨v2_1, ev2_1, h⟩ := of_lt h
        refine x_iinc (pc := 61) C (w := (1 : Int32)) 2 [(2, .int v2_1), (0, .ref (b + 140)), (1, .int v1), (3, .int v3_1)] dX7_byPivots_61 rfl rfl (Nat.le_of_ble_eq_true rfl) ev2_1 rfl ?_
        refine x_goto (pc := 64) C 2 dX7_byPivots_64 rfl ?_
        exact x_sub [1, 2, 0] rfl (ih _ h hr hx)
      · replace h := of_ifp c_2 h
        refine x_iload_n (pc := 59) C 2 dX7_byPivots_59 rfl ?_
        have hq := hr _ (of_s1 h).symm
        exact x_ireturn (pc := 60) C dX7_byPivots_60 hq rfl
set_option maxRecDepth 100000 in
set_option maxHeartbeats 4000000 in
theorem c_X7_byPivots {l : Launch} {G : zz_G} {L : Ly} {b : Nat} (p1 : Int32) (hO : isMo L) (S : Sg) (rf : Int32) (h : f_X7_byPivots p1 S = some rf) : Met l yX7_byPivots (Cond.code yX7_byPivots cX7_byPivots 5 (some .int) :: zz_all) (rmz 0 0) (PC G L b S [.ref (b + 140), .int p1]) (QC G L b S (some (.int rf)) True) 0 0 (fun q => b ≤ q) := by
  refine x_met [.ref (b + 140), .int p1] (by decide +kernel) (Nat.le_of_ble_eq_true rfl) fun p e s m args below meth c C => ?_
  unfold f_X7_byPivots at h
  refine x_iconst (pc := 0) C (v := (0 : Int32)) dX7_byPivots_0 rfl ?_
  refine x_istore_n (pc := 1) C 2 [(2, .int (0 : Int32)), (0, .ref (b + 140)), (1, .int p1)] dX7_byPivots_1 rfl (Nat.le_of_ble_eq_true rfl) rfl rfl ?_
  refine x_sub [1, 2, 0] rfl ?_
  obtain ⟨z_hz_1, hz_1, hl, hrr⟩ := of_bs h
  refine l_X7_byPivots_2 C hO p1 S rf 400 _ hz_1 (fun q ez => of_s1 (hl _ ez)) (fun ez => ?_)
  replace h := hrr _ ez
  clear hl hrr
  refine x_iconst (pc := 67) C (v := (0 : Int32)) dX7_byPivots_67 rfl ?_
  exact x_ireturn (pc := 68) C dX7_byPivots_68 (of_s1 h) rfl
set_option maxRecDepth 100000 in
set_option maxHeartbeats 4000000 in
theorem c_X7_isTold {l : Launch} {G : zz_G} {L : Ly} {b : Nat} (p1 : Int32) (p2 : Int32) (hO : isMo L) (S : Sg) (Sf : Sg) (h : f_X7_isTold p1 p2 S = some Sf) : Met l yX7_isTold (Cond.code yX7_isTold cX7_isTold 3 none :: zz_all) (rmz 0 0) (PC G L b S [.ref (b + 140), .int p1, .int p2]) (QC G L b Sf none True) 0 0 (fun q => b ≤ q) := by
  refine x_met [.ref (b + 140), .int p1, .int p2] (by decide +kernel) (Nat.le_of_ble_eq_true rfl) fun p e s m args below meth c C => ?_
  unfold f_X7_isTold at h
  refine x_aload_n (pc := 0) C 0 dX7_isTold_0 rfl ?_
  refine x_getr (pc := 1) C (k := 1) 142 hO.1 rfl rfl wd_729 dX7_isTold_1 (Nat.le_of_ble_eq_true rfl) rfl ?_
  refine x_aload_n (pc := 4) C 0 dX7_isTold_4 rfl ?_
  refine x_getr (pc := 5) C (k := 4) 145 hO.1 rfl rfl wd_732 dX7_isTold_5 (Nat.le_of_ble_eq_true rfl) rfl ?_
  refine x_iload_n (pc := 8) C 1 dX7_isTold_8 rfl ?_
  obtain ⟨g_1, h⟩ := of_gd h
  refine x_iaload (pc := 9) C hO.2.2.2.2.2.1 g_1 dX7_isTold_9 ?_
  refine x_iload_n (pc := 10) C 2 dX7_isTold_10 rfl ?_
  obtain ⟨g_2, h⟩ := of_gd h
  obtain ⟨S_1, eS_1, h⟩ := of_lt h
  refine x_iastore (pc := 11) C hO.2.2.1 g_2 eS_1 dX7_isTold_11 ?_
  refine x_aload_n (pc := 12) C 0 dX7_isTold_12 rfl ?_
  refine x_getr (pc := 13) C (k := 2) 143 hO.1 rfl rfl wd_730 dX7_isTold_13 (Nat.le_of_ble_eq_true rfl) rfl ?_
  refine x_aload_n (pc := 16) C 0 dX7_isTold_16 rfl ?_
  refine x_getr (pc := 17) C (k := 4) 145 hO.1 rfl rfl wd_732 dX7_isTold_17 (Nat.le_of_ble_eq_true rfl) rfl ?_
  refine x_iload_n (pc := 20) C 1 dX7_isTold_20 rfl ?_
  refine x_iaload (pc := 21) C hO.2.2.2.2.2.1 g_1 dX7_isTold_21 ?_
  refine x_iconst (pc := 22) C (v := (0 : Int32)) dX7_isTold_22 rfl ?_
  obtain ⟨g_3, h⟩ := of_gd h
  obtain ⟨S_2, eS_2, h⟩ := of_lt h
  refine x_iastore (pc := 23) C hO.2.2.2.1 g_3 eS_2 dX7_isTold_23 ?_
  refine x_aload_n (pc := 24) C 0 dX7_isTold_24 rfl ?_
  refine x_getr (pc := 25) C (k := 3) 144 hO.1 rfl rfl wd_731 dX7_isTold_25 (Nat.le_of_ble_eq_true rfl) rfl ?_
  refine x_aload_n (pc := 28) C 0 dX7_isTold_28 rfl ?_
  refine x_getr (pc := 29) C (k := 4) 145 hO.1 rfl rfl wd_732 dX7_isTold_29 (Nat.le_of_ble_eq_true rfl) rfl ?_
  refine x_iload_n (pc := 32) C 1 dX7_isTold_32 rfl ?_
  refine x_iaload (pc := 33) C hO.2.2.2.2.2.1 g_1 dX7_isTold_33 ?_
  refine x_bipush (pc := 34) C (v := (99 : Int32)) dX7_isTold_34 rfl ?_
  obtain ⟨g_4, h⟩ := of_gd h
  obtain ⟨S_3, eS_3, h⟩ := of_lt h
  refine x_iastore (pc := 36) C hO.2.2.2.2.1 g_4 eS_3 dX7_isTold_36 ?_
  exact x_vreturn (pc := 37) C dX7_isTold_37 (of_s1 h)
set_option maxRecDepth 100000 in
set_option maxHeartbeats 4000000 in
theorem c_X7_changesTo {l : Launch} {G : zz_G} {L : Ly} {b : Nat} (p1 : Int32) (p2 : Int32) (hO : isMo L) (S : Sg) (Sf : Sg) (h : f_X7_changesTo p1 p2 S = some Sf) : Met l yX7_changesTo (Cond.code yX7_changesTo cX7_changesTo 3 none :: zz_all) (rmz 1 22) (PC G L b S [.ref (b + 140), .int p1, .int p2]) (QC G L b Sf none True) 0 0 (fun q => b ≤ q) := by
  refine x_met [.ref (b + 140), .int p1, .int p2] (by decide +kernel) (Nat.le_of_ble_eq_true rfl) fun p e s m args below meth c C => ?_
  unfold f_X7_changesTo at h
  refine x_aload_n (pc := 0) C 0 dX7_changesTo_0 rfl ?_
  refine x_getr (pc := 1) C (k := 4) 145 hO.1 rfl rfl wd_732 dX7_changesTo_1 (Nat.le_of_ble_eq_true rfl) rfl ?_
  refine x_iload_n (pc := 4) C 1 dX7_changesTo_4 rfl ?_
  refine x_aload_n (pc := 5) C 0 dX7_changesTo_5 rfl ?_
  refine x_geti (pc := 6) C (k := 7) hO.1 rfl rfl wd_735 dX7_changesTo_6 ⟨Nat.le_of_ble_eq_true rfl, rfl⟩ ?_
  obtain ⟨g_1, h⟩ := of_gd h
  obtain ⟨S_1, eS_1, h⟩ := of_lt h
  refine x_iastore (pc := 9) C hO.2.2.2.2.2.1 g_1 eS_1 dX7_changesTo_9 ?_
  refine x_aload_n (pc := 10) C 0 dX7_changesTo_10 rfl ?_
  refine x_dup (pc := 11) C dX7_changesTo_11 rfl ?_
  refine x_geti (pc := 12) C (k := 7) hO.1 rfl rfl wd_735 dX7_changesTo_12 ⟨Nat.le_of_ble_eq_true rfl, rfl⟩ ?_
  refine x_iconst (pc := 15) C (v := (1 : Int32)) dX7_changesTo_15 rfl ?_
  refine x_iadd (pc := 16) C dX7_changesTo_16 ?_
  obtain ⟨S_2, eS_2, h⟩ := of_lt h
  refine x_puti (pc := 17) C (k := 7) hO.1 rfl rfl wd_735 dX7_changesTo_17 ⟨Nat.le_of_ble_eq_true rfl, rfl⟩ eS_2 ?_
  refine x_aload_n (pc := 20) C 0 dX7_changesTo_20 rfl ?_
  refine x_iload_n (pc := 21) C 1 dX7_changesTo_21 rfl ?_
  refine x_iload_n (pc := 22) C 2 dX7_changesTo_22 rfl ?_
  obtain ⟨S_3, hc_1, h⟩ := of_bd h
  refine x_callV_ (pc := 23) C (o := 140) [.int p1, .int p2] [] (c_X7_isTold (b := b) p1 p2 hO S_2 _ hc_1) cw_X7_250 vi_X7_isTold ⟨rfl, rfl, Nat.le_of_ble_eq_true rfl, Nat.le_of_ble_eq_true rfl⟩ ⟨Nat.le_refl _, Nat.le_refl _⟩ hO.1 ⟨rfl, rfl, rfl⟩ rfl ⟨rfl, Nat.le_of_ble_eq_true rfl⟩ dX7_changesTo_23 (fun hx_1 => ?_)
  exact x_vreturn (pc := 26) C dX7_changesTo_26 (of_s1 h)
set_option maxRecDepth 100000 in
set_option maxHeartbeats 4000000 in
theorem c_X7_isPerson {l : Launch} {G : zz_G} {L : Ly} {b : Nat} (p0 : Int32) (S : Sg) : Met l yX7_isPerson (Cond.code yX7_isPerson cX7_isPerson 1 (some .boolean) :: zz_all) (rmz 1 22) (PC G L b S [.int p0]) (QC G L b S (some (.int (f_X7_isPerson p0))) (f_X7_isPerson p0 = 0 ∨ f_X7_isPerson p0 = 1)) 0 0 (fun q => b ≤ q) := by
  refine x_met [.int p0] (by decide +kernel) (Nat.le_of_ble_eq_true rfl) fun p e s m args below meth c C => ?_
  generalize h : f_X7_isPerson p0 = rf
  unfold f_X7_isPerson at h
  refine x_iload_n (pc := 0) C 0 dX7_isPerson_0 rfl ?_
  refine x_iconst (pc := 1) C (v := (0 : Int32)) dX7_isPerson_1 rfl ?_
  refine x_bipush (pc := 2) C (v := (7 : Int32)) dX7_isPerson_2 rfl ?_
  refine x_callS1 (pc := 4) C [.int p0, .int (0 : Int32), .int (7 : Int32)] [] (c_X7_isIn (b := b) p0 (0 : Int32) (7 : Int32) S) cw_X7_96 vs_X7_isIn ⟨rfl, rfl, Nat.le_of_ble_eq_true rfl, Nat.le_of_ble_eq_true rfl⟩ ⟨Nat.le_refl _, Nat.le_refl _⟩ rfl ⟨rfl, Nat.le_of_ble_eq_true rfl⟩ dX7_isPerson_4 (fun hx_1 => ?_)
  exact x_zreturn (pc := 7) C hx_1 dX7_isPerson_7 h rfl
set_option maxRecDepth 100000 in
set_option maxHeartbeats 4000000 in
theorem c_X7_changes {l : Launch} {G : zz_G} {L : Ly} {b : Nat} (p1 : Int32) (p2 : Int32) (hO : isMo L) (S : Sg) (rf : Int32) (Sf : Sg) (h : f_X7_changes p1 p2 S = some (rf, Sf)) : Met l yX7_changes (Cond.code yX7_changes cX7_changes 4 (some .int) :: zz_all) (rmz 2 44) (PC G L b S [.ref (b + 140), .int p1, .int p2]) (QC G L b Sf (some (.int rf)) True) 0 0 (fun q => b ≤ q) := by
  refine x_met [.ref (b + 140), .int p1, .int p2] (by decide +kernel) (Nat.le_of_ble_eq_true rfl) fun p e s m args below meth c C => ?_
  unfold f_X7_changes at h
  refine x_iload_n (pc := 0) C 1 dX7_changes_0 rfl ?_
  refine x_callS1 (pc := 1) C [.int p1] [] (c_X7_isPerson (b := b) p1 S) cw_X7_244 vs_X7_isPerson ⟨rfl, rfl, Nat.le_of_ble_eq_true rfl, Nat.le_of_ble_eq_true rfl⟩ ⟨Nat.le_refl _, Nat.le_refl _⟩ rfl ⟨rfl, Nat.le_of_ble_eq_true rfl⟩ dX7_changes_1 (fun hx_1 => ?_)
  obtain ⟨x_1, ex_1, h⟩ := of_lt h
  have kd_1 : X p l e (rmz 2 44) s m args below meth c 0 0 (RQ G L b Sf below args s (some (.int rf)) True) 4 G L b S 18 [(0, .ref (b + 140)), (1, .int p1), (2, .int p2)] [.int x_1] := by
    refine x_istore_n (pc := 18) C 3 [(3, .int x_1), (0, .ref (b + 140)), (1, .int p1), (2, .int p2)] dX7_changes_18 rfl (Nat.le_of_ble_eq_true rfl) rfl rfl ?_
    refine x_iload_n (pc := 19) C 0 dX7_changes_19 rfl ?_
    obtain ⟨v3_1, ev3_1, h⟩ := of_lt h
    have kd_2 : X p l e (rmz 2 44) s m args below meth c 0 0 (RQ G L b Sf below args s (some (.int rf)) True) 4 G L b S 35 [(0, .ref (b + 140)), (1, .int p1), (2, .int p2), (3, .int v3_1)] [] := by
      refine x_iload_n (pc := 35) C 3 dX7_changes_35 rfl ?_
      refine x_if_eq (pc := 36) C 45 dX7_changes_36 rfl (fun c_1 => ?_) (fun c_1 => ?_)
      · replace h := of_ifp c_1 h
        refine x_aload_n (pc := 45) C 0 dX7_changes_45 rfl ?_
        refine x_iload_n (pc := 46) C 1 dX7_changes_46 rfl ?_
        refine x_iload_n (pc := 47) C 2 dX7_changes_47 rfl ?_
        obtain ⟨S_1, hc_1, h⟩ := of_bd h
        refine x_callV_ (pc := 48) C (o := 140) [.int p1, .int p2] [] (c_X7_changesTo (b := b) p1 p2 hO S _ hc_1) cw_X7_254 vi_X7_changesTo ⟨rfl, rfl, Nat.le_of_ble_eq_true rfl, Nat.le_of_ble_eq_true rfl⟩ ⟨Nat.le_refl _, Nat.le_refl _⟩ hO.1 ⟨rfl, rfl, rfl⟩ rfl ⟨rfl, Nat.le_of_ble_eq_true rfl⟩ dX7_changes_48 (fun hx_3 => ?_)
        refine x_aload_n (pc := 51) C 0 dX7_changes_51 rfl ?_
        refine x_geti (pc := 52) C (k := 7) hO.1 rfl rfl wd_735 dX7_changes_52 ⟨Nat.le_of_ble_eq_true rfl, rfl⟩ ?_
        refine x_iconst (pc := 55) C (v := (1 : Int32)) dX7_changes_55 rfl ?_
        refine x_isub (pc := 56) C dX7_changes_56 ?_
        exact x_ireturn (pc := 57) C dX7_changes_57 (of_sp h).1 (of_sp h).2
      · replace h := of_ifn c_1 h
        refine x_aload_n (pc := 39) C 0 dX7_changes_39 rfl ?_
        refine x_iload_n (pc := 40) C 3 dX7_changes_40 rfl ?_
        obtain ⟨⟨r_1, S_2⟩, hc_2, h⟩ := of_bd h
        replace h := of_u2 h
        refine x_callV1 (pc := 41) C (o := 140) [.int v3_1] [] (c_X7_no (b := b) v3_1 hO S _ _ hc_2) cw_X7_213 vi_X7_no ⟨rfl, rfl, Nat.le_of_ble_eq_true rfl, Nat.le_of_ble_eq_true rfl⟩ ⟨Nat.le_refl _, Nat.le_refl _⟩ hO.1 ⟨rfl, rfl, rfl⟩ rfl ⟨rfl, Nat.le_of_ble_eq_true rfl⟩ dX7_changes_41 (fun hx_4 => ?_)
        exact x_ireturn (pc := 44) C dX7_changes_44 (of_sp h).1 (of_sp h).2
    refine x_if_ne (pc := 20) C 35 dX7_changes_20 rfl (fun c_2 => ?_) (fun c_2 => ?_)
    · refine x_sub [1, 2, 3, 0] rfl ?_
      rw [show v3_1 = x_1 from (ev3_1.trans (if_neg c_2))] at kd_2
      exact kd_2
    · refine x_aload_n (pc := 23) C 1 dX7_changes_23 rfl ?_
      refine x_geti (pc := 24) C (k := 7) hO.1 rfl rfl wd_735 dX7_changes_24 ⟨Nat.le_of_ble_eq_true rfl, rfl⟩ ?_
      refine x_bipush (pc := 27) C (v := (10 : Int32)) dX7_changes_27 rfl ?_
      refine x_icmp_ne (pc := 29) C 35 dX7_changes_29 rfl (fun c_3 => ?_) (fun c_3 => ?_)
      · refine x_sub [1, 2, 3, 0] rfl ?_
        rw [show v3_1 = x_1 from ((ev3_1.trans (if_pos c_2)).trans (if_neg c_3))] at kd_2
        exact kd_2
      · refine x_bipush (pc := 32) C (v := (-6 : Int32)) dX7_changes_32 rfl ?_
        refine x_istore_n (pc := 34) C 3 [(3, .int (-6 : Int32)), (0, .ref (b + 140)), (1, .int p1), (2, .int p2)] dX7_changes_34 rfl (Nat.le_of_ble_eq_true rfl) rfl rfl ?_
        refine x_sub [1, 2, 3, 0] rfl ?_
        rw [show v3_1 = (-6 : Int32) from ((ev3_1.trans (if_pos c_2)).trans (if_pos c_3))] at kd_2
        exact kd_2
  refine x_if_ne (pc := 4) C 11 dX7_changes_4 rfl (fun c_4 => ?_) (fun c_4 => ?_)
  · refine x_iload_n (pc := 11) C 2 dX7_changes_11 rfl ?_
    refine x_iconst (pc := 12) C (v := (0 : Int32)) dX7_changes_12 rfl ?_
    refine x_bipush (pc := 13) C (v := (99 : Int32)) dX7_changes_13 rfl ?_
    refine x_callS1 (pc := 15) C [.int p2, .int (0 : Int32), .int (99 : Int32)] [] (c_X7_bound (b := b) p2 (0 : Int32) (99 : Int32) S) cw_X7_216 vs_X7_bound ⟨rfl, rfl, Nat.le_of_ble_eq_true rfl, Nat.le_of_ble_eq_true rfl⟩ ⟨Nat.le_refl _, Nat.le_refl _⟩ rfl ⟨rfl, Nat.le_of_ble_eq_true rfl⟩ dX7_changes_15 (fun hx_2 => ?_)
    refine x_sub [0, 1, 2] rfl ?_
    rw [show x_1 = (f_X7_bound p2 (0 : Int32) (99 : Int32)) from (ex_1.trans (if_neg c_4))] at kd_1
    exact kd_1
  · refine x_iconst (pc := 7) C (v := (-1 : Int32)) dX7_changes_7 rfl ?_
    refine x_goto (pc := 8) C 18 dX7_changes_8 rfl ?_
    refine x_sub [0, 1, 2] rfl ?_
    rw [show x_1 = (-1 : Int32) from (ex_1.trans (if_pos c_4))] at kd_1
    exact kd_1
set_option maxRecDepth 100000 in
set_option maxHeartbeats 4000000 in
theorem l_X7_findSums_6 {p : Program} {l : Launch} {e : Env} {s : State} {m : MethodId} {args : Array Value} {below : List Frame} {meth : Method} {c : Code} {G : zz_G} {L : Ly} {b : Nat} {Q : State → Prop} (C : CX p G s m args meth c cX7_findSums yX7_findSums 2 none) (hO : isMo L) : ∀ (n : Nat) (v1 : Int32) (S : Sg) {z}, L_X7_findSums_6 n v1 S = some z → (∀ (S_o : Sg), z = S_o → X p l e (rmz 7 176) s m args below meth c 0 0 Q 2 G L b S_o 24 [(0, .ref (b + 140))] []) → X p l e (rmz 7 176) s m args below meth c 0 0 Q 2 G L b S 6 [(0, .ref (b + 140)), (1, .int v1)] [] := by
  intro n
  induction n with
  | zero =>
    intro v1 S z h
    exact of_none h
  | succ n ih =>
    intro v1 S z h hx
    rw [L_X7_findSums_6] at h
    refine x_iload_n (pc := 6) C 1 dX7_findSums_6 rfl ?_
    refine x_iconst (pc := 7) C (v := (3 : Int32)) dX7_findSums_7 rfl ?_
    refine x_icmp_ge (pc := 8) C 24 dX7_findSums_8 rfl (fun c_1 => ?_) (fun c_1 => ?_)
    · replace h := of_ifn c_1 h
      exact x_sub [0] rfl (hx _ (of_s1 h).symm)
    · replace h := of_ifp c_1 h
      refine x_aload_n (pc := 11) C 0 dX7_findSums_11 rfl ?_
      refine x_getr (pc := 12) C (k := 33) 160 hO.1 rfl rfl wd_761 dX7_findSums_12 (Nat.le_of_ble_eq_true rfl) rfl ?_
      refine x_iload_n (pc := 15) C 1 dX7_findSums_15 rfl ?_
      refine x_iconst (pc := 16) C (v := (0 : Int32)) dX7_findSums_16 rfl ?_
      obtain ⟨g_1, h⟩ := of_gd h
      obtain ⟨S_1, eS_1, h⟩ := of_lt h
      refine x_iastore (pc := 17) C hO.2.2.2.2.2.2.2.2.2.2.2.2.2.2.2.2.2.2.2.2.1 g_1 eS_1 dX7_findSums_17 ?_
      obtain ⟨v1_1, ev1_1, h⟩ := of_lt h
      refine x_iinc (pc := 18) C (w := (1 : Int32)) 1 [(1, .int v1_1), (0, .ref (b + 140))] dX7_findSums_18 rfl rfl (Nat.le_of_ble_eq_true rfl) ev1_1 rfl ?_
      refine x_goto (pc := 21) C 6 dX7_findSums_21 rfl ?_
      exact x_sub [1, 0] rfl (ih _ _ h hx)
set_option maxRecDepth 100000 in
set_option maxHeartbeats 4000000 in
theorem l_X7_findSums_26 {p : Program} {l : Launch} {e : Env} {s : State} {m : MethodId} {args : Array Value} {below : List Frame} {meth : Method} {c : Code} {G : zz_G} {L : Ly} {b : Nat} {Q : State → Prop} (C : CX p G s m args meth c cX7_findSums yX7_findSums 2 none) (hO : isMo L) : ∀ (n : Nat) (v1 : Int32) (S : Sg) {z}, L_X7_findSums_26 n v1 S = some z → (∀ (S_o : Sg), z = S_o → X p l e (rmz 7 176) s m args below meth c 0 0 Q 2 G L b S_o 79 [] []) → X p l e (rmz 7 176) s m args below meth c 0 0 Q 2 G L b S 26 [(0, .ref (b + 140)), (1, .int v1)] [] := by
  intro n
  induction n with
  | zero =>
    intro v1 S z h
    exact of_none h
  | succ n ih =>
    intro v1 S z h hx
    rw [L_X7_findSums_26] at h
    refine x_iload_n (pc := 26) C 1 dX7_findSums_26 rfl ?_
    refine x_sipush (pc := 27) C (v := (255 : Int32)) dX7_findSums_27 rfl ?_
    refine x_icmp_gt (pc := 30) C 79 dX7_findSums_30 rfl (fun c_1 => ?_) (fun c_1 => ?_)
    · replace h := of_ifp c_1 h
      exact x_sub [] rfl (hx _ (of_s1 h).symm)
    · replace h := of_ifn c_1 h
      refine x_aload_n (pc := 33) C 0 dX7_findSums_33 rfl ?_
      refine x_iconst (pc := 34) C (v := (0 : Int32)) dX7_findSums_34 rfl ?_
      refine x_iload_n (pc := 35) C 1 dX7_findSums_35 rfl ?_
      refine x_iconst (pc := 36) C (v := (0 : Int32)) dX7_findSums_36 rfl ?_
      obtain ⟨S_1, hc_1, h⟩ := of_bd h
      refine x_callV_ (pc := 37) C (o := 140) [.int (0 : Int32), .int v1, .int (0 : Int32)] [] (c_X7_asks (b := b) (0 : Int32) v1 (0 : Int32) hO S _ hc_1) cw_X7_266 vi_X7_asks ⟨rfl, rfl, Nat.le_of_ble_eq_true rfl, Nat.le_of_ble_eq_true rfl⟩ ⟨Nat.le_refl _, Nat.le_refl _⟩ hO.1 ⟨rfl, rfl, rfl⟩ rfl ⟨rfl, Nat.le_of_ble_eq_true rfl⟩ dX7_findSums_37 (fun hx_1 => ?_)
      refine x_aload_n (pc := 40) C 0 dX7_findSums_40 rfl ?_
      refine x_getr (pc := 41) C (k := 32) 159 hO.1 rfl rfl wd_760 dX7_findSums_41 (Nat.le_of_ble_eq_true rfl) rfl ?_
      refine x_iload_n (pc := 44) C 1 dX7_findSums_44 rfl ?_
      refine x_aload_n (pc := 45) C 0 dX7_findSums_45 rfl ?_
      refine x_aload_n (pc := 46) C 0 dX7_findSums_46 rfl ?_
      refine x_geti (pc := 47) C (k := 9) hO.1 rfl rfl wd_737 dX7_findSums_47 ⟨Nat.le_of_ble_eq_true rfl, rfl⟩ ?_
      refine x_aload_n (pc := 50) C 0 dX7_findSums_50 rfl ?_
      refine x_geti (pc := 51) C (k := 10) hO.1 rfl rfl wd_738 dX7_findSums_51 ⟨Nat.le_of_ble_eq_true rfl, rfl⟩ ?_
      obtain ⟨⟨r_1, S_2⟩, hc_2, h⟩ := of_bd h
      replace h := of_u2 h
      refine x_callV1 (pc := 54) C (o := 140) [.int (S_1.1 140 9), .int (S_1.1 140 10)] [.int v1, .ref (b + 159)] (c_X7_meetsBy (b := b) (S_1.1 140 9) (S_1.1 140 10) hO S_1 _ _ hc_2) cw_X7_179 vi_X7_meetsBy ⟨rfl, rfl, Nat.le_of_ble_eq_true rfl, Nat.le_of_ble_eq_true rfl⟩ ⟨Nat.le_refl _, Nat.le_refl _⟩ hO.1 ⟨rfl, rfl, rfl⟩ rfl ⟨rfl, Nat.le_of_ble_eq_true rfl⟩ dX7_findSums_54 (fun hx_2 => ?_)
      obtain ⟨g_1, h⟩ := of_gd h
      obtain ⟨S_3, eS_3, h⟩ := of_lt h
      refine x_iastore (pc := 57) C hO.2.2.2.2.2.2.2.2.2.2.2.2.2.2.2.2.2.2.2.1 g_1 eS_3 dX7_findSums_57 ?_
      refine x_aload_n (pc := 58) C 0 dX7_findSums_58 rfl ?_
      refine x_getr (pc := 59) C (k := 33) 160 hO.1 rfl rfl wd_761 dX7_findSums_59 (Nat.le_of_ble_eq_true rfl) rfl ?_
      refine x_aload_n (pc := 62) C 0 dX7_findSums_62 rfl ?_
      refine x_getr (pc := 63) C (k := 32) 159 hO.1 rfl rfl wd_760 dX7_findSums_63 (Nat.le_of_ble_eq_true rfl) rfl ?_
      refine x_iload_n (pc := 66) C 1 dX7_findSums_66 rfl ?_
      refine x_iaload (pc := 67) C hO.2.2.2.2.2.2.2.2.2.2.2.2.2.2.2.2.2.2.2.1 g_1 dX7_findSums_67 ?_
      refine x_dup2 (pc := 68) C dX7_findSums_68 rfl rfl ?_
      obtain ⟨g_2, h⟩ := of_gd h
      refine x_iaload (pc := 69) C hO.2.2.2.2.2.2.2.2.2.2.2.2.2.2.2.2.2.2.2.2.1 g_2 dX7_findSums_69 ?_
      refine x_iconst (pc := 70) C (v := (1 : Int32)) dX7_findSums_70 rfl ?_
      refine x_iadd (pc := 71) C dX7_findSums_71 ?_
      obtain ⟨S_4, eS_4, h⟩ := of_lt h
      refine x_iastore (pc := 72) C hO.2.2.2.2.2.2.2.2.2.2.2.2.2.2.2.2.2.2.2.2.1 g_2 eS_4 dX7_findSums_72 ?_
      obtain ⟨v1_1, ev1_1, h⟩ := of_lt h
      refine x_iinc (pc := 73) C (w := (1 : Int32)) 1 [(1, .int v1_1), (0, .ref (b + 140))] dX7_findSums_73 rfl rfl (Nat.le_of_ble_eq_true rfl) ev1_1 rfl ?_
      refine x_goto (pc := 76) C 26 dX7_findSums_76 rfl ?_
      exact x_sub [1, 0] rfl (ih _ _ h hx)
set_option maxRecDepth 100000 in
set_option maxHeartbeats 4000000 in
theorem c_X7_findSums {l : Launch} {G : zz_G} {L : Ly} {b : Nat} (hO : isMo L) (S : Sg) (Sf : Sg) (h : f_X7_findSums S = some Sf) : Met l yX7_findSums (Cond.code yX7_findSums cX7_findSums 2 none :: zz_all) (rmz 7 176) (PC G L b S [.ref (b + 140)]) (QC G L b Sf none True) 0 0 (fun q => b ≤ q) := by
  refine x_met [.ref (b + 140)] (by decide +kernel) (Nat.le_of_ble_eq_true rfl) fun p e s m args below meth c C => ?_
  unfold f_X7_findSums at h
  refine x_aload_n (pc := 0) C 0 dX7_findSums_0 rfl ?_
  obtain ⟨S_1, hc_1, h⟩ := of_bd h
  refine x_callV_ (pc := 1) C (o := 140) [] [] (c_X7_builds (b := b) hO S _ hc_1) cw_X7_173 vi_X7_builds ⟨rfl, rfl, Nat.le_of_ble_eq_true rfl, Nat.le_of_ble_eq_true rfl⟩ ⟨Nat.le_refl _, Nat.le_refl _⟩ hO.1 ⟨rfl, rfl, rfl⟩ rfl ⟨rfl, Nat.le_of_ble_eq_true rfl⟩ dX7_findSums_1 (fun hx_1 => ?_)
  refine x_iconst (pc := 4) C (v := (0 : Int32)) dX7_findSums_4 rfl ?_
  refine x_istore_n (pc := 5) C 1 [(1, .int (0 : Int32)), (0, .ref (b + 140))] dX7_findSums_5 rfl (Nat.le_of_ble_eq_true rfl) rfl rfl ?_
  refine x_sub [1, 0] rfl ?_
  obtain ⟨z_hz_2, hz_2, h⟩ := of_bd h
  refine l_X7_findSums_6 C hO 400 _ _ hz_2 (fun S_2 ez => ?_)
  subst z_hz_2
  refine x_iconst (pc := 24) C (v := (1 : Int32)) dX7_findSums_24 rfl ?_
  refine x_istore_n (pc := 25) C 1 [(1, .int (1 : Int32)), (0, .ref (b + 140))] dX7_findSums_25 rfl (Nat.le_of_ble_eq_true rfl) rfl rfl ?_
  refine x_sub [1, 0] rfl ?_
  obtain ⟨z_hz_1, hz_1, h⟩ := of_bd h
  refine l_X7_findSums_26 C hO 400 _ _ hz_1 (fun S_3 ez => ?_)
  subst z_hz_1
  exact x_vreturn (pc := 79) C dX7_findSums_79 (of_s1 h)
set_option maxRecDepth 100000 in
set_option maxHeartbeats 4000000 in
theorem l_X7_cheapest_25 {p : Program} {l : Launch} {e : Env} {s : State} {m : MethodId} {args : Array Value} {below : List Frame} {meth : Method} {c : Code} {G : zz_G} {L : Ly} {b : Nat} {Q : State → Prop} (C : CX p G s m args meth c cX7_cheapest yX7_cheapest 4 (some .int)) (hO : isMo L) (v1 : Int32) (S : Sg) : ∀ (n : Nat) (v2 : Int32) (v3 : Int32) {z}, L_X7_cheapest_25 v1 S n v2 v3 = some z → (∀ (v2_o : Int32), z = v2_o → X p l e (rmz 8 197) s m args below meth c 0 0 Q 4 G L b S 65 [(1, .int v1), (2, .int v2_o)] []) → X p l e (rmz 8 197) s m args below meth c 0 0 Q 4 G L b S 25 [(0, .ref (b + 140)), (1, .int v1), (2, .int v2), (3, .int v3)] [] := by
  intro n
  induction n with
  | zero =>
    intro v2 v3 z h
    exact of_none h
  | succ n ih =>
    intro v2 v3 z h hx
    rw [L_X7_cheapest_25] at h
    refine x_iload_n (pc := 25) C 3 dX7_cheapest_25 rfl ?_
    refine x_sipush (pc := 26) C (v := (255 : Int32)) dX7_cheapest_26 rfl ?_
    refine x_icmp_gt (pc := 29) C 65 dX7_cheapest_29 rfl (fun c_1 => ?_) (fun c_1 => ?_)
    · replace h := of_ifp c_1 h
      exact x_sub [1, 2] rfl (hx _ (of_s1 h).symm)
    · replace h := of_ifn c_1 h
      refine x_aload_n (pc := 32) C 0 dX7_cheapest_32 rfl ?_
      refine x_getr (pc := 33) C (k := 32) 159 hO.1 rfl rfl wd_760 dX7_cheapest_33 (Nat.le_of_ble_eq_true rfl) rfl ?_
      refine x_iload_n (pc := 36) C 3 dX7_cheapest_36 rfl ?_
      obtain ⟨g_1, h⟩ := of_gd h
      refine x_iaload (pc := 37) C hO.2.2.2.2.2.2.2.2.2.2.2.2.2.2.2.2.2.2.2.1 g_1 dX7_cheapest_37 ?_
      refine x_iconst (pc := 38) C (v := (1 : Int32)) dX7_cheapest_38 rfl ?_
      refine x_icmp_ne (pc := 39) C 59 dX7_cheapest_39 rfl (fun c_2 => ?_) (fun c_2 => ?_)
      · replace h := of_ifn c_2 h
        obtain ⟨v3_1, ev3_1, h⟩ := of_lt h
        refine x_iinc (pc := 59) C (w := (1 : Int32)) 3 [(3, .int v3_1), (0, .ref (b + 140)), (1, .int v1), (2, .int v2)] dX7_cheapest_59 rfl rfl (Nat.le_of_ble_eq_true rfl) ev3_1 rfl ?_
        refine x_goto (pc := 62) C 25 dX7_cheapest_62 rfl ?_
        exact x_sub [1, 2, 3, 0] rfl (ih _ _ h hx)
      · replace h := of_ifp c_2 h
        refine x_iload_n (pc := 42) C 2 dX7_cheapest_42 rfl ?_
        refine x_if_lt (pc := 43) C 57 dX7_cheapest_43 rfl (fun c_3 => ?_) (fun c_3 => ?_)
        · replace h := of_ifp c_3 h
          refine x_iload_n (pc := 57) C 3 dX7_cheapest_57 rfl ?_
          refine x_istore_n (pc := 58) C 2 [(2, .int v3), (0, .ref (b + 140)), (1, .int v1), (3, .int v3)] dX7_cheapest_58 rfl (Nat.le_of_ble_eq_true rfl) rfl rfl ?_
          obtain ⟨v3_2, ev3_2, h⟩ := of_lt h
          refine x_iinc (pc := 59) C (w := (1 : Int32)) 3 [(3, .int v3_2), (2, .int v3), (0, .ref (b + 140)), (1, .int v1)] dX7_cheapest_59 rfl rfl (Nat.le_of_ble_eq_true rfl) ev3_2 rfl ?_
          refine x_goto (pc := 62) C 25 dX7_cheapest_62 rfl ?_
          exact x_sub [2, 3, 1, 0] rfl (ih _ _ h hx)
        · replace h := of_ifn c_3 h
          refine x_iload_n (pc := 46) C 3 dX7_cheapest_46 rfl ?_
          obtain ⟨r_1, hc_1, h⟩ := of_bd h
          refine x_callS1 (pc := 47) C [.int v3] [] (c_X7_bits (b := b) v3 S _ hc_1) cw_X7_303 vs_X7_bits ⟨rfl, rfl, Nat.le_of_ble_eq_true rfl, Nat.le_of_ble_eq_true rfl⟩ ⟨Nat.le_refl _, Nat.le_refl _⟩ rfl ⟨rfl, Nat.le_of_ble_eq_true rfl⟩ dX7_cheapest_47 (fun hx_1 => ?_)
          refine x_iload_n (pc := 50) C 2 dX7_cheapest_50 rfl ?_
          obtain ⟨r_2, hc_2, h⟩ := of_bd h
          refine x_callS1 (pc := 51) C [.int v2] [.int r_1] (c_X7_bits (b := b) v2 S _ hc_2) cw_X7_303 vs_X7_bits ⟨rfl, rfl, Nat.le_of_ble_eq_true rfl, Nat.le_of_ble_eq_true rfl⟩ ⟨Nat.le_refl _, Nat.le_refl _⟩ rfl ⟨rfl, Nat.le_of_ble_eq_true rfl⟩ dX7_cheapest_51 (fun hx_2 => ?_)
          obtain ⟨v2_1, ev2_1, h⟩ := of_lt h
          have kd_1 : X p l e (rmz 8 197) s m args below meth c 0 0 Q 4 G L b S 59 [(0, .ref (b + 140)), (1, .int v1), (2, .int v2_1), (3, .int v3)] [] := by
            obtain ⟨v3_3, ev3_3, h⟩ := of_lt h
            refine x_iinc (pc := 59) C (w := (1 : Int32)) 3 [(3, .int v3_3), (0, .ref (b + 140)), (1, .int v1), (2, .int v2_1)] dX7_cheapest_59 rfl rfl (Nat.le_of_ble_eq_true rfl) ev3_3 rfl ?_
            refine x_goto (pc := 62) C 25 dX7_cheapest_62 rfl ?_
            exact x_sub [1, 2, 3, 0] rfl (ih _ _ h hx)
          refine x_icmp_ge (pc := 54) C 59 dX7_cheapest_54 rfl (fun c_4 => ?_) (fun c_4 => ?_)
          · refine x_sub [0, 1, 2, 3] rfl ?_
            rw [show v2_1 = v2 from (ev2_1.trans (if_neg c_4))] at kd_1
            exact kd_1
          · refine x_iload_n (pc := 57) C 3 dX7_cheapest_57 rfl ?_
            refine x_istore_n (pc := 58) C 2 [(2, .int v3), (0, .ref (b + 140)), (1, .int v1), (3, .int v3)] dX7_cheapest_58 rfl (Nat.le_of_ble_eq_true rfl) rfl rfl ?_
            refine x_sub [1, 2, 0, 3] rfl ?_
            rw [show v2_1 = v3 from (ev2_1.trans (if_pos c_4))] at kd_1
            exact kd_1
set_option maxRecDepth 100000 in
set_option maxHeartbeats 4000000 in
theorem c_X7_cheapest {l : Launch} {G : zz_G} {L : Ly} {b : Nat} (p1 : Int32) (hO : isMo L) (S : Sg) (rf : Int32) (Sf : Sg) (h : f_X7_cheapest p1 S = some (rf, Sf)) : Met l yX7_cheapest (Cond.code yX7_cheapest cX7_cheapest 4 (some .int) :: zz_all) (rmz 8 197) (PC G L b S [.ref (b + 140), .int p1]) (QC G L b Sf (some (.int rf)) True) 0 0 (fun q => b ≤ q) := by
  refine x_met [.ref (b + 140), .int p1] (by decide +kernel) (Nat.le_of_ble_eq_true rfl) fun p e s m args below meth c C => ?_
  unfold f_X7_cheapest at h
  refine x_iload_n (pc := 0) C 1 dX7_cheapest_0 rfl ?_
  refine x_iconst (pc := 1) C (v := (0 : Int32)) dX7_cheapest_1 rfl ?_
  refine x_iconst (pc := 2) C (v := (1 : Int32)) dX7_cheapest_2 rfl ?_
  refine x_callS1 (pc := 3) C [.int p1, .int (0 : Int32), .int (1 : Int32)] [] (c_X7_isIn (b := b) p1 (0 : Int32) (1 : Int32) S) cw_X7_96 vs_X7_isIn ⟨rfl, rfl, Nat.le_of_ble_eq_true rfl, Nat.le_of_ble_eq_true rfl⟩ ⟨Nat.le_refl _, Nat.le_refl _⟩ rfl ⟨rfl, Nat.le_of_ble_eq_true rfl⟩ dX7_cheapest_3 (fun hx_1 => ?_)
  refine x_if_ne (pc := 6) C 16 dX7_cheapest_6 rfl (fun c_1 => ?_) (fun c_1 => ?_)
  · replace h := of_ifn c_1 h
    refine x_aload_n (pc := 16) C 0 dX7_cheapest_16 rfl ?_
    obtain ⟨S_1, hc_1, h⟩ := of_bd h
    refine x_callV_ (pc := 17) C (o := 140) [] [] (c_X7_findSums (b := b) hO S _ hc_1) cw_X7_297 vi_X7_findSums ⟨rfl, rfl, Nat.le_of_ble_eq_true rfl, Nat.le_of_ble_eq_true rfl⟩ ⟨Nat.le_refl _, Nat.le_refl _⟩ hO.1 ⟨rfl, rfl, rfl⟩ rfl ⟨rfl, Nat.le_of_ble_eq_true rfl⟩ dX7_cheapest_17 (fun hx_2 => ?_)
    refine x_bipush (pc := 20) C (v := (-9 : Int32)) dX7_cheapest_20 rfl ?_
    refine x_istore_n (pc := 22) C 2 [(2, .int (-9 : Int32)), (0, .ref (b + 140)), (1, .int p1)] dX7_cheapest_22 rfl (Nat.le_of_ble_eq_true rfl) rfl rfl ?_
    refine x_iconst (pc := 23) C (v := (1 : Int32)) dX7_cheapest_23 rfl ?_
    refine x_istore_n (pc := 24) C 3 [(3, .int (1 : Int32)), (2, .int (-9 : Int32)), (0, .ref (b + 140)), (1, .int p1)] dX7_cheapest_24 rfl (Nat.le_of_ble_eq_true rfl) rfl rfl ?_
    refine x_sub [2, 3, 1, 0] rfl ?_
    obtain ⟨z_hz_1, hz_1, h⟩ := of_bd h
    refine l_X7_cheapest_25 C hO p1 S_1 400 _ _ hz_1 (fun v2_1 ez => ?_)
    subst z_hz_1
    refine x_iload_n (pc := 65) C 1 dX7_cheapest_65 rfl ?_
    refine x_if_ge (pc := 66) C 74 dX7_cheapest_66 rfl (fun c_2 => ?_) (fun c_2 => ?_)
    · replace h := of_ifn c_2 h
      refine x_iload_n (pc := 74) C 0 dX7_cheapest_74 rfl ?_
      refine x_if_ne (pc := 75) C 82 dX7_cheapest_75 rfl (fun c_3 => ?_) (fun c_3 => ?_)
      · replace h := of_ifn c_3 h
        refine x_iload_n (pc := 82) C 1 dX7_cheapest_82 rfl ?_
        obtain ⟨r_1, hc_2, h⟩ := of_bd h
        refine x_callS1 (pc := 83) C [.int v2_1] [] (c_X7_bits (b := b) v2_1 S_1 _ hc_2) cw_X7_303 vs_X7_bits ⟨rfl, rfl, Nat.le_of_ble_eq_true rfl, Nat.le_of_ble_eq_true rfl⟩ ⟨Nat.le_refl _, Nat.le_refl _⟩ rfl ⟨rfl, Nat.le_of_ble_eq_true rfl⟩ dX7_cheapest_83 (fun hx_3 => ?_)
        exact x_ireturn (pc := 86) C dX7_cheapest_86 (of_sp h).1 (of_sp h).2
      · replace h := of_ifp c_3 h
        refine x_iload_n (pc := 78) C 1 dX7_cheapest_78 rfl ?_
        refine x_goto (pc := 79) C 86 dX7_cheapest_79 rfl ?_
        exact x_ireturn (pc := 86) C dX7_cheapest_86 (of_sp h).1 (of_sp h).2
    · replace h := of_ifp c_2 h
      refine x_bipush (pc := 69) C (v := (-9 : Int32)) dX7_cheapest_69 rfl ?_
      refine x_goto (pc := 71) C 86 dX7_cheapest_71 rfl ?_
      exact x_ireturn (pc := 86) C dX7_cheapest_86 (of_sp h).1 (of_sp h).2
  · replace h := of_ifp c_1 h
    refine x_aload_n (pc := 9) C 0 dX7_cheapest_9 rfl ?_
    refine x_bipush (pc := 10) C (v := (-2 : Int32)) dX7_cheapest_10 rfl ?_
    obtain ⟨⟨r_2, S_2⟩, hc_3, h⟩ := of_bd h
    replace h := of_u2 h
    refine x_callV1 (pc := 12) C (o := 140) [.int (-2 : Int32)] [] (c_X7_no (b := b) (-2 : Int32) hO S _ _ hc_3) cw_X7_213 vi_X7_no ⟨rfl, rfl, Nat.le_of_ble_eq_true rfl, Nat.le_of_ble_eq_true rfl⟩ ⟨Nat.le_refl _, Nat.le_refl _⟩ hO.1 ⟨rfl, rfl, rfl⟩ rfl ⟨rfl, Nat.le_of_ble_eq_true rfl⟩ dX7_cheapest_12 (fun hx_4 => ?_)
    exact x_ireturn (pc := 15) C dX7_cheapest_15 (of_sp h).1 (of_sp h).2
set_option maxRecDepth 100000 in
set_option maxHeartbeats 4000000 in
theorem c_X7_clear {l : Launch} {G : zz_G} {L : Ly} {b : Nat} (hO : isMo L) (S : Sg) (rf : Int32) (Sf : Sg) (h : f_X7_clear S = some (rf, Sf)) : Met l yX7_clear (Cond.code yX7_clear cX7_clear 2 (some .int) :: zz_all) (rmz 0 0) (PC G L b S [.ref (b + 140)]) (QC G L b Sf (some (.int rf)) True) 0 0 (fun q => b ≤ q) := by
  refine x_met [.ref (b + 140)] (by decide +kernel) (Nat.le_of_ble_eq_true rfl) fun p e s m args below meth c C => ?_
  unfold f_X7_clear at h
  refine x_aload_n (pc := 0) C 0 dX7_clear_0 rfl ?_
  refine x_geti (pc := 1) C (k := 39) hO.1 rfl rfl wd_767 dX7_clear_1 ⟨Nat.le_of_ble_eq_true rfl, rfl⟩ ?_
  obtain ⟨v1_1, ev1_1, h⟩ := of_lt h
  refine x_istore_n (pc := 4) C 1 [(1, .int v1_1), (0, .ref (b + 140))] dX7_clear_4 rfl (Nat.le_of_ble_eq_true rfl) ev1_1 rfl ?_
  refine x_aload_n (pc := 5) C 1 dX7_clear_5 rfl ?_
  refine x_iconst (pc := 6) C (v := (0 : Int32)) dX7_clear_6 rfl ?_
  obtain ⟨S_1, eS_1, h⟩ := of_lt h
  refine x_puti (pc := 7) C (k := 39) hO.1 rfl rfl wd_767 dX7_clear_7 ⟨Nat.le_of_ble_eq_true rfl, rfl⟩ eS_1 ?_
  refine x_iload_n (pc := 10) C 0 dX7_clear_10 rfl ?_
  exact x_ireturn (pc := 11) C dX7_clear_11 (of_sp h).1 (of_sp h).2
set_option maxRecDepth 100000 in
set_option maxHeartbeats 4000000 in
theorem c_X7_comesChange {l : Launch} {G : zz_G} {L : Ly} {b : Nat} (p1 : Int32) (p2 : Int32) (hO : isMo L) (S : Sg) (rf : Int32) (Sf : Sg) (h : f_X7_comesChange p1 p2 S = some (rf, Sf)) : Met l yX7_comesChange (Cond.code yX7_comesChange cX7_comesChange 3 (some .boolean) :: zz_all) (rmz 2 44) (PC G L b S [.ref (b + 140), .int p1, .int p2]) (QC G L b Sf (some (.int rf)) (rf = 0 ∨ rf = 1)) 0 0 (fun q => b ≤ q) := by
  refine x_met [.ref (b + 140), .int p1, .int p2] (by decide +kernel) (Nat.le_of_ble_eq_true rfl) fun p e s m args below meth c C => ?_
  unfold f_X7_comesChange at h
  refine x_iload_n (pc := 0) C 1 dX7_comesChange_0 rfl ?_
  refine x_callS1 (pc := 1) C [.int p1] [] (c_X7_isPerson (b := b) p1 S) cw_X7_244 vs_X7_isPerson ⟨rfl, rfl, Nat.le_of_ble_eq_true rfl, Nat.le_of_ble_eq_true rfl⟩ ⟨Nat.le_refl _, Nat.le_refl _⟩ rfl ⟨rfl, Nat.le_of_ble_eq_true rfl⟩ dX7_comesChange_1 (fun hx_1 => ?_)
  refine x_if_eq (pc := 4) C 16 dX7_comesChange_4 rfl (fun c_1 => ?_) (fun c_1 => ?_)
  · replace h := of_ifp c_1 h
    refine x_iconst (pc := 16) C (v := (0 : Int32)) dX7_comesChange_16 rfl ?_
    exact x_zreturn (pc := 17) C (by decide) dX7_comesChange_17 (of_sp h).1 (of_sp h).2
  · replace h := of_ifn c_1 h
    refine x_aload_n (pc := 7) C 0 dX7_comesChange_7 rfl ?_
    refine x_geti (pc := 8) C (k := 7) hO.1 rfl rfl wd_735 dX7_comesChange_8 ⟨Nat.le_of_ble_eq_true rfl, rfl⟩ ?_
    refine x_bipush (pc := 11) C (v := (10 : Int32)) dX7_comesChange_11 rfl ?_
    refine x_icmp_ne (pc := 13) C 18 dX7_comesChange_13 rfl (fun c_2 => ?_) (fun c_2 => ?_)
    · replace h := of_ifn c_2 h
      refine x_aload_n (pc := 18) C 0 dX7_comesChange_18 rfl ?_
      refine x_iload_n (pc := 19) C 1 dX7_comesChange_19 rfl ?_
      refine x_iload_n (pc := 20) C 2 dX7_comesChange_20 rfl ?_
      obtain ⟨S_1, hc_1, h⟩ := of_bd h
      refine x_callV_ (pc := 21) C (o := 140) [.int p1, .int p2] [] (c_X7_changesTo (b := b) p1 p2 hO S _ hc_1) cw_X7_254 vi_X7_changesTo ⟨rfl, rfl, Nat.le_of_ble_eq_true rfl, Nat.le_of_ble_eq_true rfl⟩ ⟨Nat.le_refl _, Nat.le_refl _⟩ hO.1 ⟨rfl, rfl, rfl⟩ rfl ⟨rfl, Nat.le_of_ble_eq_true rfl⟩ dX7_comesChange_21 (fun hx_2 => ?_)
      refine x_iconst (pc := 24) C (v := (1 : Int32)) dX7_comesChange_24 rfl ?_
      exact x_zreturn (pc := 25) C (by decide) dX7_comesChange_25 (of_sp h).1 (of_sp h).2
    · replace h := of_ifp c_2 h
      refine x_iconst (pc := 16) C (v := (0 : Int32)) dX7_comesChange_16 rfl ?_
      exact x_zreturn (pc := 17) C (by decide) dX7_comesChange_17 (of_sp h).1 (of_sp h).2
set_option maxRecDepth 100000 in
set_option maxHeartbeats 4000000 in
theorem l_X7_setTold_6 {p : Program} {l : Launch} {e : Env} {s : State} {m : MethodId} {args : Array Value} {below : List Frame} {meth : Method} {c : Code} {G : zz_G} {L : Ly} {b : Nat} {Q : State → Prop} (C : CX p G s m args meth c cX7_setTold yX7_setTold 6 (some .int)) (hO : isMo L) (v1 : Int32) (v2 : Int32) (v3 : Int32) (S : Sg) : ∀ (n : Nat) (v4 : Int32) (v5 : Int32) {z}, L_X7_setTold_6 v1 v2 v3 S n v4 v5 = some z → (∀ (v4_o : Int32), z = v4_o → X p l e (rmz 1 22) s m args below meth c 0 0 Q 6 G L b S 49 [(4, .int v4_o)] []) → X p l e (rmz 1 22) s m args below meth c 0 0 Q 6 G L b S 6 [(0, .ref (b + 140)), (1, .int v1), (2, .int v2), (3, .int v3), (4, .int v4), (5, .int v5)] [] := by
  intro n
  induction n with
  | zero =>
    intro v4 v5 z h
    exact of_none h
  | succ n ih =>
    intro v4 v5 z h hx
    rw [L_X7_setTold_6] at h
    refine x_iload (pc := 6) C 5 dX7_setTold_6 rfl ?_
    refine x_bipush (pc := 8) C (v := (8 : Int32)) dX7_setTold_8 rfl ?_
    refine x_icmp_ge (pc := 10) C 49 dX7_setTold_10 rfl (fun c_1 => ?_) (fun c_1 => ?_)
    · replace h := of_ifn c_1 h
      exact x_sub [4] rfl (hx _ (of_s1 h).symm)
    · replace h := of_ifp c_1 h
      refine x_iload (pc := 13) C 4 dX7_setTold_13 rfl ?_
      refine x_aload_n (pc := 15) C 0 dX7_setTold_15 rfl ?_
      refine x_getr (pc := 16) C (k := 27) 158 hO.1 rfl rfl wd_755 dX7_setTold_16 (Nat.le_of_ble_eq_true rfl) rfl ?_
      refine x_iload_n (pc := 19) C 1 dX7_setTold_19 rfl ?_
      refine x_iload (pc := 20) C 5 dX7_setTold_20 rfl ?_
      refine x_iadd (pc := 22) C dX7_setTold_22 ?_
      obtain ⟨g_1, h⟩ := of_gd h
      refine x_iaload (pc := 23) C hO.2.2.2.2.2.2.2.2.2.2.2.2.2.2.2.2.2.2.1 g_1 dX7_setTold_23 ?_
      refine x_iload_n (pc := 24) C 2 dX7_setTold_24 rfl ?_
      refine x_iload_n (pc := 25) C 3 dX7_setTold_25 rfl ?_
      refine x_callS1 (pc := 26) C [.int (S.1 158 (ix (v1 + v5))), .int v2, .int v3] [.int v4] (c_X7_isIn (b := b) (S.1 158 (ix (v1 + v5))) v2 v3 S) cw_X7_96 vs_X7_isIn ⟨rfl, rfl, Nat.le_of_ble_eq_true rfl, Nat.le_of_ble_eq_true rfl⟩ ⟨Nat.le_refl _, Nat.le_refl _⟩ rfl ⟨rfl, Nat.le_of_ble_eq_true rfl⟩ dX7_setTold_26 (fun hx_1 => ?_)
      obtain ⟨x_1, ex_1, h⟩ := of_lt h
      have kd_1 : X p l e (rmz 1 22) s m args below meth c 0 0 Q 6 G L b S 40 [(0, .ref (b + 140)), (1, .int v1), (2, .int v2), (3, .int v3), (5, .int v5)] [.int x_1, .int v4] := by
        refine x_ior (pc := 40) C dX7_setTold_40 ?_
        obtain ⟨v4_1, ev4_1, h⟩ := of_lt h
        refine x_istore (pc := 41) C [(4, .int v4_1), (0, .ref (b + 140)), (1, .int v1), (2, .int v2), (3, .int v3), (5, .int v5)] dX7_setTold_41 (Nat.le_of_ble_eq_true rfl) ev4_1 rfl ?_
        obtain ⟨v5_1, ev5_1, h⟩ := of_lt h
        refine x_iinc (pc := 43) C (w := (1 : Int32)) 5 [(5, .int v5_1), (4, .int v4_1), (0, .ref (b + 140)), (1, .int v1), (2, .int v2), (3, .int v3)] dX7_setTold_43 rfl rfl (Nat.le_of_ble_eq_true rfl) ev5_1 rfl ?_
        refine x_goto (pc := 46) C 6 dX7_setTold_46 rfl ?_
        exact x_sub [2, 3, 4, 5, 1, 0] rfl (ih _ _ h hx)
      refine x_if_eq (pc := 29) C 39 dX7_setTold_29 rfl (fun c_2 => ?_) (fun c_2 => ?_)
      · refine x_iconst (pc := 39) C (v := (0 : Int32)) dX7_setTold_39 rfl ?_
        refine x_sub [0, 1, 2, 3, 5] rfl ?_
        rw [show x_1 = (0 : Int32) from (ex_1.trans (if_pos c_2))] at kd_1
        exact kd_1
      · refine x_iconst (pc := 32) C (v := (1 : Int32)) dX7_setTold_32 rfl ?_
        refine x_iload (pc := 33) C 5 dX7_setTold_33 rfl ?_
        refine x_ishl (pc := 35) C dX7_setTold_35 ?_
        refine x_goto (pc := 36) C 40 dX7_setTold_36 rfl ?_
        refine x_sub [0, 1, 2, 3, 5] rfl ?_
        rw [show x_1 = (isl (1 : Int32) v5) from (ex_1.trans (if_neg c_2))] at kd_1
        exact kd_1
set_option maxRecDepth 100000 in
set_option maxHeartbeats 4000000 in
theorem c_X7_setTold {l : Launch} {G : zz_G} {L : Ly} {b : Nat} (p1 : Int32) (p2 : Int32) (p3 : Int32) (hO : isMo L) (S : Sg) (rf : Int32) (h : f_X7_setTold p1 p2 p3 S = some rf) : Met l yX7_setTold (Cond.code yX7_setTold cX7_setTold 6 (some .int) :: zz_all) (rmz 1 22) (PC G L b S [.ref (b + 140), .int p1, .int p2, .int p3]) (QC G L b S (some (.int rf)) True) 0 0 (fun q => b ≤ q) := by
  refine x_met [.ref (b + 140), .int p1, .int p2, .int p3] (by decide +kernel) (Nat.le_of_ble_eq_true rfl) fun p e s m args below meth c C => ?_
  unfold f_X7_setTold at h
  refine x_iconst (pc := 0) C (v := (0 : Int32)) dX7_setTold_0 rfl ?_
  refine x_istore (pc := 1) C [(4, .int (0 : Int32)), (0, .ref (b + 140)), (1, .int p1), (2, .int p2), (3, .int p3)] dX7_setTold_1 (Nat.le_of_ble_eq_true rfl) rfl rfl ?_
  refine x_iconst (pc := 3) C (v := (0 : Int32)) dX7_setTold_3 rfl ?_
  refine x_istore (pc := 4) C [(5, .int (0 : Int32)), (4, .int (0 : Int32)), (0, .ref (b + 140)), (1, .int p1), (2, .int p2), (3, .int p3)] dX7_setTold_4 (Nat.le_of_ble_eq_true rfl) rfl rfl ?_
  refine x_sub [2, 3, 4, 5, 1, 0] rfl ?_
  obtain ⟨z_hz_1, hz_1, h⟩ := of_bd h
  refine l_X7_setTold_6 C hO p1 p2 p3 S 400 _ _ hz_1 (fun v4_1 ez => ?_)
  subst z_hz_1
  refine x_iload (pc := 49) C 0 dX7_setTold_49 rfl ?_
  exact x_ireturn (pc := 51) C dX7_setTold_51 (of_s1 h) rfl
set_option maxRecDepth 100000 in
set_option maxHeartbeats 4000000 in
theorem c_X7_comesQuestion {l : Launch} {G : zz_G} {L : Ly} {b : Nat} (p1 : Int32) (p2 : Int32) (hO : isMo L) (S : Sg) (rf : Int32) (Sf : Sg) (h : f_X7_comesQuestion p1 p2 S = some (rf, Sf)) : Met l yX7_comesQuestion (Cond.code yX7_comesQuestion cX7_comesQuestion 6 (some .boolean) :: zz_all) (rmz 9 217) (PC G L b S [.ref (b + 140), .int p1, .int p2]) (QC G L b Sf (some (.int rf)) (rf = 0 ∨ rf = 1)) 0 0 (fun q => b ≤ q) := by
  refine x_met [.ref (b + 140), .int p1, .int p2] (by decide +kernel) (Nat.le_of_ble_eq_true rfl) fun p e s m args below meth c C => ?_
  unfold f_X7_comesQuestion at h
  refine x_iload_n (pc := 0) C 1 dX7_comesQuestion_0 rfl ?_
  refine x_bipush (pc := 1) C (v := (115 : Int32)) dX7_comesQuestion_1 rfl ?_
  obtain ⟨x_1, ex_1, h⟩ := of_lt h
  have kd_1 : X p l e (rmz 9 217) s m args below meth c 0 0 (RQ G L b Sf below args s (some (.int rf)) (rf = 0 ∨ rf = 1)) 6 G L b S 21 [(0, .ref (b + 140)), (2, .int p2)] [.int x_1] := by
    refine x_istore_n (pc := 21) C 3 [(3, .int x_1), (0, .ref (b + 140)), (2, .int p2)] dX7_comesQuestion_21 rfl (Nat.le_of_ble_eq_true rfl) rfl rfl ?_
    refine x_aload_n (pc := 22) C 1 dX7_comesQuestion_22 rfl ?_
    refine x_iload_n (pc := 23) C 2 dX7_comesQuestion_23 rfl ?_
    refine x_iconst (pc := 24) C (v := (1 : Int32)) dX7_comesQuestion_24 rfl ?_
    refine x_iload_n (pc := 25) C 0 dX7_comesQuestion_25 rfl ?_
    refine x_iconst (pc := 26) C (v := (1 : Int32)) dX7_comesQuestion_26 rfl ?_
    obtain ⟨x_2, ex_2, h⟩ := of_lt h
    have kd_2 : X p l e (rmz 9 217) s m args below meth c 0 0 (RQ G L b Sf below args s (some (.int rf)) (rf = 0 ∨ rf = 1)) 6 G L b S 36 [(0, .ref (b + 140)), (2, .int p2), (3, .int x_1)] [.int x_2, .int (1 : Int32), .int p2, .ref (b + 140)] := by
      obtain ⟨r_1, hc_1, h⟩ := of_bd h
      refine x_callV1 (pc := 36) C (o := 140) [.int p2, .int (1 : Int32), .int x_2] [] (c_X7_setTold (b := b) p2 (1 : Int32) x_2 hO S _ hc_1) cw_X7_260 vi_X7_setTold ⟨rfl, rfl, Nat.le_of_ble_eq_true rfl, Nat.le_of_ble_eq_true rfl⟩ ⟨Nat.le_refl _, Nat.le_refl _⟩ hO.1 ⟨rfl, rfl, rfl⟩ rfl ⟨rfl, Nat.le_of_ble_eq_true rfl⟩ dX7_comesQuestion_36 (fun hx_1 => ?_)
      refine x_istore (pc := 39) C [(4, .int r_1), (0, .ref (b + 140)), (2, .int p2), (3, .int x_1)] dX7_comesQuestion_39 (Nat.le_of_ble_eq_true rfl) rfl rfl ?_
      refine x_iload_n (pc := 41) C 3 dX7_comesQuestion_41 rfl ?_
      refine x_iconst (pc := 42) C (v := (1 : Int32)) dX7_comesQuestion_42 rfl ?_
      obtain ⟨J_1, eJ_1, h⟩ := of_lt h
      have kJ_1 : ∀ (x_3 : Int32), J_1 x_3 = some (rf, Sf) → X p l e (rmz 9 217) s m args below meth c 0 0 (RQ G L b Sf below args s (some (.int rf)) (rf = 0 ∨ rf = 1)) 6 G L b S 65 [(0, .ref (b + 140)), (2, .int p2), (3, .int x_1), (4, .int r_1)] [.int x_3] := by
        intro x_3 h
        replace h := of_J1 eJ_1 h
        refine x_istore (pc := 65) C [(5, .int x_3), (0, .ref (b + 140)), (2, .int p2), (3, .int x_1), (4, .int r_1)] dX7_comesQuestion_65 (Nat.le_of_ble_eq_true rfl) rfl rfl ?_
        refine x_iload_n (pc := 67) C 3 dX7_comesQuestion_67 rfl ?_
        refine x_iconst (pc := 68) C (v := (1 : Int32)) dX7_comesQuestion_68 rfl ?_
        obtain ⟨J_2, eJ_2, h⟩ := of_lt h
        have kJ_2 : ∀ (_ : Unit), J_2 () = some (rf, Sf) → X p l e (rmz 9 217) s m args below meth c 0 0 (RQ G L b Sf below args s (some (.int rf)) (rf = 0 ∨ rf = 1)) 6 G L b S 83 [(0, .ref (b + 140)), (3, .int x_1), (4, .int r_1), (5, .int x_3)] [] := by
          intro _ h
          replace h := of_J1 eJ_2 h
          refine x_iload_n (pc := 83) C 1 dX7_comesQuestion_83 rfl ?_
          refine x_iload (pc := 84) C 2 dX7_comesQuestion_84 rfl ?_
          refine x_iload (pc := 86) C 3 dX7_comesQuestion_86 rfl ?_
          refine x_callS1 (pc := 88) C [.int x_1, .int r_1, .int x_3] [] (c_X7_notQuestion (b := b) x_1 r_1 x_3 S) cw_X7_263 vs_X7_notQuestion ⟨rfl, rfl, Nat.le_of_ble_eq_true rfl, Nat.le_of_ble_eq_true rfl⟩ ⟨Nat.le_refl _, Nat.le_refl _⟩ rfl ⟨rfl, Nat.le_of_ble_eq_true rfl⟩ dX7_comesQuestion_88 (fun hx_2 => ?_)
          refine x_if_eq (pc := 91) C 96 dX7_comesQuestion_91 rfl (fun c_1 => ?_) (fun c_1 => ?_)
          · replace h := of_ifp c_1 h
            refine x_aload_n (pc := 96) C 0 dX7_comesQuestion_96 rfl ?_
            refine x_iload_n (pc := 97) C 1 dX7_comesQuestion_97 rfl ?_
            refine x_iload (pc := 98) C 2 dX7_comesQuestion_98 rfl ?_
            refine x_iload (pc := 100) C 3 dX7_comesQuestion_100 rfl ?_
            obtain ⟨S_1, hc_2, h⟩ := of_bd h
            refine x_callV_ (pc := 102) C (o := 140) [.int x_1, .int r_1, .int x_3] [] (c_X7_asks (b := b) x_1 r_1 x_3 hO S _ hc_2) cw_X7_266 vi_X7_asks ⟨rfl, rfl, Nat.le_of_ble_eq_true rfl, Nat.le_of_ble_eq_true rfl⟩ ⟨Nat.le_refl _, Nat.le_refl _⟩ hO.1 ⟨rfl, rfl, rfl⟩ rfl ⟨rfl, Nat.le_of_ble_eq_true rfl⟩ dX7_comesQuestion_102 (fun hx_3 => ?_)
            refine x_aload_n (pc := 105) C 0 dX7_comesQuestion_105 rfl ?_
            obtain ⟨⟨r_2, S_2⟩, hc_3, h⟩ := of_bd h
            replace h := of_u2 h
            refine x_callV1 (pc := 106) C (o := 140) [] [] (c_X7_isAsked (b := b) hO S_1 _ _ hc_3) cw_X7_270 vi_X7_isAsked ⟨rfl, rfl, Nat.le_of_ble_eq_true rfl, Nat.le_of_ble_eq_true rfl⟩ ⟨Nat.le_refl _, Nat.le_refl _⟩ hO.1 ⟨rfl, rfl, rfl⟩ rfl ⟨rfl, Nat.le_of_ble_eq_true rfl⟩ dX7_comesQuestion_106 (fun hx_4 => ?_)
            refine x_iconst (pc := 109) C (v := (2 : Int32)) dX7_comesQuestion_109 rfl ?_
            obtain ⟨x_4, ex_4, h⟩ := of_lt h
            have kd_3 : X p l e (rmz 9 217) s m args below meth c 0 0 (RQ G L b Sf below args s (some (.int rf)) (rf = 0 ∨ rf = 1)) 6 G L b S_2 118 [] [.int x_4] := by
              exact x_zreturn (pc := 118) C (ex_4 ▸ (if01 (by decide) (by decide))) dX7_comesQuestion_118 (of_sp h).1 (of_sp h).2
            refine x_icmp_eq (pc := 110) C 117 dX7_comesQuestion_110 rfl (fun c_2 => ?_) (fun c_2 => ?_)
            · refine x_iconst (pc := 117) C (v := (0 : Int32)) dX7_comesQuestion_117 rfl ?_
              refine x_sub [] rfl ?_
              rw [show x_4 = (0 : Int32) from (ex_4.trans (if_pos c_2))] at kd_3
              exact kd_3
            · refine x_iconst (pc := 113) C (v := (1 : Int32)) dX7_comesQuestion_113 rfl ?_
              refine x_goto (pc := 114) C 118 dX7_comesQuestion_114 rfl ?_
              refine x_sub [] rfl ?_
              rw [show x_4 = (1 : Int32) from (ex_4.trans (if_neg c_2))] at kd_3
              exact kd_3
          · replace h := of_ifn c_1 h
            refine x_iconst (pc := 94) C (v := (0 : Int32)) dX7_comesQuestion_94 rfl ?_
            exact x_zreturn (pc := 95) C (by decide) dX7_comesQuestion_95 (of_sp h).1 (of_sp h).2
        refine x_icmp_ne (pc := 69) C 83 dX7_comesQuestion_69 rfl (fun c_3 => ?_) (fun c_3 => ?_)
        · replace h := of_ifn c_3 h
          exact x_sub [1, 3, 4, 0] rfl (kJ_2 () h)
        · replace h := of_ifp c_3 h
          refine x_aload_n (pc := 72) C 1 dX7_comesQuestion_72 rfl ?_
          refine x_iload_n (pc := 73) C 2 dX7_comesQuestion_73 rfl ?_
          refine x_iconst (pc := 74) C (v := (3 : Int32)) dX7_comesQuestion_74 rfl ?_
          refine x_bipush (pc := 75) C (v := (9 : Int32)) dX7_comesQuestion_75 rfl ?_
          obtain ⟨r_3, hc_4, h⟩ := of_bd h
          refine x_callV1 (pc := 77) C (o := 140) [.int p2, .int (3 : Int32), .int (9 : Int32)] [] (c_X7_setTold (b := b) p2 (3 : Int32) (9 : Int32) hO S _ hc_4) cw_X7_260 vi_X7_setTold ⟨rfl, rfl, Nat.le_of_ble_eq_true rfl, Nat.le_of_ble_eq_true rfl⟩ ⟨Nat.le_refl _, Nat.le_refl _⟩ hO.1 ⟨rfl, rfl, rfl⟩ rfl ⟨rfl, Nat.le_of_ble_eq_true rfl⟩ dX7_comesQuestion_77 (fun hx_5 => ?_)
          refine x_if_ne (pc := 80) C 94 dX7_comesQuestion_80 rfl (fun c_4 => ?_) (fun c_4 => ?_)
          · replace h := of_ifn c_4 h
            refine x_iconst (pc := 94) C (v := (0 : Int32)) dX7_comesQuestion_94 rfl ?_
            exact x_zreturn (pc := 95) C (by decide) dX7_comesQuestion_95 (of_sp h).1 (of_sp h).2
          · replace h := of_ifp c_4 h
            exact x_sub [1, 3, 4, 0] rfl (kJ_2 () h)
      refine x_icmp_ne (pc := 43) C 56 dX7_comesQuestion_43 rfl (fun c_5 => ?_) (fun c_5 => ?_)
      · replace h := of_ifn c_5 h
        refine x_aload_n (pc := 56) C 1 dX7_comesQuestion_56 rfl ?_
        refine x_getr (pc := 57) C (k := 27) 158 hO.1 rfl rfl wd_755 dX7_comesQuestion_57 (Nat.le_of_ble_eq_true rfl) rfl ?_
        refine x_iload_n (pc := 60) C 2 dX7_comesQuestion_60 rfl ?_
        refine x_bipush (pc := 61) C (v := (8 : Int32)) dX7_comesQuestion_61 rfl ?_
        refine x_iadd (pc := 63) C dX7_comesQuestion_63 ?_
        obtain ⟨g_1, h⟩ := of_gd h
        refine x_iaload (pc := 64) C hO.2.2.2.2.2.2.2.2.2.2.2.2.2.2.2.2.2.2.1 g_1 dX7_comesQuestion_64 ?_
        exact x_sub [1, 2, 3, 0] rfl (kJ_1 _ h)
      · replace h := of_ifp c_5 h
        refine x_aload_n (pc := 46) C 1 dX7_comesQuestion_46 rfl ?_
        refine x_iload_n (pc := 47) C 2 dX7_comesQuestion_47 rfl ?_
        refine x_iconst (pc := 48) C (v := (2 : Int32)) dX7_comesQuestion_48 rfl ?_
        refine x_iconst (pc := 49) C (v := (2 : Int32)) dX7_comesQuestion_49 rfl ?_
        obtain ⟨r_4, hc_5, h⟩ := of_bd h
        refine x_callV1 (pc := 50) C (o := 140) [.int p2, .int (2 : Int32), .int (2 : Int32)] [] (c_X7_setTold (b := b) p2 (2 : Int32) (2 : Int32) hO S _ hc_5) cw_X7_260 vi_X7_setTold ⟨rfl, rfl, Nat.le_of_ble_eq_true rfl, Nat.le_of_ble_eq_true rfl⟩ ⟨Nat.le_refl _, Nat.le_refl _⟩ hO.1 ⟨rfl, rfl, rfl⟩ rfl ⟨rfl, Nat.le_of_ble_eq_true rfl⟩ dX7_comesQuestion_50 (fun hx_6 => ?_)
        refine x_goto (pc := 53) C 65 dX7_comesQuestion_53 rfl ?_
        exact x_sub [1, 2, 3, 0] rfl (kJ_1 _ h)
    refine x_icmp_ne (pc := 27) C 34 dX7_comesQuestion_27 rfl (fun c_6 => ?_) (fun c_6 => ?_)
    · refine x_bipush (pc := 34) C (v := (9 : Int32)) dX7_comesQuestion_34 rfl ?_
      refine x_sub [1, 2, 0] rfl ?_
      rw [show x_2 = (9 : Int32) from (ex_2.trans (if_neg c_6))] at kd_2
      exact kd_2
    · refine x_iconst (pc := 30) C (v := (1 : Int32)) dX7_comesQuestion_30 rfl ?_
      refine x_goto (pc := 31) C 36 dX7_comesQuestion_31 rfl ?_
      refine x_sub [1, 2, 0] rfl ?_
      rw [show x_2 = (1 : Int32) from (ex_2.trans (if_pos c_6))] at kd_2
      exact kd_2
  refine x_icmp_ne (pc := 3) C 10 dX7_comesQuestion_3 rfl (fun c_7 => ?_) (fun c_7 => ?_)
  · refine x_iload_n (pc := 10) C 1 dX7_comesQuestion_10 rfl ?_
    refine x_bipush (pc := 11) C (v := (100 : Int32)) dX7_comesQuestion_11 rfl ?_
    refine x_icmp_ne (pc := 13) C 20 dX7_comesQuestion_13 rfl (fun c_8 => ?_) (fun c_8 => ?_)
    · refine x_iconst (pc := 20) C (v := (2 : Int32)) dX7_comesQuestion_20 rfl ?_
      refine x_sub [0, 2] rfl ?_
      rw [show x_1 = (2 : Int32) from ((ex_1.trans (if_neg c_7)).trans (if_neg c_8))] at kd_1
      exact kd_1
    · refine x_iconst (pc := 16) C (v := (1 : Int32)) dX7_comesQuestion_16 rfl ?_
      refine x_goto (pc := 17) C 21 dX7_comesQuestion_17 rfl ?_
      refine x_sub [0, 2] rfl ?_
      rw [show x_1 = (1 : Int32) from ((ex_1.trans (if_neg c_7)).trans (if_pos c_8))] at kd_1
      exact kd_1
  · refine x_iconst (pc := 6) C (v := (0 : Int32)) dX7_comesQuestion_6 rfl ?_
    refine x_goto (pc := 7) C 21 dX7_comesQuestion_7 rfl ?_
    refine x_sub [0, 2] rfl ?_
    rw [show x_1 = (0 : Int32) from (ex_1.trans (if_pos c_7))] at kd_1
    exact kd_1
