set_option maxRecDepth 100000 in
set_option maxHeartbeats 4000000 in
theorem c_X6_reduced {l : Launch} {G : zz_G} {L : Ly} {b : Nat} (p1 : Int32) (p2 : Int32) (p3 : Int32) (hO : isGu L) (S : Sg) (rf : Int64) (Sf : Sg) (h : f_X6_reduced p1 p2 p3 S = some (rf, Sf)) : Met l yX6_reduced (Cond.code yX6_reduced cX6_reduced 4 (some .long) :: zz_all) (rmz 3 82) (PC G L b S [.ref (b + 0), .int p1, .int p2, .int p3]) (QC G L b Sf (some (.long rf)) True) 0 0 (fun q => b ≤ q) := by
  refine x_met [.ref (b + 0), .int p1, .int p2, .int p3] (by decide +kernel) (Nat.le_of_ble_eq_true rfl) fun p e s m args below meth c C => ?_
  unfold f_X6_reduced at h
  refine x_iload_n (pc := 0) C 1 dX6_reduced_0 rfl ?_
  refine x_aload_n (pc := 1) C 0 dX6_reduced_1 rfl ?_
  refine x_getr (pc := 2) C (k := 0) 1 hO.1 rfl rfl wd_149 dX6_reduced_2 (Nat.le_of_ble_eq_true rfl) rfl ?_
  refine x_geti (pc := 5) C (k := 9) hO.2.1.1 rfl rfl wd_74 dX6_reduced_5 ⟨Nat.le_of_ble_eq_true rfl, rfl⟩ ?_
  refine x_callS1 (pc := 8) C [.int p1, .int (S.1 1 9)] [] (c_X6_isWithin (b := b) p1 (S.1 1 9) S) cw_X6_69 vs_X6_isWithin ⟨rfl, rfl, Nat.le_of_ble_eq_true rfl, Nat.le_of_ble_eq_true rfl⟩ ⟨Nat.le_refl _, Nat.le_refl _⟩ rfl ⟨rfl, Nat.le_of_ble_eq_true rfl⟩ dX6_reduced_8 (fun hx_1 => ?_)
  refine x_if_eq (pc := 11) C 25 dX6_reduced_11 rfl (fun c_1 => ?_) (fun c_1 => ?_)
  · replace h := of_ifp c_1 h
    refine x_ldc2 (pc := 25) C wd_379 dX6_reduced_25 ?_
    refine x_aload_n (pc := 28) C 0 dX6_reduced_28 rfl ?_
    refine x_iconst (pc := 29) C (v := (-1 : Int32)) dX6_reduced_29 rfl ?_
    obtain ⟨⟨r_1, S_1⟩, hc_1, h⟩ := of_bd h
    replace h := of_u2 h
    refine x_callV1 (pc := 30) C (o := 0) [.int (-1 : Int32)] [.long (4000000000000000000 : Int64)] (c_X6_refuse (b := b) (-1 : Int32) hO S _ _ hc_1) cw_X6_73 vi_X6_refuse ⟨rfl, rfl, Nat.le_of_ble_eq_true rfl, Nat.le_of_ble_eq_true rfl⟩ ⟨Nat.le_refl _, Nat.le_refl _⟩ hO.1 ⟨rfl, rfl, rfl⟩ rfl ⟨rfl, Nat.le_of_ble_eq_true rfl⟩ dX6_reduced_30 (fun hx_2 => ?_)
    refine x_i2l (pc := 33) C dX6_reduced_33 ?_
    refine x_lsub (pc := 34) C dX6_reduced_34 ?_
    exact x_lreturn (pc := 35) C dX6_reduced_35 (of_sp h).1 (of_sp h).2
  · replace h := of_ifn c_1 h
    refine x_aload_n (pc := 14) C 0 dX6_reduced_14 rfl ?_
    refine x_getr (pc := 15) C (k := 0) 1 hO.1 rfl rfl wd_149 dX6_reduced_15 (Nat.le_of_ble_eq_true rfl) rfl ?_
    refine x_iload_n (pc := 18) C 2 dX6_reduced_18 rfl ?_
    refine x_callV1 (pc := 19) C (o := 1) [.int p2] [] (c_X5_has (b := b) 1 p2 hO.2.1 S) cw_X6_91 vi_X5_has ⟨rfl, rfl, Nat.le_of_ble_eq_true rfl, Nat.le_of_ble_eq_true rfl⟩ ⟨Nat.le_refl _, Nat.le_refl _⟩ hO.2.1.1 ⟨rfl, rfl, rfl⟩ rfl ⟨rfl, Nat.le_of_ble_eq_true rfl⟩ dX6_reduced_19 (fun hx_3 => ?_)
    refine x_if_ne (pc := 22) C 36 dX6_reduced_22 rfl (fun c_2 => ?_) (fun c_2 => ?_)
    · replace h := of_ifn c_2 h
      refine x_iload_n (pc := 36) C 3 dX6_reduced_36 rfl ?_
      refine x_iconst (pc := 37) C (v := (2 : Int32)) dX6_reduced_37 rfl ?_
      refine x_callS1 (pc := 38) C [.int p3, .int (2 : Int32)] [] (c_X6_isWithin (b := b) p3 (2 : Int32) S) cw_X6_69 vs_X6_isWithin ⟨rfl, rfl, Nat.le_of_ble_eq_true rfl, Nat.le_of_ble_eq_true rfl⟩ ⟨Nat.le_refl _, Nat.le_refl _⟩ rfl ⟨rfl, Nat.le_of_ble_eq_true rfl⟩ dX6_reduced_38 (fun hx_4 => ?_)
      refine x_if_ne (pc := 41) C 56 dX6_reduced_41 rfl (fun c_3 => ?_) (fun c_3 => ?_)
      · replace h := of_ifn c_3 h
        refine x_aload_n (pc := 56) C 0 dX6_reduced_56 rfl ?_
        refine x_getr (pc := 57) C (k := 0) 1 hO.1 rfl rfl wd_149 dX6_reduced_57 (Nat.le_of_ble_eq_true rfl) rfl ?_
        refine x_getr (pc := 60) C (k := 10) (1 + 17) hO.2.1.1 rfl rfl wd_76 dX6_reduced_60 (Nat.le_of_ble_eq_true rfl) rfl ?_
        refine x_iload_n (pc := 63) C 1 dX6_reduced_63 rfl ?_
        refine x_iload_n (pc := 64) C 2 dX6_reduced_64 rfl ?_
        refine x_iload_n (pc := 65) C 3 dX6_reduced_65 rfl ?_
        obtain ⟨r_2, hc_2, h⟩ := of_bd h
        refine x_callV1 (pc := 66) C (o := (1 + 17)) [.int p1, .int p2, .int p3] [] (c_X4_reducedPart (b := b) (1 + 17) p1 p2 p3 hO.2.1.2.2.2.2.2.2.2.2.1 S _ hc_2) cw_X6_191 vi_X4_reducedPart ⟨rfl, rfl, Nat.le_of_ble_eq_true rfl, Nat.le_of_ble_eq_true rfl⟩ ⟨Nat.le_refl _, Nat.le_refl _⟩ hO.2.1.2.2.2.2.2.2.2.2.1.1 ⟨rfl, rfl, rfl⟩ rfl ⟨rfl, Nat.le_of_ble_eq_true rfl⟩ dX6_reduced_66 (fun hx_5 => ?_)
        exact x_lreturn (pc := 69) C dX6_reduced_69 (of_sp h).1 (of_sp h).2
      · replace h := of_ifp c_3 h
        refine x_ldc2 (pc := 44) C wd_379 dX6_reduced_44 ?_
        refine x_aload_n (pc := 47) C 0 dX6_reduced_47 rfl ?_
        refine x_bipush (pc := 48) C (v := (-2 : Int32)) dX6_reduced_48 rfl ?_
        obtain ⟨⟨r_3, S_2⟩, hc_3, h⟩ := of_bd h
        replace h := of_u2 h
        refine x_callV1 (pc := 50) C (o := 0) [.int (-2 : Int32)] [.long (4000000000000000000 : Int64)] (c_X6_refuse (b := b) (-2 : Int32) hO S _ _ hc_3) cw_X6_73 vi_X6_refuse ⟨rfl, rfl, Nat.le_of_ble_eq_true rfl, Nat.le_of_ble_eq_true rfl⟩ ⟨Nat.le_refl _, Nat.le_refl _⟩ hO.1 ⟨rfl, rfl, rfl⟩ rfl ⟨rfl, Nat.le_of_ble_eq_true rfl⟩ dX6_reduced_50 (fun hx_6 => ?_)
        refine x_i2l (pc := 53) C dX6_reduced_53 ?_
        refine x_lsub (pc := 54) C dX6_reduced_54 ?_
        exact x_lreturn (pc := 55) C dX6_reduced_55 (of_sp h).1 (of_sp h).2
    · replace h := of_ifp c_2 h
      refine x_ldc2 (pc := 25) C wd_379 dX6_reduced_25 ?_
      refine x_aload_n (pc := 28) C 0 dX6_reduced_28 rfl ?_
      refine x_iconst (pc := 29) C (v := (-1 : Int32)) dX6_reduced_29 rfl ?_
      obtain ⟨⟨r_4, S_3⟩, hc_4, h⟩ := of_bd h
      replace h := of_u2 h
      refine x_callV1 (pc := 30) C (o := 0) [.int (-1 : Int32)] [.long (4000000000000000000 : Int64)] (c_X6_refuse (b := b) (-1 : Int32) hO S _ _ hc_4) cw_X6_73 vi_X6_refuse ⟨rfl, rfl, Nat.le_of_ble_eq_true rfl, Nat.le_of_ble_eq_true rfl⟩ ⟨Nat.le_refl _, Nat.le_refl _⟩ hO.1 ⟨rfl, rfl, rfl⟩ rfl ⟨rfl, Nat.le_of_ble_eq_true rfl⟩ dX6_reduced_30 (fun hx_7 => ?_)
      refine x_i2l (pc := 33) C dX6_reduced_33 ?_
      refine x_lsub (pc := 34) C dX6_reduced_34 ?_
      exact x_lreturn (pc := 35) C dX6_reduced_35 (of_sp h).1 (of_sp h).2
set_option maxRecDepth 100000 in
set_option maxHeartbeats 4000000 in
theorem c_X6_meetingOfSum {l : Launch} {G : zz_G} {L : Ly} {b : Nat} (o1 : Nat) (p2 : Int32) (hO : isGu L) (h1 : isW L o1) (S : Sg) (rf : Int32) (Sf : Sg) (h : f_X6_meetingOfSum o1 p2 S = some (rf, Sf)) : Met l yX6_meetingOfSum (Cond.code yX6_meetingOfSum cX6_meetingOfSum 3 (some .int) :: zz_all) (rmz 3 74) (PC G L b S [.ref (b + 0), .ref (b + o1), .int p2]) (QC G L b Sf (some (.int rf)) True) 0 0 (fun q => b ≤ q) := by
  refine x_met [.ref (b + 0), .ref (b + o1), .int p2] (by decide +kernel) (Nat.le_of_ble_eq_true rfl) fun p e s m args below meth c C => ?_
  unfold f_X6_meetingOfSum at h
  refine x_aload_n (pc := 0) C 0 dX6_meetingOfSum_0 rfl ?_
  refine x_getr (pc := 1) C (k := 4) 130 hO.1 rfl rfl wd_153 dX6_meetingOfSum_1 (Nat.le_of_ble_eq_true rfl) rfl ?_
  refine x_iconst (pc := 4) C (v := (0 : Int32)) dX6_meetingOfSum_4 rfl ?_
  refine x_iload_n (pc := 5) C 2 dX6_meetingOfSum_5 rfl ?_
  refine x_iconst (pc := 6) C (v := (0 : Int32)) dX6_meetingOfSum_6 rfl ?_
  obtain ⟨S_1, hc_1, h⟩ := of_bd h
  refine x_callV_ (pc := 7) C (o := 130) [.int (0 : Int32), .int p2, .int (0 : Int32)] [] (c_X2_make (b := b) 130 (0 : Int32) p2 (0 : Int32) hO.2.2.2.2.1 S _ hc_1) cw_X6_150 vi_X2_make ⟨rfl, rfl, Nat.le_of_ble_eq_true rfl, Nat.le_of_ble_eq_true rfl⟩ ⟨Nat.le_refl _, Nat.le_refl _⟩ hO.2.2.2.2.1.1 ⟨rfl, rfl, rfl⟩ rfl ⟨rfl, Nat.le_of_ble_eq_true rfl⟩ dX6_meetingOfSum_7 (fun hx_1 => ?_)
  refine x_aload_n (pc := 10) C 1 dX6_meetingOfSum_10 rfl ?_
  refine x_aload_n (pc := 11) C 0 dX6_meetingOfSum_11 rfl ?_
  refine x_getr (pc := 12) C (k := 4) 130 hO.1 rfl rfl wd_153 dX6_meetingOfSum_12 (Nat.le_of_ble_eq_true rfl) rfl ?_
  refine x_aload_n (pc := 15) C 1 dX6_meetingOfSum_15 rfl ?_
  refine x_geti (pc := 16) C (k := 5) h1.1 rfl rfl wd_67 dX6_meetingOfSum_16 ⟨Nat.le_of_ble_eq_true rfl, rfl⟩ ?_
  refine x_aload_n (pc := 19) C 1 dX6_meetingOfSum_19 rfl ?_
  refine x_geti (pc := 20) C (k := 6) h1.1 rfl rfl wd_69 dX6_meetingOfSum_20 ⟨Nat.le_of_ble_eq_true rfl, rfl⟩ ?_
  obtain ⟨⟨r_1, S_2⟩, hc_2, h⟩ := of_bd h
  replace h := of_u2 h
  refine x_callV1 (pc := 23) C (o := o1) [.ref (b + 130), .int (S_1.1 o1 5), .int (S_1.1 o1 6)] [] (c_X5_meetingBy (b := b) o1 130 (S_1.1 o1 5) (S_1.1 o1 6) h1 hO.2.2.2.2.1 S_1 _ _ hc_2) cw_X6_161 vi_X5_meetingBy ⟨rfl, rfl, Nat.le_of_ble_eq_true rfl, Nat.le_of_ble_eq_true rfl⟩ ⟨Nat.le_refl _, Nat.le_refl _⟩ h1.1 ⟨rfl, rfl, rfl⟩ rfl ⟨rfl, Nat.le_of_ble_eq_true rfl⟩ dX6_meetingOfSum_23 (fun hx_2 => ?_)
  exact x_ireturn (pc := 26) C dX6_meetingOfSum_26 (of_sp h).1 (of_sp h).2
set_option maxRecDepth 100000 in
set_option maxHeartbeats 4000000 in
theorem l_X6_howMany_4 {p : Program} {l : Launch} {e : Env} {s : State} {m : MethodId} {args : Array Value} {below : List Frame} {meth : Method} {c : Code} {G : zz_G} {L : Ly} {b : Nat} {Q : State → Prop} (C : CX p G s m args meth c cX6_howMany yX6_howMany 4 (some .int)) (hO : isGu L) (v1 : Int32) : ∀ (n : Nat) (v2 : Int32) (v3 : Int32) (S : Sg) {z}, L_X6_howMany_4 v1 n v2 v3 S = some z → (∀ (v2_o : Int32) (S_o : Sg), z = (v2_o, S_o) → X p l e (rmz 4 96) s m args below meth c 0 0 Q 4 G L b S_o 33 [(2, .int v2_o)] []) → X p l e (rmz 4 96) s m args below meth c 0 0 Q 4 G L b S 4 [(0, .ref (b + 0)), (1, .int v1), (2, .int v2), (3, .int v3)] [] := by
  intro n
  induction n with
  | zero =>
    intro v2 v3 S z h
    exact of_none h
  | succ n ih =>
    intro v2 v3 S z h hx
    rw [L_X6_howMany_4] at h
    refine x_iload_n (pc := 4) C 3 dX6_howMany_4 rfl ?_
    refine x_sipush (pc := 5) C (v := (255 : Int32)) dX6_howMany_5 rfl ?_
    refine x_icmp_gt (pc := 8) C 33 dX6_howMany_8 rfl (fun c_1 => ?_) (fun c_1 => ?_)
    · replace h := of_ifp c_1 h
      exact x_sub [2] rfl (hx _ _ (of_s1 h).symm)
    · replace h := of_ifn c_1 h
      refine x_aload_n (pc := 11) C 0 dX6_howMany_11 rfl ?_
      refine x_aload_n (pc := 12) C 0 dX6_howMany_12 rfl ?_
      refine x_getr (pc := 13) C (k := 0) 1 hO.1 rfl rfl wd_149 dX6_howMany_13 (Nat.le_of_ble_eq_true rfl) rfl ?_
      refine x_iload_n (pc := 16) C 3 dX6_howMany_16 rfl ?_
      obtain ⟨⟨r_1, S_1⟩, hc_1, h⟩ := of_bd h
      replace h := of_u2 h
      refine x_callV1 (pc := 17) C (o := 0) [.ref (b + 1), .int v3] [] (c_X6_meetingOfSum (b := b) 1 v3 hO hO.2.1 S _ _ hc_1) cw_X6_172 vi_X6_meetingOfSum ⟨rfl, rfl, Nat.le_of_ble_eq_true rfl, Nat.le_of_ble_eq_true rfl⟩ ⟨Nat.le_refl _, Nat.le_refl _⟩ hO.1 ⟨rfl, rfl, rfl⟩ rfl ⟨rfl, Nat.le_of_ble_eq_true rfl⟩ dX6_howMany_17 (fun hx_1 => ?_)
      refine x_iload_n (pc := 20) C 1 dX6_howMany_20 rfl ?_
      obtain ⟨v2_1, ev2_1, h⟩ := of_lt h
      have kd_1 : X p l e (rmz 4 96) s m args below meth c 0 0 Q 4 G L b S_1 27 [(0, .ref (b + 0)), (1, .int v1), (2, .int v2_1), (3, .int v3)] [] := by
        obtain ⟨v3_1, ev3_1, h⟩ := of_lt h
        refine x_iinc (pc := 27) C (w := (1 : Int32)) 3 [(3, .int v3_1), (0, .ref (b + 0)), (1, .int v1), (2, .int v2_1)] dX6_howMany_27 rfl rfl (Nat.le_of_ble_eq_true rfl) ev3_1 rfl ?_
        refine x_goto (pc := 30) C 4 dX6_howMany_30 rfl ?_
        exact x_sub [1, 2, 3, 0] rfl (ih _ _ _ h hx)
      refine x_icmp_ne (pc := 21) C 27 dX6_howMany_21 rfl (fun c_2 => ?_) (fun c_2 => ?_)
      · refine x_sub [0, 1, 2, 3] rfl ?_
        rw [show v2_1 = v2 from (ev2_1.trans (if_neg c_2))] at kd_1
        exact kd_1
      · refine x_iinc (pc := 24) C (w := (1 : Int32)) 2 [(2, .int (v2 + (1 : Int32))), (0, .ref (b + 0)), (1, .int v1), (3, .int v3)] dX6_howMany_24 rfl rfl (Nat.le_of_ble_eq_true rfl) rfl rfl ?_
        refine x_sub [1, 2, 0, 3] rfl ?_
        rw [show v2_1 = (v2 + (1 : Int32)) from (ev2_1.trans (if_pos c_2))] at kd_1
        exact kd_1
set_option maxRecDepth 100000 in
set_option maxHeartbeats 4000000 in
theorem c_X6_howMany {l : Launch} {G : zz_G} {L : Ly} {b : Nat} (p1 : Int32) (hO : isGu L) (S : Sg) (rf : Int32) (Sf : Sg) (h : f_X6_howMany p1 S = some (rf, Sf)) : Met l yX6_howMany (Cond.code yX6_howMany cX6_howMany 4 (some .int) :: zz_all) (rmz 4 96) (PC G L b S [.ref (b + 0), .int p1]) (QC G L b Sf (some (.int rf)) True) 0 0 (fun q => b ≤ q) := by
  refine x_met [.ref (b + 0), .int p1] (by decide +kernel) (Nat.le_of_ble_eq_true rfl) fun p e s m args below meth c C => ?_
  unfold f_X6_howMany at h
  refine x_iconst (pc := 0) C (v := (0 : Int32)) dX6_howMany_0 rfl ?_
  refine x_istore_n (pc := 1) C 2 [(2, .int (0 : Int32)), (0, .ref (b + 0)), (1, .int p1)] dX6_howMany_1 rfl (Nat.le_of_ble_eq_true rfl) rfl rfl ?_
  refine x_iconst (pc := 2) C (v := (1 : Int32)) dX6_howMany_2 rfl ?_
  refine x_istore_n (pc := 3) C 3 [(3, .int (1 : Int32)), (2, .int (0 : Int32)), (0, .ref (b + 0)), (1, .int p1)] dX6_howMany_3 rfl (Nat.le_of_ble_eq_true rfl) rfl rfl ?_
  refine x_sub [2, 3, 1, 0] rfl ?_
  obtain ⟨z_hz_1, hz_1, h⟩ := of_bd h
  refine l_X6_howMany_4 C hO p1 400 _ _ _ hz_1 (fun v2_1 S_1 ez => ?_)
  subst z_hz_1
  replace h := of_u2 h
  refine x_iload_n (pc := 33) C 0 dX6_howMany_33 rfl ?_
  exact x_ireturn (pc := 34) C dX6_howMany_34 (of_sp h).1 (of_sp h).2
set_option maxRecDepth 100000 in
set_option maxHeartbeats 4000000 in
theorem l_X6_leastJoining_2 {p : Program} {l : Launch} {e : Env} {s : State} {m : MethodId} {args : Array Value} {below : List Frame} {meth : Method} {c : Code} {G : zz_G} {L : Ly} {b : Nat} (C : CX p G s m args meth c cX6_leastJoining yX6_leastJoining 2 (some .int)) (hO : isGu L) (rf : Int32) (Sf : Sg) : ∀ (n : Nat) (v1 : Int32) (S : Sg) {z}, L_X6_leastJoining_2 n v1 S = some z → (∀ q, z = .inl q → q.1 = rf ∧ q.2 = Sf) → (∀ (S_o : Sg), z = .inr S_o → X p l e (rmz 4 96) s m args below meth c 0 0 (RQ G L b Sf below args s (some (.int rf)) True) 2 G L b S_o 30 [] []) → X p l e (rmz 4 96) s m args below meth c 0 0 (RQ G L b Sf below args s (some (.int rf)) True) 2 G L b S 2 [(0, .ref (b + 0)), (1, .int v1)] [] := by
  intro n
  induction n with
  | zero =>
    intro v1 S z h
    exact of_none h
  | succ n ih =>
    intro v1 S z h hr hx
    rw [L_X6_leastJoining_2] at h
    refine x_iload_n (pc := 2) C 1 dX6_leastJoining_2 rfl ?_
    refine x_sipush (pc := 3) C (v := (255 : Int32)) dX6_leastJoining_3 rfl ?_
    refine x_icmp_gt (pc := 6) C 30 dX6_leastJoining_6 rfl (fun c_1 => ?_) (fun c_1 => ?_)
    · replace h := of_ifp c_1 h
      exact x_sub [] rfl (hx _ (of_s1 h).symm)
    · replace h := of_ifn c_1 h
      refine x_aload_n (pc := 9) C 0 dX6_leastJoining_9 rfl ?_
      refine x_aload_n (pc := 10) C 0 dX6_leastJoining_10 rfl ?_
      refine x_getr (pc := 11) C (k := 0) 1 hO.1 rfl rfl wd_149 dX6_leastJoining_11 (Nat.le_of_ble_eq_true rfl) rfl ?_
      refine x_iload_n (pc := 14) C 1 dX6_leastJoining_14 rfl ?_
      obtain ⟨⟨r_1, S_1⟩, hc_1, h⟩ := of_bd h
      replace h := of_u2 h
      refine x_callV1 (pc := 15) C (o := 0) [.ref (b + 1), .int v1] [] (c_X6_meetingOfSum (b := b) 1 v1 hO hO.2.1 S _ _ hc_1) cw_X6_172 vi_X6_meetingOfSum ⟨rfl, rfl, Nat.le_of_ble_eq_true rfl, Nat.le_of_ble_eq_true rfl⟩ ⟨Nat.le_refl _, Nat.le_refl _⟩ hO.1 ⟨rfl, rfl, rfl⟩ rfl ⟨rfl, Nat.le_of_ble_eq_true rfl⟩ dX6_leastJoining_15 (fun hx_1 => ?_)
      refine x_iconst (pc := 18) C (v := (1 : Int32)) dX6_leastJoining_18 rfl ?_
      refine x_icmp_ne (pc := 19) C 24 dX6_leastJoining_19 rfl (fun c_2 => ?_) (fun c_2 => ?_)
      · replace h := of_ifn c_2 h
        obtain ⟨v1_1, ev1_1, h⟩ := of_lt h
        refine x_iinc (pc := 24) C (w := (1 : Int32)) 1 [(1, .int v1_1), (0, .ref (b + 0))] dX6_leastJoining_24 rfl rfl (Nat.le_of_ble_eq_true rfl) ev1_1 rfl ?_
        refine x_goto (pc := 27) C 2 dX6_leastJoining_27 rfl ?_
        exact x_sub [1, 0] rfl (ih _ _ h hr hx)
      · replace h := of_ifp c_2 h
        refine x_iload_n (pc := 22) C 1 dX6_leastJoining_22 rfl ?_
        have hq := hr _ (of_s1 h).symm
        exact x_ireturn (pc := 23) C dX6_leastJoining_23 hq.1 hq.2
set_option maxRecDepth 100000 in
set_option maxHeartbeats 4000000 in
theorem c_X6_leastJoining {l : Launch} {G : zz_G} {L : Ly} {b : Nat} (hO : isGu L) (S : Sg) (rf : Int32) (Sf : Sg) (h : f_X6_leastJoining S = some (rf, Sf)) : Met l yX6_leastJoining (Cond.code yX6_leastJoining cX6_leastJoining 2 (some .int) :: zz_all) (rmz 4 96) (PC G L b S [.ref (b + 0)]) (QC G L b Sf (some (.int rf)) True) 0 0 (fun q => b ≤ q) := by
  refine x_met [.ref (b + 0)] (by decide +kernel) (Nat.le_of_ble_eq_true rfl) fun p e s m args below meth c C => ?_
  unfold f_X6_leastJoining at h
  refine x_iconst (pc := 0) C (v := (1 : Int32)) dX6_leastJoining_0 rfl ?_
  refine x_istore_n (pc := 1) C 1 [(1, .int (1 : Int32)), (0, .ref (b + 0))] dX6_leastJoining_1 rfl (Nat.le_of_ble_eq_true rfl) rfl rfl ?_
  refine x_sub [1, 0] rfl ?_
  obtain ⟨z_hz_1, hz_1, hl, hrr⟩ := of_bs h
  refine l_X6_leastJoining_2 C hO rf Sf 400 _ _ hz_1 (fun q ez => of_sp (x := q.1) (u := q.2) (hl _ ez)) (fun S_1 ez => ?_)
  replace h := hrr _ ez
  clear hl hrr
  refine x_bipush (pc := 30) C (v := (-9 : Int32)) dX6_leastJoining_30 rfl ?_
  exact x_ireturn (pc := 32) C dX6_leastJoining_32 (of_sp h).1 (of_sp h).2
set_option maxRecDepth 100000 in
set_option maxHeartbeats 4000000 in
theorem c_X6_sums {l : Launch} {G : zz_G} {L : Ly} {b : Nat} (p1 : Int32) (hO : isGu L) (S : Sg) (rf : Int32) (Sf : Sg) (h : f_X6_sums p1 S = some (rf, Sf)) : Met l yX6_sums (Cond.code yX6_sums cX6_sums 2 (some .int) :: zz_all) (rmz 5 119) (PC G L b S [.ref (b + 0), .int p1]) (QC G L b Sf (some (.int rf)) True) 0 0 (fun q => b ≤ q) := by
  refine x_met [.ref (b + 0), .int p1] (by decide +kernel) (Nat.le_of_ble_eq_true rfl) fun p e s m args below meth c C => ?_
  unfold f_X6_sums at h
  refine x_iload_n (pc := 0) C 1 dX6_sums_0 rfl ?_
  by_cases c_1 : p1 = (0 : Int32)
  · replace h := of_ifp c_1 h
    refine x_tabIn (pc := 1) C 32 dX6_sums_1 c_1 (by decide) (by decide) rfl rfl ?_
    refine x_aload_n (pc := 32) C 0 dX6_sums_32 rfl ?_
    obtain ⟨⟨r_1, S_1⟩, hc_1, h⟩ := of_bd h
    replace h := of_u2 h
    refine x_callV1 (pc := 33) C (o := 0) [] [] (c_X6_leastJoining (b := b) hO S _ _ hc_1) cw_X6_165 vi_X6_leastJoining ⟨rfl, rfl, Nat.le_of_ble_eq_true rfl, Nat.le_of_ble_eq_true rfl⟩ ⟨Nat.le_refl _, Nat.le_refl _⟩ hO.1 ⟨rfl, rfl, rfl⟩ rfl ⟨rfl, Nat.le_of_ble_eq_true rfl⟩ dX6_sums_33 (fun hx_1 => ?_)
    exact x_ireturn (pc := 36) C dX6_sums_36 (of_sp h).1 (of_sp h).2
  replace h := of_ifn c_1 h
  by_cases c_2 : p1 = (1 : Int32)
  · replace h := of_ifp c_2 h
    refine x_tabIn (pc := 1) C 37 dX6_sums_1 c_2 (by decide) (by decide) rfl rfl ?_
    refine x_aload_n (pc := 37) C 0 dX6_sums_37 rfl ?_
    refine x_iconst (pc := 38) C (v := (1 : Int32)) dX6_sums_38 rfl ?_
    obtain ⟨⟨r_2, S_2⟩, hc_2, h⟩ := of_bd h
    replace h := of_u2 h
    refine x_callV1 (pc := 39) C (o := 0) [.int (1 : Int32)] [] (c_X6_howMany (b := b) (1 : Int32) hO S _ _ hc_2) cw_X6_169 vi_X6_howMany ⟨rfl, rfl, Nat.le_of_ble_eq_true rfl, Nat.le_of_ble_eq_true rfl⟩ ⟨Nat.le_refl _, Nat.le_refl _⟩ hO.1 ⟨rfl, rfl, rfl⟩ rfl ⟨rfl, Nat.le_of_ble_eq_true rfl⟩ dX6_sums_39 (fun hx_2 => ?_)
    exact x_ireturn (pc := 42) C dX6_sums_42 (of_sp h).1 (of_sp h).2
  replace h := of_ifn c_2 h
  by_cases c_3 : p1 = (2 : Int32)
  · replace h := of_ifp c_3 h
    refine x_tabIn (pc := 1) C 43 dX6_sums_1 c_3 (by decide) (by decide) rfl rfl ?_
    refine x_aload_n (pc := 43) C 0 dX6_sums_43 rfl ?_
    refine x_iconst (pc := 44) C (v := (2 : Int32)) dX6_sums_44 rfl ?_
    obtain ⟨⟨r_3, S_3⟩, hc_3, h⟩ := of_bd h
    replace h := of_u2 h
    refine x_callV1 (pc := 45) C (o := 0) [.int (2 : Int32)] [] (c_X6_howMany (b := b) (2 : Int32) hO S _ _ hc_3) cw_X6_169 vi_X6_howMany ⟨rfl, rfl, Nat.le_of_ble_eq_true rfl, Nat.le_of_ble_eq_true rfl⟩ ⟨Nat.le_refl _, Nat.le_refl _⟩ hO.1 ⟨rfl, rfl, rfl⟩ rfl ⟨rfl, Nat.le_of_ble_eq_true rfl⟩ dX6_sums_45 (fun hx_3 => ?_)
    exact x_ireturn (pc := 48) C dX6_sums_48 (of_sp h).1 (of_sp h).2
  replace h := of_ifn c_3 h
  by_cases c_4 : p1 = (3 : Int32)
  · replace h := of_ifp c_4 h
    refine x_tabIn (pc := 1) C 49 dX6_sums_1 c_4 (by decide) (by decide) rfl rfl ?_
    refine x_aload_n (pc := 49) C 0 dX6_sums_49 rfl ?_
    refine x_iconst (pc := 50) C (v := (0 : Int32)) dX6_sums_50 rfl ?_
    obtain ⟨⟨r_4, S_4⟩, hc_4, h⟩ := of_bd h
    replace h := of_u2 h
    refine x_callV1 (pc := 51) C (o := 0) [.int (0 : Int32)] [] (c_X6_howMany (b := b) (0 : Int32) hO S _ _ hc_4) cw_X6_169 vi_X6_howMany ⟨rfl, rfl, Nat.le_of_ble_eq_true rfl, Nat.le_of_ble_eq_true rfl⟩ ⟨Nat.le_refl _, Nat.le_refl _⟩ hO.1 ⟨rfl, rfl, rfl⟩ rfl ⟨rfl, Nat.le_of_ble_eq_true rfl⟩ dX6_sums_51 (fun hx_4 => ?_)
    exact x_ireturn (pc := 54) C dX6_sums_54 (of_sp h).1 (of_sp h).2
  replace h := of_ifn c_4 h
  refine x_tabOut (pc := 1) C 55 dX6_sums_1 (by have := lv_neT c_1 (show ((0 : Int32)).toInt = 0 from rfl); have := lv_neT c_2 (show ((1 : Int32)).toInt = 1 from rfl); have := lv_neT c_3 (show ((2 : Int32)).toInt = 2 from rfl); have := lv_neT c_4 (show ((3 : Int32)).toInt = 3 from rfl); omega) rfl ?_
  refine x_aload_n (pc := 55) C 0 dX6_sums_55 rfl ?_
  refine x_bipush (pc := 56) C (v := (-2 : Int32)) dX6_sums_56 rfl ?_
  obtain ⟨⟨r_5, S_5⟩, hc_5, h⟩ := of_bd h
  replace h := of_u2 h
  refine x_callV1 (pc := 58) C (o := 0) [.int (-2 : Int32)] [] (c_X6_refuse (b := b) (-2 : Int32) hO S _ _ hc_5) cw_X6_73 vi_X6_refuse ⟨rfl, rfl, Nat.le_of_ble_eq_true rfl, Nat.le_of_ble_eq_true rfl⟩ ⟨Nat.le_refl _, Nat.le_refl _⟩ hO.1 ⟨rfl, rfl, rfl⟩ rfl ⟨rfl, Nat.le_of_ble_eq_true rfl⟩ dX6_sums_58 (fun hx_5 => ?_)
  exact x_ireturn (pc := 61) C dX6_sums_61 (of_sp h).1 (of_sp h).2
set_option maxRecDepth 100000 in
set_option maxHeartbeats 4000000 in
theorem c_X6_would {l : Launch} {G : zz_G} {L : Ly} {b : Nat} (p1 : Int32) (p2 : Int32) (p3 : Int32) (hO : isGu L) (S : Sg) (rf : Int32) (Sf : Sg) (h : f_X6_would p1 p2 p3 S = some (rf, Sf)) : Met l yX6_would (Cond.code yX6_would cX6_would 5 (some .int) :: zz_all) (rmz 3 74) (PC G L b S [.ref (b + 0), .int p1, .int p2, .int p3]) (QC G L b Sf (some (.int rf)) True) 0 0 (fun q => b ≤ q) := by
  refine x_met [.ref (b + 0), .int p1, .int p2, .int p3] (by decide +kernel) (Nat.le_of_ble_eq_true rfl) fun p e s m args below meth c C => ?_
  unfold f_X6_would at h
  refine x_iload_n (pc := 0) C 1 dX6_would_0 rfl ?_
  refine x_iload_n (pc := 1) C 2 dX6_would_1 rfl ?_
  refine x_iload_n (pc := 2) C 3 dX6_would_2 rfl ?_
  refine x_callS1 (pc := 3) C [.int p1, .int p2, .int p3] [] (c_X2_misfitOf (b := b) p1 p2 p3 S) cw_X6_146 vs_X2_misfitOf ⟨rfl, rfl, Nat.le_of_ble_eq_true rfl, Nat.le_of_ble_eq_true rfl⟩ ⟨Nat.le_refl _, Nat.le_refl _⟩ rfl ⟨rfl, Nat.le_of_ble_eq_true rfl⟩ dX6_would_3 (fun hx_1 => ?_)
  obtain ⟨v4_1, ev4_1, h⟩ := of_lt h
  refine x_istore (pc := 6) C [(4, .int v4_1), (0, .ref (b + 0)), (1, .int p1), (2, .int p2), (3, .int p3)] dX6_would_6 (Nat.le_of_ble_eq_true rfl) ev4_1 rfl ?_
  refine x_iload (pc := 8) C 0 dX6_would_8 rfl ?_
  refine x_if_eq (pc := 10) C 20 dX6_would_10 rfl (fun c_1 => ?_) (fun c_1 => ?_)
  · replace h := of_ifp c_1 h
    refine x_aload_n (pc := 20) C 1 dX6_would_20 rfl ?_
    refine x_getr (pc := 21) C (k := 4) 130 hO.1 rfl rfl wd_153 dX6_would_21 (Nat.le_of_ble_eq_true rfl) rfl ?_
    refine x_iload_n (pc := 24) C 2 dX6_would_24 rfl ?_
    refine x_iload_n (pc := 25) C 3 dX6_would_25 rfl ?_
    refine x_iload_n (pc := 26) C 4 dX6_would_26 rfl ?_
    obtain ⟨S_1, hc_1, h⟩ := of_bd h
    refine x_callV_ (pc := 27) C (o := 130) [.int p1, .int p2, .int p3] [] (c_X2_make (b := b) 130 p1 p2 p3 hO.2.2.2.2.1 S _ hc_1) cw_X6_150 vi_X2_make ⟨rfl, rfl, Nat.le_of_ble_eq_true rfl, Nat.le_of_ble_eq_true rfl⟩ ⟨Nat.le_refl _, Nat.le_refl _⟩ hO.2.2.2.2.1.1 ⟨rfl, rfl, rfl⟩ rfl ⟨rfl, Nat.le_of_ble_eq_true rfl⟩ dX6_would_27 (fun hx_2 => ?_)
    refine x_aload_n (pc := 30) C 1 dX6_would_30 rfl ?_
    refine x_getr (pc := 31) C (k := 0) 1 hO.1 rfl rfl wd_149 dX6_would_31 (Nat.le_of_ble_eq_true rfl) rfl ?_
    refine x_aload_n (pc := 34) C 1 dX6_would_34 rfl ?_
    refine x_getr (pc := 35) C (k := 4) 130 hO.1 rfl rfl wd_153 dX6_would_35 (Nat.le_of_ble_eq_true rfl) rfl ?_
    refine x_aload_n (pc := 38) C 1 dX6_would_38 rfl ?_
    refine x_getr (pc := 39) C (k := 0) 1 hO.1 rfl rfl wd_149 dX6_would_39 (Nat.le_of_ble_eq_true rfl) rfl ?_
    refine x_geti (pc := 42) C (k := 5) hO.2.1.1 rfl rfl wd_67 dX6_would_42 ⟨Nat.le_of_ble_eq_true rfl, rfl⟩ ?_
    refine x_aload_n (pc := 45) C 1 dX6_would_45 rfl ?_
    refine x_getr (pc := 46) C (k := 0) 1 hO.1 rfl rfl wd_149 dX6_would_46 (Nat.le_of_ble_eq_true rfl) rfl ?_
    refine x_geti (pc := 49) C (k := 6) hO.2.1.1 rfl rfl wd_69 dX6_would_49 ⟨Nat.le_of_ble_eq_true rfl, rfl⟩ ?_
    obtain ⟨⟨r_1, S_2⟩, hc_2, h⟩ := of_bd h
    replace h := of_u2 h
    refine x_callV1 (pc := 52) C (o := 1) [.ref (b + 130), .int (S_1.1 1 5), .int (S_1.1 1 6)] [] (c_X5_meetingBy (b := b) 1 130 (S_1.1 1 5) (S_1.1 1 6) hO.2.1 hO.2.2.2.2.1 S_1 _ _ hc_2) cw_X6_161 vi_X5_meetingBy ⟨rfl, rfl, Nat.le_of_ble_eq_true rfl, Nat.le_of_ble_eq_true rfl⟩ ⟨Nat.le_refl _, Nat.le_refl _⟩ hO.2.1.1 ⟨rfl, rfl, rfl⟩ rfl ⟨rfl, Nat.le_of_ble_eq_true rfl⟩ dX6_would_52 (fun hx_3 => ?_)
    exact x_ireturn (pc := 55) C dX6_would_55 (of_sp h).1 (of_sp h).2
  · replace h := of_ifn c_1 h
    refine x_aload_n (pc := 13) C 1 dX6_would_13 rfl ?_
    refine x_iload (pc := 14) C 0 dX6_would_14 rfl ?_
    obtain ⟨⟨r_2, S_3⟩, hc_3, h⟩ := of_bd h
    replace h := of_u2 h
    refine x_callV1 (pc := 16) C (o := 0) [.int v4_1] [] (c_X6_refuse (b := b) v4_1 hO S _ _ hc_3) cw_X6_73 vi_X6_refuse ⟨rfl, rfl, Nat.le_of_ble_eq_true rfl, Nat.le_of_ble_eq_true rfl⟩ ⟨Nat.le_refl _, Nat.le_refl _⟩ hO.1 ⟨rfl, rfl, rfl⟩ rfl ⟨rfl, Nat.le_of_ble_eq_true rfl⟩ dX6_would_16 (fun hx_4 => ?_)
    exact x_ireturn (pc := 19) C dX6_would_19 (of_sp h).1 (of_sp h).2
set_option maxRecDepth 100000 in
set_option maxHeartbeats 4000000 in
theorem l_L_law_39 {p : Program} {l : Launch} {e : Env} {s : State} {m : MethodId} {args : Array Value} {below : List Frame} {meth : Method} {c : Code} {G : zz_G} {L : Ly} {b : Nat} {Q : State → Prop} {cells slots : Nat} {mn md : String} {ret : Option FieldType} (C : CX p G s m args meth c cL_law ⟨RL, mn, md⟩ 16 ret) (ba : Nat) (Ls : Nat) (xs : Nat → Int32) (rf : Int32) (hX : SX ba Ls xs b s) (hO : isGu L) (hR : cells ≤ room_1.cells ∧ slots ≤ room_1.slots) (hE : ∀ (pc : Nat) (S : Sg), decode cL_law pc = .ok (.ireturn, 1) → X p l e room_1 s m args below meth c cells slots Q 16 G L b S pc [] [.int rf]) (v2 : Int32) (v3 : Int32) (v4 : Int32) (Sf : Sg) : ∀ (n : Nat) (v5 : Int32) (S : Sg) {z}, L_L_law_39 ba Ls xs v2 v3 v4 n v5 S = some z → (∀ q, z = .inl q → q.1 = rf ∧ q.2 = Sf) → (∀ (S_o : Sg), z = .inr S_o → X p l e room_1 s m args below meth c cells slots Q 16 G L b S_o 76 [(0, .ref ba), (1, .ref (b + 0)), (2, .int v2), (3, .int v3), (4, .int v4)] []) → X p l e room_1 s m args below meth c cells slots Q 16 G L b S 39 [(0, .ref ba), (1, .ref (b + 0)), (2, .int v2), (3, .int v3), (4, .int v4), (5, .int v5)] [] := by
  intro n
  induction n with
  | zero =>
    intro v5 S z h
    exact of_none h
  | succ n ih =>
    intro v5 S z h hr hx
    rw [L_L_law_39] at h
    refine x_iload (pc := 39) C 5 dL_law_39 rfl ?_
    refine x_iconst (pc := 41) C (v := (4 : Int32)) dL_law_41 rfl ?_
    refine x_icmp_ge (pc := 42) C 76 dL_law_42 rfl (fun c_1 => ?_) (fun c_1 => ?_)
    · replace h := of_ifn c_1 h
      exact x_sub [0, 1, 2, 3, 4] rfl (hx _ (of_s1 h).symm)
    · replace h := of_ifp c_1 h
      refine x_aload_n (pc := 45) C 1 dL_law_45 rfl ?_
      refine x_iload (pc := 46) C 5 dL_law_46 rfl ?_
      obtain ⟨⟨r_1, S_1⟩, hc_1, h⟩ := of_bd h
      replace h := of_u2 h
      refine x_callV1 (pc := 48) C (o := 0) [.int v5] [] (c_X6_rule (b := b) v5 hO S _ _ hc_1) cw_L_34 vi_X6_rule ⟨rfl, rfl, Nat.le_of_ble_eq_true rfl, Nat.le_of_ble_eq_true rfl⟩ hR hO.1 ⟨rfl, rfl, rfl⟩ rfl ⟨rfl, Nat.le_of_ble_eq_true rfl⟩ dL_law_48 (fun hx_1 => ?_)
      refine x_if_lt (pc := 51) C 68 dL_law_51 rfl (fun c_2 => ?_) (fun c_2 => ?_)
      · replace h := of_ifp c_2 h
        refine x_iconst (pc := 68) C (v := (0 : Int32)) dL_law_68 rfl ?_
        have hq := hr _ (of_s1 h).symm
        exact x_lawret (pc := 69) hE dL_law_69 hq.1
      · replace h := of_ifn c_2 h
        refine x_aload_n (pc := 54) C 1 dL_law_54 rfl ?_
        refine x_iconst (pc := 55) C (v := (0 : Int32)) dL_law_55 rfl ?_
        refine x_iconst (pc := 56) C (v := (1 : Int32)) dL_law_56 rfl ?_
        refine x_iload (pc := 57) C 4 dL_law_57 rfl ?_
        refine x_ishl (pc := 59) C dL_law_59 ?_
        refine x_iconst (pc := 60) C (v := (0 : Int32)) dL_law_60 rfl ?_
        obtain ⟨⟨r_2, S_2⟩, hc_2, h⟩ := of_bd h
        replace h := of_u2 h
        refine x_callV1 (pc := 61) C (o := 0) [.int (0 : Int32), .int (isl (1 : Int32) v4), .int (0 : Int32)] [] (c_X6_would (b := b) (0 : Int32) (isl (1 : Int32) v4) (0 : Int32) hO S_1 _ _ hc_2) cw_L_72 vi_X6_would ⟨rfl, rfl, Nat.le_of_ble_eq_true rfl, Nat.le_of_ble_eq_true rfl⟩ hR hO.1 ⟨rfl, rfl, rfl⟩ rfl ⟨rfl, Nat.le_of_ble_eq_true rfl⟩ dL_law_61 (fun hx_2 => ?_)
        refine x_iconst (pc := 64) C (v := (2 : Int32)) dL_law_64 rfl ?_
        refine x_icmp_eq (pc := 65) C 70 dL_law_65 rfl (fun c_3 => ?_) (fun c_3 => ?_)
        · replace h := of_ifp c_3 h
          obtain ⟨v5_1, ev5_1, h⟩ := of_lt h
          refine x_iinc (pc := 70) C (w := (1 : Int32)) 5 [(5, .int v5_1), (0, .ref ba), (1, .ref (b + 0)), (2, .int v2), (3, .int v3), (4, .int v4)] dL_law_70 rfl rfl (Nat.le_of_ble_eq_true rfl) ev5_1 rfl ?_
          refine x_goto (pc := 73) C 39 dL_law_73 rfl ?_
          exact x_sub [1, 2, 3, 4, 5, 0] rfl (ih _ _ h hr hx)
        · replace h := of_ifn c_3 h
          refine x_iconst (pc := 68) C (v := (0 : Int32)) dL_law_68 rfl ?_
          have hq := hr _ (of_s1 h).symm
          exact x_lawret (pc := 69) hE dL_law_69 hq.1
set_option maxRecDepth 100000 in
set_option maxHeartbeats 4000000 in
theorem l_L_law_29 {p : Program} {l : Launch} {e : Env} {s : State} {m : MethodId} {args : Array Value} {below : List Frame} {meth : Method} {c : Code} {G : zz_G} {L : Ly} {b : Nat} {Q : State → Prop} {cells slots : Nat} {mn md : String} {ret : Option FieldType} (C : CX p G s m args meth c cL_law ⟨RL, mn, md⟩ 16 ret) (ba : Nat) (Ls : Nat) (xs : Nat → Int32) (rf : Int32) (hX : SX ba Ls xs b s) (hO : isGu L) (hR : cells ≤ room_1.cells ∧ slots ≤ room_1.slots) (hE : ∀ (pc : Nat) (S : Sg), decode cL_law pc = .ok (.ireturn, 1) → X p l e room_1 s m args below meth c cells slots Q 16 G L b S pc [] [.int rf]) (v2 : Int32) (v3 : Int32) (Sf : Sg) : ∀ (n : Nat) (v4 : Int32) (S : Sg) {z}, L_L_law_29 ba Ls xs v2 v3 n v4 S = some z → (∀ q, z = .inl q → q.1 = rf ∧ q.2 = Sf) → (∀ (S_o : Sg), z = .inr S_o → X p l e room_1 s m args below meth c cells slots Q 16 G L b S_o 186 [(0, .ref ba), (1, .ref (b + 0)), (2, .int v2), (3, .int v3)] []) → X p l e room_1 s m args below meth c cells slots Q 16 G L b S 29 [(0, .ref ba), (1, .ref (b + 0)), (2, .int v2), (3, .int v3), (4, .int v4)] [] := by
  intro n
  induction n with
  | zero =>
    intro v4 S z h
    exact of_none h
  | succ n ih =>
    intro v4 S z h hr hx
    rw [L_L_law_29] at h
    refine x_iload (pc := 29) C 4 dL_law_29 rfl ?_
    refine x_bipush (pc := 31) C (v := (8 : Int32)) dL_law_31 rfl ?_
    refine x_icmp_ge (pc := 33) C 186 dL_law_33 rfl (fun c_1 => ?_) (fun c_1 => ?_)
    · replace h := of_ifn c_1 h
      exact x_sub [0, 1, 2, 3] rfl (hx _ (of_s1 h).symm)
    · replace h := of_ifp c_1 h
      refine x_iconst (pc := 36) C (v := (0 : Int32)) dL_law_36 rfl ?_
      refine x_istore (pc := 37) C [(5, .int (0 : Int32)), (0, .ref ba), (1, .ref (b + 0)), (2, .int v2), (3, .int v3), (4, .int v4)] dL_law_37 (Nat.le_of_ble_eq_true rfl) rfl rfl ?_
      refine x_sub [1, 2, 3, 4, 5, 0] rfl ?_
      obtain ⟨z_hz_1, hz_1, hl, hrr⟩ := of_bs h
      refine l_L_law_39 C ba Ls xs rf hX hO hR hE v2 v3 v4 Sf 400 _ _ hz_1 (fun q ez => hr _ (of_s1 (hl _ ez)).symm) (fun S_1 ez => ?_)
      replace h := hrr _ ez
      clear hl hrr
      refine x_aload_n (pc := 76) C 1 dL_law_76 rfl ?_
      refine x_iload (pc := 77) C 4 dL_law_77 rfl ?_
      refine x_iconst (pc := 79) C (v := (1 : Int32)) dL_law_79 rfl ?_
      obtain ⟨⟨r_1, S_2⟩, hc_1, h⟩ := of_bd h
      replace h := of_u2 h
      refine x_callV1 (pc := 80) C (o := 0) [.int v4, .int (1 : Int32)] [] (c_X6_person (b := b) v4 (1 : Int32) hO S_1 _ _ hc_1) cw_L_75 vi_X6_person ⟨rfl, rfl, Nat.le_of_ble_eq_true rfl, Nat.le_of_ble_eq_true rfl⟩ hR hO.1 ⟨rfl, rfl, rfl⟩ rfl ⟨rfl, Nat.le_of_ble_eq_true rfl⟩ dL_law_80 (fun hx_1 => ?_)
      refine x_istore (pc := 83) C [(5, .int r_1), (0, .ref ba), (1, .ref (b + 0)), (2, .int v2), (3, .int v3), (4, .int v4)] dL_law_83 (Nat.le_of_ble_eq_true rfl) rfl rfl ?_
      refine x_aload_n (pc := 85) C 2 dL_law_85 rfl ?_
      refine x_iload (pc := 86) C 5 dL_law_86 rfl ?_
      refine x_iconst (pc := 88) C (v := (0 : Int32)) dL_law_88 rfl ?_
      obtain ⟨⟨r_2, S_3⟩, hc_2, h⟩ := of_bd h
      replace h := of_u2 h
      refine x_callV1 (pc := 89) C (o := 0) [.int v4, .int (0 : Int32)] [] (c_X6_person (b := b) v4 (0 : Int32) hO S_2 _ _ hc_2) cw_L_75 vi_X6_person ⟨rfl, rfl, Nat.le_of_ble_eq_true rfl, Nat.le_of_ble_eq_true rfl⟩ hR hO.1 ⟨rfl, rfl, rfl⟩ rfl ⟨rfl, Nat.le_of_ble_eq_true rfl⟩ dL_law_89 (fun hx_2 => ?_)
      refine x_istore (pc := 92) C [(6, .int r_2), (5, .int r_1), (0, .ref ba), (1, .ref (b + 0)), (2, .int v2), (3, .int v3), (4, .int v4)] dL_law_92 (Nat.le_of_ble_eq_true rfl) rfl rfl ?_
      refine x_aload_n (pc := 94) C 3 dL_law_94 rfl ?_
      refine x_iconst (pc := 95) C (v := (0 : Int32)) dL_law_95 rfl ?_
      refine x_iconst (pc := 96) C (v := (1 : Int32)) dL_law_96 rfl ?_
      refine x_iload (pc := 97) C 6 dL_law_97 rfl ?_
      refine x_ishl (pc := 99) C dL_law_99 ?_
      refine x_iconst (pc := 100) C (v := (0 : Int32)) dL_law_100 rfl ?_
      obtain ⟨⟨r_3, S_4⟩, hc_3, h⟩ := of_bd h
      replace h := of_u2 h
      refine x_callV1 (pc := 101) C (o := 0) [.int (0 : Int32), .int (isl (1 : Int32) v4), .int (0 : Int32)] [] (c_X6_ask (b := b) (0 : Int32) (isl (1 : Int32) v4) (0 : Int32) hO S_3 _ _ hc_3) cw_L_37 vi_X6_ask ⟨rfl, rfl, Nat.le_of_ble_eq_true rfl, Nat.le_of_ble_eq_true rfl⟩ hR hO.1 ⟨rfl, rfl, rfl⟩ rfl ⟨rfl, Nat.le_of_ble_eq_true rfl⟩ dL_law_101 (fun hx_3 => ?_)
      refine x_ldc (pc := 104) C wd_507 dL_law_104 ?_
      refine x_icmp_ne (pc := 106) C 178 dL_law_106 rfl (fun c_2 => ?_) (fun c_2 => ?_)
      · replace h := of_ifn c_2 h
        refine x_iconst (pc := 178) C (v := (0 : Int32)) dL_law_178 rfl ?_
        have hq := hr _ (of_s1 h).symm
        exact x_lawret (pc := 179) hE dL_law_179 hq.1
      · replace h := of_ifp c_2 h
        refine x_aload_n (pc := 109) C 3 dL_law_109 rfl ?_
        obtain ⟨⟨r_4, S_5⟩, hc_4, h⟩ := of_bd h
        replace h := of_u2 h
        refine x_callV1 (pc := 110) C (o := 0) [] [] (c_X6_on (b := b) hO S_4 _ _ hc_4) cw_L_79 vi_X6_on ⟨rfl, rfl, Nat.le_of_ble_eq_true rfl, Nat.le_of_ble_eq_true rfl⟩ hR hO.1 ⟨rfl, rfl, rfl⟩ rfl ⟨rfl, Nat.le_of_ble_eq_true rfl⟩ dL_law_110 (fun hx_4 => ?_)
        refine x_iload_n (pc := 113) C 4 dL_law_113 rfl ?_
        refine x_icmp_ne (pc := 114) C 178 dL_law_114 rfl (fun c_3 => ?_) (fun c_3 => ?_)
        · replace h := of_ifn c_3 h
          refine x_iconst (pc := 178) C (v := (0 : Int32)) dL_law_178 rfl ?_
          have hq := hr _ (of_s1 h).symm
          exact x_lawret (pc := 179) hE dL_law_179 hq.1
        · replace h := of_ifp c_3 h
          refine x_aload_n (pc := 117) C 3 dL_law_117 rfl ?_
          refine x_iload (pc := 118) C 1 dL_law_118 rfl ?_
          refine x_iconst (pc := 120) C (v := (0 : Int32)) dL_law_120 rfl ?_
          obtain ⟨⟨r_5, S_6⟩, hc_5, h⟩ := of_bd h
          replace h := of_u2 h
          refine x_callV1 (pc := 121) C (o := 0) [.int r_1, .int (0 : Int32)] [] (c_X6_variable (b := b) r_1 (0 : Int32) hO S_5 _ _ hc_5) cw_L_48 vi_X6_variable ⟨rfl, rfl, Nat.le_of_ble_eq_true rfl, Nat.le_of_ble_eq_true rfl⟩ hR hO.1 ⟨rfl, rfl, rfl⟩ rfl ⟨rfl, Nat.le_of_ble_eq_true rfl⟩ dL_law_121 (fun hx_5 => ?_)
          refine x_iload (pc := 124) C 0 dL_law_124 rfl ?_
          refine x_icmp_ne (pc := 126) C 178 dL_law_126 rfl (fun c_4 => ?_) (fun c_4 => ?_)
          · replace h := of_ifn c_4 h
            refine x_iconst (pc := 178) C (v := (0 : Int32)) dL_law_178 rfl ?_
            have hq := hr _ (of_s1 h).symm
            exact x_lawret (pc := 179) hE dL_law_179 hq.1
          · replace h := of_ifp c_4 h
            refine x_aload_n (pc := 129) C 3 dL_law_129 rfl ?_
            refine x_iload (pc := 130) C 1 dL_law_130 rfl ?_
            refine x_iconst (pc := 132) C (v := (3 : Int32)) dL_law_132 rfl ?_
            obtain ⟨⟨r_6, S_7⟩, hc_6, h⟩ := of_bd h
            replace h := of_u2 h
            refine x_callV1 (pc := 133) C (o := 0) [.int r_1, .int (3 : Int32)] [] (c_X6_variable (b := b) r_1 (3 : Int32) hO S_6 _ _ hc_6) cw_L_48 vi_X6_variable ⟨rfl, rfl, Nat.le_of_ble_eq_true rfl, Nat.le_of_ble_eq_true rfl⟩ hR hO.1 ⟨rfl, rfl, rfl⟩ rfl ⟨rfl, Nat.le_of_ble_eq_true rfl⟩ dL_law_133 (fun hx_6 => ?_)
            refine x_iload (pc := 136) C 0 dL_law_136 rfl ?_
            refine x_icmp_gt (pc := 138) C 178 dL_law_138 rfl (fun c_5 => ?_) (fun c_5 => ?_)
            · replace h := of_ifp c_5 h
              refine x_iconst (pc := 178) C (v := (0 : Int32)) dL_law_178 rfl ?_
              have hq := hr _ (of_s1 h).symm
              exact x_lawret (pc := 179) hE dL_law_179 hq.1
            · replace h := of_ifn c_5 h
              refine x_aload_n (pc := 141) C 3 dL_law_141 rfl ?_
              refine x_iload (pc := 142) C 1 dL_law_142 rfl ?_
              refine x_iconst (pc := 144) C (v := (4 : Int32)) dL_law_144 rfl ?_
              obtain ⟨⟨r_7, S_8⟩, hc_7, h⟩ := of_bd h
              replace h := of_u2 h
              refine x_callV1 (pc := 145) C (o := 0) [.int r_1, .int (4 : Int32)] [] (c_X6_variable (b := b) r_1 (4 : Int32) hO S_7 _ _ hc_7) cw_L_48 vi_X6_variable ⟨rfl, rfl, Nat.le_of_ble_eq_true rfl, Nat.le_of_ble_eq_true rfl⟩ hR hO.1 ⟨rfl, rfl, rfl⟩ rfl ⟨rfl, Nat.le_of_ble_eq_true rfl⟩ dL_law_145 (fun hx_7 => ?_)
              refine x_iload (pc := 148) C 0 dL_law_148 rfl ?_
              refine x_icmp_lt (pc := 150) C 178 dL_law_150 rfl (fun c_6 => ?_) (fun c_6 => ?_)
              · replace h := of_ifp c_6 h
                refine x_iconst (pc := 178) C (v := (0 : Int32)) dL_law_178 rfl ?_
                have hq := hr _ (of_s1 h).symm
                exact x_lawret (pc := 179) hE dL_law_179 hq.1
              · replace h := of_ifn c_6 h
                refine x_aload_n (pc := 153) C 3 dL_law_153 rfl ?_
                refine x_iload (pc := 154) C 1 dL_law_154 rfl ?_
                refine x_iconst (pc := 156) C (v := (1 : Int32)) dL_law_156 rfl ?_
                obtain ⟨⟨r_8, S_9⟩, hc_8, h⟩ := of_bd h
                replace h := of_u2 h
                refine x_callV1 (pc := 157) C (o := 0) [.int r_1, .int (1 : Int32)] [] (c_X6_attack (b := b) r_1 (1 : Int32) hO S_8 _ _ hc_8) cw_L_82 vi_X6_attack ⟨rfl, rfl, Nat.le_of_ble_eq_true rfl, Nat.le_of_ble_eq_true rfl⟩ hR hO.1 ⟨rfl, rfl, rfl⟩ rfl ⟨rfl, Nat.le_of_ble_eq_true rfl⟩ dL_law_157 (fun hx_8 => ?_)
                refine x_iconst (pc := 160) C (v := (1 : Int32)) dL_law_160 rfl ?_
                refine x_icmp_lt (pc := 161) C 178 dL_law_161 rfl (fun c_7 => ?_) (fun c_7 => ?_)
                · replace h := of_ifp c_7 h
                  refine x_iconst (pc := 178) C (v := (0 : Int32)) dL_law_178 rfl ?_
                  have hq := hr _ (of_s1 h).symm
                  exact x_lawret (pc := 179) hE dL_law_179 hq.1
                · replace h := of_ifn c_7 h
                  refine x_aload_n (pc := 164) C 3 dL_law_164 rfl ?_
                  refine x_iload (pc := 165) C 1 dL_law_165 rfl ?_
                  refine x_iconst (pc := 167) C (v := (0 : Int32)) dL_law_167 rfl ?_
                  obtain ⟨⟨r_9, S_10⟩, hc_9, h⟩ := of_bd h
                  replace h := of_u2 h
                  refine x_callV1 (pc := 168) C (o := 0) [.int r_1, .int (0 : Int32)] [] (c_X6_attack (b := b) r_1 (0 : Int32) hO S_9 _ _ hc_9) cw_L_82 vi_X6_attack ⟨rfl, rfl, Nat.le_of_ble_eq_true rfl, Nat.le_of_ble_eq_true rfl⟩ hR hO.1 ⟨rfl, rfl, rfl⟩ rfl ⟨rfl, Nat.le_of_ble_eq_true rfl⟩ dL_law_168 (fun hx_9 => ?_)
                  refine x_iconst (pc := 171) C (v := (1 : Int32)) dL_law_171 rfl ?_
                  refine x_iload (pc := 172) C 6 dL_law_172 rfl ?_
                  refine x_ishl (pc := 174) C dL_law_174 ?_
                  refine x_icmp_le (pc := 175) C 180 dL_law_175 rfl (fun c_8 => ?_) (fun c_8 => ?_)
                  · replace h := of_ifn c_8 h
                    obtain ⟨v4_1, ev4_1, h⟩ := of_lt h
                    refine x_iinc (pc := 180) C (w := (1 : Int32)) 6 [(4, .int v4_1), (6, .int r_2), (5, .int r_1), (0, .ref ba), (1, .ref (b + 0)), (2, .int v2), (3, .int v3)] dL_law_180 rfl rfl (Nat.le_of_ble_eq_true rfl) ev4_1 rfl ?_
                    refine x_goto (pc := 183) C 29 dL_law_183 rfl ?_
                    exact x_sub [3, 4, 5, 6, 0] rfl (ih _ _ h hr hx)
                  · replace h := of_ifp c_8 h
                    refine x_iconst (pc := 178) C (v := (0 : Int32)) dL_law_178 rfl ?_
                    have hq := hr _ (of_s1 h).symm
                    exact x_lawret (pc := 179) hE dL_law_179 hq.1
set_option maxRecDepth 100000 in
set_option maxHeartbeats 4000000 in
theorem l_L_law_249 {p : Program} {l : Launch} {e : Env} {s : State} {m : MethodId} {args : Array Value} {below : List Frame} {meth : Method} {c : Code} {G : zz_G} {L : Ly} {b : Nat} {Q : State → Prop} {cells slots : Nat} {mn md : String} {ret : Option FieldType} (C : CX p G s m args meth c cL_law ⟨RL, mn, md⟩ 16 ret) (ba : Nat) (Ls : Nat) (xs : Nat → Int32) (rf : Int32) (hX : SX ba Ls xs b s) (hO : isGu L) (hR : cells ≤ room_1.cells ∧ slots ≤ room_1.slots) (hE : ∀ (pc : Nat) (S : Sg), decode cL_law pc = .ok (.ireturn, 1) → X p l e room_1 s m args below meth c cells slots Q 16 G L b S pc [] [.int rf]) (v2 : Int32) (v3 : Int32) (v4 : Int32) (v5 : Int32) (Sf : Sg) : ∀ (n : Nat) (v6 : Int32) (v7 : Int32) (v8 : Int32) (S : Sg) {z}, L_L_law_249 ba Ls xs v2 v3 v4 v5 n v6 v7 v8 S = some z → (∀ q, z = .inl q → q.1 = rf ∧ q.2 = Sf) → (∀ (v6_o : Int32) (S_o : Sg), z = .inr (v6_o, S_o) → X p l e room_1 s m args below meth c cells slots Q 16 G L b S_o 369 [(0, .ref ba), (1, .ref (b + 0)), (2, .int v2), (3, .int v3), (4, .int v4), (5, .int v5), (6, .int v6_o)] []) → X p l e room_1 s m args below meth c cells slots Q 16 G L b S 249 [(0, .ref ba), (1, .ref (b + 0)), (2, .int v2), (3, .int v3), (4, .int v4), (5, .int v5), (6, .int v6), (7, .int v7), (8, .int v8)] [] := by
  intro n
  induction n with
  | zero =>
    intro v6 v7 v8 S z h
    exact of_none h
  | succ n ih =>
    intro v6 v7 v8 S z h hr hx
    rw [L_L_law_249] at h
    refine x_iload (pc := 249) C 8 dL_law_249 rfl ?_
    refine x_iload_n (pc := 251) C 3 dL_law_251 rfl ?_
    refine x_icmp_ge (pc := 252) C 369 dL_law_252 rfl (fun c_1 => ?_) (fun c_1 => ?_)
    · replace h := of_ifn c_1 h
      exact x_sub [0, 1, 2, 3, 4, 5, 6] rfl (hx _ _ (of_s1 h).symm)
    · replace h := of_ifp c_1 h
      refine x_aload_n (pc := 255) C 1 dL_law_255 rfl ?_
      refine x_iload (pc := 256) C 5 dL_law_256 rfl ?_
      refine x_iload (pc := 258) C 8 dL_law_258 rfl ?_
      refine x_iconst (pc := 260) C (v := (0 : Int32)) dL_law_260 rfl ?_
      obtain ⟨⟨r_1, S_1⟩, hc_1, h⟩ := of_bd h
      replace h := of_u2 h
      refine x_callV1 (pc := 261) C (o := 0) [.int v5, .int v8, .int (0 : Int32)] [] (c_X6_reduced (b := b) v5 v8 (0 : Int32) hO S _ _ hc_1) cw_L_96 vi_X6_reduced ⟨rfl, rfl, Nat.le_of_ble_eq_true rfl, Nat.le_of_ble_eq_true rfl⟩ hR hO.1 ⟨rfl, rfl, rfl⟩ rfl ⟨rfl, Nat.le_of_ble_eq_true rfl⟩ dL_law_261 (fun hx_1 => ?_)
      refine x_lstore (pc := 264) C [(9, .long r_1), (0, .ref ba), (1, .ref (b + 0)), (2, .int v2), (3, .int v3), (4, .int v4), (5, .int v5), (6, .int v6), (7, .int v7), (8, .int v8)] dL_law_264 (Nat.le_of_ble_eq_true rfl) rfl rfl ?_
      refine x_lload (pc := 266) C 0 dL_law_266 rfl ?_
      refine x_lconst (pc := 268) C (v := (0 : Int64)) dL_law_268 rfl ?_
      refine x_lcmp_ne (pc := 269) C 276 dL_law_269 dL_law_270 rfl (fun c_2 => ?_) (fun c_2 => ?_)
      · replace h := of_ifn c_2 h
        refine x_iload (pc := 276) C 8 dL_law_276 rfl ?_
        obtain ⟨J_1, eJ_1, h⟩ := of_lt h
        have kJ_1 : ∀ (S_2 : Sg), J_1 S_2 = some z → X p l e room_1 s m args below meth c cells slots Q 16 G L b S_2 313 [(0, .ref ba), (1, .ref (b + 0)), (2, .int v2), (3, .int v3), (4, .int v4), (5, .int v5), (6, .int v6), (7, .int v7), (8, .int v8)] [] := by
          intro S_2 h
          replace h := of_J1 eJ_1 h
          refine x_iload (pc := 313) C 7 dL_law_313 rfl ?_
          obtain ⟨J_2, eJ_2, h⟩ := of_lt h
          have kJ_2 : ∀ (_ : Unit), J_2 () = some z → X p l e room_1 s m args below meth c cells slots Q 16 G L b S_2 329 [(0, .ref ba), (1, .ref (b + 0)), (2, .int v2), (3, .int v3), (4, .int v4), (5, .int v5), (6, .int v6), (7, .int v7), (8, .int v8)] [] := by
            intro _ h
            replace h := of_J1 eJ_2 h
            refine x_aload_n (pc := 329) C 1 dL_law_329 rfl ?_
            refine x_iload (pc := 330) C 5 dL_law_330 rfl ?_
            refine x_iload (pc := 332) C 8 dL_law_332 rfl ?_
            refine x_iconst (pc := 334) C (v := (1 : Int32)) dL_law_334 rfl ?_
            obtain ⟨⟨r_2, S_3⟩, hc_2, h⟩ := of_bd h
            replace h := of_u2 h
            refine x_callV1 (pc := 335) C (o := 0) [.int v5, .int v8, .int (1 : Int32)] [] (c_X6_reduced (b := b) v5 v8 (1 : Int32) hO S_2 _ _ hc_2) cw_L_96 vi_X6_reduced ⟨rfl, rfl, Nat.le_of_ble_eq_true rfl, Nat.le_of_ble_eq_true rfl⟩ hR hO.1 ⟨rfl, rfl, rfl⟩ rfl ⟨rfl, Nat.le_of_ble_eq_true rfl⟩ dL_law_335 (fun hx_2 => ?_)
            refine x_lconst (pc := 338) C (v := (1 : Int64)) dL_law_338 rfl ?_
            refine x_lcmp_ge (pc := 339) C 345 dL_law_339 dL_law_340 rfl (fun c_3 => ?_) (fun c_3 => ?_)
            · replace h := of_ifn c_3 h
              refine x_iload (pc := 345) C 6 dL_law_345 rfl ?_
              refine x_iload (pc := 347) C 7 dL_law_347 rfl ?_
              obtain ⟨x_1, ex_1, h⟩ := of_lt h
              have kd_1 : X p l e room_1 s m args below meth c cells slots Q 16 G L b S_3 357 [(0, .ref ba), (1, .ref (b + 0)), (2, .int v2), (3, .int v3), (4, .int v4), (5, .int v5), (8, .int v8)] [.int x_1, .int v6] := by
                refine x_iadd (pc := 357) C dL_law_357 ?_
                obtain ⟨v6_1, ev6_1, h⟩ := of_lt h
                refine x_istore (pc := 358) C [(6, .int v6_1), (0, .ref ba), (1, .ref (b + 0)), (2, .int v2), (3, .int v3), (4, .int v4), (5, .int v5), (8, .int v8)] dL_law_358 (Nat.le_of_ble_eq_true rfl) ev6_1 rfl ?_
                refine x_iconst (pc := 360) C (v := (0 : Int32)) dL_law_360 rfl ?_
                refine x_istore (pc := 361) C [(7, .int (0 : Int32)), (6, .int v6_1), (0, .ref ba), (1, .ref (b + 0)), (2, .int v2), (3, .int v3), (4, .int v4), (5, .int v5), (8, .int v8)] dL_law_361 (Nat.le_of_ble_eq_true rfl) rfl rfl ?_
                obtain ⟨v8_1, ev8_1, h⟩ := of_lt h
                refine x_iinc (pc := 363) C (w := (1 : Int32)) 8 [(8, .int v8_1), (7, .int (0 : Int32)), (6, .int v6_1), (0, .ref ba), (1, .ref (b + 0)), (2, .int v2), (3, .int v3), (4, .int v4), (5, .int v5)] dL_law_363 rfl rfl (Nat.le_of_ble_eq_true rfl) ev8_1 rfl ?_
                refine x_goto (pc := 366) C 249 dL_law_366 rfl ?_
                exact x_sub [3, 4, 5, 6, 7, 8, 2, 1, 0] rfl (ih _ _ _ _ h hr hx)
              refine x_if_eq (pc := 349) C 356 dL_law_349 rfl (fun c_4 => ?_) (fun c_4 => ?_)
              · refine x_iconst (pc := 356) C (v := (1 : Int32)) dL_law_356 rfl ?_
                refine x_sub [0, 1, 2, 3, 4, 5, 8] rfl ?_
                rw [show x_1 = (1 : Int32) from (ex_1.trans (if_pos c_4))] at kd_1
                exact kd_1
              · refine x_iconst (pc := 352) C (v := (0 : Int32)) dL_law_352 rfl ?_
                refine x_goto (pc := 353) C 357 dL_law_353 rfl ?_
                refine x_sub [0, 1, 2, 3, 4, 5, 8] rfl ?_
                rw [show x_1 = (0 : Int32) from (ex_1.trans (if_neg c_4))] at kd_1
                exact kd_1
            · replace h := of_ifp c_3 h
              refine x_iconst (pc := 343) C (v := (0 : Int32)) dL_law_343 rfl ?_
              have hq := hr _ (of_s1 h).symm
              exact x_lawret (pc := 344) hE dL_law_344 hq.1
          refine x_if_ne (pc := 315) C 329 dL_law_315 rfl (fun c_5 => ?_) (fun c_5 => ?_)
          · replace h := of_ifn c_5 h
            exact x_sub [0, 1, 2, 3, 4, 5, 6, 7, 8] rfl (kJ_2 () h)
          · replace h := of_ifp c_5 h
            refine x_iload (pc := 318) C 4 dL_law_318 rfl ?_
            refine x_iload (pc := 320) C 8 dL_law_320 rfl ?_
            refine x_ishr (pc := 322) C dL_law_322 ?_
            refine x_iconst (pc := 323) C (v := (1 : Int32)) dL_law_323 rfl ?_
            refine x_iand (pc := 324) C dL_law_324 ?_
            refine x_iconst (pc := 325) C (v := (1 : Int32)) dL_law_325 rfl ?_
            refine x_icmp_eq (pc := 326) C 343 dL_law_326 rfl (fun c_6 => ?_) (fun c_6 => ?_)
            · replace h := of_ifp c_6 h
              refine x_iconst (pc := 343) C (v := (0 : Int32)) dL_law_343 rfl ?_
              have hq := hr _ (of_s1 h).symm
              exact x_lawret (pc := 344) hE dL_law_344 hq.1
            · replace h := of_ifn c_6 h
              exact x_sub [0, 1, 2, 3, 4, 5, 6, 7, 8] rfl (kJ_2 () h)
        refine x_if_eq (pc := 278) C 313 dL_law_278 rfl (fun c_7 => ?_) (fun c_7 => ?_)
        · replace h := of_ifp c_7 h
          exact x_sub [1, 2, 3, 4, 5, 6, 7, 8, 9] rfl (kJ_1 _ h)
        · replace h := of_ifn c_7 h
          refine x_iload (pc := 281) C 5 dL_law_281 rfl ?_
          refine x_iload (pc := 283) C 9 dL_law_283 rfl ?_
          refine x_ishr (pc := 285) C dL_law_285 ?_
          refine x_iconst (pc := 286) C (v := (1 : Int32)) dL_law_286 rfl ?_
          refine x_iand (pc := 287) C dL_law_287 ?_
          refine x_iconst (pc := 288) C (v := (1 : Int32)) dL_law_288 rfl ?_
          refine x_icmp_ne (pc := 289) C 343 dL_law_289 rfl (fun c_8 => ?_) (fun c_8 => ?_)
          · replace h := of_ifn c_8 h
            refine x_iconst (pc := 343) C (v := (0 : Int32)) dL_law_343 rfl ?_
            have hq := hr _ (of_s1 h).symm
            exact x_lawret (pc := 344) hE dL_law_344 hq.1
          · replace h := of_ifp c_8 h
            refine x_lload (pc := 292) C 0 dL_law_292 rfl ?_
            refine x_lconst (pc := 294) C (v := (1 : Int64)) dL_law_294 rfl ?_
            refine x_lcmp_ne (pc := 295) C 343 dL_law_295 dL_law_296 rfl (fun c_9 => ?_) (fun c_9 => ?_)
            · replace h := of_ifn c_9 h
              refine x_iconst (pc := 343) C (v := (0 : Int32)) dL_law_343 rfl ?_
              have hq := hr _ (of_s1 h).symm
              exact x_lawret (pc := 344) hE dL_law_344 hq.1
            · replace h := of_ifp c_9 h
              refine x_aload_n (pc := 299) C 2 dL_law_299 rfl ?_
              refine x_iload (pc := 300) C 6 dL_law_300 rfl ?_
              refine x_iload (pc := 302) C 9 dL_law_302 rfl ?_
              refine x_iconst (pc := 304) C (v := (1 : Int32)) dL_law_304 rfl ?_
              obtain ⟨⟨r_3, S_4⟩, hc_3, h⟩ := of_bd h
              replace h := of_u2 h
              refine x_callV1 (pc := 305) C (o := 0) [.int v5, .int v8, .int (1 : Int32)] [] (c_X6_reduced (b := b) v5 v8 (1 : Int32) hO S_1 _ _ hc_3) cw_L_96 vi_X6_reduced ⟨rfl, rfl, Nat.le_of_ble_eq_true rfl, Nat.le_of_ble_eq_true rfl⟩ hR hO.1 ⟨rfl, rfl, rfl⟩ rfl ⟨rfl, Nat.le_of_ble_eq_true rfl⟩ dL_law_305 (fun hx_3 => ?_)
              refine x_lconst (pc := 308) C (v := (1 : Int64)) dL_law_308 rfl ?_
              refine x_lcmp_ne (pc := 309) C 343 dL_law_309 dL_law_310 rfl (fun c_10 => ?_) (fun c_10 => ?_)
              · replace h := of_ifn c_10 h
                refine x_iconst (pc := 343) C (v := (0 : Int32)) dL_law_343 rfl ?_
                have hq := hr _ (of_s1 h).symm
                exact x_lawret (pc := 344) hE dL_law_344 hq.1
              · replace h := of_ifp c_10 h
                exact x_sub [1, 2, 3, 4, 5, 6, 7, 8, 9] rfl (kJ_1 _ h)
      · replace h := of_ifp c_2 h
        refine x_goto (pc := 273) C 363 dL_law_273 rfl ?_
        obtain ⟨v8_2, ev8_2, h⟩ := of_lt h
        refine x_iinc (pc := 363) C (w := (1 : Int32)) 9 [(8, .int v8_2), (9, .long r_1), (0, .ref ba), (1, .ref (b + 0)), (2, .int v2), (3, .int v3), (4, .int v4), (5, .int v5), (6, .int v6), (7, .int v7)] dL_law_363 rfl rfl (Nat.le_of_ble_eq_true rfl) ev8_2 rfl ?_
        refine x_goto (pc := 366) C 249 dL_law_366 rfl ?_
        exact x_sub [2, 3, 4, 5, 6, 7, 8, 9, 0] rfl (ih _ _ _ _ h hr hx)
set_option maxRecDepth 100000 in
set_option maxHeartbeats 4000000 in
theorem l_L_law_234 {p : Program} {l : Launch} {e : Env} {s : State} {m : MethodId} {args : Array Value} {below : List Frame} {meth : Method} {c : Code} {G : zz_G} {L : Ly} {b : Nat} {Q : State → Prop} {cells slots : Nat} {mn md : String} {ret : Option FieldType} (C : CX p G s m args meth c cL_law ⟨RL, mn, md⟩ 16 ret) (ba : Nat) (Ls : Nat) (xs : Nat → Int32) (rf : Int32) (hX : SX ba Ls xs b s) (hO : isGu L) (hR : cells ≤ room_1.cells ∧ slots ≤ room_1.slots) (hE : ∀ (pc : Nat) (S : Sg), decode cL_law pc = .ok (.ireturn, 1) → X p l e room_1 s m args below meth c cells slots Q 16 G L b S pc [] [.int rf]) (v2 : Int32) (v3 : Int32) (v4 : Int32) (Sf : Sg) : ∀ (n : Nat) (v5 : Int32) (S : Sg) {z}, L_L_law_234 ba Ls xs v2 v3 v4 n v5 S = some z → (∀ q, z = .inl q → q.1 = rf ∧ q.2 = Sf) → (∀ (S_o : Sg), z = .inr S_o → X p l e room_1 s m args below meth c cells slots Q 16 G L b S_o 382 [(0, .ref ba), (1, .ref (b + 0)), (2, .int v2), (3, .int v3), (4, .int v4)] []) → X p l e room_1 s m args below meth c cells slots Q 16 G L b S 234 [(0, .ref ba), (1, .ref (b + 0)), (2, .int v2), (3, .int v3), (4, .int v4), (5, .int v5)] [] := by
  intro n
  induction n with
  | zero =>
    intro v5 S z h
    exact of_none h
  | succ n ih =>
    intro v5 S z h hr hx
    rw [L_L_law_234] at h
    refine x_iload (pc := 234) C 5 dL_law_234 rfl ?_
    refine x_iload_n (pc := 236) C 2 dL_law_236 rfl ?_
    refine x_icmp_ge (pc := 237) C 382 dL_law_237 rfl (fun c_1 => ?_) (fun c_1 => ?_)
    · replace h := of_ifn c_1 h
      exact x_sub [0, 1, 2, 3, 4] rfl (hx _ (of_s1 h).symm)
    · replace h := of_ifp c_1 h
      refine x_iconst (pc := 240) C (v := (0 : Int32)) dL_law_240 rfl ?_
      refine x_istore (pc := 241) C [(6, .int (0 : Int32)), (0, .ref ba), (1, .ref (b + 0)), (2, .int v2), (3, .int v3), (4, .int v4), (5, .int v5)] dL_law_241 (Nat.le_of_ble_eq_true rfl) rfl rfl ?_
      refine x_iconst (pc := 243) C (v := (1 : Int32)) dL_law_243 rfl ?_
      refine x_istore (pc := 244) C [(7, .int (1 : Int32)), (6, .int (0 : Int32)), (0, .ref ba), (1, .ref (b + 0)), (2, .int v2), (3, .int v3), (4, .int v4), (5, .int v5)] dL_law_244 (Nat.le_of_ble_eq_true rfl) rfl rfl ?_
      refine x_iconst (pc := 246) C (v := (0 : Int32)) dL_law_246 rfl ?_
      refine x_istore (pc := 247) C [(8, .int (0 : Int32)), (7, .int (1 : Int32)), (6, .int (0 : Int32)), (0, .ref ba), (1, .ref (b + 0)), (2, .int v2), (3, .int v3), (4, .int v4), (5, .int v5)] dL_law_247 (Nat.le_of_ble_eq_true rfl) rfl rfl ?_
      refine x_sub [3, 4, 5, 6, 7, 8, 2, 1, 0] rfl ?_
      obtain ⟨z_hz_1, hz_1, hl, hrr⟩ := of_bs h
      refine l_L_law_249 C ba Ls xs rf hX hO hR hE v2 v3 v4 v5 Sf 400 _ _ _ _ hz_1 (fun q ez => hr _ (of_s1 (hl _ ez)).symm) (fun v6_1 S_1 ez => ?_)
      replace h := hrr _ ez
      clear hl hrr
      replace h := of_u2 h
      refine x_iload (pc := 369) C 6 dL_law_369 rfl ?_
      refine x_if_ne (pc := 371) C 376 dL_law_371 rfl (fun c_2 => ?_) (fun c_2 => ?_)
      · replace h := of_ifn c_2 h
        obtain ⟨v5_1, ev5_1, h⟩ := of_lt h
        refine x_iinc (pc := 376) C (w := (1 : Int32)) 5 [(5, .int v5_1), (0, .ref ba), (1, .ref (b + 0)), (2, .int v2), (3, .int v3), (4, .int v4), (6, .int v6_1)] dL_law_376 rfl rfl (Nat.le_of_ble_eq_true rfl) ev5_1 rfl ?_
        refine x_goto (pc := 379) C 234 dL_law_379 rfl ?_
        exact x_sub [1, 2, 3, 4, 5, 0] rfl (ih _ _ h hr hx)
      · replace h := of_ifp c_2 h
        refine x_iconst (pc := 374) C (v := (0 : Int32)) dL_law_374 rfl ?_
        have hq := hr _ (of_s1 h).symm
        exact x_lawret (pc := 375) hE dL_law_375 hq.1
set_option maxRecDepth 100000 in
set_option maxHeartbeats 4000000 in
theorem l_L_law_501 {p : Program} {l : Launch} {e : Env} {s : State} {m : MethodId} {args : Array Value} {below : List Frame} {meth : Method} {c : Code} {G : zz_G} {L : Ly} {b : Nat} {Q : State → Prop} {cells slots : Nat} {mn md : String} {ret : Option FieldType} (C : CX p G s m args meth c cL_law ⟨RL, mn, md⟩ 16 ret) (ba : Nat) (Ls : Nat) (xs : Nat → Int32) (rf : Int32) (hX : SX ba Ls xs b s) (hO : isGu L) (hR : cells ≤ room_1.cells ∧ slots ≤ room_1.slots) (hE : ∀ (pc : Nat) (S : Sg), decode cL_law pc = .ok (.ireturn, 1) → X p l e room_1 s m args below meth c cells slots Q 16 G L b S pc [] [.int rf]) (v2 : Int32) (v3 : Int32) (v4 : Int32) (v5 : Int32) (v7 : Int32) (v8 : Int32) (v9 : Int32) (v10 : Int32) (v11 : Int32) : ∀ (n : Nat) (v12 : Int32) (v13 : Int32) (S : Sg) {z}, L_L_law_501 ba Ls xs v2 v3 v4 v5 v7 v8 v9 v10 v11 n v12 v13 S = some z → (∀ (v12_o : Int32) (S_o : Sg), z = (v12_o, S_o) → X p l e room_1 s m args below meth c cells slots Q 16 G L b S_o 575 [(0, .ref ba), (1, .ref (b + 0)), (2, .int v2), (3, .int v3), (4, .int v4), (5, .int v5), (7, .int v7), (8, .int v8), (9, .int v9), (10, .int v10), (11, .int v11), (12, .int v12_o)] []) → X p l e room_1 s m args below meth c cells slots Q 16 G L b S 501 [(0, .ref ba), (1, .ref (b + 0)), (2, .int v2), (3, .int v3), (4, .int v4), (5, .int v5), (7, .int v7), (8, .int v8), (9, .int v9), (10, .int v10), (11, .int v11), (12, .int v12), (13, .int v13)] [] := by
  intro n
  induction n with
  | zero =>
    intro v12 v13 S z h
    exact of_none h
  | succ n ih =>
    intro v12 v13 S z h hx
    rw [L_L_law_501] at h
    refine x_iload (pc := 501) C 12 dL_law_501 rfl ?_
    refine x_bipush (pc := 503) C (v := (8 : Int32)) dL_law_503 rfl ?_
    refine x_icmp_ge (pc := 505) C 575 dL_law_505 rfl (fun c_1 => ?_) (fun c_1 => ?_)
    · replace h := of_ifn c_1 h
      exact x_sub [0, 1, 2, 3, 4, 5, 6, 7, 8, 9, 10, 11] rfl (hx _ _ (of_s1 h).symm)
    · replace h := of_ifp c_1 h
      refine x_iload (pc := 508) C 11 dL_law_508 rfl ?_
      refine x_aload_n (pc := 510) C 1 dL_law_510 rfl ?_
      refine x_iload (pc := 511) C 12 dL_law_511 rfl ?_
      refine x_iconst (pc := 513) C (v := (0 : Int32)) dL_law_513 rfl ?_
      obtain ⟨⟨r_1, S_1⟩, hc_1, h⟩ := of_bd h
      replace h := of_u2 h
      refine x_callV1 (pc := 514) C (o := 0) [.int v13, .int (0 : Int32)] [.int v12] (c_X6_person (b := b) v13 (0 : Int32) hO S _ _ hc_1) cw_L_75 vi_X6_person ⟨rfl, rfl, Nat.le_of_ble_eq_true rfl, Nat.le_of_ble_eq_true rfl⟩ hR hO.1 ⟨rfl, rfl, rfl⟩ rfl ⟨rfl, Nat.le_of_ble_eq_true rfl⟩ dL_law_514 (fun hx_1 => ?_)
      refine x_iload (pc := 517) C 7 dL_law_517 rfl ?_
      refine x_iconst (pc := 519) C (v := (1 : Int32)) dL_law_519 rfl ?_
      refine x_icmp_ne (pc := 520) C 541 dL_law_520 rfl (fun c_2 => ?_) (fun c_2 => ?_)
      · replace h := of_ifn c_2 h
        refine x_iload (pc := 541) C 6 dL_law_541 rfl ?_
        refine x_iload (pc := 543) C 12 dL_law_543 rfl ?_
        refine x_ishr (pc := 545) C dL_law_545 ?_
        refine x_iconst (pc := 546) C (v := (1 : Int32)) dL_law_546 rfl ?_
        refine x_iand (pc := 547) C dL_law_547 ?_
        refine x_iload (pc := 548) C 7 dL_law_548 rfl ?_
        refine x_if_ne (pc := 550) C 557 dL_law_550 rfl (fun c_3 => ?_) (fun c_3 => ?_)
        · replace h := of_ifn c_3 h
          refine x_iload (pc := 557) C 12 dL_law_557 rfl ?_
          refine x_iload (pc := 559) C 8 dL_law_559 rfl ?_
          obtain ⟨g_1, h⟩ := of_gd h
          refine x_irem (pc := 561) C dL_law_561 g_1 ?_
          refine x_iconst (pc := 562) C (v := (1 : Int32)) dL_law_562 rfl ?_
          refine x_iadd (pc := 563) C dL_law_563 ?_
          refine x_imul (pc := 564) C dL_law_564 ?_
          refine x_imul (pc := 565) C dL_law_565 ?_
          refine x_iadd (pc := 566) C dL_law_566 ?_
          obtain ⟨v12_1, ev12_1, h⟩ := of_lt h
          refine x_istore (pc := 567) C [(12, .int v12_1), (0, .ref ba), (1, .ref (b + 0)), (2, .int v2), (3, .int v3), (4, .int v4), (5, .int v5), (7, .int v7), (8, .int v8), (9, .int v9), (10, .int v10), (11, .int v11), (13, .int v13)] dL_law_567 (Nat.le_of_ble_eq_true rfl) ev12_1 rfl ?_
          obtain ⟨v13_1, ev13_1, h⟩ := of_lt h
          refine x_iinc (pc := 569) C (w := (1 : Int32)) 12 [(13, .int v13_1), (12, .int v12_1), (0, .ref ba), (1, .ref (b + 0)), (2, .int v2), (3, .int v3), (4, .int v4), (5, .int v5), (7, .int v7), (8, .int v8), (9, .int v9), (10, .int v10), (11, .int v11)] dL_law_569 rfl rfl (Nat.le_of_ble_eq_true rfl) ev13_1 rfl ?_
          refine x_goto (pc := 572) C 501 dL_law_572 rfl ?_
          exact x_sub [2, 3, 4, 5, 6, 7, 8, 9, 10, 11, 12, 1, 0] rfl (ih _ _ _ h hx)
        · replace h := of_ifp c_3 h
          refine x_iconst (pc := 553) C (v := (1 : Int32)) dL_law_553 rfl ?_
          refine x_goto (pc := 554) C 564 dL_law_554 rfl ?_
          refine x_imul (pc := 564) C dL_law_564 ?_
          refine x_imul (pc := 565) C dL_law_565 ?_
          refine x_iadd (pc := 566) C dL_law_566 ?_
          obtain ⟨v12_2, ev12_2, h⟩ := of_lt h
          refine x_istore (pc := 567) C [(12, .int v12_2), (0, .ref ba), (1, .ref (b + 0)), (2, .int v2), (3, .int v3), (4, .int v4), (5, .int v5), (7, .int v7), (8, .int v8), (9, .int v9), (10, .int v10), (11, .int v11), (13, .int v13)] dL_law_567 (Nat.le_of_ble_eq_true rfl) ev12_2 rfl ?_
          obtain ⟨v13_2, ev13_2, h⟩ := of_lt h
          refine x_iinc (pc := 569) C (w := (1 : Int32)) 12 [(13, .int v13_2), (12, .int v12_2), (0, .ref ba), (1, .ref (b + 0)), (2, .int v2), (3, .int v3), (4, .int v4), (5, .int v5), (7, .int v7), (8, .int v8), (9, .int v9), (10, .int v10), (11, .int v11)] dL_law_569 rfl rfl (Nat.le_of_ble_eq_true rfl) ev13_2 rfl ?_
          refine x_goto (pc := 572) C 501 dL_law_572 rfl ?_
          exact x_sub [2, 3, 4, 5, 6, 7, 8, 9, 10, 11, 12, 1, 0] rfl (ih _ _ _ h hx)
      · replace h := of_ifp c_2 h
        refine x_iload (pc := 523) C 6 dL_law_523 rfl ?_
        refine x_iload (pc := 525) C 12 dL_law_525 rfl ?_
        refine x_ishr (pc := 527) C dL_law_527 ?_
        refine x_iconst (pc := 528) C (v := (1 : Int32)) dL_law_528 rfl ?_
        refine x_iand (pc := 529) C dL_law_529 ?_
        refine x_iload (pc := 530) C 8 dL_law_530 rfl ?_
        refine x_iload (pc := 532) C 12 dL_law_532 rfl ?_
        refine x_ishr (pc := 534) C dL_law_534 ?_
        refine x_iconst (pc := 535) C (v := (1 : Int32)) dL_law_535 rfl ?_
        refine x_iand (pc := 536) C dL_law_536 ?_
        refine x_isub (pc := 537) C dL_law_537 ?_
        refine x_goto (pc := 538) C 565 dL_law_538 rfl ?_
        refine x_imul (pc := 565) C dL_law_565 ?_
        refine x_iadd (pc := 566) C dL_law_566 ?_
        obtain ⟨v12_3, ev12_3, h⟩ := of_lt h
        refine x_istore (pc := 567) C [(12, .int v12_3), (0, .ref ba), (1, .ref (b + 0)), (2, .int v2), (3, .int v3), (4, .int v4), (5, .int v5), (7, .int v7), (8, .int v8), (9, .int v9), (10, .int v10), (11, .int v11), (13, .int v13)] dL_law_567 (Nat.le_of_ble_eq_true rfl) ev12_3 rfl ?_
        obtain ⟨v13_3, ev13_3, h⟩ := of_lt h
        refine x_iinc (pc := 569) C (w := (1 : Int32)) 12 [(13, .int v13_3), (12, .int v12_3), (0, .ref ba), (1, .ref (b + 0)), (2, .int v2), (3, .int v3), (4, .int v4), (5, .int v5), (7, .int v7), (8, .int v8), (9, .int v9), (10, .int v10), (11, .int v11)] dL_law_569 rfl rfl (Nat.le_of_ble_eq_true rfl) ev13_3 rfl ?_
        refine x_goto (pc := 572) C 501 dL_law_572 rfl ?_
        exact x_sub [2, 3, 4, 5, 6, 7, 8, 9, 10, 11, 12, 1, 0] rfl (ih _ _ _ h hx)
set_option maxRecDepth 100000 in
set_option maxHeartbeats 4000000 in
theorem l_L_law_693 {p : Program} {l : Launch} {e : Env} {s : State} {m : MethodId} {args : Array Value} {below : List Frame} {meth : Method} {c : Code} {G : zz_G} {L : Ly} {b : Nat} {Q : State → Prop} {cells slots : Nat} {mn md : String} {ret : Option FieldType} (C : CX p G s m args meth c cL_law ⟨RL, mn, md⟩ 16 ret) (ba : Nat) (Ls : Nat) (xs : Nat → Int32) (rf : Int32) (hX : SX ba Ls xs b s) (hO : isGu L) (hR : cells ≤ room_1.cells ∧ slots ≤ room_1.slots) (hE : ∀ (pc : Nat) (S : Sg), decode cL_law pc = .ok (.ireturn, 1) → X p l e room_1 s m args below meth c cells slots Q 16 G L b S pc [] [.int rf]) (v2 : Int32) (v3 : Int32) (v4 : Int32) (v5 : Int32) (v8 : Int32) (v10 : Int32) (v14 : Int32) (Sf : Sg) : ∀ (n : Nat) (v15 : Int32) (S : Sg) {z}, L_L_law_693 ba Ls xs v2 v3 v4 v5 v8 v10 v14 n v15 S = some z → (∀ q, z = .inl q → q.1 = rf ∧ q.2 = Sf) → (∀ (S_o : Sg), z = .inr S_o → X p l e room_1 s m args below meth c cells slots Q 16 G L b S_o 722 [(0, .ref ba), (1, .ref (b + 0)), (2, .int v2), (3, .int v3), (4, .int v4), (5, .int v5), (8, .int v8), (10, .int v10), (14, .int v14)] []) → X p l e room_1 s m args below meth c cells slots Q 16 G L b S 693 [(0, .ref ba), (1, .ref (b + 0)), (2, .int v2), (3, .int v3), (4, .int v4), (5, .int v5), (8, .int v8), (10, .int v10), (14, .int v14), (15, .int v15)] [] := by
  intro n
  induction n with
  | zero =>
    intro v15 S z h
    exact of_none h
  | succ n ih =>
    intro v15 S z h hr hx
    rw [L_L_law_693] at h
    refine x_iload (pc := 693) C 9 dL_law_693 rfl ?_
    refine x_bipush (pc := 695) C (v := (8 : Int32)) dL_law_695 rfl ?_
    refine x_icmp_ge (pc := 697) C 722 dL_law_697 rfl (fun c_1 => ?_) (fun c_1 => ?_)
    · replace h := of_ifn c_1 h
      exact x_sub [0, 1, 2, 3, 4, 5, 6, 7, 8] rfl (hx _ (of_s1 h).symm)
    · replace h := of_ifp c_1 h
      refine x_aload_n (pc := 700) C 1 dL_law_700 rfl ?_
      refine x_iconst (pc := 701) C (v := (0 : Int32)) dL_law_701 rfl ?_
      refine x_iconst (pc := 702) C (v := (1 : Int32)) dL_law_702 rfl ?_
      refine x_iload (pc := 703) C 9 dL_law_703 rfl ?_
      refine x_ishl (pc := 705) C dL_law_705 ?_
      refine x_iconst (pc := 706) C (v := (0 : Int32)) dL_law_706 rfl ?_
      obtain ⟨⟨r_1, S_1⟩, hc_1, h⟩ := of_bd h
      replace h := of_u2 h
      refine x_callV1 (pc := 707) C (o := 0) [.int (0 : Int32), .int (isl (1 : Int32) v15), .int (0 : Int32)] [] (c_X6_would (b := b) (0 : Int32) (isl (1 : Int32) v15) (0 : Int32) hO S _ _ hc_1) cw_L_72 vi_X6_would ⟨rfl, rfl, Nat.le_of_ble_eq_true rfl, Nat.le_of_ble_eq_true rfl⟩ hR hO.1 ⟨rfl, rfl, rfl⟩ rfl ⟨rfl, Nat.le_of_ble_eq_true rfl⟩ dL_law_707 (fun hx_1 => ?_)
      refine x_iconst (pc := 710) C (v := (2 : Int32)) dL_law_710 rfl ?_
      refine x_icmp_eq (pc := 711) C 716 dL_law_711 rfl (fun c_2 => ?_) (fun c_2 => ?_)
      · replace h := of_ifp c_2 h
        obtain ⟨v15_1, ev15_1, h⟩ := of_lt h
        refine x_iinc (pc := 716) C (w := (1 : Int32)) 9 [(15, .int v15_1), (0, .ref ba), (1, .ref (b + 0)), (2, .int v2), (3, .int v3), (4, .int v4), (5, .int v5), (8, .int v8), (10, .int v10), (14, .int v14)] dL_law_716 rfl rfl (Nat.le_of_ble_eq_true rfl) ev15_1 rfl ?_
        refine x_goto (pc := 719) C 693 dL_law_719 rfl ?_
        exact x_sub [1, 2, 3, 4, 5, 6, 7, 8, 9, 0] rfl (ih _ _ h hr hx)
      · replace h := of_ifn c_2 h
        refine x_iconst (pc := 714) C (v := (0 : Int32)) dL_law_714 rfl ?_
        have hq := hr _ (of_s1 h).symm
        exact x_lawret (pc := 715) hE dL_law_715 hq.1
set_option maxRecDepth 100000 in
set_option maxHeartbeats 4000000 in
theorem l_L_law_385 {p : Program} {l : Launch} {e : Env} {s : State} {m : MethodId} {args : Array Value} {below : List Frame} {meth : Method} {c : Code} {G : zz_G} {L : Ly} {b : Nat} {Q : State → Prop} {cells slots : Nat} {mn md : String} {ret : Option FieldType} (C : CX p G s m args meth c cL_law ⟨RL, mn, md⟩ 16 ret) (ba : Nat) (Ls : Nat) (xs : Nat → Int32) (rf : Int32) (hX : SX ba Ls xs b s) (hO : isGu L) (hR : cells ≤ room_1.cells ∧ slots ≤ room_1.slots) (hE : ∀ (pc : Nat) (S : Sg), decode cL_law pc = .ok (.ireturn, 1) → X p l e room_1 s m args below meth c cells slots Q 16 G L b S pc [] [.int rf]) (v2 : Int32) (v3 : Int32) (v4 : Int32) (Sf : Sg) : ∀ (n : Nat) (v5 : Int32) (S : Sg) {z}, L_L_law_385 ba Ls xs v2 v3 v4 n v5 S = some z → (∀ q, z = .inl q → q.1 = rf ∧ q.2 = Sf) → (∀ (S_o : Sg), z = .inr S_o → X p l e room_1 s m args below meth c cells slots Q 16 G L b S_o 797 [(1, .ref (b + 0)), (2, .int v2), (3, .int v3), (4, .int v4)] []) → X p l e room_1 s m args below meth c cells slots Q 16 G L b S 385 [(0, .ref ba), (1, .ref (b + 0)), (2, .int v2), (3, .int v3), (4, .int v4), (5, .int v5)] [] := by
  intro n
  induction n with
  | zero =>
    intro v5 S z h
    exact of_none h
  | succ n ih =>
    intro v5 S z h hr hx
    rw [L_L_law_385] at h
    refine x_iload (pc := 385) C 5 dL_law_385 rfl ?_
    refine x_bipush (pc := 387) C (v := (6 : Int32)) dL_law_387 rfl ?_
    refine x_icmp_ge (pc := 389) C 797 dL_law_389 rfl (fun c_1 => ?_) (fun c_1 => ?_)
    · replace h := of_ifn c_1 h
      exact x_sub [1, 2, 3, 4] rfl (hx _ (of_s1 h).symm)
    · replace h := of_ifp c_1 h
      refine x_aload_n (pc := 392) C 0 dL_law_392 rfl ?_
      refine x_bipush (pc := 393) C (v := (26 : Int32)) dL_law_393 rfl ?_
      refine x_iload (pc := 395) C 5 dL_law_395 rfl ?_
      refine x_iadd (pc := 397) C dL_law_397 ?_
      obtain ⟨r_1, hc_1, h⟩ := of_bd h
      refine x_callSX1 (pc := 398) C hX [.ref ba, .int ((26 : Int32) + v5)] [] (c_L_cell (b := b) ba Ls xs ((26 : Int32) + v5) S _ hc_1) cw_L_18 vs_L_cell ⟨rfl, rfl, Nat.le_of_ble_eq_true rfl, Nat.le_of_ble_eq_true rfl⟩ hR rfl ⟨rfl, Nat.le_of_ble_eq_true rfl⟩ dL_law_398 (fun hx_1 => ?_)
      refine x_istore (pc := 401) C [(6, .int r_1), (0, .ref ba), (1, .ref (b + 0)), (2, .int v2), (3, .int v3), (4, .int v4), (5, .int v5)] dL_law_401 (Nat.le_of_ble_eq_true rfl) rfl rfl ?_
      refine x_iconst (pc := 403) C (v := (1 : Int32)) dL_law_403 rfl ?_
      refine x_iload (pc := 404) C 0 dL_law_404 rfl ?_
      refine x_sipush (pc := 406) C (v := (255 : Int32)) dL_law_406 rfl ?_
      obtain ⟨r_2, hc_2, h⟩ := of_bd h
      refine x_callS1 (pc := 409) C [.int r_1, .int (255 : Int32)] [.int (1 : Int32)] (c_L_pick (b := b) r_1 (255 : Int32) S _ hc_2) cw_L_24 vs_L_pick ⟨rfl, rfl, Nat.le_of_ble_eq_true rfl, Nat.le_of_ble_eq_true rfl⟩ hR rfl ⟨rfl, Nat.le_of_ble_eq_true rfl⟩ dL_law_409 (fun hx_2 => ?_)
      refine x_iadd (pc := 412) C dL_law_412 ?_
      obtain ⟨v7_1, ev7_1, h⟩ := of_lt h
      refine x_istore (pc := 413) C [(7, .int v7_1), (6, .int r_1), (0, .ref ba), (1, .ref (b + 0)), (2, .int v2), (3, .int v3), (4, .int v4), (5, .int v5)] dL_law_413 (Nat.le_of_ble_eq_true rfl) ev7_1 rfl ?_
      refine x_iload (pc := 415) C 1 dL_law_415 rfl ?_
      refine x_bipush (pc := 417) C (v := (8 : Int32)) dL_law_417 rfl ?_
      refine x_ishr (pc := 419) C dL_law_419 ?_
      refine x_iconst (pc := 420) C (v := (3 : Int32)) dL_law_420 rfl ?_
      obtain ⟨r_3, hc_3, h⟩ := of_bd h
      refine x_callS1 (pc := 421) C [.int (isr r_1 (8 : Int32)), .int (3 : Int32)] [] (c_L_pick (b := b) (isr r_1 (8 : Int32)) (3 : Int32) S _ hc_3) cw_L_24 vs_L_pick ⟨rfl, rfl, Nat.le_of_ble_eq_true rfl, Nat.le_of_ble_eq_true rfl⟩ hR rfl ⟨rfl, Nat.le_of_ble_eq_true rfl⟩ dL_law_421 (fun hx_3 => ?_)
      refine x_istore (pc := 424) C [(8, .int r_3), (7, .int v7_1), (6, .int r_1), (0, .ref ba), (1, .ref (b + 0)), (2, .int v2), (3, .int v3), (4, .int v4), (5, .int v5)] dL_law_424 (Nat.le_of_ble_eq_true rfl) rfl rfl ?_
      refine x_iload (pc := 426) C 0 dL_law_426 rfl ?_
      refine x_iconst (pc := 428) C (v := (1 : Int32)) dL_law_428 rfl ?_
      obtain ⟨J_1, eJ_1, h⟩ := of_lt h
      have kJ_1 : ∀ (x_1 : Int32), J_1 x_1 = some z → X p l e room_1 s m args below meth c cells slots Q 16 G L b S 460 [(0, .ref ba), (1, .ref (b + 0)), (2, .int v2), (3, .int v3), (4, .int v4), (5, .int v5), (7, .int v7_1), (8, .int r_3)] [.int x_1] := by
        intro x_1 h
        replace h := of_J1 eJ_1 h
        refine x_istore (pc := 460) C [(9, .int x_1), (0, .ref ba), (1, .ref (b + 0)), (2, .int v2), (3, .int v3), (4, .int v4), (5, .int v5), (7, .int v7_1), (8, .int r_3)] dL_law_460 (Nat.le_of_ble_eq_true rfl) rfl rfl ?_
        refine x_iload (pc := 462) C 8 dL_law_462 rfl ?_
        refine x_iconst (pc := 464) C (v := (1 : Int32)) dL_law_464 rfl ?_
        obtain ⟨J_2, eJ_2, h⟩ := of_lt h
        have kJ_2 : ∀ (_ : Unit), J_2 () = some z → X p l e room_1 s m args below meth c cells slots Q 16 G L b S 476 [(0, .ref ba), (1, .ref (b + 0)), (2, .int v2), (3, .int v3), (4, .int v4), (5, .int v5), (7, .int v7_1), (8, .int r_3), (9, .int x_1)] [] := by
          intro _ h
          replace h := of_J1 eJ_2 h
          refine x_aload_n (pc := 476) C 1 dL_law_476 rfl ?_
          refine x_iload (pc := 477) C 7 dL_law_477 rfl ?_
          refine x_iload (pc := 479) C 6 dL_law_479 rfl ?_
          refine x_iload (pc := 481) C 8 dL_law_481 rfl ?_
          obtain ⟨⟨r_4, S_1⟩, hc_4, h⟩ := of_bd h
          replace h := of_u2 h
          refine x_callV1 (pc := 483) C (o := 0) [.int r_3, .int v7_1, .int x_1] [] (c_X6_would (b := b) r_3 v7_1 x_1 hO S _ _ hc_4) cw_L_72 vi_X6_would ⟨rfl, rfl, Nat.le_of_ble_eq_true rfl, Nat.le_of_ble_eq_true rfl⟩ hR hO.1 ⟨rfl, rfl, rfl⟩ rfl ⟨rfl, Nat.le_of_ble_eq_true rfl⟩ dL_law_483 (fun hx_4 => ?_)
          refine x_istore (pc := 486) C [(10, .int r_4), (0, .ref ba), (1, .ref (b + 0)), (2, .int v2), (3, .int v3), (4, .int v4), (5, .int v5), (7, .int v7_1), (8, .int r_3), (9, .int x_1)] dL_law_486 (Nat.le_of_ble_eq_true rfl) rfl rfl ?_
          refine x_aload_n (pc := 488) C 2 dL_law_488 rfl ?_
          refine x_iconst (pc := 489) C (v := (0 : Int32)) dL_law_489 rfl ?_
          obtain ⟨r_5, hc_5, h⟩ := of_bd h
          refine x_callV1 (pc := 490) C (o := 0) [.int (0 : Int32)] [] (c_X6_count (b := b) (0 : Int32) hO S_1 _ hc_5) cw_L_69 vi_X6_count ⟨rfl, rfl, Nat.le_of_ble_eq_true rfl, Nat.le_of_ble_eq_true rfl⟩ hR hO.1 ⟨rfl, rfl, rfl⟩ rfl ⟨rfl, Nat.le_of_ble_eq_true rfl⟩ dL_law_490 (fun hx_5 => ?_)
          refine x_istore (pc := 493) C [(11, .int r_5), (10, .int r_4), (0, .ref ba), (1, .ref (b + 0)), (2, .int v2), (3, .int v3), (4, .int v4), (5, .int v5), (7, .int v7_1), (8, .int r_3), (9, .int x_1)] dL_law_493 (Nat.le_of_ble_eq_true rfl) rfl rfl ?_
          refine x_iconst (pc := 495) C (v := (0 : Int32)) dL_law_495 rfl ?_
          refine x_istore (pc := 496) C [(12, .int (0 : Int32)), (11, .int r_5), (10, .int r_4), (0, .ref ba), (1, .ref (b + 0)), (2, .int v2), (3, .int v3), (4, .int v4), (5, .int v5), (7, .int v7_1), (8, .int r_3), (9, .int x_1)] dL_law_496 (Nat.le_of_ble_eq_true rfl) rfl rfl ?_
          refine x_iconst (pc := 498) C (v := (0 : Int32)) dL_law_498 rfl ?_
          refine x_istore (pc := 499) C [(13, .int (0 : Int32)), (12, .int (0 : Int32)), (11, .int r_5), (10, .int r_4), (0, .ref ba), (1, .ref (b + 0)), (2, .int v2), (3, .int v3), (4, .int v4), (5, .int v5), (7, .int v7_1), (8, .int r_3), (9, .int x_1)] dL_law_499 (Nat.le_of_ble_eq_true rfl) rfl rfl ?_
          refine x_sub [4, 5, 6, 7, 8, 9, 10, 11, 12, 3, 2, 1, 0] rfl ?_
          obtain ⟨z_hz_2, hz_2, h⟩ := of_bd h
          refine l_L_law_501 C ba Ls xs rf hX hO hR hE v2 v3 v4 v5 v7_1 r_3 x_1 r_4 r_5 400 _ _ _ hz_2 (fun v12_1 S_2 ez => ?_)
          subst z_hz_2
          replace h := of_u2 h
          refine x_aload_n (pc := 575) C 1 dL_law_575 rfl ?_
          refine x_iload (pc := 576) C 7 dL_law_576 rfl ?_
          refine x_iload (pc := 578) C 6 dL_law_578 rfl ?_
          refine x_iload (pc := 580) C 8 dL_law_580 rfl ?_
          obtain ⟨⟨r_6, S_3⟩, hc_6, h⟩ := of_bd h
          replace h := of_u2 h
          refine x_callV1 (pc := 582) C (o := 0) [.int r_3, .int v7_1, .int x_1] [] (c_X6_ask (b := b) r_3 v7_1 x_1 hO S_2 _ _ hc_6) cw_L_37 vi_X6_ask ⟨rfl, rfl, Nat.le_of_ble_eq_true rfl, Nat.le_of_ble_eq_true rfl⟩ hR hO.1 ⟨rfl, rfl, rfl⟩ rfl ⟨rfl, Nat.le_of_ble_eq_true rfl⟩ dL_law_582 (fun hx_6 => ?_)
          refine x_istore (pc := 585) C [(13, .int r_6), (0, .ref ba), (1, .ref (b + 0)), (2, .int v2), (3, .int v3), (4, .int v4), (5, .int v5), (7, .int v7_1), (8, .int r_3), (9, .int x_1), (10, .int r_4), (11, .int r_5), (12, .int v12_1)] dL_law_585 (Nat.le_of_ble_eq_true rfl) rfl rfl ?_
          refine x_iload (pc := 587) C 0 dL_law_587 rfl ?_
          refine x_iload (pc := 589) C 10 dL_law_589 rfl ?_
          refine x_iconst (pc := 591) C (v := (2 : Int32)) dL_law_591 rfl ?_
          obtain ⟨x_2, ex_2, h⟩ := of_lt h
          have kd_1 : X p l e room_1 s m args below meth c cells slots Q 16 G L b S_3 602 [(0, .ref ba), (1, .ref (b + 0)), (2, .int v2), (3, .int v3), (4, .int v4), (5, .int v5), (7, .int v7_1), (8, .int r_3), (9, .int x_1), (10, .int r_4), (11, .int r_5), (12, .int v12_1)] [.int x_2, .int r_6] := by
            refine x_icmp_ne (pc := 602) C 680 dL_law_602 rfl (fun c_2 => ?_) (fun c_2 => ?_)
            · replace h := of_ifn c_2 h
              refine x_iconst (pc := 680) C (v := (0 : Int32)) dL_law_680 rfl ?_
              have hq := hr _ (of_s1 h).symm
              exact x_lawret (pc := 681) hE dL_law_681 hq.1
            · replace h := of_ifp c_2 h
              refine x_aload_n (pc := 605) C 1 dL_law_605 rfl ?_
              refine x_iconst (pc := 606) C (v := (0 : Int32)) dL_law_606 rfl ?_
              obtain ⟨r_7, hc_7, h⟩ := of_bd h
              refine x_callV1 (pc := 607) C (o := 0) [.int (0 : Int32)] [] (c_X6_count (b := b) (0 : Int32) hO S_3 _ hc_7) cw_L_69 vi_X6_count ⟨rfl, rfl, Nat.le_of_ble_eq_true rfl, Nat.le_of_ble_eq_true rfl⟩ hR hO.1 ⟨rfl, rfl, rfl⟩ rfl ⟨rfl, Nat.le_of_ble_eq_true rfl⟩ dL_law_607 (fun hx_7 => ?_)
              refine x_iload (pc := 610) C 10 dL_law_610 rfl ?_
              refine x_iload (pc := 612) C 9 dL_law_612 rfl ?_
              refine x_iconst (pc := 614) C (v := (1 : Int32)) dL_law_614 rfl ?_
              obtain ⟨x_3, ex_3, h⟩ := of_lt h
              have kd_2 : X p l e room_1 s m args below meth c cells slots Q 16 G L b S_3 623 [(0, .ref ba), (1, .ref (b + 0)), (2, .int v2), (3, .int v3), (4, .int v4), (5, .int v5), (7, .int v7_1), (8, .int r_3), (9, .int x_1), (10, .int r_4), (11, .int r_5), (12, .int v12_1)] [.int x_3, .int r_5, .int r_7] := by
                refine x_iadd (pc := 623) C dL_law_623 ?_
                refine x_icmp_ne (pc := 624) C 680 dL_law_624 rfl (fun c_3 => ?_) (fun c_3 => ?_)
                · replace h := of_ifn c_3 h
                  refine x_iconst (pc := 680) C (v := (0 : Int32)) dL_law_680 rfl ?_
                  have hq := hr _ (of_s1 h).symm
                  exact x_lawret (pc := 681) hE dL_law_681 hq.1
                · replace h := of_ifp c_3 h
                  refine x_iload (pc := 627) C 9 dL_law_627 rfl ?_
                  refine x_iconst (pc := 629) C (v := (2 : Int32)) dL_law_629 rfl ?_
                  obtain ⟨J_3, eJ_3, h⟩ := of_lt h
                  have kJ_3 : ∀ (S_4 : Sg), J_3 S_4 = some z → X p l e room_1 s m args below meth c cells slots Q 16 G L b S_4 661 [(0, .ref ba), (1, .ref (b + 0)), (2, .int v2), (3, .int v3), (4, .int v4), (5, .int v5), (7, .int v7_1), (8, .int r_3), (10, .int r_4), (11, .int r_5), (12, .int v12_1)] [] := by
                    intro S_4 h
                    replace h := of_J1 eJ_3 h
                    refine x_iload (pc := 661) C 8 dL_law_661 rfl ?_
                    refine x_iconst (pc := 663) C (v := (1 : Int32)) dL_law_663 rfl ?_
                    obtain ⟨J_4, eJ_4, h⟩ := of_lt h
                    have kJ_4 : ∀ (S_5 : Sg), J_4 S_5 = some z → X p l e room_1 s m args below meth c cells slots Q 16 G L b S_5 682 [(0, .ref ba), (1, .ref (b + 0)), (2, .int v2), (3, .int v3), (4, .int v4), (5, .int v5), (7, .int v7_1), (8, .int r_3), (10, .int r_4)] [] := by
                      intro S_5 h
                      replace h := of_J1 eJ_4 h
                      refine x_iload (pc := 682) C 6 dL_law_682 rfl ?_
                      refine x_sipush (pc := 684) C (v := (255 : Int32)) dL_law_684 rfl ?_
                      refine x_iand (pc := 687) C dL_law_687 ?_
                      obtain ⟨v14_1, ev14_1, h⟩ := of_lt h
                      refine x_istore (pc := 688) C [(14, .int v14_1), (0, .ref ba), (1, .ref (b + 0)), (2, .int v2), (3, .int v3), (4, .int v4), (5, .int v5), (7, .int v7_1), (8, .int r_3), (10, .int r_4)] dL_law_688 (Nat.le_of_ble_eq_true rfl) ev14_1 rfl ?_
                      refine x_iconst (pc := 690) C (v := (0 : Int32)) dL_law_690 rfl ?_
                      refine x_istore (pc := 691) C [(15, .int (0 : Int32)), (14, .int v14_1), (0, .ref ba), (1, .ref (b + 0)), (2, .int v2), (3, .int v3), (4, .int v4), (5, .int v5), (7, .int v7_1), (8, .int r_3), (10, .int r_4)] dL_law_691 (Nat.le_of_ble_eq_true rfl) rfl rfl ?_
                      refine x_sub [2, 3, 4, 5, 6, 7, 9, 10, 1, 0] rfl ?_
                      obtain ⟨z_hz_1, hz_1, hl, hrr⟩ := of_bs h
                      refine l_L_law_693 C ba Ls xs rf hX hO hR hE v2 v3 v4 v5 r_3 r_4 v14_1 Sf 400 _ _ hz_1 (fun q ez => hr _ (of_s1 (hl _ ez)).symm) (fun S_6 ez => ?_)
                      replace h := hrr _ ez
                      clear hl hrr
                      refine x_iload (pc := 722) C 7 dL_law_722 rfl ?_
                      refine x_iconst (pc := 724) C (v := (1 : Int32)) dL_law_724 rfl ?_
                      obtain ⟨J_5, eJ_5, h⟩ := of_lt h
                      have kJ_5 : ∀ (_ : Unit), J_5 () = some z → X p l e room_1 s m args below meth c cells slots Q 16 G L b S_6 761 [(0, .ref ba), (1, .ref (b + 0)), (2, .int v2), (3, .int v3), (4, .int v4), (5, .int v5), (10, .int r_4)] [] := by
                        intro _ h
                        replace h := of_J1 eJ_5 h
                        refine x_iload (pc := 761) C 6 dL_law_761 rfl ?_
                        refine x_iconst (pc := 763) C (v := (1 : Int32)) dL_law_763 rfl ?_
                        refine x_icmp_ne (pc := 764) C 791 dL_law_764 rfl (fun c_4 => ?_) (fun c_4 => ?_)
                        · replace h := of_ifn c_4 h
                          obtain ⟨v5_1, ev5_1, h⟩ := of_lt h
                          refine x_iinc (pc := 791) C (w := (1 : Int32)) 5 [(5, .int v5_1), (0, .ref ba), (1, .ref (b + 0)), (2, .int v2), (3, .int v3), (4, .int v4), (10, .int r_4)] dL_law_791 rfl rfl (Nat.le_of_ble_eq_true rfl) ev5_1 rfl ?_
                          refine x_goto (pc := 794) C 385 dL_law_794 rfl ?_
                          exact x_sub [1, 2, 3, 4, 5, 0] rfl (ih _ _ h hr hx)
                        · replace h := of_ifp c_4 h
                          refine x_aload_n (pc := 767) C 1 dL_law_767 rfl ?_
                          refine x_iconst (pc := 768) C (v := (2 : Int32)) dL_law_768 rfl ?_
                          obtain ⟨r_8, hc_8, h⟩ := of_bd h
                          refine x_callV1 (pc := 769) C (o := 0) [.int (2 : Int32)] [] (c_X6_count (b := b) (2 : Int32) hO S_6 _ hc_8) cw_L_69 vi_X6_count ⟨rfl, rfl, Nat.le_of_ble_eq_true rfl, Nat.le_of_ble_eq_true rfl⟩ hR hO.1 ⟨rfl, rfl, rfl⟩ rfl ⟨rfl, Nat.le_of_ble_eq_true rfl⟩ dL_law_769 (fun hx_8 => ?_)
                          refine x_iconst (pc := 772) C (v := (3 : Int32)) dL_law_772 rfl ?_
                          refine x_icmp_ne (pc := 773) C 791 dL_law_773 rfl (fun c_5 => ?_) (fun c_5 => ?_)
                          · replace h := of_ifn c_5 h
                            obtain ⟨v5_2, ev5_2, h⟩ := of_lt h
                            refine x_iinc (pc := 791) C (w := (1 : Int32)) 5 [(5, .int v5_2), (0, .ref ba), (1, .ref (b + 0)), (2, .int v2), (3, .int v3), (4, .int v4), (10, .int r_4)] dL_law_791 rfl rfl (Nat.le_of_ble_eq_true rfl) ev5_2 rfl ?_
                            refine x_goto (pc := 794) C 385 dL_law_794 rfl ?_
                            exact x_sub [1, 2, 3, 4, 5, 0] rfl (ih _ _ h hr hx)
                          · replace h := of_ifp c_5 h
                            refine x_aload_n (pc := 776) C 1 dL_law_776 rfl ?_
                            refine x_iconst (pc := 777) C (v := (0 : Int32)) dL_law_777 rfl ?_
                            obtain ⟨r_9, hc_9, h⟩ := of_bd h
                            refine x_callV1 (pc := 778) C (o := 0) [.int (0 : Int32)] [] (c_X6_count (b := b) (0 : Int32) hO S_6 _ hc_9) cw_L_69 vi_X6_count ⟨rfl, rfl, Nat.le_of_ble_eq_true rfl, Nat.le_of_ble_eq_true rfl⟩ hR hO.1 ⟨rfl, rfl, rfl⟩ rfl ⟨rfl, Nat.le_of_ble_eq_true rfl⟩ dL_law_778 (fun hx_9 => ?_)
                            refine x_aload_n (pc := 781) C 1 dL_law_781 rfl ?_
                            refine x_iconst (pc := 782) C (v := (3 : Int32)) dL_law_782 rfl ?_
                            obtain ⟨r_10, hc_10, h⟩ := of_bd h
                            refine x_callV1 (pc := 783) C (o := 0) [.int (3 : Int32)] [.int r_9] (c_X6_count (b := b) (3 : Int32) hO S_6 _ hc_10) cw_L_69 vi_X6_count ⟨rfl, rfl, Nat.le_of_ble_eq_true rfl, Nat.le_of_ble_eq_true rfl⟩ hR hO.1 ⟨rfl, rfl, rfl⟩ rfl ⟨rfl, Nat.le_of_ble_eq_true rfl⟩ dL_law_783 (fun hx_10 => ?_)
                            refine x_icmp_le (pc := 786) C 791 dL_law_786 rfl (fun c_6 => ?_) (fun c_6 => ?_)
                            · replace h := of_ifn c_6 h
                              obtain ⟨v5_3, ev5_3, h⟩ := of_lt h
                              refine x_iinc (pc := 791) C (w := (1 : Int32)) 5 [(5, .int v5_3), (0, .ref ba), (1, .ref (b + 0)), (2, .int v2), (3, .int v3), (4, .int v4), (10, .int r_4)] dL_law_791 rfl rfl (Nat.le_of_ble_eq_true rfl) ev5_3 rfl ?_
                              refine x_goto (pc := 794) C 385 dL_law_794 rfl ?_
                              exact x_sub [1, 2, 3, 4, 5, 0] rfl (ih _ _ h hr hx)
                            · replace h := of_ifp c_6 h
                              refine x_iconst (pc := 789) C (v := (0 : Int32)) dL_law_789 rfl ?_
                              have hq := hr _ (of_s1 h).symm
                              exact x_lawret (pc := 790) hE dL_law_790 hq.1
                      refine x_icmp_ne (pc := 725) C 761 dL_law_725 rfl (fun c_7 => ?_) (fun c_7 => ?_)
                      · replace h := of_ifn c_7 h
                        exact x_sub [0, 1, 2, 3, 4, 5, 7] rfl (kJ_5 () h)
                      · replace h := of_ifp c_7 h
                        refine x_iload (pc := 728) C 6 dL_law_728 rfl ?_
                        refine x_if_ne (pc := 730) C 761 dL_law_730 rfl (fun c_8 => ?_) (fun c_8 => ?_)
                        · replace h := of_ifn c_8 h
                          exact x_sub [0, 1, 2, 3, 4, 5, 7] rfl (kJ_5 () h)
                        · replace h := of_ifp c_8 h
                          refine x_aload_n (pc := 733) C 1 dL_law_733 rfl ?_
                          refine x_iconst (pc := 734) C (v := (2 : Int32)) dL_law_734 rfl ?_
                          obtain ⟨r_11, hc_11, h⟩ := of_bd h
                          refine x_callV1 (pc := 735) C (o := 0) [.int (2 : Int32)] [] (c_X6_count (b := b) (2 : Int32) hO S_6 _ hc_11) cw_L_69 vi_X6_count ⟨rfl, rfl, Nat.le_of_ble_eq_true rfl, Nat.le_of_ble_eq_true rfl⟩ hR hO.1 ⟨rfl, rfl, rfl⟩ rfl ⟨rfl, Nat.le_of_ble_eq_true rfl⟩ dL_law_735 (fun hx_11 => ?_)
                          refine x_iconst (pc := 738) C (v := (1 : Int32)) dL_law_738 rfl ?_
                          refine x_icmp_ne (pc := 739) C 761 dL_law_739 rfl (fun c_9 => ?_) (fun c_9 => ?_)
                          · replace h := of_ifn c_9 h
                            exact x_sub [0, 1, 2, 3, 4, 5, 7] rfl (kJ_5 () h)
                          · replace h := of_ifp c_9 h
                            refine x_iload (pc := 742) C 8 dL_law_742 rfl ?_
                            refine x_callS1 (pc := 744) C [.int v14_1] [] (c_J6_bitCount_0f7a4 (b := b) v14_1 S_6) cw_L_88 vs_J6_bitCount_0f7a4 ⟨rfl, rfl, Nat.le_of_ble_eq_true rfl, Nat.le_of_ble_eq_true rfl⟩ hR rfl ⟨rfl, Nat.le_of_ble_eq_true rfl⟩ dL_law_744 (fun hx_12 => ?_)
                            refine x_iconst (pc := 747) C (v := (2 : Int32)) dL_law_747 rfl ?_
                            refine x_icmp_lt (pc := 748) C 789 dL_law_748 rfl (fun c_10 => ?_) (fun c_10 => ?_)
                            · replace h := of_ifp c_10 h
                              refine x_iconst (pc := 789) C (v := (0 : Int32)) dL_law_789 rfl ?_
                              have hq := hr _ (of_s1 h).symm
                              exact x_lawret (pc := 790) hE dL_law_790 hq.1
                            · replace h := of_ifn c_10 h
                              refine x_iload (pc := 751) C 8 dL_law_751 rfl ?_
                              refine x_callS1 (pc := 753) C [.int v14_1] [] (c_J6_bitCount_0f7a4 (b := b) v14_1 S_6) cw_L_88 vs_J6_bitCount_0f7a4 ⟨rfl, rfl, Nat.le_of_ble_eq_true rfl, Nat.le_of_ble_eq_true rfl⟩ hR rfl ⟨rfl, Nat.le_of_ble_eq_true rfl⟩ dL_law_753 (fun hx_13 => ?_)
                              refine x_bipush (pc := 756) C (v := (6 : Int32)) dL_law_756 rfl ?_
                              refine x_icmp_gt (pc := 758) C 789 dL_law_758 rfl (fun c_11 => ?_) (fun c_11 => ?_)
                              · replace h := of_ifp c_11 h
                                refine x_iconst (pc := 789) C (v := (0 : Int32)) dL_law_789 rfl ?_
                                have hq := hr _ (of_s1 h).symm
                                exact x_lawret (pc := 790) hE dL_law_790 hq.1
                              · replace h := of_ifn c_11 h
                                exact x_sub [0, 1, 2, 3, 4, 5, 7] rfl (kJ_5 () h)
                    refine x_icmp_ne (pc := 664) C 682 dL_law_664 rfl (fun c_12 => ?_) (fun c_12 => ?_)
                    · replace h := of_ifn c_12 h
                      exact x_sub [0, 1, 2, 3, 4, 5, 6, 7, 8] rfl (kJ_4 _ h)
                    · replace h := of_ifp c_12 h
                      refine x_aload_n (pc := 667) C 1 dL_law_667 rfl ?_
                      refine x_iload (pc := 668) C 9 dL_law_668 rfl ?_
                      obtain ⟨⟨r_12, S_7⟩, hc_12, h⟩ := of_bd h
                      replace h := of_u2 h
                      refine x_callV1 (pc := 670) C (o := 0) [.int r_5] [] (c_X6_answer (b := b) r_5 hO S_4 _ _ hc_12) cw_L_100 vi_X6_answer ⟨rfl, rfl, Nat.le_of_ble_eq_true rfl, Nat.le_of_ble_eq_true rfl⟩ hR hO.1 ⟨rfl, rfl, rfl⟩ rfl ⟨rfl, Nat.le_of_ble_eq_true rfl⟩ dL_law_670 (fun hx_14 => ?_)
                      refine x_iload (pc := 673) C 10 dL_law_673 rfl ?_
                      refine x_i2l (pc := 675) C dL_law_675 ?_
                      refine x_lcmp_eq (pc := 676) C 682 dL_law_676 dL_law_677 rfl (fun c_13 => ?_) (fun c_13 => ?_)
                      · replace h := of_ifp c_13 h
                        exact x_sub [0, 1, 2, 3, 4, 5, 6, 7, 8] rfl (kJ_4 _ h)
                      · replace h := of_ifn c_13 h
                        refine x_iconst (pc := 680) C (v := (0 : Int32)) dL_law_680 rfl ?_
                        have hq := hr _ (of_s1 h).symm
                        exact x_lawret (pc := 681) hE dL_law_681 hq.1
                  refine x_icmp_eq (pc := 630) C 661 dL_law_630 rfl (fun c_14 => ?_) (fun c_14 => ?_)
                  · replace h := of_ifp c_14 h
                    exact x_sub [0, 1, 2, 3, 4, 5, 6, 7, 9, 10, 11] rfl (kJ_3 _ h)
                  · replace h := of_ifn c_14 h
                    refine x_aload_n (pc := 633) C 1 dL_law_633 rfl ?_
                    refine x_iload (pc := 634) C 7 dL_law_634 rfl ?_
                    refine x_iload (pc := 636) C 6 dL_law_636 rfl ?_
                    refine x_iload (pc := 638) C 8 dL_law_638 rfl ?_
                    obtain ⟨⟨r_13, S_8⟩, hc_13, h⟩ := of_bd h
                    replace h := of_u2 h
                    refine x_callV1 (pc := 640) C (o := 0) [.int r_3, .int v7_1, .int x_1] [] (c_X6_would (b := b) r_3 v7_1 x_1 hO S_3 _ _ hc_13) cw_L_72 vi_X6_would ⟨rfl, rfl, Nat.le_of_ble_eq_true rfl, Nat.le_of_ble_eq_true rfl⟩ hR hO.1 ⟨rfl, rfl, rfl⟩ rfl ⟨rfl, Nat.le_of_ble_eq_true rfl⟩ dL_law_640 (fun hx_15 => ?_)
                    refine x_if_ne (pc := 643) C 680 dL_law_643 rfl (fun c_15 => ?_) (fun c_15 => ?_)
                    · replace h := of_ifn c_15 h
                      refine x_iconst (pc := 680) C (v := (0 : Int32)) dL_law_680 rfl ?_
                      have hq := hr _ (of_s1 h).symm
                      exact x_lawret (pc := 681) hE dL_law_681 hq.1
                    · replace h := of_ifp c_15 h
                      refine x_aload_n (pc := 646) C 1 dL_law_646 rfl ?_
                      refine x_iload (pc := 647) C 7 dL_law_647 rfl ?_
                      refine x_iload (pc := 649) C 6 dL_law_649 rfl ?_
                      refine x_iload (pc := 651) C 8 dL_law_651 rfl ?_
                      obtain ⟨⟨r_14, S_9⟩, hc_14, h⟩ := of_bd h
                      replace h := of_u2 h
                      refine x_callV1 (pc := 653) C (o := 0) [.int r_3, .int v7_1, .int x_1] [] (c_X6_ask (b := b) r_3 v7_1 x_1 hO S_8 _ _ hc_14) cw_L_37 vi_X6_ask ⟨rfl, rfl, Nat.le_of_ble_eq_true rfl, Nat.le_of_ble_eq_true rfl⟩ hR hO.1 ⟨rfl, rfl, rfl⟩ rfl ⟨rfl, Nat.le_of_ble_eq_true rfl⟩ dL_law_653 (fun hx_16 => ?_)
                      refine x_iload (pc := 656) C 11 dL_law_656 rfl ?_
                      refine x_icmp_ne (pc := 658) C 680 dL_law_658 rfl (fun c_16 => ?_) (fun c_16 => ?_)
                      · replace h := of_ifn c_16 h
                        refine x_iconst (pc := 680) C (v := (0 : Int32)) dL_law_680 rfl ?_
                        have hq := hr _ (of_s1 h).symm
                        exact x_lawret (pc := 681) hE dL_law_681 hq.1
                      · replace h := of_ifp c_16 h
                        exact x_sub [0, 1, 2, 3, 4, 5, 6, 7, 9, 10, 11] rfl (kJ_3 _ h)
              refine x_icmp_ne (pc := 615) C 622 dL_law_615 rfl (fun c_17 => ?_) (fun c_17 => ?_)
              · refine x_iconst (pc := 622) C (v := (0 : Int32)) dL_law_622 rfl ?_
                refine x_sub [0, 1, 2, 3, 4, 5, 6, 7, 8, 9, 10, 11] rfl ?_
                rw [show x_3 = (0 : Int32) from (ex_3.trans (if_neg c_17))] at kd_2
                exact kd_2
              · refine x_iconst (pc := 618) C (v := (1 : Int32)) dL_law_618 rfl ?_
                refine x_goto (pc := 619) C 623 dL_law_619 rfl ?_
                refine x_sub [0, 1, 2, 3, 4, 5, 6, 7, 8, 9, 10, 11] rfl ?_
                rw [show x_3 = (1 : Int32) from (ex_3.trans (if_pos c_17))] at kd_2
                exact kd_2
          refine x_icmp_ne (pc := 592) C 600 dL_law_592 rfl (fun c_18 => ?_) (fun c_18 => ?_)
          · refine x_iload (pc := 600) C 12 dL_law_600 rfl ?_
            refine x_sub [1, 2, 3, 4, 5, 6, 7, 8, 9, 10, 11, 12] rfl ?_
            rw [show x_2 = v12_1 from (ex_2.trans (if_neg c_18))] at kd_1
            exact kd_1
          · refine x_ldc (pc := 595) C wd_507 dL_law_595 ?_
            refine x_goto (pc := 597) C 602 dL_law_597 rfl ?_
            refine x_sub [1, 2, 3, 4, 5, 6, 7, 8, 9, 10, 11, 12] rfl ?_
            rw [show x_2 = (1000000005 : Int32) from (ex_2.trans (if_pos c_18))] at kd_1
            exact kd_1
        refine x_icmp_ne (pc := 465) C 476 dL_law_465 rfl (fun c_19 => ?_) (fun c_19 => ?_)
        · replace h := of_ifn c_19 h
          exact x_sub [1, 2, 3, 4, 5, 6, 7, 8, 0] rfl (kJ_2 () h)
        · replace h := of_ifp c_19 h
          refine x_iload (pc := 468) C 0 dL_law_468 rfl ?_
          refine x_if_ne (pc := 470) C 476 dL_law_470 rfl (fun c_20 => ?_) (fun c_20 => ?_)
          · replace h := of_ifn c_20 h
            exact x_sub [1, 2, 3, 4, 5, 6, 7, 8, 0] rfl (kJ_2 () h)
          · replace h := of_ifp c_20 h
            refine x_goto (pc := 473) C 791 dL_law_473 rfl ?_
            obtain ⟨v5_4, ev5_4, h⟩ := of_lt h
            refine x_iinc (pc := 791) C (w := (1 : Int32)) 6 [(5, .int v5_4), (9, .int x_1), (0, .ref ba), (1, .ref (b + 0)), (2, .int v2), (3, .int v3), (4, .int v4), (7, .int v7_1), (8, .int r_3)] dL_law_791 rfl rfl (Nat.le_of_ble_eq_true rfl) ev5_4 rfl ?_
            refine x_goto (pc := 794) C 385 dL_law_794 rfl ?_
            exact x_sub [2, 3, 4, 5, 6, 0] rfl (ih _ _ h hr hx)
      refine x_icmp_ne (pc := 429) C 449 dL_law_429 rfl (fun c_21 => ?_) (fun c_21 => ?_)
      · replace h := of_ifn c_21 h
        refine x_iconst (pc := 449) C (v := (1 : Int32)) dL_law_449 rfl ?_
        refine x_iload (pc := 450) C 2 dL_law_450 rfl ?_
        refine x_bipush (pc := 452) C (v := (10 : Int32)) dL_law_452 rfl ?_
        refine x_ishr (pc := 454) C dL_law_454 ?_
        refine x_iconst (pc := 455) C (v := (3 : Int32)) dL_law_455 rfl ?_
        obtain ⟨r_15, hc_15, h⟩ := of_bd h
        refine x_callS1 (pc := 456) C [.int (isr r_1 (10 : Int32)), .int (3 : Int32)] [.int (1 : Int32)] (c_L_pick (b := b) (isr r_1 (10 : Int32)) (3 : Int32) S _ hc_15) cw_L_24 vs_L_pick ⟨rfl, rfl, Nat.le_of_ble_eq_true rfl, Nat.le_of_ble_eq_true rfl⟩ hR rfl ⟨rfl, Nat.le_of_ble_eq_true rfl⟩ dL_law_456 (fun hx_17 => ?_)
        refine x_iadd (pc := 459) C dL_law_459 ?_
        exact x_sub [3, 4, 5, 6, 7, 8, 1, 0] rfl (kJ_1 _ h)
      · replace h := of_ifp c_21 h
        refine x_iload (pc := 432) C 2 dL_law_432 rfl ?_
        refine x_bipush (pc := 434) C (v := (10 : Int32)) dL_law_434 rfl ?_
        refine x_ishr (pc := 436) C dL_law_436 ?_
        refine x_sipush (pc := 437) C (v := (255 : Int32)) dL_law_437 rfl ?_
        refine x_iand (pc := 440) C dL_law_440 ?_
        refine x_iload (pc := 441) C 1 dL_law_441 rfl ?_
        refine x_iconst (pc := 443) C (v := (-1 : Int32)) dL_law_443 rfl ?_
        refine x_ixor (pc := 444) C dL_law_444 ?_
        refine x_iand (pc := 445) C dL_law_445 ?_
        refine x_goto (pc := 446) C 460 dL_law_446 rfl ?_
        exact x_sub [3, 4, 5, 6, 7, 8, 1, 0] rfl (kJ_1 _ h)
set_option maxRecDepth 100000 in
set_option maxHeartbeats 4000000 in
theorem w_law {p : Program} {l : Launch} {e : Env} {s : State} {m : MethodId} {args : Array Value} {below : List Frame} {meth : Method} {c : Code} {G : zz_G} {L : Ly} {b : Nat} {Q : State → Prop} {cells slots : Nat} {mn md : String} {ret : Option FieldType} (C : CX p G s m args meth c cL_law ⟨RL, mn, md⟩ 16 ret) (ba : Nat) (Ls : Nat) (xs : Nat → Int32) (rf : Int32) (hX : SX ba Ls xs b s) (hO : isGu L) (hR : cells ≤ room_1.cells ∧ slots ≤ room_1.slots) (hE : ∀ (pc : Nat) (S : Sg), decode cL_law pc = .ok (.ireturn, 1) → X p l e room_1 s m args below meth c cells slots Q 16 G L b S pc [] [.int rf]) (S Sf : Sg) (h : f_L_law ba Ls xs S = some (rf, Sf)) : X p l e room_1 s m args below meth c cells slots Q 16 G L b S 8 [(1, .ref (b + 0)), (0, .ref ba)] [] := by
  unfold f_L_law at h
  refine x_aload_n (pc := 8) C 0 dL_law_8 rfl ?_
  refine x_aload_n (pc := 9) C 1 dL_law_9 rfl ?_
  refine x_bipush (pc := 10) C (v := (14 : Int32)) dL_law_10 rfl ?_
  obtain ⟨S_1, hc_1, h⟩ := of_bd h
  refine x_callSX_ (pc := 12) C hX [.ref (b + 0), .ref ba, .int (14 : Int32)] [] (c_L_guard (b := b) ba Ls xs (14 : Int32) hO S _ hc_1) cw_L_63 vs_L_guard ⟨rfl, rfl, Nat.le_of_ble_eq_true rfl, Nat.le_of_ble_eq_true rfl⟩ hR rfl ⟨rfl, Nat.le_of_ble_eq_true rfl⟩ dL_law_12 (fun hx_1 => ?_)
  refine x_aload_n (pc := 15) C 0 dL_law_15 rfl ?_
  obtain ⟨⟨r_1, S_2⟩, hc_2, h⟩ := of_bd h
  replace h := of_u2 h
  refine x_callV1 (pc := 16) C (o := 0) [] [] (c_X6_image (b := b) hO S_1 _ _ hc_2) cw_L_66 vi_X6_image ⟨rfl, rfl, Nat.le_of_ble_eq_true rfl, Nat.le_of_ble_eq_true rfl⟩ hR hO.1 ⟨rfl, rfl, rfl⟩ rfl ⟨rfl, Nat.le_of_ble_eq_true rfl⟩ dL_law_16 (fun hx_2 => ?_)
  refine x_istore_n (pc := 19) C 2 [(2, .int r_1), (1, .ref (b + 0)), (0, .ref ba)] dL_law_19 rfl (Nat.le_of_ble_eq_true rfl) rfl rfl ?_
  refine x_aload_n (pc := 20) C 1 dL_law_20 rfl ?_
  refine x_iconst (pc := 21) C (v := (1 : Int32)) dL_law_21 rfl ?_
  obtain ⟨r_2, hc_3, h⟩ := of_bd h
  refine x_callV1 (pc := 22) C (o := 0) [.int (1 : Int32)] [] (c_X6_count (b := b) (1 : Int32) hO S_2 _ hc_3) cw_L_69 vi_X6_count ⟨rfl, rfl, Nat.le_of_ble_eq_true rfl, Nat.le_of_ble_eq_true rfl⟩ hR hO.1 ⟨rfl, rfl, rfl⟩ rfl ⟨rfl, Nat.le_of_ble_eq_true rfl⟩ dL_law_22 (fun hx_3 => ?_)
  refine x_istore_n (pc := 25) C 3 [(3, .int r_2), (2, .int r_1), (1, .ref (b + 0)), (0, .ref ba)] dL_law_25 rfl (Nat.le_of_ble_eq_true rfl) rfl rfl ?_
  refine x_iconst (pc := 26) C (v := (0 : Int32)) dL_law_26 rfl ?_
  refine x_istore (pc := 27) C [(4, .int (0 : Int32)), (3, .int r_2), (2, .int r_1), (1, .ref (b + 0)), (0, .ref ba)] dL_law_27 (Nat.le_of_ble_eq_true rfl) rfl rfl ?_
  refine x_sub [4, 3, 2, 1, 0] rfl ?_
  obtain ⟨z_hz_3, hz_3, hl, hrr⟩ := of_bs h
  refine l_L_law_29 C ba Ls xs rf hX hO hR hE r_1 r_2 Sf 400 _ _ hz_3 (fun q ez => of_sp (x := q.1) (u := q.2) (hl _ ez)) (fun S_3 ez => ?_)
  replace h := hrr _ ez
  clear hl hrr
  refine x_aload_n (pc := 186) C 1 dL_law_186 rfl ?_
  refine x_callV1 (pc := 187) C (o := 0) [] [] (c_X6_pivots (b := b) hO S_3) cw_L_85 vi_X6_pivots ⟨rfl, rfl, Nat.le_of_ble_eq_true rfl, Nat.le_of_ble_eq_true rfl⟩ hR hO.1 ⟨rfl, rfl, rfl⟩ rfl ⟨rfl, Nat.le_of_ble_eq_true rfl⟩ dL_law_187 (fun hx_4 => ?_)
  obtain ⟨v4_1, ev4_1, h⟩ := of_lt h
  refine x_istore (pc := 190) C [(4, .int v4_1), (0, .ref ba), (1, .ref (b + 0)), (2, .int r_1), (3, .int r_2)] dL_law_190 (Nat.le_of_ble_eq_true rfl) ev4_1 rfl ?_
  refine x_iload (pc := 192) C 0 dL_law_192 rfl ?_
  refine x_callS1 (pc := 194) C [.int v4_1] [] (c_J6_bitCount_0f7a4 (b := b) v4_1 S_3) cw_L_88 vs_J6_bitCount_0f7a4 ⟨rfl, rfl, Nat.le_of_ble_eq_true rfl, Nat.le_of_ble_eq_true rfl⟩ hR rfl ⟨rfl, Nat.le_of_ble_eq_true rfl⟩ dL_law_194 (fun hx_5 => ?_)
  refine x_iload_n (pc := 197) C 3 dL_law_197 rfl ?_
  refine x_icmp_ne (pc := 198) C 229 dL_law_198 rfl (fun c_1 => ?_) (fun c_1 => ?_)
  · replace h := of_ifn c_1 h
    refine x_iconst (pc := 229) C (v := (0 : Int32)) dL_law_229 rfl ?_
    exact x_lawret (pc := 230) hE dL_law_230 (of_sp h).1
  · replace h := of_ifp c_1 h
    refine x_iload_n (pc := 201) C 3 dL_law_201 rfl ?_
    refine x_iload_n (pc := 202) C 4 dL_law_202 rfl ?_
    refine x_icmp_ge (pc := 203) C 229 dL_law_203 rfl (fun c_2 => ?_) (fun c_2 => ?_)
    · replace h := of_ifn c_2 h
      refine x_iconst (pc := 229) C (v := (0 : Int32)) dL_law_229 rfl ?_
      exact x_lawret (pc := 230) hE dL_law_230 (of_sp h).1
    · replace h := of_ifp c_2 h
      refine x_aload_n (pc := 206) C 2 dL_law_206 rfl ?_
      refine x_iconst (pc := 207) C (v := (1 : Int32)) dL_law_207 rfl ?_
      obtain ⟨⟨r_3, S_4⟩, hc_4, h⟩ := of_bd h
      replace h := of_u2 h
      refine x_callV1 (pc := 208) C (o := 0) [.int (1 : Int32)] [] (c_X6_sums (b := b) (1 : Int32) hO S_3 _ _ hc_4) cw_L_93 vi_X6_sums ⟨rfl, rfl, Nat.le_of_ble_eq_true rfl, Nat.le_of_ble_eq_true rfl⟩ hR hO.1 ⟨rfl, rfl, rfl⟩ rfl ⟨rfl, Nat.le_of_ble_eq_true rfl⟩ dL_law_208 (fun hx_6 => ?_)
      refine x_aload_n (pc := 211) C 2 dL_law_211 rfl ?_
      refine x_iconst (pc := 212) C (v := (2 : Int32)) dL_law_212 rfl ?_
      obtain ⟨⟨r_4, S_5⟩, hc_5, h⟩ := of_bd h
      replace h := of_u2 h
      refine x_callV1 (pc := 213) C (o := 0) [.int (2 : Int32)] [.int r_3] (c_X6_sums (b := b) (2 : Int32) hO S_4 _ _ hc_5) cw_L_93 vi_X6_sums ⟨rfl, rfl, Nat.le_of_ble_eq_true rfl, Nat.le_of_ble_eq_true rfl⟩ hR hO.1 ⟨rfl, rfl, rfl⟩ rfl ⟨rfl, Nat.le_of_ble_eq_true rfl⟩ dL_law_213 (fun hx_7 => ?_)
      refine x_iadd (pc := 216) C dL_law_216 ?_
      refine x_aload_n (pc := 217) C 2 dL_law_217 rfl ?_
      refine x_iconst (pc := 218) C (v := (3 : Int32)) dL_law_218 rfl ?_
      obtain ⟨⟨r_5, S_6⟩, hc_6, h⟩ := of_bd h
      replace h := of_u2 h
      refine x_callV1 (pc := 219) C (o := 0) [.int (3 : Int32)] [.int (r_3 + r_4)] (c_X6_sums (b := b) (3 : Int32) hO S_5 _ _ hc_6) cw_L_93 vi_X6_sums ⟨rfl, rfl, Nat.le_of_ble_eq_true rfl, Nat.le_of_ble_eq_true rfl⟩ hR hO.1 ⟨rfl, rfl, rfl⟩ rfl ⟨rfl, Nat.le_of_ble_eq_true rfl⟩ dL_law_219 (fun hx_8 => ?_)
      refine x_iadd (pc := 222) C dL_law_222 ?_
      refine x_sipush (pc := 223) C (v := (255 : Int32)) dL_law_223 rfl ?_
      refine x_icmp_eq (pc := 226) C 231 dL_law_226 rfl (fun c_3 => ?_) (fun c_3 => ?_)
      · replace h := of_ifp c_3 h
        refine x_iconst (pc := 231) C (v := (0 : Int32)) dL_law_231 rfl ?_
        refine x_istore (pc := 232) C [(5, .int (0 : Int32)), (4, .int v4_1), (0, .ref ba), (1, .ref (b + 0)), (2, .int r_1), (3, .int r_2)] dL_law_232 (Nat.le_of_ble_eq_true rfl) rfl rfl ?_
        refine x_sub [2, 3, 4, 5, 1, 0] rfl ?_
        obtain ⟨z_hz_2, hz_2, hl, hrr⟩ := of_bs h
        refine l_L_law_234 C ba Ls xs rf hX hO hR hE r_1 r_2 v4_1 Sf 400 _ _ hz_2 (fun q ez => of_sp (x := q.1) (u := q.2) (hl _ ez)) (fun S_7 ez => ?_)
        replace h := hrr _ ez
        clear hl hrr
        refine x_iconst (pc := 382) C (v := (0 : Int32)) dL_law_382 rfl ?_
        refine x_istore (pc := 383) C [(5, .int (0 : Int32)), (0, .ref ba), (1, .ref (b + 0)), (2, .int r_1), (3, .int r_2), (4, .int v4_1)] dL_law_383 (Nat.le_of_ble_eq_true rfl) rfl rfl ?_
        refine x_sub [1, 2, 3, 4, 5, 0] rfl ?_
        obtain ⟨z_hz_1, hz_1, hl, hrr⟩ := of_bs h
        refine l_L_law_385 C ba Ls xs rf hX hO hR hE r_1 r_2 v4_1 Sf 400 _ _ hz_1 (fun q ez => of_sp (x := q.1) (u := q.2) (hl _ ez)) (fun S_8 ez => ?_)
        replace h := hrr _ ez
        clear hl hrr
        refine x_aload_n (pc := 797) C 0 dL_law_797 rfl ?_
        obtain ⟨⟨r_6, S_9⟩, hc_7, h⟩ := of_bd h
        replace h := of_u2 h
        refine x_callV1 (pc := 798) C (o := 0) [] [] (c_X6_on (b := b) hO S_8 _ _ hc_7) cw_L_79 vi_X6_on ⟨rfl, rfl, Nat.le_of_ble_eq_true rfl, Nat.le_of_ble_eq_true rfl⟩ hR hO.1 ⟨rfl, rfl, rfl⟩ rfl ⟨rfl, Nat.le_of_ble_eq_true rfl⟩ dL_law_798 (fun hx_9 => ?_)
        refine x_iload_n (pc := 801) C 1 dL_law_801 rfl ?_
        refine x_icmp_ne (pc := 802) C 836 dL_law_802 rfl (fun c_4 => ?_) (fun c_4 => ?_)
        · replace h := of_ifn c_4 h
          refine x_iconst (pc := 836) C (v := (0 : Int32)) dL_law_836 rfl ?_
          exact x_lawret (pc := 837) hE dL_law_837 (of_sp h).1
        · replace h := of_ifp c_4 h
          refine x_aload_n (pc := 805) C 0 dL_law_805 rfl ?_
          refine x_iconst (pc := 806) C (v := (0 : Int32)) dL_law_806 rfl ?_
          obtain ⟨r_7, hc_8, h⟩ := of_bd h
          refine x_callV1 (pc := 807) C (o := 0) [.int (0 : Int32)] [] (c_X6_count (b := b) (0 : Int32) hO S_9 _ hc_8) cw_L_69 vi_X6_count ⟨rfl, rfl, Nat.le_of_ble_eq_true rfl, Nat.le_of_ble_eq_true rfl⟩ hR hO.1 ⟨rfl, rfl, rfl⟩ rfl ⟨rfl, Nat.le_of_ble_eq_true rfl⟩ dL_law_807 (fun hx_10 => ?_)
          refine x_iload_n (pc := 810) C 1 dL_law_810 rfl ?_
          refine x_icmp_ne (pc := 811) C 836 dL_law_811 rfl (fun c_5 => ?_) (fun c_5 => ?_)
          · replace h := of_ifn c_5 h
            refine x_iconst (pc := 836) C (v := (0 : Int32)) dL_law_836 rfl ?_
            exact x_lawret (pc := 837) hE dL_law_837 (of_sp h).1
          · replace h := of_ifp c_5 h
            refine x_aload_n (pc := 814) C 0 dL_law_814 rfl ?_
            refine x_iconst (pc := 815) C (v := (1 : Int32)) dL_law_815 rfl ?_
            obtain ⟨r_8, hc_9, h⟩ := of_bd h
            refine x_callV1 (pc := 816) C (o := 0) [.int (1 : Int32)] [] (c_X6_count (b := b) (1 : Int32) hO S_9 _ hc_9) cw_L_69 vi_X6_count ⟨rfl, rfl, Nat.le_of_ble_eq_true rfl, Nat.le_of_ble_eq_true rfl⟩ hR hO.1 ⟨rfl, rfl, rfl⟩ rfl ⟨rfl, Nat.le_of_ble_eq_true rfl⟩ dL_law_816 (fun hx_11 => ?_)
            refine x_iload_n (pc := 819) C 2 dL_law_819 rfl ?_
            obtain ⟨x_1, ex_1, h⟩ := of_lt h
            have kd_1 : X p l e room_1 s m args below meth c cells slots Q 16 G L b S_9 837 [] [.int x_1] := by
              exact x_lawret (pc := 837) hE dL_law_837 (of_sp h).1
            refine x_icmp_ne (pc := 820) C 836 dL_law_820 rfl (fun c_6 => ?_) (fun c_6 => ?_)
            · refine x_iconst (pc := 836) C (v := (0 : Int32)) dL_law_836 rfl ?_
              refine x_sub [] rfl ?_
              rw [show x_1 = (0 : Int32) from (ex_1.trans (if_neg c_6))] at kd_1
              exact kd_1
            · refine x_aload_n (pc := 823) C 0 dL_law_823 rfl ?_
              refine x_callV1 (pc := 824) C (o := 0) [] [] (c_X6_pivots (b := b) hO S_9) cw_L_85 vi_X6_pivots ⟨rfl, rfl, Nat.le_of_ble_eq_true rfl, Nat.le_of_ble_eq_true rfl⟩ hR hO.1 ⟨rfl, rfl, rfl⟩ rfl ⟨rfl, Nat.le_of_ble_eq_true rfl⟩ dL_law_824 (fun hx_12 => ?_)
              refine x_iload (pc := 827) C 3 dL_law_827 rfl ?_
              refine x_icmp_ne (pc := 829) C 836 dL_law_829 rfl (fun c_7 => ?_) (fun c_7 => ?_)
              · refine x_iconst (pc := 836) C (v := (0 : Int32)) dL_law_836 rfl ?_
                refine x_sub [] rfl ?_
                rw [show x_1 = (0 : Int32) from ((ex_1.trans (if_pos c_6)).trans (if_neg c_7))] at kd_1
                exact kd_1
              · refine x_iconst (pc := 832) C (v := (1 : Int32)) dL_law_832 rfl ?_
                refine x_goto (pc := 833) C 837 dL_law_833 rfl ?_
                refine x_sub [] rfl ?_
                rw [show x_1 = (1 : Int32) from ((ex_1.trans (if_pos c_6)).trans (if_pos c_7))] at kd_1
                exact kd_1
      · replace h := of_ifn c_3 h
        refine x_iconst (pc := 229) C (v := (0 : Int32)) dL_law_229 rfl ?_
        exact x_lawret (pc := 230) hE dL_law_230 (of_sp h).1
