set_option maxRecDepth 100000 in
set_option maxHeartbeats 4000000 in
theorem c_X7_comesRule {l : Launch} {G : zz_G} {L : Ly} {b : Nat} (p1 : Int32) (p2 : Int32) (hO : isMo L) (S : Sg) (rf : Int32) (Sf : Sg) (h : f_X7_comesRule p1 p2 S = some (rf, Sf)) : Met l yX7_comesRule (Cond.code yX7_comesRule cX7_comesRule 3 (some .boolean) :: zz_all) (rmz 0 0) (PC G L b S [.ref (b + 140), .int p1, .int p2]) (QC G L b Sf (some (.int rf)) (rf = 0 ∨ rf = 1)) 0 0 (fun q => b ≤ q) := by
  refine x_met [.ref (b + 140), .int p1, .int p2] (by decide +kernel) (Nat.le_of_ble_eq_true rfl) fun p e s m args below meth c C => ?_
  unfold f_X7_comesRule at h
  refine x_iload_n (pc := 0) C 2 dX7_comesRule_0 rfl ?_
  refine x_iload_n (pc := 1) C 1 dX7_comesRule_1 rfl ?_
  refine x_bipush (pc := 2) C (v := (114 : Int32)) dX7_comesRule_2 rfl ?_
  obtain ⟨x_1, ex_1, h⟩ := of_lt h
  have kd_1 : X p l e (rmz 0 0) s m args below meth c 0 0 (RQ G L b Sf below args s (some (.int rf)) (rf = 0 ∨ rf = 1)) 3 G L b S 13 [(0, .ref (b + 140)), (1, .int p1), (2, .int p2)] [.int x_1, .int p2] := by
    refine x_icmp_le (pc := 13) C 18 dX7_comesRule_13 rfl (fun c_1 => ?_) (fun c_1 => ?_)
    · replace h := of_ifn c_1 h
      refine x_iload_n (pc := 18) C 1 dX7_comesRule_18 rfl ?_
      refine x_bipush (pc := 19) C (v := (114 : Int32)) dX7_comesRule_19 rfl ?_
      refine x_icmp_ne (pc := 21) C 32 dX7_comesRule_21 rfl (fun c_2 => ?_) (fun c_2 => ?_)
      · replace h := of_ifn c_2 h
        refine x_aload_n (pc := 32) C 0 dX7_comesRule_32 rfl ?_
        refine x_iload_n (pc := 33) C 2 dX7_comesRule_33 rfl ?_
        obtain ⟨S_1, eS_1, h⟩ := of_lt h
        refine x_puti (pc := 34) C (k := 10) hO.1 rfl rfl wd_738 dX7_comesRule_34 ⟨Nat.le_of_ble_eq_true rfl, rfl⟩ eS_1 ?_
        refine x_iconst (pc := 37) C (v := (1 : Int32)) dX7_comesRule_37 rfl ?_
        exact x_zreturn (pc := 38) C (by decide) dX7_comesRule_38 (of_sp h).1 (of_sp h).2
      · replace h := of_ifp c_2 h
        refine x_aload_n (pc := 24) C 0 dX7_comesRule_24 rfl ?_
        refine x_iload_n (pc := 25) C 2 dX7_comesRule_25 rfl ?_
        obtain ⟨S_2, eS_2, h⟩ := of_lt h
        refine x_puti (pc := 26) C (k := 9) hO.1 rfl rfl wd_737 dX7_comesRule_26 ⟨Nat.le_of_ble_eq_true rfl, rfl⟩ eS_2 ?_
        refine x_goto (pc := 29) C 37 dX7_comesRule_29 rfl ?_
        refine x_iconst (pc := 37) C (v := (1 : Int32)) dX7_comesRule_37 rfl ?_
        exact x_zreturn (pc := 38) C (by decide) dX7_comesRule_38 (of_sp h).1 (of_sp h).2
    · replace h := of_ifp c_1 h
      refine x_iconst (pc := 16) C (v := (0 : Int32)) dX7_comesRule_16 rfl ?_
      exact x_zreturn (pc := 17) C (by decide) dX7_comesRule_17 (of_sp h).1 (of_sp h).2
  refine x_icmp_ne (pc := 4) C 11 dX7_comesRule_4 rfl (fun c_3 => ?_) (fun c_3 => ?_)
  · refine x_bipush (pc := 11) C (v := (10 : Int32)) dX7_comesRule_11 rfl ?_
    refine x_sub [0, 1, 2] rfl ?_
    rw [show x_1 = (10 : Int32) from (ex_1.trans (if_neg c_3))] at kd_1
    exact kd_1
  · refine x_iconst (pc := 7) C (v := (3 : Int32)) dX7_comesRule_7 rfl ?_
    refine x_goto (pc := 8) C 13 dX7_comesRule_8 rfl ?_
    refine x_sub [0, 1, 2] rfl ?_
    rw [show x_1 = (3 : Int32) from (ex_1.trans (if_pos c_3))] at kd_1
    exact kd_1
set_option maxRecDepth 100000 in
set_option maxHeartbeats 4000000 in
theorem l_X7_isFree_2 {p : Program} {l : Launch} {e : Env} {s : State} {m : MethodId} {args : Array Value} {below : List Frame} {meth : Method} {c : Code} {G : zz_G} {L : Ly} {b : Nat} (C : CX p G s m args meth c cX7_isFree yX7_isFree 3 (some .boolean)) (hO : isMo L) (v1 : Int32) (S : Sg) (rf : Int32) : ∀ (n : Nat) (v2 : Int32) {z}, L_X7_isFree_2 v1 S n v2 = some z → (∀ q, z = .inl q → q = rf) → (z = .inr () → X p l e (rmz 0 0) s m args below meth c 0 0 (RQ G L b S below args s (some (.int rf)) (rf = 0 ∨ rf = 1)) 3 G L b S 32 [] []) → X p l e (rmz 0 0) s m args below meth c 0 0 (RQ G L b S below args s (some (.int rf)) (rf = 0 ∨ rf = 1)) 3 G L b S 2 [(0, .ref (b + 140)), (1, .int v1), (2, .int v2)] [] := by
  intro n
  induction n with
  | zero =>
    intro v2 z h
    exact of_none h
  | succ n ih =>
    intro v2 z h hr hx
    rw [L_X7_isFree_2] at h
    refine x_iload_n (pc := 2) C 2 dX7_isFree_2 rfl ?_
    refine x_aload_n (pc := 3) C 0 dX7_isFree_3 rfl ?_
    refine x_geti (pc := 4) C (k := 8) hO.1 rfl rfl wd_736 dX7_isFree_4 ⟨Nat.le_of_ble_eq_true rfl, rfl⟩ ?_
    refine x_icmp_ge (pc := 7) C 32 dX7_isFree_7 rfl (fun c_1 => ?_) (fun c_1 => ?_)
    · replace h := of_ifn c_1 h
      exact x_sub [] rfl (hx (of_s1 h).symm)
    · replace h := of_ifp c_1 h
      refine x_aload_n (pc := 10) C 0 dX7_isFree_10 rfl ?_
      refine x_getr (pc := 11) C (k := 5) 146 hO.1 rfl rfl wd_733 dX7_isFree_11 (Nat.le_of_ble_eq_true rfl) rfl ?_
      refine x_bipush (pc := 14) C (v := (10 : Int32)) dX7_isFree_14 rfl ?_
      refine x_iload_n (pc := 16) C 2 dX7_isFree_16 rfl ?_
      refine x_imul (pc := 17) C dX7_isFree_17 ?_
      refine x_iload_n (pc := 18) C 1 dX7_isFree_18 rfl ?_
      refine x_iadd (pc := 19) C dX7_isFree_19 ?_
      obtain ⟨g_1, h⟩ := of_gd h
      refine x_iaload (pc := 20) C hO.2.2.2.2.2.2.1 g_1 dX7_isFree_20 ?_
      refine x_if_eq (pc := 21) C 26 dX7_isFree_21 rfl (fun c_2 => ?_) (fun c_2 => ?_)
      · replace h := of_ifp c_2 h
        obtain ⟨v2_1, ev2_1, h⟩ := of_lt h
        refine x_iinc (pc := 26) C (w := (1 : Int32)) 2 [(2, .int v2_1), (0, .ref (b + 140)), (1, .int v1)] dX7_isFree_26 rfl rfl (Nat.le_of_ble_eq_true rfl) ev2_1 rfl ?_
        refine x_goto (pc := 29) C 2 dX7_isFree_29 rfl ?_
        exact x_sub [1, 2, 0] rfl (ih _ h hr hx)
      · replace h := of_ifn c_2 h
        refine x_iconst (pc := 24) C (v := (0 : Int32)) dX7_isFree_24 rfl ?_
        have hq := hr _ (of_s1 h).symm
        exact x_zreturn (pc := 25) C (by decide) dX7_isFree_25 hq rfl
set_option maxRecDepth 100000 in
set_option maxHeartbeats 4000000 in
theorem c_X7_isFree {l : Launch} {G : zz_G} {L : Ly} {b : Nat} (p1 : Int32) (hO : isMo L) (S : Sg) (rf : Int32) (h : f_X7_isFree p1 S = some rf) : Met l yX7_isFree (Cond.code yX7_isFree cX7_isFree 3 (some .boolean) :: zz_all) (rmz 0 0) (PC G L b S [.ref (b + 140), .int p1]) (QC G L b S (some (.int rf)) (rf = 0 ∨ rf = 1)) 0 0 (fun q => b ≤ q) := by
  refine x_met [.ref (b + 140), .int p1] (by decide +kernel) (Nat.le_of_ble_eq_true rfl) fun p e s m args below meth c C => ?_
  unfold f_X7_isFree at h
  refine x_iconst (pc := 0) C (v := (0 : Int32)) dX7_isFree_0 rfl ?_
  refine x_istore_n (pc := 1) C 2 [(2, .int (0 : Int32)), (0, .ref (b + 140)), (1, .int p1)] dX7_isFree_1 rfl (Nat.le_of_ble_eq_true rfl) rfl rfl ?_
  refine x_sub [1, 2, 0] rfl ?_
  obtain ⟨z_hz_1, hz_1, hl, hrr⟩ := of_bs h
  refine l_X7_isFree_2 C hO p1 S rf 400 _ hz_1 (fun q ez => of_s1 (hl _ ez)) (fun ez => ?_)
  replace h := hrr _ ez
  clear hl hrr
  refine x_iconst (pc := 32) C (v := (1 : Int32)) dX7_isFree_32 rfl ?_
  exact x_zreturn (pc := 33) C (by decide) dX7_isFree_33 (of_s1 h) rfl
set_option maxRecDepth 100000 in
set_option maxHeartbeats 4000000 in
theorem c_X7_comesTold {l : Launch} {G : zz_G} {L : Ly} {b : Nat} (p1 : Int32) (p2 : Int32) (hO : isMo L) (S : Sg) (rf : Int32) (Sf : Sg) (h : f_X7_comesTold p1 p2 S = some (rf, Sf)) : Met l yX7_comesTold (Cond.code yX7_comesTold cX7_comesTold 3 (some .boolean) :: zz_all) (rmz 2 42) (PC G L b S [.ref (b + 140), .int p1, .int p2]) (QC G L b Sf (some (.int rf)) (rf = 0 ∨ rf = 1)) 0 0 (fun q => b ≤ q) := by
  refine x_met [.ref (b + 140), .int p1, .int p2] (by decide +kernel) (Nat.le_of_ble_eq_true rfl) fun p e s m args below meth c C => ?_
  unfold f_X7_comesTold at h
  refine x_iload_n (pc := 0) C 1 dX7_comesTold_0 rfl ?_
  refine x_callS1 (pc := 1) C [.int p1] [] (c_X7_isPerson (b := b) p1 S) cw_X7_244 vs_X7_isPerson ⟨rfl, rfl, Nat.le_of_ble_eq_true rfl, Nat.le_of_ble_eq_true rfl⟩ ⟨Nat.le_refl _, Nat.le_refl _⟩ rfl ⟨rfl, Nat.le_of_ble_eq_true rfl⟩ dX7_comesTold_1 (fun hx_1 => ?_)
  refine x_if_eq (pc := 4) C 20 dX7_comesTold_4 rfl (fun c_1 => ?_) (fun c_1 => ?_)
  · replace h := of_ifp c_1 h
    refine x_iconst (pc := 20) C (v := (0 : Int32)) dX7_comesTold_20 rfl ?_
    exact x_zreturn (pc := 21) C (by decide) dX7_comesTold_21 (of_sp h).1 (of_sp h).2
  · replace h := of_ifn c_1 h
    refine x_aload_n (pc := 7) C 0 dX7_comesTold_7 rfl ?_
    refine x_aload_n (pc := 8) C 0 dX7_comesTold_8 rfl ?_
    refine x_getr (pc := 9) C (k := 4) 145 hO.1 rfl rfl wd_732 dX7_comesTold_9 (Nat.le_of_ble_eq_true rfl) rfl ?_
    refine x_iload_n (pc := 12) C 1 dX7_comesTold_12 rfl ?_
    obtain ⟨g_1, h⟩ := of_gd h
    refine x_iaload (pc := 13) C hO.2.2.2.2.2.1 g_1 dX7_comesTold_13 ?_
    obtain ⟨r_1, hc_1, h⟩ := of_bd h
    refine x_callV1 (pc := 14) C (o := 140) [.int (S.1 145 (ix p1))] [] (c_X7_isFree (b := b) (S.1 145 (ix p1)) hO S _ hc_1) cw_X7_247 vi_X7_isFree ⟨rfl, rfl, Nat.le_of_ble_eq_true rfl, Nat.le_of_ble_eq_true rfl⟩ ⟨Nat.le_refl _, Nat.le_refl _⟩ hO.1 ⟨rfl, rfl, rfl⟩ rfl ⟨rfl, Nat.le_of_ble_eq_true rfl⟩ dX7_comesTold_14 (fun hx_2 => ?_)
    refine x_if_ne (pc := 17) C 22 dX7_comesTold_17 rfl (fun c_2 => ?_) (fun c_2 => ?_)
    · replace h := of_ifn c_2 h
      refine x_aload_n (pc := 22) C 0 dX7_comesTold_22 rfl ?_
      refine x_iload_n (pc := 23) C 1 dX7_comesTold_23 rfl ?_
      refine x_iload_n (pc := 24) C 2 dX7_comesTold_24 rfl ?_
      obtain ⟨S_1, hc_2, h⟩ := of_bd h
      refine x_callV_ (pc := 25) C (o := 140) [.int p1, .int p2] [] (c_X7_isTold (b := b) p1 p2 hO S _ hc_2) cw_X7_250 vi_X7_isTold ⟨rfl, rfl, Nat.le_of_ble_eq_true rfl, Nat.le_of_ble_eq_true rfl⟩ ⟨Nat.le_refl _, Nat.le_refl _⟩ hO.1 ⟨rfl, rfl, rfl⟩ rfl ⟨rfl, Nat.le_of_ble_eq_true rfl⟩ dX7_comesTold_25 (fun hx_3 => ?_)
      refine x_iconst (pc := 28) C (v := (1 : Int32)) dX7_comesTold_28 rfl ?_
      exact x_zreturn (pc := 29) C (by decide) dX7_comesTold_29 (of_sp h).1 (of_sp h).2
    · replace h := of_ifp c_2 h
      refine x_iconst (pc := 20) C (v := (0 : Int32)) dX7_comesTold_20 rfl ?_
      exact x_zreturn (pc := 21) C (by decide) dX7_comesTold_21 (of_sp h).1 (of_sp h).2
set_option maxRecDepth 100000 in
set_option maxHeartbeats 4000000 in
theorem c_X7_comes {l : Launch} {G : zz_G} {L : Ly} {b : Nat} (p1 : Int32) (hO : isMo L) (S : Sg) (rf : Int32) (Sf : Sg) (h : f_X7_comes p1 S = some (rf, Sf)) : Met l yX7_comes (Cond.code yX7_comes cX7_comes 3 (some .boolean) :: zz_all) (rmz 10 242) (PC G L b S [.ref (b + 140), .int p1]) (QC G L b Sf (some (.int rf)) (rf = 0 ∨ rf = 1)) 0 0 (fun q => b ≤ q) := by
  refine x_met [.ref (b + 140), .int p1] (by decide +kernel) (Nat.le_of_ble_eq_true rfl) fun p e s m args below meth c C => ?_
  unfold f_X7_comes at h
  refine x_bipush (pc := 0) C (v := (9 : Int32)) dX7_comes_0 rfl ?_
  refine x_iload_n (pc := 2) C 1 dX7_comes_2 rfl ?_
  refine x_imul (pc := 3) C dX7_comes_3 ?_
  obtain ⟨v2_1, ev2_1, h⟩ := of_lt h
  refine x_istore_n (pc := 4) C 2 [(2, .int v2_1), (0, .ref (b + 140)), (1, .int p1)] dX7_comes_4 rfl (Nat.le_of_ble_eq_true rfl) ev2_1 rfl ?_
  refine x_aload_n (pc := 5) C 1 dX7_comes_5 rfl ?_
  refine x_getr (pc := 6) C (k := 25) 156 hO.1 rfl rfl wd_753 dX7_comes_6 (Nat.le_of_ble_eq_true rfl) rfl ?_
  refine x_iload_n (pc := 9) C 2 dX7_comes_9 rfl ?_
  obtain ⟨g_1, h⟩ := of_gd h
  refine x_iaload (pc := 10) C hO.2.2.2.2.2.2.2.2.2.2.2.2.2.2.2.2.1 g_1 dX7_comes_10 ?_
  obtain ⟨J_1, eJ_1, h⟩ := of_lt h
  have kJ_1 : ∀ (_ : Unit), J_1 () = some (rf, Sf) → X p l e (rmz 10 242) s m args below meth c 0 0 (RQ G L b Sf below args s (some (.int rf)) (rf = 0 ∨ rf = 1)) 3 G L b S 125 [(0, .ref (b + 140)), (1, .int p1), (2, .int v2_1)] [] := by
    intro _ h
    replace h := of_J1 eJ_1 h
    refine x_aload_n (pc := 125) C 0 dX7_comes_125 rfl ?_
    refine x_aload_n (pc := 126) C 0 dX7_comes_126 rfl ?_
    refine x_getr (pc := 127) C (k := 25) 156 hO.1 rfl rfl wd_753 dX7_comes_127 (Nat.le_of_ble_eq_true rfl) rfl ?_
    refine x_iload_n (pc := 130) C 1 dX7_comes_130 rfl ?_
    refine x_iaload (pc := 131) C hO.2.2.2.2.2.2.2.2.2.2.2.2.2.2.2.2.1 g_1 dX7_comes_131 ?_
    refine x_aload_n (pc := 132) C 0 dX7_comes_132 rfl ?_
    refine x_getr (pc := 133) C (k := 27) 158 hO.1 rfl rfl wd_755 dX7_comes_133 (Nat.le_of_ble_eq_true rfl) rfl ?_
    refine x_iload_n (pc := 136) C 2 dX7_comes_136 rfl ?_
    obtain ⟨g_2, h⟩ := of_gd h
    refine x_iaload (pc := 137) C hO.2.2.2.2.2.2.2.2.2.2.2.2.2.2.2.2.2.2.1 g_2 dX7_comes_137 ?_
    obtain ⟨⟨r_1, S_1⟩, hc_1, h⟩ := of_bd h
    replace h := of_u2 h
    refine x_callV1 (pc := 138) C (o := 140) [.int (S.1 156 (ix p1)), .int (S.1 158 (ix v2_1))] [] (c_X7_comesRule (b := b) (S.1 156 (ix p1)) (S.1 158 (ix v2_1)) hO S _ _ hc_1) cw_X7_282 vi_X7_comesRule ⟨rfl, rfl, Nat.le_of_ble_eq_true rfl, Nat.le_of_ble_eq_true rfl⟩ ⟨Nat.le_refl _, Nat.le_refl _⟩ hO.1 ⟨rfl, rfl, rfl⟩ rfl ⟨rfl, Nat.le_of_ble_eq_true rfl⟩ dX7_comes_138 (fun hx_1 => ?_)
    exact x_zreturn (pc := 141) C hx_1 dX7_comes_141 (of_sp h).1 (of_sp h).2
  by_cases c_1 : (S.1 156 (ix p1)) = (98 : Int32)
  · replace h := of_ifp c_1 h
    refine x_look (pc := 11) C 98 dX7_comes_11 rfl (by rw [c_1] <;> rfl) rfl ?_
    refine x_aload_n (pc := 98) C 1 dX7_comes_98 rfl ?_
    refine x_aload_n (pc := 99) C 1 dX7_comes_99 rfl ?_
    refine x_getr (pc := 100) C (k := 27) 158 hO.1 rfl rfl wd_755 dX7_comes_100 (Nat.le_of_ble_eq_true rfl) rfl ?_
    refine x_iload_n (pc := 103) C 0 dX7_comes_103 rfl ?_
    obtain ⟨g_3, h⟩ := of_gd h
    refine x_iaload (pc := 104) C hO.2.2.2.2.2.2.2.2.2.2.2.2.2.2.2.2.2.2.1 g_3 dX7_comes_104 ?_
    refine x_aload_n (pc := 105) C 1 dX7_comes_105 rfl ?_
    refine x_getr (pc := 106) C (k := 27) 158 hO.1 rfl rfl wd_755 dX7_comes_106 (Nat.le_of_ble_eq_true rfl) rfl ?_
    refine x_iload_n (pc := 109) C 0 dX7_comes_109 rfl ?_
    refine x_iconst (pc := 110) C (v := (1 : Int32)) dX7_comes_110 rfl ?_
    refine x_iadd (pc := 111) C dX7_comes_111 ?_
    obtain ⟨g_4, h⟩ := of_gd h
    refine x_iaload (pc := 112) C hO.2.2.2.2.2.2.2.2.2.2.2.2.2.2.2.2.2.2.1 g_4 dX7_comes_112 ?_
    refine x_aload_n (pc := 113) C 1 dX7_comes_113 rfl ?_
    refine x_getr (pc := 114) C (k := 27) 158 hO.1 rfl rfl wd_755 dX7_comes_114 (Nat.le_of_ble_eq_true rfl) rfl ?_
    refine x_iload_n (pc := 117) C 0 dX7_comes_117 rfl ?_
    refine x_iconst (pc := 118) C (v := (2 : Int32)) dX7_comes_118 rfl ?_
    refine x_iadd (pc := 119) C dX7_comes_119 ?_
    obtain ⟨g_5, h⟩ := of_gd h
    refine x_iaload (pc := 120) C hO.2.2.2.2.2.2.2.2.2.2.2.2.2.2.2.2.2.2.1 g_5 dX7_comes_120 ?_
    obtain ⟨⟨r_2, S_2⟩, hc_2, h⟩ := of_bd h
    replace h := of_u2 h
    refine x_callV1 (pc := 121) C (o := 140) [.int (S.1 158 (ix v2_1)), .int (S.1 158 (ix (v2_1 + (1 : Int32)))), .int (S.1 158 (ix (v2_1 + (2 : Int32))))] [] (c_X7_comesBounds (b := b) (S.1 158 (ix v2_1)) (S.1 158 (ix (v2_1 + (1 : Int32)))) (S.1 158 (ix (v2_1 + (2 : Int32)))) hO S _ _ hc_2) cw_X7_279 vi_X7_comesBounds ⟨rfl, rfl, Nat.le_of_ble_eq_true rfl, Nat.le_of_ble_eq_true rfl⟩ ⟨Nat.le_refl _, Nat.le_refl _⟩ hO.1 ⟨rfl, rfl, rfl⟩ rfl ⟨rfl, Nat.le_of_ble_eq_true rfl⟩ dX7_comes_121 (fun hx_2 => ?_)
    exact x_zreturn (pc := 124) C hx_2 dX7_comes_124 (of_sp h).1 (of_sp h).2
  replace h := of_ifn c_1 h
  by_cases c_2 : (S.1 156 (ix p1)) = (99 : Int32)
  · replace h := of_ifp c_2 h
    refine x_look (pc := 11) C 79 dX7_comes_11 rfl (by rw [c_2] <;> rfl) rfl ?_
    refine x_aload_n (pc := 79) C 1 dX7_comes_79 rfl ?_
    refine x_aload_n (pc := 80) C 1 dX7_comes_80 rfl ?_
    refine x_getr (pc := 81) C (k := 27) 158 hO.1 rfl rfl wd_755 dX7_comes_81 (Nat.le_of_ble_eq_true rfl) rfl ?_
    refine x_iload_n (pc := 84) C 0 dX7_comes_84 rfl ?_
    obtain ⟨g_6, h⟩ := of_gd h
    refine x_iaload (pc := 85) C hO.2.2.2.2.2.2.2.2.2.2.2.2.2.2.2.2.2.2.1 g_6 dX7_comes_85 ?_
    refine x_aload_n (pc := 86) C 1 dX7_comes_86 rfl ?_
    refine x_getr (pc := 87) C (k := 27) 158 hO.1 rfl rfl wd_755 dX7_comes_87 (Nat.le_of_ble_eq_true rfl) rfl ?_
    refine x_iload_n (pc := 90) C 0 dX7_comes_90 rfl ?_
    refine x_iconst (pc := 91) C (v := (1 : Int32)) dX7_comes_91 rfl ?_
    refine x_iadd (pc := 92) C dX7_comes_92 ?_
    obtain ⟨g_7, h⟩ := of_gd h
    refine x_iaload (pc := 93) C hO.2.2.2.2.2.2.2.2.2.2.2.2.2.2.2.2.2.2.1 g_7 dX7_comes_93 ?_
    obtain ⟨⟨r_3, S_3⟩, hc_3, h⟩ := of_bd h
    replace h := of_u2 h
    refine x_callV1 (pc := 94) C (o := 140) [.int (S.1 158 (ix v2_1)), .int (S.1 158 (ix (v2_1 + (1 : Int32))))] [] (c_X7_comesChange (b := b) (S.1 158 (ix v2_1)) (S.1 158 (ix (v2_1 + (1 : Int32)))) hO S _ _ hc_3) cw_X7_276 vi_X7_comesChange ⟨rfl, rfl, Nat.le_of_ble_eq_true rfl, Nat.le_of_ble_eq_true rfl⟩ ⟨Nat.le_refl _, Nat.le_refl _⟩ hO.1 ⟨rfl, rfl, rfl⟩ rfl ⟨rfl, Nat.le_of_ble_eq_true rfl⟩ dX7_comes_94 (fun hx_3 => ?_)
    exact x_zreturn (pc := 97) C hx_3 dX7_comes_97 (of_sp h).1 (of_sp h).2
  replace h := of_ifn c_2 h
  by_cases c_3 : (S.1 156 (ix p1)) = (108 : Int32)
  · replace h := of_ifp c_3 h
    refine x_look (pc := 11) C 125 dX7_comes_11 rfl (by rw [c_3] <;> rfl) rfl ?_
    exact x_sub [1, 2, 0] rfl (kJ_1 () h)
  replace h := of_ifn c_3 h
  by_cases c_4 : (S.1 156 (ix p1)) = (114 : Int32)
  · replace h := of_ifp c_4 h
    refine x_look (pc := 11) C 125 dX7_comes_11 rfl (by rw [c_4] <;> rfl) rfl ?_
    exact x_sub [1, 2, 0] rfl (kJ_1 () h)
  replace h := of_ifn c_4 h
  by_cases c_5 : (S.1 156 (ix p1)) = (118 : Int32)
  · replace h := of_ifp c_5 h
    refine x_look (pc := 11) C 60 dX7_comes_11 rfl (by rw [c_5] <;> rfl) rfl ?_
    refine x_aload_n (pc := 60) C 1 dX7_comes_60 rfl ?_
    refine x_aload_n (pc := 61) C 1 dX7_comes_61 rfl ?_
    refine x_getr (pc := 62) C (k := 27) 158 hO.1 rfl rfl wd_755 dX7_comes_62 (Nat.le_of_ble_eq_true rfl) rfl ?_
    refine x_iload_n (pc := 65) C 0 dX7_comes_65 rfl ?_
    obtain ⟨g_8, h⟩ := of_gd h
    refine x_iaload (pc := 66) C hO.2.2.2.2.2.2.2.2.2.2.2.2.2.2.2.2.2.2.1 g_8 dX7_comes_66 ?_
    refine x_aload_n (pc := 67) C 1 dX7_comes_67 rfl ?_
    refine x_getr (pc := 68) C (k := 27) 158 hO.1 rfl rfl wd_755 dX7_comes_68 (Nat.le_of_ble_eq_true rfl) rfl ?_
    refine x_iload_n (pc := 71) C 0 dX7_comes_71 rfl ?_
    refine x_iconst (pc := 72) C (v := (1 : Int32)) dX7_comes_72 rfl ?_
    refine x_iadd (pc := 73) C dX7_comes_73 ?_
    obtain ⟨g_9, h⟩ := of_gd h
    refine x_iaload (pc := 74) C hO.2.2.2.2.2.2.2.2.2.2.2.2.2.2.2.2.2.2.1 g_9 dX7_comes_74 ?_
    obtain ⟨⟨r_4, S_4⟩, hc_4, h⟩ := of_bd h
    replace h := of_u2 h
    refine x_callV1 (pc := 75) C (o := 140) [.int (S.1 158 (ix v2_1)), .int (S.1 158 (ix (v2_1 + (1 : Int32))))] [] (c_X7_comesTold (b := b) (S.1 158 (ix v2_1)) (S.1 158 (ix (v2_1 + (1 : Int32)))) hO S _ _ hc_4) cw_X7_273 vi_X7_comesTold ⟨rfl, rfl, Nat.le_of_ble_eq_true rfl, Nat.le_of_ble_eq_true rfl⟩ ⟨Nat.le_refl _, Nat.le_refl _⟩ hO.1 ⟨rfl, rfl, rfl⟩ rfl ⟨rfl, Nat.le_of_ble_eq_true rfl⟩ dX7_comes_75 (fun hx_4 => ?_)
    exact x_zreturn (pc := 78) C hx_4 dX7_comes_78 (of_sp h).1 (of_sp h).2
  replace h := of_ifn c_5 h
  refine x_look (pc := 11) C 142 dX7_comes_11 rfl (by rw [lv_osw c_1 (show ((98 : Int32)).toInt = 98 from rfl), lv_osw c_2 (show ((99 : Int32)).toInt = 99 from rfl), lv_osw c_3 (show ((108 : Int32)).toInt = 108 from rfl), lv_osw c_4 (show ((114 : Int32)).toInt = 114 from rfl), lv_osw c_5 (show ((118 : Int32)).toInt = 118 from rfl)] <;> rfl) rfl ?_
  refine x_aload_n (pc := 142) C 1 dX7_comes_142 rfl ?_
  refine x_aload_n (pc := 143) C 1 dX7_comes_143 rfl ?_
  refine x_getr (pc := 144) C (k := 25) 156 hO.1 rfl rfl wd_753 dX7_comes_144 (Nat.le_of_ble_eq_true rfl) rfl ?_
  refine x_iload_n (pc := 147) C 2 dX7_comes_147 rfl ?_
  refine x_iaload (pc := 148) C hO.2.2.2.2.2.2.2.2.2.2.2.2.2.2.2.2.1 g_1 dX7_comes_148 ?_
  refine x_iload_n (pc := 149) C 0 dX7_comes_149 rfl ?_
  obtain ⟨⟨r_5, S_5⟩, hc_5, h⟩ := of_bd h
  replace h := of_u2 h
  refine x_callV1 (pc := 150) C (o := 140) [.int (S.1 156 (ix p1)), .int v2_1] [] (c_X7_comesQuestion (b := b) (S.1 156 (ix p1)) v2_1 hO S _ _ hc_5) cw_X7_285 vi_X7_comesQuestion ⟨rfl, rfl, Nat.le_of_ble_eq_true rfl, Nat.le_of_ble_eq_true rfl⟩ ⟨Nat.le_refl _, Nat.le_refl _⟩ hO.1 ⟨rfl, rfl, rfl⟩ rfl ⟨rfl, Nat.le_of_ble_eq_true rfl⟩ dX7_comes_150 (fun hx_5 => ?_)
  exact x_zreturn (pc := 153) C hx_5 dX7_comes_153 (of_sp h).1 (of_sp h).2
set_option maxRecDepth 100000 in
set_option maxHeartbeats 4000000 in
theorem l_X7_notFree_4 {p : Program} {l : Launch} {e : Env} {s : State} {m : MethodId} {args : Array Value} {below : List Frame} {meth : Method} {c : Code} {G : zz_G} {L : Ly} {b : Nat} {Q : State → Prop} (C : CX p G s m args meth c cX7_notFree yX7_notFree 3 (some .int)) (hO : isMo L) (S : Sg) : ∀ (n : Nat) (v1 : Int32) (v2 : Int32) {z}, L_X7_notFree_4 S n v1 v2 = some z → (∀ (v1_o : Int32), z = v1_o → X p l e (rmz 1 22) s m args below meth c 0 0 Q 3 G L b S 36 [(1, .int v1_o)] []) → X p l e (rmz 1 22) s m args below meth c 0 0 Q 3 G L b S 4 [(0, .ref (b + 140)), (1, .int v1), (2, .int v2)] [] := by
  intro n
  induction n with
  | zero =>
    intro v1 v2 z h
    exact of_none h
  | succ n ih =>
    intro v1 v2 z h hx
    rw [L_X7_notFree_4] at h
    refine x_iload_n (pc := 4) C 2 dX7_notFree_4 rfl ?_
    refine x_aload_n (pc := 5) C 0 dX7_notFree_5 rfl ?_
    refine x_geti (pc := 6) C (k := 7) hO.1 rfl rfl wd_735 dX7_notFree_6 ⟨Nat.le_of_ble_eq_true rfl, rfl⟩ ?_
    refine x_icmp_ge (pc := 9) C 36 dX7_notFree_9 rfl (fun c_1 => ?_) (fun c_1 => ?_)
    · replace h := of_ifn c_1 h
      exact x_sub [1] rfl (hx _ (of_s1 h).symm)
    · replace h := of_ifp c_1 h
      refine x_iload_n (pc := 12) C 1 dX7_notFree_12 rfl ?_
      refine x_aload_n (pc := 13) C 0 dX7_notFree_13 rfl ?_
      refine x_iload_n (pc := 14) C 2 dX7_notFree_14 rfl ?_
      obtain ⟨r_1, hc_1, h⟩ := of_bd h
      refine x_callV1 (pc := 15) C (o := 140) [.int v2] [.int v1] (c_X7_isFree (b := b) v2 hO S _ hc_1) cw_X7_247 vi_X7_isFree ⟨rfl, rfl, Nat.le_of_ble_eq_true rfl, Nat.le_of_ble_eq_true rfl⟩ ⟨Nat.le_refl _, Nat.le_refl _⟩ hO.1 ⟨rfl, rfl, rfl⟩ rfl ⟨rfl, Nat.le_of_ble_eq_true rfl⟩ dX7_notFree_15 (fun hx_1 => ?_)
      obtain ⟨x_1, ex_1, h⟩ := of_lt h
      have kd_1 : X p l e (rmz 1 22) s m args below meth c 0 0 Q 3 G L b S 28 [(0, .ref (b + 140)), (2, .int v2)] [.int x_1, .int v1] := by
        refine x_ior (pc := 28) C dX7_notFree_28 ?_
        obtain ⟨v1_1, ev1_1, h⟩ := of_lt h
        refine x_istore_n (pc := 29) C 1 [(1, .int v1_1), (0, .ref (b + 140)), (2, .int v2)] dX7_notFree_29 rfl (Nat.le_of_ble_eq_true rfl) ev1_1 rfl ?_
        obtain ⟨v2_1, ev2_1, h⟩ := of_lt h
        refine x_iinc (pc := 30) C (w := (1 : Int32)) 2 [(2, .int v2_1), (1, .int v1_1), (0, .ref (b + 140))] dX7_notFree_30 rfl rfl (Nat.le_of_ble_eq_true rfl) ev2_1 rfl ?_
        refine x_goto (pc := 33) C 4 dX7_notFree_33 rfl ?_
        exact x_sub [2, 1, 0] rfl (ih _ _ h hx)
      refine x_if_eq (pc := 18) C 25 dX7_notFree_18 rfl (fun c_2 => ?_) (fun c_2 => ?_)
      · refine x_iconst (pc := 25) C (v := (1 : Int32)) dX7_notFree_25 rfl ?_
        refine x_iload_n (pc := 26) C 2 dX7_notFree_26 rfl ?_
        refine x_ishl (pc := 27) C dX7_notFree_27 ?_
        refine x_sub [0, 2] rfl ?_
        rw [show x_1 = (isl (1 : Int32) v2) from (ex_1.trans (if_pos c_2))] at kd_1
        exact kd_1
      · refine x_iconst (pc := 21) C (v := (0 : Int32)) dX7_notFree_21 rfl ?_
        refine x_goto (pc := 22) C 28 dX7_notFree_22 rfl ?_
        refine x_sub [0, 2] rfl ?_
        rw [show x_1 = (0 : Int32) from (ex_1.trans (if_neg c_2))] at kd_1
        exact kd_1
set_option maxRecDepth 100000 in
set_option maxHeartbeats 4000000 in
theorem c_X7_notFree {l : Launch} {G : zz_G} {L : Ly} {b : Nat} (hO : isMo L) (S : Sg) (rf : Int32) (h : f_X7_notFree S = some rf) : Met l yX7_notFree (Cond.code yX7_notFree cX7_notFree 3 (some .int) :: zz_all) (rmz 1 22) (PC G L b S [.ref (b + 140)]) (QC G L b S (some (.int rf)) True) 0 0 (fun q => b ≤ q) := by
  refine x_met [.ref (b + 140)] (by decide +kernel) (Nat.le_of_ble_eq_true rfl) fun p e s m args below meth c C => ?_
  unfold f_X7_notFree at h
  refine x_iconst (pc := 0) C (v := (0 : Int32)) dX7_notFree_0 rfl ?_
  refine x_istore_n (pc := 1) C 1 [(1, .int (0 : Int32)), (0, .ref (b + 140))] dX7_notFree_1 rfl (Nat.le_of_ble_eq_true rfl) rfl rfl ?_
  refine x_iconst (pc := 2) C (v := (0 : Int32)) dX7_notFree_2 rfl ?_
  refine x_istore_n (pc := 3) C 2 [(2, .int (0 : Int32)), (1, .int (0 : Int32)), (0, .ref (b + 140))] dX7_notFree_3 rfl (Nat.le_of_ble_eq_true rfl) rfl rfl ?_
  refine x_sub [2, 1, 0] rfl ?_
  obtain ⟨z_hz_1, hz_1, h⟩ := of_bd h
  refine l_X7_notFree_4 C hO S 400 _ _ hz_1 (fun v1_1 ez => ?_)
  subst z_hz_1
  refine x_iload_n (pc := 36) C 0 dX7_notFree_36 rfl ?_
  exact x_ireturn (pc := 37) C dX7_notFree_37 (of_s1 h) rfl
set_option maxRecDepth 100000 in
set_option maxHeartbeats 4000000 in
theorem c_X7_count {l : Launch} {G : zz_G} {L : Ly} {b : Nat} (p1 : Int32) (hO : isMo L) (S : Sg) (rf : Int32) (h : f_X7_count p1 S = some rf) : Met l yX7_count (Cond.code yX7_count cX7_count 2 (some .int) :: zz_all) (rmz 2 44) (PC G L b S [.ref (b + 140), .int p1]) (QC G L b S (some (.int rf)) True) 0 0 (fun q => b ≤ q) := by
  refine x_met [.ref (b + 140), .int p1] (by decide +kernel) (Nat.le_of_ble_eq_true rfl) fun p e s m args below meth c C => ?_
  unfold f_X7_count at h
  refine x_iload_n (pc := 0) C 1 dX7_count_0 rfl ?_
  refine x_bipush (pc := 1) C (v := (11 : Int32)) dX7_count_1 rfl ?_
  refine x_bipush (pc := 3) C (v := (16 : Int32)) dX7_count_3 rfl ?_
  refine x_callS1 (pc := 5) C [.int p1, .int (11 : Int32), .int (16 : Int32)] [] (c_X7_isIn (b := b) p1 (11 : Int32) (16 : Int32) S) cw_X7_96 vs_X7_isIn ⟨rfl, rfl, Nat.le_of_ble_eq_true rfl, Nat.le_of_ble_eq_true rfl⟩ ⟨Nat.le_refl _, Nat.le_refl _⟩ rfl ⟨rfl, Nat.le_of_ble_eq_true rfl⟩ dX7_count_5 (fun hx_1 => ?_)
  refine x_if_eq (pc := 8) C 21 dX7_count_8 rfl (fun c_1 => ?_) (fun c_1 => ?_)
  · replace h := of_ifp c_1 h
    refine x_iload_n (pc := 21) C 1 dX7_count_21 rfl ?_
    by_cases c_2 : p1 = (0 : Int32)
    · replace h := of_ifp c_2 h
      refine x_tabIn (pc := 22) C 68 dX7_count_22 c_2 (by decide) (by decide) rfl rfl ?_
      refine x_aload_n (pc := 68) C 0 dX7_count_68 rfl ?_
      refine x_geti (pc := 69) C (k := 8) hO.1 rfl rfl wd_736 dX7_count_69 ⟨Nat.le_of_ble_eq_true rfl, rfl⟩ ?_
      exact x_ireturn (pc := 72) C dX7_count_72 (of_s1 h) rfl
    replace h := of_ifn c_2 h
    by_cases c_3 : p1 = (1 : Int32)
    · replace h := of_ifp c_3 h
      refine x_tabIn (pc := 22) C 73 dX7_count_22 c_3 (by decide) (by decide) rfl rfl ?_
      refine x_aload_n (pc := 73) C 0 dX7_count_73 rfl ?_
      refine x_geti (pc := 74) C (k := 7) hO.1 rfl rfl wd_735 dX7_count_74 ⟨Nat.le_of_ble_eq_true rfl, rfl⟩ ?_
      exact x_ireturn (pc := 77) C dX7_count_77 (of_s1 h) rfl
    replace h := of_ifn c_3 h
    by_cases c_4 : p1 = (2 : Int32)
    · replace h := of_ifp c_4 h
      refine x_tabIn (pc := 22) C 78 dX7_count_22 c_4 (by decide) (by decide) rfl rfl ?_
      refine x_aload_n (pc := 78) C 0 dX7_count_78 rfl ?_
      refine x_geti (pc := 79) C (k := 9) hO.1 rfl rfl wd_737 dX7_count_79 ⟨Nat.le_of_ble_eq_true rfl, rfl⟩ ?_
      exact x_ireturn (pc := 82) C dX7_count_82 (of_s1 h) rfl
    replace h := of_ifn c_4 h
    by_cases c_5 : p1 = (3 : Int32)
    · replace h := of_ifp c_5 h
      refine x_tabIn (pc := 22) C 83 dX7_count_22 c_5 (by decide) (by decide) rfl rfl ?_
      refine x_aload_n (pc := 83) C 0 dX7_count_83 rfl ?_
      refine x_geti (pc := 84) C (k := 10) hO.1 rfl rfl wd_738 dX7_count_84 ⟨Nat.le_of_ble_eq_true rfl, rfl⟩ ?_
      exact x_ireturn (pc := 87) C dX7_count_87 (of_s1 h) rfl
    replace h := of_ifn c_5 h
    by_cases c_6 : p1 = (4 : Int32)
    · replace h := of_ifp c_6 h
      refine x_tabIn (pc := 22) C 88 dX7_count_22 c_6 (by decide) (by decide) rfl rfl ?_
      refine x_aload_n (pc := 88) C 0 dX7_count_88 rfl ?_
      obtain ⟨r_1, hc_1, h⟩ := of_bd h
      refine x_callV1 (pc := 89) C (o := 140) [] [] (c_X7_notFree (b := b) hO S _ hc_1) cw_X7_388 vi_X7_notFree ⟨rfl, rfl, Nat.le_of_ble_eq_true rfl, Nat.le_of_ble_eq_true rfl⟩ ⟨Nat.le_refl _, Nat.le_refl _⟩ hO.1 ⟨rfl, rfl, rfl⟩ rfl ⟨rfl, Nat.le_of_ble_eq_true rfl⟩ dX7_count_89 (fun hx_2 => ?_)
      exact x_ireturn (pc := 92) C dX7_count_92 (of_s1 h) rfl
    replace h := of_ifn c_6 h
    by_cases c_7 : p1 = (5 : Int32)
    · replace h := of_ifp c_7 h
      refine x_tabIn (pc := 22) C 93 dX7_count_22 c_7 (by decide) (by decide) rfl rfl ?_
      refine x_aload_n (pc := 93) C 0 dX7_count_93 rfl ?_
      obtain ⟨r_2, hc_2, h⟩ := of_bd h
      refine x_callV1 (pc := 94) C (o := 140) [] [] (c_X7_allValues (b := b) hO S _ hc_2) cw_X7_391 vi_X7_allValues ⟨rfl, rfl, Nat.le_of_ble_eq_true rfl, Nat.le_of_ble_eq_true rfl⟩ ⟨Nat.le_refl _, Nat.le_refl _⟩ hO.1 ⟨rfl, rfl, rfl⟩ rfl ⟨rfl, Nat.le_of_ble_eq_true rfl⟩ dX7_count_94 (fun hx_3 => ?_)
      exact x_ireturn (pc := 97) C dX7_count_97 (of_s1 h) rfl
    replace h := of_ifn c_7 h
    by_cases c_8 : p1 = (6 : Int32)
    · replace h := of_ifp c_8 h
      refine x_tabIn (pc := 22) C 98 dX7_count_22 c_8 (by decide) (by decide) rfl rfl ?_
      refine x_aload_n (pc := 98) C 0 dX7_count_98 rfl ?_
      refine x_geti (pc := 99) C (k := 39) hO.1 rfl rfl wd_767 dX7_count_99 ⟨Nat.le_of_ble_eq_true rfl, rfl⟩ ?_
      exact x_ireturn (pc := 102) C dX7_count_102 (of_s1 h) rfl
    replace h := of_ifn c_8 h
    by_cases c_9 : p1 = (7 : Int32)
    · replace h := of_ifp c_9 h
      refine x_tabIn (pc := 22) C 103 dX7_count_22 c_9 (by decide) (by decide) rfl rfl ?_
      refine x_aload_n (pc := 103) C 0 dX7_count_103 rfl ?_
      refine x_geti (pc := 104) C (k := 28) hO.1 rfl rfl wd_756 dX7_count_104 ⟨Nat.le_of_ble_eq_true rfl, rfl⟩ ?_
      exact x_ireturn (pc := 107) C dX7_count_107 (of_s1 h) rfl
    replace h := of_ifn c_9 h
    refine x_tabOut (pc := 22) C 108 dX7_count_22 (by have := lv_neT c_2 (show ((0 : Int32)).toInt = 0 from rfl); have := lv_neT c_3 (show ((1 : Int32)).toInt = 1 from rfl); have := lv_neT c_4 (show ((2 : Int32)).toInt = 2 from rfl); have := lv_neT c_5 (show ((3 : Int32)).toInt = 3 from rfl); have := lv_neT c_6 (show ((4 : Int32)).toInt = 4 from rfl); have := lv_neT c_7 (show ((5 : Int32)).toInt = 5 from rfl); have := lv_neT c_8 (show ((6 : Int32)).toInt = 6 from rfl); have := lv_neT c_9 (show ((7 : Int32)).toInt = 7 from rfl); omega) rfl ?_
    refine x_bipush (pc := 108) C (v := (-9 : Int32)) dX7_count_108 rfl ?_
    exact x_ireturn (pc := 110) C dX7_count_110 (of_s1 h) rfl
  · replace h := of_ifn c_1 h
    refine x_aload_n (pc := 11) C 0 dX7_count_11 rfl ?_
    refine x_getr (pc := 12) C (k := 0) 141 hO.1 rfl rfl wd_728 dX7_count_12 (Nat.le_of_ble_eq_true rfl) rfl ?_
    refine x_iload_n (pc := 15) C 1 dX7_count_15 rfl ?_
    refine x_bipush (pc := 16) C (v := (10 : Int32)) dX7_count_16 rfl ?_
    refine x_isub (pc := 18) C dX7_count_18 ?_
    obtain ⟨g_1, h⟩ := of_gd h
    refine x_iaload (pc := 19) C hO.2.1 g_1 dX7_count_19 ?_
    exact x_ireturn (pc := 20) C dX7_count_20 (of_s1 h) rfl
set_option maxRecDepth 100000 in
set_option maxHeartbeats 4000000 in
theorem c_X7_draw {l : Launch} {G : zz_G} {L : Ly} {b : Nat} (p1 : Int32) (hO : isMo L) (S : Sg) (rf : Int32) (Sf : Sg) (h : f_X7_draw p1 S = some (rf, Sf)) : Met l yX7_draw (Cond.code yX7_draw cX7_draw 2 (some .int) :: zz_all) (rmz 0 0) (PC G L b S [.ref (b + 140), .int p1]) (QC G L b Sf (some (.int rf)) True) 0 0 (fun q => b ≤ q) := by
  refine x_met [.ref (b + 140), .int p1] (by decide +kernel) (Nat.le_of_ble_eq_true rfl) fun p e s m args below meth c C => ?_
  unfold f_X7_draw at h
  refine x_aload_n (pc := 0) C 0 dX7_draw_0 rfl ?_
  refine x_aload_n (pc := 1) C 0 dX7_draw_1 rfl ?_
  refine x_geti (pc := 2) C (k := 40) hO.1 rfl rfl wd_768 dX7_draw_2 ⟨Nat.le_of_ble_eq_true rfl, rfl⟩ ?_
  refine x_ldcw (pc := 5) C wd_1261 dX7_draw_5 ?_
  refine x_imul (pc := 8) C dX7_draw_8 ?_
  refine x_ldcw (pc := 9) C wd_1262 dX7_draw_9 ?_
  refine x_iadd (pc := 12) C dX7_draw_12 ?_
  obtain ⟨S_1, eS_1, h⟩ := of_lt h
  refine x_puti (pc := 13) C (k := 40) hO.1 rfl rfl wd_768 dX7_draw_13 ⟨Nat.le_of_ble_eq_true rfl, rfl⟩ eS_1 ?_
  refine x_aload_n (pc := 16) C 0 dX7_draw_16 rfl ?_
  refine x_geti (pc := 17) C (k := 40) hO.1 rfl rfl wd_768 dX7_draw_17 ⟨Nat.le_of_ble_eq_true rfl, rfl⟩ ?_
  refine x_ldcw (pc := 20) C wd_1263 dX7_draw_20 ?_
  refine x_iand (pc := 23) C dX7_draw_23 ?_
  refine x_sipush (pc := 24) C (v := (256 : Int32)) dX7_draw_24 rfl ?_
  refine x_idiv (pc := 27) C dX7_draw_27 (by decide) ?_
  refine x_iload_n (pc := 28) C 1 dX7_draw_28 rfl ?_
  obtain ⟨g_1, h⟩ := of_gd h
  refine x_irem (pc := 29) C dX7_draw_29 g_1 ?_
  exact x_ireturn (pc := 30) C dX7_draw_30 (of_sp h).1 (of_sp h).2
set_option maxRecDepth 100000 in
set_option maxHeartbeats 4000000 in
theorem c_X7_passOne {l : Launch} {G : zz_G} {L : Ly} {b : Nat} (p1 : Int32) (hO : isMo L) (S : Sg) (rf : Int32) (Sf : Sg) (h : f_X7_passOne p1 S = some (rf, Sf)) : Met l yX7_passOne (Cond.code yX7_passOne cX7_passOne 3 (some .int) :: zz_all) (rmz 0 0) (PC G L b S [.ref (b + 140), .int p1]) (QC G L b Sf (some (.int rf)) True) 0 0 (fun q => b ≤ q) := by
  refine x_met [.ref (b + 140), .int p1] (by decide +kernel) (Nat.le_of_ble_eq_true rfl) fun p e s m args below meth c C => ?_
  unfold f_X7_passOne at h
  refine x_aload_n (pc := 0) C 0 dX7_passOne_0 rfl ?_
  refine x_geti (pc := 1) C (k := 22) hO.1 rfl rfl wd_750 dX7_passOne_1 ⟨Nat.le_of_ble_eq_true rfl, rfl⟩ ?_
  obtain ⟨J_1, eJ_1, h⟩ := of_lt h
  have kJ_1 : ∀ (x_1 : Int32), J_1 x_1 = some (rf, Sf) → X p l e (rmz 0 0) s m args below meth c 0 0 (RQ G L b Sf below args s (some (.int rf)) True) 3 G L b S 20 [(0, .ref (b + 140)), (1, .int p1)] [.int x_1] := by
    intro x_1 h
    replace h := of_J1 eJ_1 h
    refine x_istore_n (pc := 20) C 2 [(2, .int x_1), (0, .ref (b + 140)), (1, .int p1)] dX7_passOne_20 rfl (Nat.le_of_ble_eq_true rfl) rfl rfl ?_
    refine x_aload_n (pc := 21) C 1 dX7_passOne_21 rfl ?_
    refine x_geti (pc := 22) C (k := 22) hO.1 rfl rfl wd_750 dX7_passOne_22 ⟨Nat.le_of_ble_eq_true rfl, rfl⟩ ?_
    refine x_if_eq (pc := 25) C 38 dX7_passOne_25 rfl (fun c_1 => ?_) (fun c_1 => ?_)
    · replace h := of_ifp c_1 h
      refine x_aload_n (pc := 38) C 1 dX7_passOne_38 rfl ?_
      refine x_dup (pc := 39) C dX7_passOne_39 rfl ?_
      refine x_geti (pc := 40) C (k := 23) hO.1 rfl rfl wd_751 dX7_passOne_40 ⟨Nat.le_of_ble_eq_true rfl, rfl⟩ ?_
      refine x_iconst (pc := 43) C (v := (1 : Int32)) dX7_passOne_43 rfl ?_
      refine x_iadd (pc := 44) C dX7_passOne_44 ?_
      obtain ⟨S_1, eS_1, h⟩ := of_lt h
      refine x_puti (pc := 45) C (k := 23) hO.1 rfl rfl wd_751 dX7_passOne_45 ⟨Nat.le_of_ble_eq_true rfl, rfl⟩ eS_1 ?_
      refine x_iload_n (pc := 48) C 0 dX7_passOne_48 rfl ?_
      exact x_ireturn (pc := 49) C dX7_passOne_49 (of_sp h).1 (of_sp h).2
    · replace h := of_ifn c_1 h
      refine x_aload_n (pc := 28) C 1 dX7_passOne_28 rfl ?_
      refine x_getr (pc := 29) C (k := 20) 154 hO.1 rfl rfl wd_748 dX7_passOne_29 (Nat.le_of_ble_eq_true rfl) rfl ?_
      refine x_aload_n (pc := 32) C 1 dX7_passOne_32 rfl ?_
      refine x_geti (pc := 33) C (k := 23) hO.1 rfl rfl wd_751 dX7_passOne_33 ⟨Nat.le_of_ble_eq_true rfl, rfl⟩ ?_
      refine x_iload_n (pc := 36) C 2 dX7_passOne_36 rfl ?_
      obtain ⟨g_1, h⟩ := of_gd h
      obtain ⟨S_2, eS_2, h⟩ := of_lt h
      refine x_iastore (pc := 37) C hO.2.2.2.2.2.2.2.2.2.2.2.2.2.2.1 g_1 eS_2 dX7_passOne_37 ?_
      refine x_aload_n (pc := 38) C 1 dX7_passOne_38 rfl ?_
      refine x_dup (pc := 39) C dX7_passOne_39 rfl ?_
      refine x_geti (pc := 40) C (k := 23) hO.1 rfl rfl wd_751 dX7_passOne_40 ⟨Nat.le_of_ble_eq_true rfl, rfl⟩ ?_
      refine x_iconst (pc := 43) C (v := (1 : Int32)) dX7_passOne_43 rfl ?_
      refine x_iadd (pc := 44) C dX7_passOne_44 ?_
      obtain ⟨S_3, eS_3, h⟩ := of_lt h
      refine x_puti (pc := 45) C (k := 23) hO.1 rfl rfl wd_751 dX7_passOne_45 ⟨Nat.le_of_ble_eq_true rfl, rfl⟩ eS_3 ?_
      refine x_iload_n (pc := 48) C 0 dX7_passOne_48 rfl ?_
      exact x_ireturn (pc := 49) C dX7_passOne_49 (of_sp h).1 (of_sp h).2
  refine x_if_eq (pc := 4) C 11 dX7_passOne_4 rfl (fun c_2 => ?_) (fun c_2 => ?_)
  · replace h := of_ifp c_2 h
    refine x_aload_n (pc := 11) C 0 dX7_passOne_11 rfl ?_
    refine x_getr (pc := 12) C (k := 20) 154 hO.1 rfl rfl wd_748 dX7_passOne_12 (Nat.le_of_ble_eq_true rfl) rfl ?_
    refine x_aload_n (pc := 15) C 0 dX7_passOne_15 rfl ?_
    refine x_geti (pc := 16) C (k := 23) hO.1 rfl rfl wd_751 dX7_passOne_16 ⟨Nat.le_of_ble_eq_true rfl, rfl⟩ ?_
    obtain ⟨g_2, h⟩ := of_gd h
    refine x_iaload (pc := 19) C hO.2.2.2.2.2.2.2.2.2.2.2.2.2.2.1 g_2 dX7_passOne_19 ?_
    exact x_sub [0, 1] rfl (kJ_1 _ h)
  · replace h := of_ifn c_2 h
    refine x_iload_n (pc := 7) C 1 dX7_passOne_7 rfl ?_
    refine x_goto (pc := 8) C 20 dX7_passOne_8 rfl ?_
    exact x_sub [0, 1] rfl (kJ_1 _ h)
set_option maxRecDepth 100000 in
set_option maxHeartbeats 4000000 in
theorem l_X7_passes_2 {p : Program} {l : Launch} {e : Env} {s : State} {m : MethodId} {args : Array Value} {below : List Frame} {meth : Method} {c : Code} {G : zz_G} {L : Ly} {b : Nat} {Q : State → Prop} (C : CX p G s m args meth c cX7_passes yX7_passes 3 none) (a1 : Nat) (n1 : Nat) (hO : isMo L) (h1 : L.2 a1 = some (1, n1, [])) : ∀ (n : Nat) (v2 : Int32) (S : Sg) {z}, L_X7_passes_2 a1 n1 n v2 S = some z → (∀ (S_o : Sg), z = S_o → X p l e (rmz 0 0) s m args below meth c 0 0 Q 3 G L b S_o 58 [] []) → X p l e (rmz 0 0) s m args below meth c 0 0 Q 3 G L b S 2 [(0, .ref (b + 140)), (1, .ref (b + a1)), (2, .int v2)] [] := by
  intro n
  induction n with
  | zero =>
    intro v2 S z h
    exact of_none h
  | succ n ih =>
    intro v2 S z h hx
    rw [L_X7_passes_2] at h
    refine x_iload_n (pc := 2) C 2 dX7_passes_2 rfl ?_
    refine x_aload_n (pc := 3) C 1 dX7_passes_3 rfl ?_
    refine x_alenI (pc := 4) C h1 rfl dX7_passes_4 ?_
    refine x_icmp_ge (pc := 5) C 58 dX7_passes_5 rfl (fun c_1 => ?_) (fun c_1 => ?_)
    · replace h := of_ifn c_1 h
      exact x_sub [] rfl (hx _ (of_s1 h).symm)
    · replace h := of_ifp c_1 h
      refine x_aload_n (pc := 8) C 0 dX7_passes_8 rfl ?_
      refine x_geti (pc := 9) C (k := 22) hO.1 rfl rfl wd_750 dX7_passes_9 ⟨Nat.le_of_ble_eq_true rfl, rfl⟩ ?_
      refine x_if_eq (pc := 12) C 30 dX7_passes_12 rfl (fun c_2 => ?_) (fun c_2 => ?_)
      · replace h := of_ifp c_2 h
        refine x_aload_n (pc := 30) C 1 dX7_passes_30 rfl ?_
        refine x_iload_n (pc := 31) C 2 dX7_passes_31 rfl ?_
        refine x_aload_n (pc := 32) C 0 dX7_passes_32 rfl ?_
        refine x_getr (pc := 33) C (k := 20) 154 hO.1 rfl rfl wd_748 dX7_passes_33 (Nat.le_of_ble_eq_true rfl) rfl ?_
        refine x_aload_n (pc := 36) C 0 dX7_passes_36 rfl ?_
        refine x_geti (pc := 37) C (k := 23) hO.1 rfl rfl wd_751 dX7_passes_37 ⟨Nat.le_of_ble_eq_true rfl, rfl⟩ ?_
        obtain ⟨g_1, h⟩ := of_gd h
        refine x_iaload (pc := 40) C hO.2.2.2.2.2.2.2.2.2.2.2.2.2.2.1 g_1 dX7_passes_40 ?_
        obtain ⟨g_2, h⟩ := of_gd h
        obtain ⟨S_1, eS_1, h⟩ := of_lt h
        refine x_iastore (pc := 41) C h1 g_2 eS_1 dX7_passes_41 ?_
        refine x_aload_n (pc := 42) C 0 dX7_passes_42 rfl ?_
        refine x_dup (pc := 43) C dX7_passes_43 rfl ?_
        refine x_geti (pc := 44) C (k := 23) hO.1 rfl rfl wd_751 dX7_passes_44 ⟨Nat.le_of_ble_eq_true rfl, rfl⟩ ?_
        refine x_iconst (pc := 47) C (v := (1 : Int32)) dX7_passes_47 rfl ?_
        refine x_iadd (pc := 48) C dX7_passes_48 ?_
        obtain ⟨S_2, eS_2, h⟩ := of_lt h
        refine x_puti (pc := 49) C (k := 23) hO.1 rfl rfl wd_751 dX7_passes_49 ⟨Nat.le_of_ble_eq_true rfl, rfl⟩ eS_2 ?_
        obtain ⟨v2_1, ev2_1, h⟩ := of_lt h
        refine x_iinc (pc := 52) C (w := (1 : Int32)) 2 [(2, .int v2_1), (0, .ref (b + 140)), (1, .ref (b + a1))] dX7_passes_52 rfl rfl (Nat.le_of_ble_eq_true rfl) ev2_1 rfl ?_
        refine x_goto (pc := 55) C 2 dX7_passes_55 rfl ?_
        exact x_sub [1, 2, 0] rfl (ih _ _ h hx)
      · replace h := of_ifn c_2 h
        refine x_aload_n (pc := 15) C 0 dX7_passes_15 rfl ?_
        refine x_getr (pc := 16) C (k := 20) 154 hO.1 rfl rfl wd_748 dX7_passes_16 (Nat.le_of_ble_eq_true rfl) rfl ?_
        refine x_aload_n (pc := 19) C 0 dX7_passes_19 rfl ?_
        refine x_geti (pc := 20) C (k := 23) hO.1 rfl rfl wd_751 dX7_passes_20 ⟨Nat.le_of_ble_eq_true rfl, rfl⟩ ?_
        refine x_aload_n (pc := 23) C 1 dX7_passes_23 rfl ?_
        refine x_iload_n (pc := 24) C 2 dX7_passes_24 rfl ?_
        obtain ⟨g_3, h⟩ := of_gd h
        refine x_iaload (pc := 25) C h1 g_3 dX7_passes_25 ?_
        obtain ⟨g_4, h⟩ := of_gd h
        obtain ⟨S_3, eS_3, h⟩ := of_lt h
        refine x_iastore (pc := 26) C hO.2.2.2.2.2.2.2.2.2.2.2.2.2.2.1 g_4 eS_3 dX7_passes_26 ?_
        refine x_goto (pc := 27) C 42 dX7_passes_27 rfl ?_
        refine x_aload_n (pc := 42) C 0 dX7_passes_42 rfl ?_
        refine x_dup (pc := 43) C dX7_passes_43 rfl ?_
        refine x_geti (pc := 44) C (k := 23) hO.1 rfl rfl wd_751 dX7_passes_44 ⟨Nat.le_of_ble_eq_true rfl, rfl⟩ ?_
        refine x_iconst (pc := 47) C (v := (1 : Int32)) dX7_passes_47 rfl ?_
        refine x_iadd (pc := 48) C dX7_passes_48 ?_
        obtain ⟨S_4, eS_4, h⟩ := of_lt h
        refine x_puti (pc := 49) C (k := 23) hO.1 rfl rfl wd_751 dX7_passes_49 ⟨Nat.le_of_ble_eq_true rfl, rfl⟩ eS_4 ?_
        obtain ⟨v2_2, ev2_2, h⟩ := of_lt h
        refine x_iinc (pc := 52) C (w := (1 : Int32)) 2 [(2, .int v2_2), (0, .ref (b + 140)), (1, .ref (b + a1))] dX7_passes_52 rfl rfl (Nat.le_of_ble_eq_true rfl) ev2_2 rfl ?_
        refine x_goto (pc := 55) C 2 dX7_passes_55 rfl ?_
        exact x_sub [1, 2, 0] rfl (ih _ _ h hx)
set_option maxRecDepth 100000 in
set_option maxHeartbeats 4000000 in
theorem c_X7_passes {l : Launch} {G : zz_G} {L : Ly} {b : Nat} (a1 : Nat) (n1 : Nat) (hO : isMo L) (h1 : L.2 a1 = some (1, n1, [])) (S : Sg) (Sf : Sg) (h : f_X7_passes a1 n1 S = some Sf) : Met l yX7_passes (Cond.code yX7_passes cX7_passes 3 none :: zz_all) (rmz 0 0) (PC G L b S [.ref (b + 140), .ref (b + a1)]) (QC G L b Sf none True) 0 0 (fun q => b ≤ q) := by
  refine x_met [.ref (b + 140), .ref (b + a1)] (by decide +kernel) (Nat.le_of_ble_eq_true rfl) fun p e s m args below meth c C => ?_
  unfold f_X7_passes at h
  refine x_iconst (pc := 0) C (v := (0 : Int32)) dX7_passes_0 rfl ?_
  refine x_istore_n (pc := 1) C 2 [(2, .int (0 : Int32)), (0, .ref (b + 140)), (1, .ref (b + a1))] dX7_passes_1 rfl (Nat.le_of_ble_eq_true rfl) rfl rfl ?_
  refine x_sub [1, 2, 0] rfl ?_
  obtain ⟨z_hz_1, hz_1, h⟩ := of_bd h
  refine l_X7_passes_2 C a1 n1 hO h1 400 _ _ hz_1 (fun S_1 ez => ?_)
  subst z_hz_1
  exact x_vreturn (pc := 58) C dX7_passes_58 (of_s1 h)
set_option maxRecDepth 100000 in
set_option maxHeartbeats 4000000 in
theorem c_X7_passesAll {l : Launch} {G : zz_G} {L : Ly} {b : Nat} (p1 : Int32) (p2 : Int32) (hO : isMo L) (S : Sg) (Sf : Sg) (h : f_X7_passesAll p1 p2 S = some Sf) : Met l yX7_passesAll (Cond.code yX7_passesAll cX7_passesAll 3 none :: zz_all) (rmz 1 22) (PC G L b S [.ref (b + 140), .int p1, .int p2]) (QC G L b Sf none True) 0 0 (fun q => b ≤ q) := by
  refine x_met [.ref (b + 140), .int p1, .int p2] (by decide +kernel) (Nat.le_of_ble_eq_true rfl) fun p e s m args below meth c C => ?_
  unfold f_X7_passesAll at h
  refine x_aload_n (pc := 0) C 0 dX7_passesAll_0 rfl ?_
  refine x_sipush (pc := 1) C (v := (152 : Int32)) dX7_passesAll_1 rfl ?_
  refine x_iload_n (pc := 4) C 1 dX7_passesAll_4 rfl ?_
  refine x_imul (pc := 5) C dX7_passesAll_5 ?_
  obtain ⟨S_1, eS_1, h⟩ := of_lt h
  refine x_puti (pc := 6) C (k := 23) hO.1 rfl rfl wd_751 dX7_passesAll_6 ⟨Nat.le_of_ble_eq_true rfl, rfl⟩ eS_1 ?_
  refine x_aload_n (pc := 9) C 0 dX7_passesAll_9 rfl ?_
  refine x_iload_n (pc := 10) C 2 dX7_passesAll_10 rfl ?_
  obtain ⟨g_1, h⟩ := of_gd h
  obtain ⟨S_2, eS_2, h⟩ := of_lt h
  refine x_putz (pc := 11) C (k := 22) hO.1 rfl rfl wd_750 dX7_passesAll_11 ⟨Nat.le_of_ble_eq_true rfl, rfl⟩ g_1 eS_2 ?_
  refine x_aload_n (pc := 14) C 0 dX7_passesAll_14 rfl ?_
  refine x_aload_n (pc := 15) C 0 dX7_passesAll_15 rfl ?_
  refine x_getr (pc := 16) C (k := 1) 142 hO.1 rfl rfl wd_729 dX7_passesAll_16 (Nat.le_of_ble_eq_true rfl) rfl ?_
  obtain ⟨S_3, hc_1, h⟩ := of_bd h
  refine x_callV_ (pc := 19) C (o := 140) [.ref (b + 142)] [] (c_X7_passes (b := b) 142 10 hO hO.2.2.1 S_2 _ hc_1) cw_X7_199 vi_X7_passes ⟨rfl, rfl, Nat.le_of_ble_eq_true rfl, Nat.le_of_ble_eq_true rfl⟩ ⟨Nat.le_refl _, Nat.le_refl _⟩ hO.1 ⟨rfl, rfl, rfl⟩ rfl ⟨rfl, Nat.le_of_ble_eq_true rfl⟩ dX7_passesAll_19 (fun hx_1 => ?_)
  refine x_aload_n (pc := 22) C 0 dX7_passesAll_22 rfl ?_
  refine x_aload_n (pc := 23) C 0 dX7_passesAll_23 rfl ?_
  refine x_getr (pc := 24) C (k := 2) 143 hO.1 rfl rfl wd_730 dX7_passesAll_24 (Nat.le_of_ble_eq_true rfl) rfl ?_
  obtain ⟨S_4, hc_2, h⟩ := of_bd h
  refine x_callV_ (pc := 27) C (o := 140) [.ref (b + 143)] [] (c_X7_passes (b := b) 143 10 hO hO.2.2.2.1 S_3 _ hc_2) cw_X7_199 vi_X7_passes ⟨rfl, rfl, Nat.le_of_ble_eq_true rfl, Nat.le_of_ble_eq_true rfl⟩ ⟨Nat.le_refl _, Nat.le_refl _⟩ hO.1 ⟨rfl, rfl, rfl⟩ rfl ⟨rfl, Nat.le_of_ble_eq_true rfl⟩ dX7_passesAll_27 (fun hx_2 => ?_)
  refine x_aload_n (pc := 30) C 0 dX7_passesAll_30 rfl ?_
  refine x_aload_n (pc := 31) C 0 dX7_passesAll_31 rfl ?_
  refine x_getr (pc := 32) C (k := 3) 144 hO.1 rfl rfl wd_731 dX7_passesAll_32 (Nat.le_of_ble_eq_true rfl) rfl ?_
  obtain ⟨S_5, hc_3, h⟩ := of_bd h
  refine x_callV_ (pc := 35) C (o := 140) [.ref (b + 144)] [] (c_X7_passes (b := b) 144 10 hO hO.2.2.2.2.1 S_4 _ hc_3) cw_X7_199 vi_X7_passes ⟨rfl, rfl, Nat.le_of_ble_eq_true rfl, Nat.le_of_ble_eq_true rfl⟩ ⟨Nat.le_refl _, Nat.le_refl _⟩ hO.1 ⟨rfl, rfl, rfl⟩ rfl ⟨rfl, Nat.le_of_ble_eq_true rfl⟩ dX7_passesAll_35 (fun hx_3 => ?_)
  refine x_aload_n (pc := 38) C 0 dX7_passesAll_38 rfl ?_
  refine x_aload_n (pc := 39) C 0 dX7_passesAll_39 rfl ?_
  refine x_getr (pc := 40) C (k := 4) 145 hO.1 rfl rfl wd_732 dX7_passesAll_40 (Nat.le_of_ble_eq_true rfl) rfl ?_
  obtain ⟨S_6, hc_4, h⟩ := of_bd h
  refine x_callV_ (pc := 43) C (o := 140) [.ref (b + 145)] [] (c_X7_passes (b := b) 145 8 hO hO.2.2.2.2.2.1 S_5 _ hc_4) cw_X7_199 vi_X7_passes ⟨rfl, rfl, Nat.le_of_ble_eq_true rfl, Nat.le_of_ble_eq_true rfl⟩ ⟨Nat.le_refl _, Nat.le_refl _⟩ hO.1 ⟨rfl, rfl, rfl⟩ rfl ⟨rfl, Nat.le_of_ble_eq_true rfl⟩ dX7_passesAll_43 (fun hx_4 => ?_)
  refine x_aload_n (pc := 46) C 0 dX7_passesAll_46 rfl ?_
  refine x_aload_n (pc := 47) C 0 dX7_passesAll_47 rfl ?_
  refine x_getr (pc := 48) C (k := 5) 146 hO.1 rfl rfl wd_733 dX7_passesAll_48 (Nat.le_of_ble_eq_true rfl) rfl ?_
  obtain ⟨S_7, hc_5, h⟩ := of_bd h
  refine x_callV_ (pc := 51) C (o := 140) [.ref (b + 146)] [] (c_X7_passes (b := b) 146 100 hO hO.2.2.2.2.2.2.1 S_6 _ hc_5) cw_X7_199 vi_X7_passes ⟨rfl, rfl, Nat.le_of_ble_eq_true rfl, Nat.le_of_ble_eq_true rfl⟩ ⟨Nat.le_refl _, Nat.le_refl _⟩ hO.1 ⟨rfl, rfl, rfl⟩ rfl ⟨rfl, Nat.le_of_ble_eq_true rfl⟩ dX7_passesAll_51 (fun hx_5 => ?_)
  refine x_aload_n (pc := 54) C 0 dX7_passesAll_54 rfl ?_
  refine x_aload_n (pc := 55) C 0 dX7_passesAll_55 rfl ?_
  refine x_getr (pc := 56) C (k := 6) 147 hO.1 rfl rfl wd_734 dX7_passesAll_56 (Nat.le_of_ble_eq_true rfl) rfl ?_
  obtain ⟨S_8, hc_6, h⟩ := of_bd h
  refine x_callV_ (pc := 59) C (o := 140) [.ref (b + 147)] [] (c_X7_passes (b := b) 147 10 hO hO.2.2.2.2.2.2.2.1 S_7 _ hc_6) cw_X7_199 vi_X7_passes ⟨rfl, rfl, Nat.le_of_ble_eq_true rfl, Nat.le_of_ble_eq_true rfl⟩ ⟨Nat.le_refl _, Nat.le_refl _⟩ hO.1 ⟨rfl, rfl, rfl⟩ rfl ⟨rfl, Nat.le_of_ble_eq_true rfl⟩ dX7_passesAll_59 (fun hx_6 => ?_)
  refine x_aload_n (pc := 62) C 0 dX7_passesAll_62 rfl ?_
  refine x_aload_n (pc := 63) C 0 dX7_passesAll_63 rfl ?_
  refine x_aload_n (pc := 64) C 0 dX7_passesAll_64 rfl ?_
  refine x_geti (pc := 65) C (k := 7) hO.1 rfl rfl wd_735 dX7_passesAll_65 ⟨Nat.le_of_ble_eq_true rfl, rfl⟩ ?_
  obtain ⟨⟨r_1, S_9⟩, hc_7, h⟩ := of_bd h
  replace h := of_u2 h
  refine x_callV1 (pc := 68) C (o := 140) [.int (S_8.1 140 7)] [.ref (b + 140)] (c_X7_passOne (b := b) (S_8.1 140 7) hO S_8 _ _ hc_7) cw_X7_203 vi_X7_passOne ⟨rfl, rfl, Nat.le_of_ble_eq_true rfl, Nat.le_of_ble_eq_true rfl⟩ ⟨Nat.le_refl _, Nat.le_refl _⟩ hO.1 ⟨rfl, rfl, rfl⟩ rfl ⟨rfl, Nat.le_of_ble_eq_true rfl⟩ dX7_passesAll_68 (fun hx_7 => ?_)
  obtain ⟨S_10, eS_10, h⟩ := of_lt h
  refine x_puti (pc := 71) C (k := 7) hO.1 rfl rfl wd_735 dX7_passesAll_71 ⟨Nat.le_of_ble_eq_true rfl, rfl⟩ eS_10 ?_
  refine x_aload_n (pc := 74) C 0 dX7_passesAll_74 rfl ?_
  refine x_aload_n (pc := 75) C 0 dX7_passesAll_75 rfl ?_
  refine x_aload_n (pc := 76) C 0 dX7_passesAll_76 rfl ?_
  refine x_geti (pc := 77) C (k := 8) hO.1 rfl rfl wd_736 dX7_passesAll_77 ⟨Nat.le_of_ble_eq_true rfl, rfl⟩ ?_
  obtain ⟨⟨r_2, S_11⟩, hc_8, h⟩ := of_bd h
  replace h := of_u2 h
  refine x_callV1 (pc := 80) C (o := 140) [.int (S_10.1 140 8)] [.ref (b + 140)] (c_X7_passOne (b := b) (S_10.1 140 8) hO S_10 _ _ hc_8) cw_X7_203 vi_X7_passOne ⟨rfl, rfl, Nat.le_of_ble_eq_true rfl, Nat.le_of_ble_eq_true rfl⟩ ⟨Nat.le_refl _, Nat.le_refl _⟩ hO.1 ⟨rfl, rfl, rfl⟩ rfl ⟨rfl, Nat.le_of_ble_eq_true rfl⟩ dX7_passesAll_80 (fun hx_8 => ?_)
  obtain ⟨S_12, eS_12, h⟩ := of_lt h
  refine x_puti (pc := 83) C (k := 8) hO.1 rfl rfl wd_736 dX7_passesAll_83 ⟨Nat.le_of_ble_eq_true rfl, rfl⟩ eS_12 ?_
  refine x_aload_n (pc := 86) C 0 dX7_passesAll_86 rfl ?_
  refine x_aload_n (pc := 87) C 0 dX7_passesAll_87 rfl ?_
  refine x_aload_n (pc := 88) C 0 dX7_passesAll_88 rfl ?_
  refine x_geti (pc := 89) C (k := 9) hO.1 rfl rfl wd_737 dX7_passesAll_89 ⟨Nat.le_of_ble_eq_true rfl, rfl⟩ ?_
  obtain ⟨⟨r_3, S_13⟩, hc_9, h⟩ := of_bd h
  replace h := of_u2 h
  refine x_callV1 (pc := 92) C (o := 140) [.int (S_12.1 140 9)] [.ref (b + 140)] (c_X7_passOne (b := b) (S_12.1 140 9) hO S_12 _ _ hc_9) cw_X7_203 vi_X7_passOne ⟨rfl, rfl, Nat.le_of_ble_eq_true rfl, Nat.le_of_ble_eq_true rfl⟩ ⟨Nat.le_refl _, Nat.le_refl _⟩ hO.1 ⟨rfl, rfl, rfl⟩ rfl ⟨rfl, Nat.le_of_ble_eq_true rfl⟩ dX7_passesAll_92 (fun hx_9 => ?_)
  obtain ⟨S_14, eS_14, h⟩ := of_lt h
  refine x_puti (pc := 95) C (k := 9) hO.1 rfl rfl wd_737 dX7_passesAll_95 ⟨Nat.le_of_ble_eq_true rfl, rfl⟩ eS_14 ?_
  refine x_aload_n (pc := 98) C 0 dX7_passesAll_98 rfl ?_
  refine x_aload_n (pc := 99) C 0 dX7_passesAll_99 rfl ?_
  refine x_aload_n (pc := 100) C 0 dX7_passesAll_100 rfl ?_
  refine x_geti (pc := 101) C (k := 10) hO.1 rfl rfl wd_738 dX7_passesAll_101 ⟨Nat.le_of_ble_eq_true rfl, rfl⟩ ?_
  obtain ⟨⟨r_4, S_15⟩, hc_10, h⟩ := of_bd h
  replace h := of_u2 h
  refine x_callV1 (pc := 104) C (o := 140) [.int (S_14.1 140 10)] [.ref (b + 140)] (c_X7_passOne (b := b) (S_14.1 140 10) hO S_14 _ _ hc_10) cw_X7_203 vi_X7_passOne ⟨rfl, rfl, Nat.le_of_ble_eq_true rfl, Nat.le_of_ble_eq_true rfl⟩ ⟨Nat.le_refl _, Nat.le_refl _⟩ hO.1 ⟨rfl, rfl, rfl⟩ rfl ⟨rfl, Nat.le_of_ble_eq_true rfl⟩ dX7_passesAll_104 (fun hx_10 => ?_)
  obtain ⟨S_16, eS_16, h⟩ := of_lt h
  refine x_puti (pc := 107) C (k := 10) hO.1 rfl rfl wd_738 dX7_passesAll_107 ⟨Nat.le_of_ble_eq_true rfl, rfl⟩ eS_16 ?_
  exact x_vreturn (pc := 110) C dX7_passesAll_110 (of_s1 h)
set_option maxRecDepth 100000 in
set_option maxHeartbeats 4000000 in
theorem c_X7_forgets {l : Launch} {G : zz_G} {L : Ly} {b : Nat} (hO : isMo L) (S : Sg) (Sf : Sg) (h : f_X7_forgets S = some Sf) : Met l yX7_forgets (Cond.code yX7_forgets cX7_forgets 1 none :: zz_all) (rmz 2 44) (PC G L b S [.ref (b + 140)]) (QC G L b Sf none True) 0 0 (fun q => b ≤ q) := by
  refine x_met [.ref (b + 140)] (by decide +kernel) (Nat.le_of_ble_eq_true rfl) fun p e s m args below meth c C => ?_
  unfold f_X7_forgets at h
  refine x_aload_n (pc := 0) C 0 dX7_forgets_0 rfl ?_
  refine x_iconst (pc := 1) C (v := (2 : Int32)) dX7_forgets_1 rfl ?_
  refine x_iconst (pc := 2) C (v := (0 : Int32)) dX7_forgets_2 rfl ?_
  obtain ⟨S_1, hc_1, h⟩ := of_bd h
  refine x_callV_ (pc := 3) C (o := 140) [.int (2 : Int32), .int (0 : Int32)] [] (c_X7_passesAll (b := b) (2 : Int32) (0 : Int32) hO S _ hc_1) cw_X7_206 vi_X7_passesAll ⟨rfl, rfl, Nat.le_of_ble_eq_true rfl, Nat.le_of_ble_eq_true rfl⟩ ⟨Nat.le_refl _, Nat.le_refl _⟩ hO.1 ⟨rfl, rfl, rfl⟩ rfl ⟨rfl, Nat.le_of_ble_eq_true rfl⟩ dX7_forgets_3 (fun hx_1 => ?_)
  exact x_vreturn (pc := 6) C dX7_forgets_6 (of_s1 h)
set_option maxRecDepth 100000 in
set_option maxHeartbeats 4000000 in
theorem c_X7_getsFor {l : Launch} {G : zz_G} {L : Ly} {b : Nat} (p1 : Int32) (hO : isMo L) (S : Sg) (rf : Int32) (Sf : Sg) (h : f_X7_getsFor p1 S = some (rf, Sf)) : Met l yX7_getsFor (Cond.code yX7_getsFor cX7_getsFor 3 (some .int) :: zz_all) (rmz 10 238) (PC G L b S [.ref (b + 140), .int p1]) (QC G L b Sf (some (.int rf)) True) 0 0 (fun q => b ≤ q) := by
  refine x_met [.ref (b + 140), .int p1] (by decide +kernel) (Nat.le_of_ble_eq_true rfl) fun p e s m args below meth c C => ?_
  unfold f_X7_getsFor at h
  refine x_aload_n (pc := 0) C 0 dX7_getsFor_0 rfl ?_
  refine x_iload_n (pc := 1) C 1 dX7_getsFor_1 rfl ?_
  obtain ⟨⟨r_1, S_1⟩, hc_1, h⟩ := of_bd h
  replace h := of_u2 h
  refine x_callV1 (pc := 2) C (o := 140) [.int p1] [] (c_X7_asksSum (b := b) p1 hO S _ _ hc_1) cw_X7_350 vi_X7_asksSum ⟨rfl, rfl, Nat.le_of_ble_eq_true rfl, Nat.le_of_ble_eq_true rfl⟩ ⟨Nat.le_refl _, Nat.le_refl _⟩ hO.1 ⟨rfl, rfl, rfl⟩ rfl ⟨rfl, Nat.le_of_ble_eq_true rfl⟩ dX7_getsFor_2 (fun hx_1 => ?_)
  refine x_istore_n (pc := 5) C 2 [(2, .int r_1), (0, .ref (b + 140)), (1, .int p1)] dX7_getsFor_5 rfl (Nat.le_of_ble_eq_true rfl) rfl rfl ?_
  refine x_iload_n (pc := 6) C 0 dX7_getsFor_6 rfl ?_
  refine x_iconst (pc := 7) C (v := (1 : Int32)) dX7_getsFor_7 rfl ?_
  obtain ⟨x_1, ex_1, h⟩ := of_lt h
  have kd_1 : X p l e (rmz 10 238) s m args below meth c 0 0 (RQ G L b Sf below args s (some (.int rf)) True) 3 G L b S_1 24 [] [.int x_1] := by
    exact x_ireturn (pc := 24) C dX7_getsFor_24 (of_sp h).1 (of_sp h).2
  refine x_icmp_ne (pc := 8) C 15 dX7_getsFor_8 rfl (fun c_1 => ?_) (fun c_1 => ?_)
  · refine x_iload_n (pc := 15) C 0 dX7_getsFor_15 rfl ?_
    refine x_if_ne (pc := 16) C 23 dX7_getsFor_16 rfl (fun c_2 => ?_) (fun c_2 => ?_)
    · refine x_iconst (pc := 23) C (v := (-1 : Int32)) dX7_getsFor_23 rfl ?_
      refine x_sub [] rfl ?_
      rw [show x_1 = (-1 : Int32) from ((ex_1.trans (if_neg c_1)).trans (if_neg c_2))] at kd_1
      exact kd_1
    · refine x_iconst (pc := 19) C (v := (1 : Int32)) dX7_getsFor_19 rfl ?_
      refine x_goto (pc := 20) C 24 dX7_getsFor_20 rfl ?_
      refine x_sub [] rfl ?_
      rw [show x_1 = (1 : Int32) from ((ex_1.trans (if_neg c_1)).trans (if_pos c_2))] at kd_1
      exact kd_1
  · refine x_iconst (pc := 11) C (v := (3 : Int32)) dX7_getsFor_11 rfl ?_
    refine x_goto (pc := 12) C 24 dX7_getsFor_12 rfl ?_
    refine x_sub [] rfl ?_
    rw [show x_1 = (3 : Int32) from (ex_1.trans (if_pos c_1))] at kd_1
    exact kd_1
set_option maxRecDepth 100000 in
set_option maxHeartbeats 4000000 in
theorem c_X7_minds {l : Launch} {G : zz_G} {L : Ly} {b : Nat} (hO : isMo L) (S : Sg) (Sf : Sg) (h : f_X7_minds S = some Sf) : Met l yX7_minds (Cond.code yX7_minds cX7_minds 1 none :: zz_all) (rmz 2 44) (PC G L b S [.ref (b + 140)]) (QC G L b Sf none True) 0 0 (fun q => b ≤ q) := by
  refine x_met [.ref (b + 140)] (by decide +kernel) (Nat.le_of_ble_eq_true rfl) fun p e s m args below meth c C => ?_
  unfold f_X7_minds at h
  refine x_aload_n (pc := 0) C 0 dX7_minds_0 rfl ?_
  refine x_iconst (pc := 1) C (v := (2 : Int32)) dX7_minds_1 rfl ?_
  refine x_iconst (pc := 2) C (v := (1 : Int32)) dX7_minds_2 rfl ?_
  obtain ⟨S_1, hc_1, h⟩ := of_bd h
  refine x_callV_ (pc := 3) C (o := 140) [.int (2 : Int32), .int (1 : Int32)] [] (c_X7_passesAll (b := b) (2 : Int32) (1 : Int32) hO S _ hc_1) cw_X7_206 vi_X7_passesAll ⟨rfl, rfl, Nat.le_of_ble_eq_true rfl, Nat.le_of_ble_eq_true rfl⟩ ⟨Nat.le_refl _, Nat.le_refl _⟩ hO.1 ⟨rfl, rfl, rfl⟩ rfl ⟨rfl, Nat.le_of_ble_eq_true rfl⟩ dX7_minds_3 (fun hx_1 => ?_)
  exact x_vreturn (pc := 6) C dX7_minds_6 (of_s1 h)
set_option maxRecDepth 100000 in
set_option maxHeartbeats 4000000 in
theorem l_X7_findEnds_2 {p : Program} {l : Launch} {e : Env} {s : State} {m : MethodId} {args : Array Value} {below : List Frame} {meth : Method} {c : Code} {G : zz_G} {L : Ly} {b : Nat} {Q : State → Prop} (C : CX p G s m args meth c cX7_findEnds yX7_findEnds 4 none) (hO : isMo L) (v1 : Int32) (v2 : Int32) : ∀ (n : Nat) (v3 : Int32) (S : Sg) {z}, L_X7_findEnds_2 v1 v2 n v3 S = some z → (∀ (S_o : Sg), z = S_o → X p l e (rmz 11 260) s m args below meth c 0 0 Q 4 G L b S_o 71 [] []) → X p l e (rmz 11 260) s m args below meth c 0 0 Q 4 G L b S 2 [(0, .ref (b + 140)), (1, .int v1), (2, .int v2), (3, .int v3)] [] := by
  intro n
  induction n with
  | zero =>
    intro v3 S z h
    exact of_none h
  | succ n ih =>
    intro v3 S z h hx
    rw [L_X7_findEnds_2] at h
    refine x_iload_n (pc := 2) C 3 dX7_findEnds_2 rfl ?_
    refine x_iconst (pc := 3) C (v := (4 : Int32)) dX7_findEnds_3 rfl ?_
    refine x_icmp_ge (pc := 4) C 71 dX7_findEnds_4 rfl (fun c_1 => ?_) (fun c_1 => ?_)
    · replace h := of_ifn c_1 h
      exact x_sub [] rfl (hx _ (of_s1 h).symm)
    · replace h := of_ifp c_1 h
      refine x_aload_n (pc := 7) C 0 dX7_findEnds_7 rfl ?_
      obtain ⟨S_1, hc_1, h⟩ := of_bd h
      refine x_callV_ (pc := 8) C (o := 140) [] [] (c_X7_minds (b := b) hO S _ hc_1) cw_X7_341 vi_X7_minds ⟨rfl, rfl, Nat.le_of_ble_eq_true rfl, Nat.le_of_ble_eq_true rfl⟩ ⟨Nat.le_refl _, Nat.le_refl _⟩ hO.1 ⟨rfl, rfl, rfl⟩ rfl ⟨rfl, Nat.le_of_ble_eq_true rfl⟩ dX7_findEnds_8 (fun hx_1 => ?_)
      refine x_aload_n (pc := 11) C 0 dX7_findEnds_11 rfl ?_
      refine x_getr (pc := 12) C (k := 37) 164 hO.1 rfl rfl wd_765 dX7_findEnds_12 (Nat.le_of_ble_eq_true rfl) rfl ?_
      refine x_iconst (pc := 15) C (v := (2 : Int32)) dX7_findEnds_15 rfl ?_
      refine x_iload_n (pc := 16) C 3 dX7_findEnds_16 rfl ?_
      refine x_imul (pc := 17) C dX7_findEnds_17 ?_
      refine x_iload_n (pc := 18) C 3 dX7_findEnds_18 rfl ?_
      refine x_iconst (pc := 19) C (v := (2 : Int32)) dX7_findEnds_19 rfl ?_
      refine x_idiv (pc := 20) C dX7_findEnds_20 (by decide) ?_
      refine x_iconst (pc := 21) C (v := (1 : Int32)) dX7_findEnds_21 rfl ?_
      obtain ⟨J_1, eJ_1, h⟩ := of_lt h
      have kJ_1 : ∀ (x_1 : Int32) (S_2 : Sg), J_1 x_1 S_2 = some z → X p l e (rmz 11 260) s m args below meth c 0 0 Q 4 G L b S_2 34 [(0, .ref (b + 140)), (1, .int v1), (2, .int v2), (3, .int v3)] [.int x_1, .int ((2 : Int32) * v3), .ref (b + 164)] := by
        intro x_1 S_2 h
        replace h := of_J2 eJ_1 h
        obtain ⟨g_1, h⟩ := of_gd h
        obtain ⟨S_3, eS_3, h⟩ := of_lt h
        refine x_iastore (pc := 34) C hO.2.2.2.2.2.2.2.2.2.2.2.2.2.2.2.2.2.2.2.2.2.2.2.2.1 g_1 eS_3 dX7_findEnds_34 ?_
        refine x_aload_n (pc := 35) C 0 dX7_findEnds_35 rfl ?_
        refine x_getr (pc := 36) C (k := 37) 164 hO.1 rfl rfl wd_765 dX7_findEnds_36 (Nat.le_of_ble_eq_true rfl) rfl ?_
        refine x_iconst (pc := 39) C (v := (2 : Int32)) dX7_findEnds_39 rfl ?_
        refine x_iload_n (pc := 40) C 3 dX7_findEnds_40 rfl ?_
        refine x_imul (pc := 41) C dX7_findEnds_41 ?_
        refine x_iconst (pc := 42) C (v := (1 : Int32)) dX7_findEnds_42 rfl ?_
        refine x_iadd (pc := 43) C dX7_findEnds_43 ?_
        refine x_iload_n (pc := 44) C 3 dX7_findEnds_44 rfl ?_
        refine x_iconst (pc := 45) C (v := (2 : Int32)) dX7_findEnds_45 rfl ?_
        refine x_irem (pc := 46) C dX7_findEnds_46 (by decide) ?_
        refine x_iconst (pc := 47) C (v := (1 : Int32)) dX7_findEnds_47 rfl ?_
        refine x_icmp_ne (pc := 48) C 59 dX7_findEnds_48 rfl (fun c_2 => ?_) (fun c_2 => ?_)
        · replace h := of_ifn c_2 h
          refine x_iconst (pc := 59) C (v := (0 : Int32)) dX7_findEnds_59 rfl ?_
          obtain ⟨g_2, h⟩ := of_gd h
          obtain ⟨S_4, eS_4, h⟩ := of_lt h
          refine x_iastore (pc := 60) C hO.2.2.2.2.2.2.2.2.2.2.2.2.2.2.2.2.2.2.2.2.2.2.2.2.1 g_2 eS_4 dX7_findEnds_60 ?_
          refine x_aload_n (pc := 61) C 0 dX7_findEnds_61 rfl ?_
          obtain ⟨S_5, hc_2, h⟩ := of_bd h
          refine x_callV_ (pc := 62) C (o := 140) [] [] (c_X7_forgets (b := b) hO S_4 _ hc_2) cw_X7_347 vi_X7_forgets ⟨rfl, rfl, Nat.le_of_ble_eq_true rfl, Nat.le_of_ble_eq_true rfl⟩ ⟨Nat.le_refl _, Nat.le_refl _⟩ hO.1 ⟨rfl, rfl, rfl⟩ rfl ⟨rfl, Nat.le_of_ble_eq_true rfl⟩ dX7_findEnds_62 (fun hx_2 => ?_)
          obtain ⟨v3_1, ev3_1, h⟩ := of_lt h
          refine x_iinc (pc := 65) C (w := (1 : Int32)) 3 [(3, .int v3_1), (0, .ref (b + 140)), (1, .int v1), (2, .int v2)] dX7_findEnds_65 rfl rfl (Nat.le_of_ble_eq_true rfl) ev3_1 rfl ?_
          refine x_goto (pc := 68) C 2 dX7_findEnds_68 rfl ?_
          exact x_sub [1, 2, 3, 0] rfl (ih _ _ h hx)
        · replace h := of_ifp c_2 h
          refine x_aload_n (pc := 51) C 0 dX7_findEnds_51 rfl ?_
          refine x_iload_n (pc := 52) C 2 dX7_findEnds_52 rfl ?_
          obtain ⟨⟨r_1, S_6⟩, hc_3, h⟩ := of_bd h
          replace h := of_u2 h
          refine x_callV1 (pc := 53) C (o := 140) [.int v2] [.int (((2 : Int32) * v3) + (1 : Int32)), .ref (b + 164)] (c_X7_getsFor (b := b) v2 hO S_3 _ _ hc_3) cw_X7_359 vi_X7_getsFor ⟨rfl, rfl, Nat.le_of_ble_eq_true rfl, Nat.le_of_ble_eq_true rfl⟩ ⟨Nat.le_refl _, Nat.le_refl _⟩ hO.1 ⟨rfl, rfl, rfl⟩ rfl ⟨rfl, Nat.le_of_ble_eq_true rfl⟩ dX7_findEnds_53 (fun hx_3 => ?_)
          refine x_goto (pc := 56) C 60 dX7_findEnds_56 rfl ?_
          obtain ⟨g_3, h⟩ := of_gd h
          obtain ⟨S_7, eS_7, h⟩ := of_lt h
          refine x_iastore (pc := 60) C hO.2.2.2.2.2.2.2.2.2.2.2.2.2.2.2.2.2.2.2.2.2.2.2.2.1 g_3 eS_7 dX7_findEnds_60 ?_
          refine x_aload_n (pc := 61) C 0 dX7_findEnds_61 rfl ?_
          obtain ⟨S_8, hc_4, h⟩ := of_bd h
          refine x_callV_ (pc := 62) C (o := 140) [] [] (c_X7_forgets (b := b) hO S_7 _ hc_4) cw_X7_347 vi_X7_forgets ⟨rfl, rfl, Nat.le_of_ble_eq_true rfl, Nat.le_of_ble_eq_true rfl⟩ ⟨Nat.le_refl _, Nat.le_refl _⟩ hO.1 ⟨rfl, rfl, rfl⟩ rfl ⟨rfl, Nat.le_of_ble_eq_true rfl⟩ dX7_findEnds_62 (fun hx_4 => ?_)
          obtain ⟨v3_2, ev3_2, h⟩ := of_lt h
          refine x_iinc (pc := 65) C (w := (1 : Int32)) 3 [(3, .int v3_2), (0, .ref (b + 140)), (1, .int v1), (2, .int v2)] dX7_findEnds_65 rfl rfl (Nat.le_of_ble_eq_true rfl) ev3_2 rfl ?_
          refine x_goto (pc := 68) C 2 dX7_findEnds_68 rfl ?_
          exact x_sub [1, 2, 3, 0] rfl (ih _ _ h hx)
      refine x_icmp_ne (pc := 22) C 33 dX7_findEnds_22 rfl (fun c_3 => ?_) (fun c_3 => ?_)
      · replace h := of_ifn c_3 h
        refine x_iconst (pc := 33) C (v := (0 : Int32)) dX7_findEnds_33 rfl ?_
        exact x_sub [0, 1, 2, 3] rfl (kJ_1 _ _ h)
      · replace h := of_ifp c_3 h
        refine x_aload_n (pc := 25) C 0 dX7_findEnds_25 rfl ?_
        refine x_iload_n (pc := 26) C 1 dX7_findEnds_26 rfl ?_
        obtain ⟨⟨r_2, S_9⟩, hc_5, h⟩ := of_bd h
        replace h := of_u2 h
        refine x_callV1 (pc := 27) C (o := 140) [.int v1] [.int ((2 : Int32) * v3), .ref (b + 164)] (c_X7_getsFor (b := b) v1 hO S_1 _ _ hc_5) cw_X7_359 vi_X7_getsFor ⟨rfl, rfl, Nat.le_of_ble_eq_true rfl, Nat.le_of_ble_eq_true rfl⟩ ⟨Nat.le_refl _, Nat.le_refl _⟩ hO.1 ⟨rfl, rfl, rfl⟩ rfl ⟨rfl, Nat.le_of_ble_eq_true rfl⟩ dX7_findEnds_27 (fun hx_5 => ?_)
        refine x_goto (pc := 30) C 34 dX7_findEnds_30 rfl ?_
        exact x_sub [0, 1, 2, 3] rfl (kJ_1 _ _ h)
set_option maxRecDepth 100000 in
set_option maxHeartbeats 4000000 in
theorem c_X7_findEnds {l : Launch} {G : zz_G} {L : Ly} {b : Nat} (p1 : Int32) (p2 : Int32) (hO : isMo L) (S : Sg) (Sf : Sg) (h : f_X7_findEnds p1 p2 S = some Sf) : Met l yX7_findEnds (Cond.code yX7_findEnds cX7_findEnds 4 none :: zz_all) (rmz 11 260) (PC G L b S [.ref (b + 140), .int p1, .int p2]) (QC G L b Sf none True) 0 0 (fun q => b ≤ q) := by
  refine x_met [.ref (b + 140), .int p1, .int p2] (by decide +kernel) (Nat.le_of_ble_eq_true rfl) fun p e s m args below meth c C => ?_
  unfold f_X7_findEnds at h
  refine x_iconst (pc := 0) C (v := (0 : Int32)) dX7_findEnds_0 rfl ?_
  refine x_istore_n (pc := 1) C 3 [(3, .int (0 : Int32)), (0, .ref (b + 140)), (1, .int p1), (2, .int p2)] dX7_findEnds_1 rfl (Nat.le_of_ble_eq_true rfl) rfl rfl ?_
  refine x_sub [1, 2, 3, 0] rfl ?_
  obtain ⟨z_hz_1, hz_1, h⟩ := of_bd h
  refine l_X7_findEnds_2 C hO p1 p2 400 _ _ hz_1 (fun S_1 ez => ?_)
  subst z_hz_1
  exact x_vreturn (pc := 71) C dX7_findEnds_71 (of_s1 h)
set_option maxRecDepth 100000 in
set_option maxHeartbeats 4000000 in
theorem l_X7_firstToJoin_2 {p : Program} {l : Launch} {e : Env} {s : State} {m : MethodId} {args : Array Value} {below : List Frame} {meth : Method} {c : Code} {G : zz_G} {L : Ly} {b : Nat} (C : CX p G s m args meth c cX7_firstToJoin yX7_firstToJoin 2 (some .int)) (hO : isMo L) (S : Sg) (rf : Int32) : ∀ (n : Nat) (v1 : Int32) {z}, L_X7_firstToJoin_2 S n v1 = some z → (∀ q, z = .inl q → q = rf) → (z = .inr () → X p l e (rmz 0 0) s m args below meth c 0 0 (RQ G L b S below args s (some (.int rf)) True) 2 G L b S 27 [] []) → X p l e (rmz 0 0) s m args below meth c 0 0 (RQ G L b S below args s (some (.int rf)) True) 2 G L b S 2 [(0, .ref (b + 140)), (1, .int v1)] [] := by
  intro n
  induction n with
  | zero =>
    intro v1 z h
    exact of_none h
  | succ n ih =>
    intro v1 z h hr hx
    rw [L_X7_firstToJoin_2] at h
    refine x_iload_n (pc := 2) C 1 dX7_firstToJoin_2 rfl ?_
    refine x_sipush (pc := 3) C (v := (255 : Int32)) dX7_firstToJoin_3 rfl ?_
    refine x_icmp_gt (pc := 6) C 27 dX7_firstToJoin_6 rfl (fun c_1 => ?_) (fun c_1 => ?_)
    · replace h := of_ifp c_1 h
      exact x_sub [] rfl (hx (of_s1 h).symm)
    · replace h := of_ifn c_1 h
      refine x_aload_n (pc := 9) C 0 dX7_firstToJoin_9 rfl ?_
      refine x_getr (pc := 10) C (k := 32) 159 hO.1 rfl rfl wd_760 dX7_firstToJoin_10 (Nat.le_of_ble_eq_true rfl) rfl ?_
      refine x_iload_n (pc := 13) C 1 dX7_firstToJoin_13 rfl ?_
      obtain ⟨g_1, h⟩ := of_gd h
      refine x_iaload (pc := 14) C hO.2.2.2.2.2.2.2.2.2.2.2.2.2.2.2.2.2.2.2.1 g_1 dX7_firstToJoin_14 ?_
      refine x_iconst (pc := 15) C (v := (1 : Int32)) dX7_firstToJoin_15 rfl ?_
      refine x_icmp_ne (pc := 16) C 21 dX7_firstToJoin_16 rfl (fun c_2 => ?_) (fun c_2 => ?_)
      · replace h := of_ifn c_2 h
        obtain ⟨v1_1, ev1_1, h⟩ := of_lt h
        refine x_iinc (pc := 21) C (w := (1 : Int32)) 1 [(1, .int v1_1), (0, .ref (b + 140))] dX7_firstToJoin_21 rfl rfl (Nat.le_of_ble_eq_true rfl) ev1_1 rfl ?_
        refine x_goto (pc := 24) C 2 dX7_firstToJoin_24 rfl ?_
        exact x_sub [1, 0] rfl (ih _ h hr hx)
      · replace h := of_ifp c_2 h
        refine x_iload_n (pc := 19) C 1 dX7_firstToJoin_19 rfl ?_
        have hq := hr _ (of_s1 h).symm
        exact x_ireturn (pc := 20) C dX7_firstToJoin_20 hq rfl
set_option maxRecDepth 100000 in
set_option maxHeartbeats 4000000 in
theorem c_X7_firstToJoin {l : Launch} {G : zz_G} {L : Ly} {b : Nat} (hO : isMo L) (S : Sg) (rf : Int32) (h : f_X7_firstToJoin S = some rf) : Met l yX7_firstToJoin (Cond.code yX7_firstToJoin cX7_firstToJoin 2 (some .int) :: zz_all) (rmz 0 0) (PC G L b S [.ref (b + 140)]) (QC G L b S (some (.int rf)) True) 0 0 (fun q => b ≤ q) := by
  refine x_met [.ref (b + 140)] (by decide +kernel) (Nat.le_of_ble_eq_true rfl) fun p e s m args below meth c C => ?_
  unfold f_X7_firstToJoin at h
  refine x_iconst (pc := 0) C (v := (1 : Int32)) dX7_firstToJoin_0 rfl ?_
  refine x_istore_n (pc := 1) C 1 [(1, .int (1 : Int32)), (0, .ref (b + 140))] dX7_firstToJoin_1 rfl (Nat.le_of_ble_eq_true rfl) rfl rfl ?_
  refine x_sub [1, 0] rfl ?_
  obtain ⟨z_hz_1, hz_1, hl, hrr⟩ := of_bs h
  refine l_X7_firstToJoin_2 C hO S rf 400 _ hz_1 (fun q ez => of_s1 (hl _ ez)) (fun ez => ?_)
  replace h := hrr _ ez
  clear hl hrr
  refine x_bipush (pc := 27) C (v := (-9 : Int32)) dX7_firstToJoin_27 rfl ?_
  exact x_ireturn (pc := 29) C dX7_firstToJoin_29 (of_s1 h) rfl
set_option maxRecDepth 100000 in
set_option maxHeartbeats 4000000 in
theorem c_X7_letterNow {l : Launch} {G : zz_G} {L : Ly} {b : Nat} (hO : isMo L) (S : Sg) (rf : Int32) (h : f_X7_letterNow S = some rf) : Met l yX7_letterNow (Cond.code yX7_letterNow cX7_letterNow 1 (some .int) :: zz_all) (rmz 0 0) (PC G L b S [.ref (b + 140)]) (QC G L b S (some (.int rf)) True) 0 0 (fun q => b ≤ q) := by
  refine x_met [.ref (b + 140)] (by decide +kernel) (Nat.le_of_ble_eq_true rfl) fun p e s m args below meth c C => ?_
  unfold f_X7_letterNow at h
  refine x_aload_n (pc := 0) C 0 dX7_letterNow_0 rfl ?_
  refine x_geti (pc := 1) C (k := 29) hO.1 rfl rfl wd_757 dX7_letterNow_1 ⟨Nat.le_of_ble_eq_true rfl, rfl⟩ ?_
  refine x_aload_n (pc := 4) C 0 dX7_letterNow_4 rfl ?_
  refine x_geti (pc := 5) C (k := 28) hO.1 rfl rfl wd_756 dX7_letterNow_5 ⟨Nat.le_of_ble_eq_true rfl, rfl⟩ ?_
  refine x_icmp_ge (pc := 8) C 23 dX7_letterNow_8 rfl (fun c_1 => ?_) (fun c_1 => ?_)
  · replace h := of_ifn c_1 h
    refine x_iconst (pc := 23) C (v := (-1 : Int32)) dX7_letterNow_23 rfl ?_
    exact x_ireturn (pc := 24) C dX7_letterNow_24 (of_s1 h) rfl
  · replace h := of_ifp c_1 h
    refine x_aload_n (pc := 11) C 0 dX7_letterNow_11 rfl ?_
    refine x_getr (pc := 12) C (k := 24) 155 hO.1 rfl rfl wd_752 dX7_letterNow_12 (Nat.le_of_ble_eq_true rfl) rfl ?_
    refine x_aload_n (pc := 15) C 0 dX7_letterNow_15 rfl ?_
    refine x_geti (pc := 16) C (k := 29) hO.1 rfl rfl wd_757 dX7_letterNow_16 ⟨Nat.le_of_ble_eq_true rfl, rfl⟩ ?_
    obtain ⟨g_1, h⟩ := of_gd h
    refine x_iaload (pc := 19) C hO.2.2.2.2.2.2.2.2.2.2.2.2.2.2.2.1 g_1 dX7_letterNow_19 ?_
    refine x_goto (pc := 20) C 24 dX7_letterNow_20 rfl ?_
    exact x_ireturn (pc := 24) C dX7_letterNow_24 (of_s1 h) rfl
set_option maxRecDepth 100000 in
set_option maxHeartbeats 4000000 in
theorem l_X7_readsDigits_4 {p : Program} {l : Launch} {e : Env} {s : State} {m : MethodId} {args : Array Value} {below : List Frame} {meth : Method} {c : Code} {G : zz_G} {L : Ly} {b : Nat} (C : CX p G s m args meth c cX7_readsDigits yX7_readsDigits 4 (some .boolean)) (hO : isMo L) (v1 : Int32) (rf : Int32) (Sf : Sg) : ∀ (n : Nat) (v2 : Int32) (v3 : Int32) (S : Sg) {z}, L_X7_readsDigits_4 v1 n v2 v3 S = some z → (∀ q, z = .inl q → q.1 = rf ∧ q.2 = Sf) → (∀ (v2_o : Int32) (S_o : Sg), z = .inr (v2_o, S_o) → X p l e (rmz 1 22) s m args below meth c 0 0 (RQ G L b Sf below args s (some (.int rf)) (rf = 0 ∨ rf = 1)) 4 G L b S_o 54 [(0, .ref (b + 140)), (2, .int v2_o)] []) → X p l e (rmz 1 22) s m args below meth c 0 0 (RQ G L b Sf below args s (some (.int rf)) (rf = 0 ∨ rf = 1)) 4 G L b S 4 [(0, .ref (b + 140)), (1, .int v1), (2, .int v2), (3, .int v3)] [] := by
  intro n
  induction n with
  | zero =>
    intro v2 v3 S z h
    exact of_none h
  | succ n ih =>
    intro v2 v3 S z h hr hx
    rw [L_X7_readsDigits_4] at h
    refine x_iload_n (pc := 4) C 3 dX7_readsDigits_4 rfl ?_
    refine x_iload_n (pc := 5) C 1 dX7_readsDigits_5 rfl ?_
    refine x_icmp_ge (pc := 6) C 54 dX7_readsDigits_6 rfl (fun c_1 => ?_) (fun c_1 => ?_)
    · replace h := of_ifn c_1 h
      exact x_sub [0, 2] rfl (hx _ _ (of_s1 h).symm)
    · replace h := of_ifp c_1 h
      refine x_aload_n (pc := 9) C 0 dX7_readsDigits_9 rfl ?_
      obtain ⟨r_1, hc_1, h⟩ := of_bd h
      refine x_callV1 (pc := 10) C (o := 140) [] [] (c_X7_letterNow (b := b) hO S _ hc_1) cw_X7_226 vi_X7_letterNow ⟨rfl, rfl, Nat.le_of_ble_eq_true rfl, Nat.le_of_ble_eq_true rfl⟩ ⟨Nat.le_refl _, Nat.le_refl _⟩ hO.1 ⟨rfl, rfl, rfl⟩ rfl ⟨rfl, Nat.le_of_ble_eq_true rfl⟩ dX7_readsDigits_10 (fun hx_1 => ?_)
      refine x_bipush (pc := 13) C (v := (48 : Int32)) dX7_readsDigits_13 rfl ?_
      refine x_bipush (pc := 15) C (v := (57 : Int32)) dX7_readsDigits_15 rfl ?_
      refine x_callS1 (pc := 17) C [.int r_1, .int (48 : Int32), .int (57 : Int32)] [] (c_X7_isIn (b := b) r_1 (48 : Int32) (57 : Int32) S) cw_X7_96 vs_X7_isIn ⟨rfl, rfl, Nat.le_of_ble_eq_true rfl, Nat.le_of_ble_eq_true rfl⟩ ⟨Nat.le_refl _, Nat.le_refl _⟩ rfl ⟨rfl, Nat.le_of_ble_eq_true rfl⟩ dX7_readsDigits_17 (fun hx_2 => ?_)
      refine x_if_ne (pc := 20) C 25 dX7_readsDigits_20 rfl (fun c_2 => ?_) (fun c_2 => ?_)
      · replace h := of_ifn c_2 h
        refine x_bipush (pc := 25) C (v := (10 : Int32)) dX7_readsDigits_25 rfl ?_
        refine x_iload_n (pc := 27) C 2 dX7_readsDigits_27 rfl ?_
        refine x_imul (pc := 28) C dX7_readsDigits_28 ?_
        refine x_aload_n (pc := 29) C 0 dX7_readsDigits_29 rfl ?_
        obtain ⟨r_2, hc_2, h⟩ := of_bd h
        refine x_callV1 (pc := 30) C (o := 140) [] [.int ((10 : Int32) * v2)] (c_X7_letterNow (b := b) hO S _ hc_2) cw_X7_226 vi_X7_letterNow ⟨rfl, rfl, Nat.le_of_ble_eq_true rfl, Nat.le_of_ble_eq_true rfl⟩ ⟨Nat.le_refl _, Nat.le_refl _⟩ hO.1 ⟨rfl, rfl, rfl⟩ rfl ⟨rfl, Nat.le_of_ble_eq_true rfl⟩ dX7_readsDigits_30 (fun hx_3 => ?_)
        refine x_iadd (pc := 33) C dX7_readsDigits_33 ?_
        refine x_bipush (pc := 34) C (v := (48 : Int32)) dX7_readsDigits_34 rfl ?_
        refine x_isub (pc := 36) C dX7_readsDigits_36 ?_
        obtain ⟨v2_1, ev2_1, h⟩ := of_lt h
        refine x_istore_n (pc := 37) C 2 [(2, .int v2_1), (0, .ref (b + 140)), (1, .int v1), (3, .int v3)] dX7_readsDigits_37 rfl (Nat.le_of_ble_eq_true rfl) ev2_1 rfl ?_
        refine x_aload_n (pc := 38) C 1 dX7_readsDigits_38 rfl ?_
        refine x_dup (pc := 39) C dX7_readsDigits_39 rfl ?_
        refine x_geti (pc := 40) C (k := 29) hO.1 rfl rfl wd_757 dX7_readsDigits_40 ⟨Nat.le_of_ble_eq_true rfl, rfl⟩ ?_
        refine x_iconst (pc := 43) C (v := (1 : Int32)) dX7_readsDigits_43 rfl ?_
        refine x_iadd (pc := 44) C dX7_readsDigits_44 ?_
        obtain ⟨S_1, eS_1, h⟩ := of_lt h
        refine x_puti (pc := 45) C (k := 29) hO.1 rfl rfl wd_757 dX7_readsDigits_45 ⟨Nat.le_of_ble_eq_true rfl, rfl⟩ eS_1 ?_
        obtain ⟨v3_1, ev3_1, h⟩ := of_lt h
        refine x_iinc (pc := 48) C (w := (1 : Int32)) 3 [(3, .int v3_1), (2, .int v2_1), (0, .ref (b + 140)), (1, .int v1)] dX7_readsDigits_48 rfl rfl (Nat.le_of_ble_eq_true rfl) ev3_1 rfl ?_
        refine x_goto (pc := 51) C 4 dX7_readsDigits_51 rfl ?_
        exact x_sub [2, 3, 1, 0] rfl (ih _ _ _ h hr hx)
      · replace h := of_ifp c_2 h
        refine x_iconst (pc := 23) C (v := (0 : Int32)) dX7_readsDigits_23 rfl ?_
        have hq := hr _ (of_s1 h).symm
        exact x_zreturn (pc := 24) C (by decide) dX7_readsDigits_24 hq.1 hq.2
set_option maxRecDepth 100000 in
set_option maxHeartbeats 4000000 in
theorem c_X7_readsDigits {l : Launch} {G : zz_G} {L : Ly} {b : Nat} (p1 : Int32) (hO : isMo L) (S : Sg) (rf : Int32) (Sf : Sg) (h : f_X7_readsDigits p1 S = some (rf, Sf)) : Met l yX7_readsDigits (Cond.code yX7_readsDigits cX7_readsDigits 4 (some .boolean) :: zz_all) (rmz 1 22) (PC G L b S [.ref (b + 140), .int p1]) (QC G L b Sf (some (.int rf)) (rf = 0 ∨ rf = 1)) 0 0 (fun q => b ≤ q) := by
  refine x_met [.ref (b + 140), .int p1] (by decide +kernel) (Nat.le_of_ble_eq_true rfl) fun p e s m args below meth c C => ?_
  unfold f_X7_readsDigits at h
  refine x_iconst (pc := 0) C (v := (0 : Int32)) dX7_readsDigits_0 rfl ?_
  refine x_istore_n (pc := 1) C 2 [(2, .int (0 : Int32)), (0, .ref (b + 140)), (1, .int p1)] dX7_readsDigits_1 rfl (Nat.le_of_ble_eq_true rfl) rfl rfl ?_
  refine x_iconst (pc := 2) C (v := (0 : Int32)) dX7_readsDigits_2 rfl ?_
  refine x_istore_n (pc := 3) C 3 [(3, .int (0 : Int32)), (2, .int (0 : Int32)), (0, .ref (b + 140)), (1, .int p1)] dX7_readsDigits_3 rfl (Nat.le_of_ble_eq_true rfl) rfl rfl ?_
  refine x_sub [2, 3, 1, 0] rfl ?_
  obtain ⟨z_hz_1, hz_1, hl, hrr⟩ := of_bs h
  refine l_X7_readsDigits_4 C hO p1 rf Sf 400 _ _ _ hz_1 (fun q ez => of_sp (x := q.1) (u := q.2) (hl _ ez)) (fun v2_1 S_1 ez => ?_)
  replace h := hrr _ ez
  clear hl hrr
  replace h := of_u2 h
  refine x_aload_n (pc := 54) C 0 dX7_readsDigits_54 rfl ?_
  refine x_getr (pc := 55) C (k := 27) 158 hO.1 rfl rfl wd_755 dX7_readsDigits_55 (Nat.le_of_ble_eq_true rfl) rfl ?_
  refine x_aload_n (pc := 58) C 0 dX7_readsDigits_58 rfl ?_
  refine x_geti (pc := 59) C (k := 31) hO.1 rfl rfl wd_759 dX7_readsDigits_59 ⟨Nat.le_of_ble_eq_true rfl, rfl⟩ ?_
  refine x_iload_n (pc := 62) C 1 dX7_readsDigits_62 rfl ?_
  obtain ⟨g_1, h⟩ := of_gd h
  obtain ⟨S_2, eS_2, h⟩ := of_lt h
  refine x_iastore (pc := 63) C hO.2.2.2.2.2.2.2.2.2.2.2.2.2.2.2.2.2.2.1 g_1 eS_2 dX7_readsDigits_63 ?_
  refine x_aload_n (pc := 64) C 0 dX7_readsDigits_64 rfl ?_
  refine x_dup (pc := 65) C dX7_readsDigits_65 rfl ?_
  refine x_geti (pc := 66) C (k := 31) hO.1 rfl rfl wd_759 dX7_readsDigits_66 ⟨Nat.le_of_ble_eq_true rfl, rfl⟩ ?_
  refine x_iconst (pc := 69) C (v := (1 : Int32)) dX7_readsDigits_69 rfl ?_
  refine x_iadd (pc := 70) C dX7_readsDigits_70 ?_
  obtain ⟨S_3, eS_3, h⟩ := of_lt h
  refine x_puti (pc := 71) C (k := 31) hO.1 rfl rfl wd_759 dX7_readsDigits_71 ⟨Nat.le_of_ble_eq_true rfl, rfl⟩ eS_3 ?_
  refine x_iconst (pc := 74) C (v := (1 : Int32)) dX7_readsDigits_74 rfl ?_
  exact x_zreturn (pc := 75) C (by decide) dX7_readsDigits_75 (of_sp h).1 (of_sp h).2
set_option maxRecDepth 100000 in
set_option maxHeartbeats 4000000 in
theorem l_X7_readsMany_2 {p : Program} {l : Launch} {e : Env} {s : State} {m : MethodId} {args : Array Value} {below : List Frame} {meth : Method} {c : Code} {G : zz_G} {L : Ly} {b : Nat} (C : CX p G s m args meth c cX7_readsMany yX7_readsMany 3 (some .boolean)) (hO : isMo L) (v1 : Int32) (rf : Int32) (Sf : Sg) : ∀ (n : Nat) (v2 : Int32) (S : Sg) {z}, L_X7_readsMany_2 v1 n v2 S = some z → (∀ q, z = .inl q → q.1 = rf ∧ q.2 = Sf) → (∀ (S_o : Sg), z = .inr S_o → X p l e (rmz 2 45) s m args below meth c 0 0 (RQ G L b Sf below args s (some (.int rf)) (rf = 0 ∨ rf = 1)) 3 G L b S_o 23 [] []) → X p l e (rmz 2 45) s m args below meth c 0 0 (RQ G L b Sf below args s (some (.int rf)) (rf = 0 ∨ rf = 1)) 3 G L b S 2 [(0, .ref (b + 140)), (1, .int v1), (2, .int v2)] [] := by
  intro n
  induction n with
  | zero =>
    intro v2 S z h
    exact of_none h
  | succ n ih =>
    intro v2 S z h hr hx
    rw [L_X7_readsMany_2] at h
    refine x_iload_n (pc := 2) C 2 dX7_readsMany_2 rfl ?_
    refine x_iload_n (pc := 3) C 1 dX7_readsMany_3 rfl ?_
    refine x_icmp_ge (pc := 4) C 23 dX7_readsMany_4 rfl (fun c_1 => ?_) (fun c_1 => ?_)
    · replace h := of_ifn c_1 h
      exact x_sub [] rfl (hx _ (of_s1 h).symm)
    · replace h := of_ifp c_1 h
      refine x_aload_n (pc := 7) C 0 dX7_readsMany_7 rfl ?_
      refine x_iconst (pc := 8) C (v := (1 : Int32)) dX7_readsMany_8 rfl ?_
      obtain ⟨⟨r_1, S_1⟩, hc_1, h⟩ := of_bd h
      replace h := of_u2 h
      refine x_callV1 (pc := 9) C (o := 140) [.int (1 : Int32)] [] (c_X7_readsDigits (b := b) (1 : Int32) hO S _ _ hc_1) cw_X7_232 vi_X7_readsDigits ⟨rfl, rfl, Nat.le_of_ble_eq_true rfl, Nat.le_of_ble_eq_true rfl⟩ ⟨Nat.le_refl _, Nat.le_refl _⟩ hO.1 ⟨rfl, rfl, rfl⟩ rfl ⟨rfl, Nat.le_of_ble_eq_true rfl⟩ dX7_readsMany_9 (fun hx_1 => ?_)
      refine x_if_ne (pc := 12) C 17 dX7_readsMany_12 rfl (fun c_2 => ?_) (fun c_2 => ?_)
      · replace h := of_ifn c_2 h
        obtain ⟨v2_1, ev2_1, h⟩ := of_lt h
        refine x_iinc (pc := 17) C (w := (1 : Int32)) 2 [(2, .int v2_1), (0, .ref (b + 140)), (1, .int v1)] dX7_readsMany_17 rfl rfl (Nat.le_of_ble_eq_true rfl) ev2_1 rfl ?_
        refine x_goto (pc := 20) C 2 dX7_readsMany_20 rfl ?_
        exact x_sub [1, 2, 0] rfl (ih _ _ h hr hx)
      · replace h := of_ifp c_2 h
        refine x_iconst (pc := 15) C (v := (0 : Int32)) dX7_readsMany_15 rfl ?_
        have hq := hr _ (of_s1 h).symm
        exact x_zreturn (pc := 16) C (by decide) dX7_readsMany_16 hq.1 hq.2
set_option maxRecDepth 100000 in
set_option maxHeartbeats 4000000 in
theorem c_X7_readsMany {l : Launch} {G : zz_G} {L : Ly} {b : Nat} (p1 : Int32) (hO : isMo L) (S : Sg) (rf : Int32) (Sf : Sg) (h : f_X7_readsMany p1 S = some (rf, Sf)) : Met l yX7_readsMany (Cond.code yX7_readsMany cX7_readsMany 3 (some .boolean) :: zz_all) (rmz 2 45) (PC G L b S [.ref (b + 140), .int p1]) (QC G L b Sf (some (.int rf)) (rf = 0 ∨ rf = 1)) 0 0 (fun q => b ≤ q) := by
  refine x_met [.ref (b + 140), .int p1] (by decide +kernel) (Nat.le_of_ble_eq_true rfl) fun p e s m args below meth c C => ?_
  unfold f_X7_readsMany at h
  refine x_iconst (pc := 0) C (v := (0 : Int32)) dX7_readsMany_0 rfl ?_
  refine x_istore_n (pc := 1) C 2 [(2, .int (0 : Int32)), (0, .ref (b + 140)), (1, .int p1)] dX7_readsMany_1 rfl (Nat.le_of_ble_eq_true rfl) rfl rfl ?_
  refine x_sub [1, 2, 0] rfl ?_
  obtain ⟨z_hz_1, hz_1, hl, hrr⟩ := of_bs h
  refine l_X7_readsMany_2 C hO p1 rf Sf 400 _ _ hz_1 (fun q ez => of_sp (x := q.1) (u := q.2) (hl _ ez)) (fun S_1 ez => ?_)
  replace h := hrr _ ez
  clear hl hrr
  refine x_iconst (pc := 23) C (v := (1 : Int32)) dX7_readsMany_23 rfl ?_
  exact x_zreturn (pc := 24) C (by decide) dX7_readsMany_24 (of_sp h).1 (of_sp h).2
set_option maxRecDepth 100000 in
set_option maxHeartbeats 4000000 in
theorem c_X7_readsAll {l : Launch} {G : zz_G} {L : Ly} {b : Nat} (p1 : Int32) (hO : isMo L) (S : Sg) (rf : Int32) (Sf : Sg) (h : f_X7_readsAll p1 S = some (rf, Sf)) : Met l yX7_readsAll (Cond.code yX7_readsAll cX7_readsAll 2 (some .boolean) :: zz_all) (rmz 3 67) (PC G L b S [.ref (b + 140), .int p1]) (QC G L b Sf (some (.int rf)) (rf = 0 ∨ rf = 1)) 0 0 (fun q => b ≤ q) := by
  refine x_met [.ref (b + 140), .int p1] (by decide +kernel) (Nat.le_of_ble_eq_true rfl) fun p e s m args below meth c C => ?_
  unfold f_X7_readsAll at h
  refine x_iload_n (pc := 0) C 1 dX7_readsAll_0 rfl ?_
  obtain ⟨J_1, eJ_1, h⟩ := of_lt h
  have kJ_1 : ∀ (_ : Unit), J_1 () = some (rf, Sf) → X p l e (rmz 3 67) s m args below meth c 0 0 (RQ G L b Sf below args s (some (.int rf)) (rf = 0 ∨ rf = 1)) 2 G L b S 60 [(0, .ref (b + 140))] [] := by
    intro _ h
    replace h := of_J1 eJ_1 h
    refine x_aload_n (pc := 60) C 0 dX7_readsAll_60 rfl ?_
    refine x_iconst (pc := 61) C (v := (1 : Int32)) dX7_readsAll_61 rfl ?_
    obtain ⟨⟨r_1, S_1⟩, hc_1, h⟩ := of_bd h
    replace h := of_u2 h
    refine x_callV1 (pc := 62) C (o := 140) [.int (1 : Int32)] [] (c_X7_readsDigits (b := b) (1 : Int32) hO S _ _ hc_1) cw_X7_232 vi_X7_readsDigits ⟨rfl, rfl, Nat.le_of_ble_eq_true rfl, Nat.le_of_ble_eq_true rfl⟩ ⟨Nat.le_refl _, Nat.le_refl _⟩ hO.1 ⟨rfl, rfl, rfl⟩ rfl ⟨rfl, Nat.le_of_ble_eq_true rfl⟩ dX7_readsAll_62 (fun hx_1 => ?_)
    refine x_if_eq (pc := 65) C 80 dX7_readsAll_65 rfl (fun c_1 => ?_) (fun c_1 => ?_)
    · replace h := of_ifp c_1 h
      refine x_iconst (pc := 80) C (v := (0 : Int32)) dX7_readsAll_80 rfl ?_
      exact x_zreturn (pc := 81) C (by decide) dX7_readsAll_81 (of_sp h).1 (of_sp h).2
    · replace h := of_ifn c_1 h
      refine x_aload_n (pc := 68) C 0 dX7_readsAll_68 rfl ?_
      refine x_iconst (pc := 69) C (v := (2 : Int32)) dX7_readsAll_69 rfl ?_
      obtain ⟨⟨r_2, S_2⟩, hc_2, h⟩ := of_bd h
      replace h := of_u2 h
      refine x_callV1 (pc := 70) C (o := 140) [.int (2 : Int32)] [] (c_X7_readsDigits (b := b) (2 : Int32) hO S_1 _ _ hc_2) cw_X7_232 vi_X7_readsDigits ⟨rfl, rfl, Nat.le_of_ble_eq_true rfl, Nat.le_of_ble_eq_true rfl⟩ ⟨Nat.le_refl _, Nat.le_refl _⟩ hO.1 ⟨rfl, rfl, rfl⟩ rfl ⟨rfl, Nat.le_of_ble_eq_true rfl⟩ dX7_readsAll_70 (fun hx_2 => ?_)
      obtain ⟨x_1, ex_1, h⟩ := of_lt h
      have kd_1 : X p l e (rmz 3 67) s m args below meth c 0 0 (RQ G L b Sf below args s (some (.int rf)) (rf = 0 ∨ rf = 1)) 2 G L b S_2 81 [] [.int x_1] := by
        exact x_zreturn (pc := 81) C (ex_1 ▸ (if01 (by decide) (by decide))) dX7_readsAll_81 (of_sp h).1 (of_sp h).2
      refine x_if_eq (pc := 73) C 80 dX7_readsAll_73 rfl (fun c_2 => ?_) (fun c_2 => ?_)
      · refine x_iconst (pc := 80) C (v := (0 : Int32)) dX7_readsAll_80 rfl ?_
        refine x_sub [] rfl ?_
        rw [show x_1 = (0 : Int32) from (ex_1.trans (if_pos c_2))] at kd_1
        exact kd_1
      · refine x_iconst (pc := 76) C (v := (1 : Int32)) dX7_readsAll_76 rfl ?_
        refine x_goto (pc := 77) C 81 dX7_readsAll_77 rfl ?_
        refine x_sub [] rfl ?_
        rw [show x_1 = (1 : Int32) from (ex_1.trans (if_neg c_2))] at kd_1
        exact kd_1
  by_cases c_3 : p1 = (98 : Int32)
  · replace h := of_ifp c_3 h
    refine x_look (pc := 1) C 82 dX7_readsAll_1 rfl (by rw [c_3] <;> rfl) rfl ?_
    refine x_aload_n (pc := 82) C 0 dX7_readsAll_82 rfl ?_
    refine x_iconst (pc := 83) C (v := (2 : Int32)) dX7_readsAll_83 rfl ?_
    obtain ⟨⟨r_3, S_3⟩, hc_3, h⟩ := of_bd h
    replace h := of_u2 h
    refine x_callV1 (pc := 84) C (o := 140) [.int (2 : Int32)] [] (c_X7_readsDigits (b := b) (2 : Int32) hO S _ _ hc_3) cw_X7_232 vi_X7_readsDigits ⟨rfl, rfl, Nat.le_of_ble_eq_true rfl, Nat.le_of_ble_eq_true rfl⟩ ⟨Nat.le_refl _, Nat.le_refl _⟩ hO.1 ⟨rfl, rfl, rfl⟩ rfl ⟨rfl, Nat.le_of_ble_eq_true rfl⟩ dX7_readsAll_84 (fun hx_3 => ?_)
    refine x_if_eq (pc := 87) C 110 dX7_readsAll_87 rfl (fun c_4 => ?_) (fun c_4 => ?_)
    · replace h := of_ifp c_4 h
      refine x_iconst (pc := 110) C (v := (0 : Int32)) dX7_readsAll_110 rfl ?_
      exact x_zreturn (pc := 111) C (by decide) dX7_readsAll_111 (of_sp h).1 (of_sp h).2
    · replace h := of_ifn c_4 h
      refine x_aload_n (pc := 90) C 0 dX7_readsAll_90 rfl ?_
      refine x_iconst (pc := 91) C (v := (2 : Int32)) dX7_readsAll_91 rfl ?_
      obtain ⟨⟨r_4, S_4⟩, hc_4, h⟩ := of_bd h
      replace h := of_u2 h
      refine x_callV1 (pc := 92) C (o := 140) [.int (2 : Int32)] [] (c_X7_readsDigits (b := b) (2 : Int32) hO S_3 _ _ hc_4) cw_X7_232 vi_X7_readsDigits ⟨rfl, rfl, Nat.le_of_ble_eq_true rfl, Nat.le_of_ble_eq_true rfl⟩ ⟨Nat.le_refl _, Nat.le_refl _⟩ hO.1 ⟨rfl, rfl, rfl⟩ rfl ⟨rfl, Nat.le_of_ble_eq_true rfl⟩ dX7_readsAll_92 (fun hx_4 => ?_)
      refine x_if_eq (pc := 95) C 110 dX7_readsAll_95 rfl (fun c_5 => ?_) (fun c_5 => ?_)
      · replace h := of_ifp c_5 h
        refine x_iconst (pc := 110) C (v := (0 : Int32)) dX7_readsAll_110 rfl ?_
        exact x_zreturn (pc := 111) C (by decide) dX7_readsAll_111 (of_sp h).1 (of_sp h).2
      · replace h := of_ifn c_5 h
        refine x_aload_n (pc := 98) C 0 dX7_readsAll_98 rfl ?_
        refine x_iconst (pc := 99) C (v := (2 : Int32)) dX7_readsAll_99 rfl ?_
        obtain ⟨⟨r_5, S_5⟩, hc_5, h⟩ := of_bd h
        replace h := of_u2 h
        refine x_callV1 (pc := 100) C (o := 140) [.int (2 : Int32)] [] (c_X7_readsDigits (b := b) (2 : Int32) hO S_4 _ _ hc_5) cw_X7_232 vi_X7_readsDigits ⟨rfl, rfl, Nat.le_of_ble_eq_true rfl, Nat.le_of_ble_eq_true rfl⟩ ⟨Nat.le_refl _, Nat.le_refl _⟩ hO.1 ⟨rfl, rfl, rfl⟩ rfl ⟨rfl, Nat.le_of_ble_eq_true rfl⟩ dX7_readsAll_100 (fun hx_5 => ?_)
        obtain ⟨x_2, ex_2, h⟩ := of_lt h
        have kd_2 : X p l e (rmz 3 67) s m args below meth c 0 0 (RQ G L b Sf below args s (some (.int rf)) (rf = 0 ∨ rf = 1)) 2 G L b S_5 111 [] [.int x_2] := by
          exact x_zreturn (pc := 111) C (ex_2 ▸ (if01 (by decide) (by decide))) dX7_readsAll_111 (of_sp h).1 (of_sp h).2
        refine x_if_eq (pc := 103) C 110 dX7_readsAll_103 rfl (fun c_6 => ?_) (fun c_6 => ?_)
        · refine x_iconst (pc := 110) C (v := (0 : Int32)) dX7_readsAll_110 rfl ?_
          refine x_sub [] rfl ?_
          rw [show x_2 = (0 : Int32) from (ex_2.trans (if_pos c_6))] at kd_2
          exact kd_2
        · refine x_iconst (pc := 106) C (v := (1 : Int32)) dX7_readsAll_106 rfl ?_
          refine x_goto (pc := 107) C 111 dX7_readsAll_107 rfl ?_
          refine x_sub [] rfl ?_
          rw [show x_2 = (1 : Int32) from (ex_2.trans (if_neg c_6))] at kd_2
          exact kd_2
  replace h := of_ifn c_3 h
  by_cases c_7 : p1 = (99 : Int32)
  · replace h := of_ifp c_7 h
    refine x_look (pc := 1) C 60 dX7_readsAll_1 rfl (by rw [c_7] <;> rfl) rfl ?_
    exact x_sub [0] rfl (kJ_1 () h)
  replace h := of_ifn c_7 h
  by_cases c_8 : p1 = (108 : Int32)
  · replace h := of_ifp c_8 h
    refine x_look (pc := 1) C 118 dX7_readsAll_1 rfl (by rw [c_8] <;> rfl) rfl ?_
    refine x_aload_n (pc := 118) C 0 dX7_readsAll_118 rfl ?_
    refine x_iconst (pc := 119) C (v := (2 : Int32)) dX7_readsAll_119 rfl ?_
    obtain ⟨⟨r_6, S_6⟩, hc_6, h⟩ := of_bd h
    replace h := of_u2 h
    refine x_callV1 (pc := 120) C (o := 140) [.int (2 : Int32)] [] (c_X7_readsDigits (b := b) (2 : Int32) hO S _ _ hc_6) cw_X7_232 vi_X7_readsDigits ⟨rfl, rfl, Nat.le_of_ble_eq_true rfl, Nat.le_of_ble_eq_true rfl⟩ ⟨Nat.le_refl _, Nat.le_refl _⟩ hO.1 ⟨rfl, rfl, rfl⟩ rfl ⟨rfl, Nat.le_of_ble_eq_true rfl⟩ dX7_readsAll_120 (fun hx_6 => ?_)
    exact x_zreturn (pc := 123) C hx_6 dX7_readsAll_123 (of_sp h).1 (of_sp h).2
  replace h := of_ifn c_8 h
  by_cases c_9 : p1 = (114 : Int32)
  · replace h := of_ifp c_9 h
    refine x_look (pc := 1) C 112 dX7_readsAll_1 rfl (by rw [c_9] <;> rfl) rfl ?_
    refine x_aload_n (pc := 112) C 0 dX7_readsAll_112 rfl ?_
    refine x_iconst (pc := 113) C (v := (1 : Int32)) dX7_readsAll_113 rfl ?_
    obtain ⟨⟨r_7, S_7⟩, hc_7, h⟩ := of_bd h
    replace h := of_u2 h
    refine x_callV1 (pc := 114) C (o := 140) [.int (1 : Int32)] [] (c_X7_readsDigits (b := b) (1 : Int32) hO S _ _ hc_7) cw_X7_232 vi_X7_readsDigits ⟨rfl, rfl, Nat.le_of_ble_eq_true rfl, Nat.le_of_ble_eq_true rfl⟩ ⟨Nat.le_refl _, Nat.le_refl _⟩ hO.1 ⟨rfl, rfl, rfl⟩ rfl ⟨rfl, Nat.le_of_ble_eq_true rfl⟩ dX7_readsAll_114 (fun hx_7 => ?_)
    exact x_zreturn (pc := 117) C hx_7 dX7_readsAll_117 (of_sp h).1 (of_sp h).2
  replace h := of_ifn c_9 h
  by_cases c_10 : p1 = (118 : Int32)
  · replace h := of_ifp c_10 h
    refine x_look (pc := 1) C 60 dX7_readsAll_1 rfl (by rw [c_10] <;> rfl) rfl ?_
    exact x_sub [0] rfl (kJ_1 () h)
  replace h := of_ifn c_10 h
  by_cases c_11 : p1 = (119 : Int32)
  · replace h := of_ifp c_11 h
    refine x_look (pc := 1) C 124 dX7_readsAll_1 rfl (by rw [c_11] <;> rfl) rfl ?_
    refine x_aload_n (pc := 124) C 0 dX7_readsAll_124 rfl ?_
    refine x_bipush (pc := 125) C (v := (9 : Int32)) dX7_readsAll_125 rfl ?_
    obtain ⟨⟨r_8, S_8⟩, hc_8, h⟩ := of_bd h
    replace h := of_u2 h
    refine x_callV1 (pc := 127) C (o := 140) [.int (9 : Int32)] [] (c_X7_readsMany (b := b) (9 : Int32) hO S _ _ hc_8) cw_X7_235 vi_X7_readsMany ⟨rfl, rfl, Nat.le_of_ble_eq_true rfl, Nat.le_of_ble_eq_true rfl⟩ ⟨Nat.le_refl _, Nat.le_refl _⟩ hO.1 ⟨rfl, rfl, rfl⟩ rfl ⟨rfl, Nat.le_of_ble_eq_true rfl⟩ dX7_readsAll_127 (fun hx_8 => ?_)
    exact x_zreturn (pc := 130) C hx_8 dX7_readsAll_130 (of_sp h).1 (of_sp h).2
  replace h := of_ifn c_11 h
  refine x_look (pc := 1) C 131 dX7_readsAll_1 rfl (by rw [lv_osw c_3 (show ((98 : Int32)).toInt = 98 from rfl), lv_osw c_7 (show ((99 : Int32)).toInt = 99 from rfl), lv_osw c_8 (show ((108 : Int32)).toInt = 108 from rfl), lv_osw c_9 (show ((114 : Int32)).toInt = 114 from rfl), lv_osw c_10 (show ((118 : Int32)).toInt = 118 from rfl), lv_osw c_11 (show ((119 : Int32)).toInt = 119 from rfl)] <;> rfl) rfl ?_
  refine x_aload_n (pc := 131) C 0 dX7_readsAll_131 rfl ?_
  refine x_bipush (pc := 132) C (v := (8 : Int32)) dX7_readsAll_132 rfl ?_
  obtain ⟨⟨r_9, S_9⟩, hc_9, h⟩ := of_bd h
  replace h := of_u2 h
  refine x_callV1 (pc := 134) C (o := 140) [.int (8 : Int32)] [] (c_X7_readsMany (b := b) (8 : Int32) hO S _ _ hc_9) cw_X7_235 vi_X7_readsMany ⟨rfl, rfl, Nat.le_of_ble_eq_true rfl, Nat.le_of_ble_eq_true rfl⟩ ⟨Nat.le_refl _, Nat.le_refl _⟩ hO.1 ⟨rfl, rfl, rfl⟩ rfl ⟨rfl, Nat.le_of_ble_eq_true rfl⟩ dX7_readsAll_134 (fun hx_9 => ?_)
  exact x_zreturn (pc := 137) C hx_9 dX7_readsAll_137 (of_sp h).1 (of_sp h).2
set_option maxRecDepth 100000 in
set_option maxHeartbeats 4000000 in
theorem c_X7_statement {l : Launch} {G : zz_G} {L : Ly} {b : Nat} (hO : isMo L) (S : Sg) (rf : Int32) (Sf : Sg) (h : f_X7_statement S = some (rf, Sf)) : Met l yX7_statement (Cond.code yX7_statement cX7_statement 2 (some .boolean) :: zz_all) (rmz 4 88) (PC G L b S [.ref (b + 140)]) (QC G L b Sf (some (.int rf)) (rf = 0 ∨ rf = 1)) 0 0 (fun q => b ≤ q) := by
  refine x_met [.ref (b + 140)] (by decide +kernel) (Nat.le_of_ble_eq_true rfl) fun p e s m args below meth c C => ?_
  unfold f_X7_statement at h
  refine x_aload_n (pc := 0) C 0 dX7_statement_0 rfl ?_
  obtain ⟨r_1, hc_1, h⟩ := of_bd h
  refine x_callV1 (pc := 1) C (o := 140) [] [] (c_X7_letterNow (b := b) hO S _ hc_1) cw_X7_226 vi_X7_letterNow ⟨rfl, rfl, Nat.le_of_ble_eq_true rfl, Nat.le_of_ble_eq_true rfl⟩ ⟨Nat.le_refl _, Nat.le_refl _⟩ hO.1 ⟨rfl, rfl, rfl⟩ rfl ⟨rfl, Nat.le_of_ble_eq_true rfl⟩ dX7_statement_1 (fun hx_1 => ?_)
  refine x_istore_n (pc := 4) C 1 [(1, .int r_1), (0, .ref (b + 140))] dX7_statement_4 rfl (Nat.le_of_ble_eq_true rfl) rfl rfl ?_
  refine x_iload_n (pc := 5) C 0 dX7_statement_5 rfl ?_
  refine x_bipush (pc := 6) C (v := (118 : Int32)) dX7_statement_6 rfl ?_
  obtain ⟨J_1, eJ_1, h⟩ := of_lt h
  have kJ_1 : ∀ (_ : Unit), J_1 () = some (rf, Sf) → X p l e (rmz 4 88) s m args below meth c 0 0 (RQ G L b Sf below args s (some (.int rf)) (rf = 0 ∨ rf = 1)) 2 G L b S 55 [(0, .ref (b + 140)), (1, .int r_1)] [] := by
    intro _ h
    replace h := of_J1 eJ_1 h
    refine x_aload_n (pc := 55) C 0 dX7_statement_55 rfl ?_
    refine x_getr (pc := 56) C (k := 25) 156 hO.1 rfl rfl wd_753 dX7_statement_56 (Nat.le_of_ble_eq_true rfl) rfl ?_
    refine x_aload_n (pc := 59) C 0 dX7_statement_59 rfl ?_
    refine x_geti (pc := 60) C (k := 30) hO.1 rfl rfl wd_758 dX7_statement_60 ⟨Nat.le_of_ble_eq_true rfl, rfl⟩ ?_
    refine x_iload_n (pc := 63) C 1 dX7_statement_63 rfl ?_
    obtain ⟨g_1, h⟩ := of_gd h
    obtain ⟨S_1, eS_1, h⟩ := of_lt h
    refine x_iastore (pc := 64) C hO.2.2.2.2.2.2.2.2.2.2.2.2.2.2.2.2.1 g_1 eS_1 dX7_statement_64 ?_
    refine x_aload_n (pc := 65) C 0 dX7_statement_65 rfl ?_
    refine x_getr (pc := 66) C (k := 26) 157 hO.1 rfl rfl wd_754 dX7_statement_66 (Nat.le_of_ble_eq_true rfl) rfl ?_
    refine x_aload_n (pc := 69) C 0 dX7_statement_69 rfl ?_
    refine x_geti (pc := 70) C (k := 30) hO.1 rfl rfl wd_758 dX7_statement_70 ⟨Nat.le_of_ble_eq_true rfl, rfl⟩ ?_
    refine x_aload_n (pc := 73) C 0 dX7_statement_73 rfl ?_
    refine x_geti (pc := 74) C (k := 29) hO.1 rfl rfl wd_757 dX7_statement_74 ⟨Nat.le_of_ble_eq_true rfl, rfl⟩ ?_
    obtain ⟨g_2, h⟩ := of_gd h
    obtain ⟨S_2, eS_2, h⟩ := of_lt h
    refine x_iastore (pc := 77) C hO.2.2.2.2.2.2.2.2.2.2.2.2.2.2.2.2.2.1 g_2 eS_2 dX7_statement_77 ?_
    refine x_aload_n (pc := 78) C 0 dX7_statement_78 rfl ?_
    refine x_bipush (pc := 79) C (v := (9 : Int32)) dX7_statement_79 rfl ?_
    refine x_aload_n (pc := 81) C 0 dX7_statement_81 rfl ?_
    refine x_geti (pc := 82) C (k := 30) hO.1 rfl rfl wd_758 dX7_statement_82 ⟨Nat.le_of_ble_eq_true rfl, rfl⟩ ?_
    refine x_imul (pc := 85) C dX7_statement_85 ?_
    obtain ⟨S_3, eS_3, h⟩ := of_lt h
    refine x_puti (pc := 86) C (k := 31) hO.1 rfl rfl wd_759 dX7_statement_86 ⟨Nat.le_of_ble_eq_true rfl, rfl⟩ eS_3 ?_
    refine x_aload_n (pc := 89) C 0 dX7_statement_89 rfl ?_
    refine x_dup (pc := 90) C dX7_statement_90 rfl ?_
    refine x_geti (pc := 91) C (k := 29) hO.1 rfl rfl wd_757 dX7_statement_91 ⟨Nat.le_of_ble_eq_true rfl, rfl⟩ ?_
    refine x_iconst (pc := 94) C (v := (1 : Int32)) dX7_statement_94 rfl ?_
    refine x_iadd (pc := 95) C dX7_statement_95 ?_
    obtain ⟨S_4, eS_4, h⟩ := of_lt h
    refine x_puti (pc := 96) C (k := 29) hO.1 rfl rfl wd_757 dX7_statement_96 ⟨Nat.le_of_ble_eq_true rfl, rfl⟩ eS_4 ?_
    refine x_aload_n (pc := 99) C 0 dX7_statement_99 rfl ?_
    refine x_iload_n (pc := 100) C 1 dX7_statement_100 rfl ?_
    obtain ⟨⟨r_2, S_5⟩, hc_2, h⟩ := of_bd h
    replace h := of_u2 h
    refine x_callV1 (pc := 101) C (o := 140) [.int r_1] [] (c_X7_readsAll (b := b) r_1 hO S_4 _ _ hc_2) cw_X7_241 vi_X7_readsAll ⟨rfl, rfl, Nat.le_of_ble_eq_true rfl, Nat.le_of_ble_eq_true rfl⟩ ⟨Nat.le_refl _, Nat.le_refl _⟩ hO.1 ⟨rfl, rfl, rfl⟩ rfl ⟨rfl, Nat.le_of_ble_eq_true rfl⟩ dX7_statement_101 (fun hx_2 => ?_)
    refine x_if_eq (pc := 104) C 116 dX7_statement_104 rfl (fun c_1 => ?_) (fun c_1 => ?_)
    · replace h := of_ifp c_1 h
      refine x_iconst (pc := 116) C (v := (0 : Int32)) dX7_statement_116 rfl ?_
      exact x_zreturn (pc := 117) C (by decide) dX7_statement_117 (of_sp h).1 (of_sp h).2
    · replace h := of_ifn c_1 h
      refine x_aload_n (pc := 107) C 0 dX7_statement_107 rfl ?_
      obtain ⟨r_3, hc_3, h⟩ := of_bd h
      refine x_callV1 (pc := 108) C (o := 140) [] [] (c_X7_letterNow (b := b) hO S_5 _ hc_3) cw_X7_226 vi_X7_letterNow ⟨rfl, rfl, Nat.le_of_ble_eq_true rfl, Nat.le_of_ble_eq_true rfl⟩ ⟨Nat.le_refl _, Nat.le_refl _⟩ hO.1 ⟨rfl, rfl, rfl⟩ rfl ⟨rfl, Nat.le_of_ble_eq_true rfl⟩ dX7_statement_108 (fun hx_3 => ?_)
      refine x_bipush (pc := 111) C (v := (59 : Int32)) dX7_statement_111 rfl ?_
      refine x_icmp_eq (pc := 113) C 118 dX7_statement_113 rfl (fun c_2 => ?_) (fun c_2 => ?_)
      · replace h := of_ifp c_2 h
        refine x_aload_n (pc := 118) C 0 dX7_statement_118 rfl ?_
        refine x_dup (pc := 119) C dX7_statement_119 rfl ?_
        refine x_geti (pc := 120) C (k := 29) hO.1 rfl rfl wd_757 dX7_statement_120 ⟨Nat.le_of_ble_eq_true rfl, rfl⟩ ?_
        refine x_iconst (pc := 123) C (v := (1 : Int32)) dX7_statement_123 rfl ?_
        refine x_iadd (pc := 124) C dX7_statement_124 ?_
        obtain ⟨S_6, eS_6, h⟩ := of_lt h
        refine x_puti (pc := 125) C (k := 29) hO.1 rfl rfl wd_757 dX7_statement_125 ⟨Nat.le_of_ble_eq_true rfl, rfl⟩ eS_6 ?_
        refine x_iconst (pc := 128) C (v := (1 : Int32)) dX7_statement_128 rfl ?_
        exact x_zreturn (pc := 129) C (by decide) dX7_statement_129 (of_sp h).1 (of_sp h).2
      · replace h := of_ifn c_2 h
        refine x_iconst (pc := 116) C (v := (0 : Int32)) dX7_statement_116 rfl ?_
        exact x_zreturn (pc := 117) C (by decide) dX7_statement_117 (of_sp h).1 (of_sp h).2
  refine x_icmp_eq (pc := 8) C 55 dX7_statement_8 rfl (fun c_3 => ?_) (fun c_3 => ?_)
  · replace h := of_ifp c_3 h
    exact x_sub [1, 0] rfl (kJ_1 () h)
  · replace h := of_ifn c_3 h
    refine x_iload_n (pc := 11) C 0 dX7_statement_11 rfl ?_
    refine x_bipush (pc := 12) C (v := (99 : Int32)) dX7_statement_12 rfl ?_
    refine x_icmp_eq (pc := 14) C 55 dX7_statement_14 rfl (fun c_4 => ?_) (fun c_4 => ?_)
    · replace h := of_ifp c_4 h
      exact x_sub [1, 0] rfl (kJ_1 () h)
    · replace h := of_ifn c_4 h
      refine x_iload_n (pc := 17) C 0 dX7_statement_17 rfl ?_
      refine x_bipush (pc := 18) C (v := (98 : Int32)) dX7_statement_18 rfl ?_
      refine x_icmp_eq (pc := 20) C 55 dX7_statement_20 rfl (fun c_5 => ?_) (fun c_5 => ?_)
      · replace h := of_ifp c_5 h
        exact x_sub [1, 0] rfl (kJ_1 () h)
      · replace h := of_ifn c_5 h
        refine x_iload_n (pc := 23) C 0 dX7_statement_23 rfl ?_
        refine x_bipush (pc := 24) C (v := (114 : Int32)) dX7_statement_24 rfl ?_
        refine x_icmp_eq (pc := 26) C 55 dX7_statement_26 rfl (fun c_6 => ?_) (fun c_6 => ?_)
        · replace h := of_ifp c_6 h
          exact x_sub [1, 0] rfl (kJ_1 () h)
        · replace h := of_ifn c_6 h
          refine x_iload_n (pc := 29) C 0 dX7_statement_29 rfl ?_
          refine x_bipush (pc := 30) C (v := (108 : Int32)) dX7_statement_30 rfl ?_
          refine x_icmp_eq (pc := 32) C 55 dX7_statement_32 rfl (fun c_7 => ?_) (fun c_7 => ?_)
          · replace h := of_ifp c_7 h
            exact x_sub [1, 0] rfl (kJ_1 () h)
          · replace h := of_ifn c_7 h
            refine x_iload_n (pc := 35) C 0 dX7_statement_35 rfl ?_
            refine x_bipush (pc := 36) C (v := (115 : Int32)) dX7_statement_36 rfl ?_
            refine x_icmp_eq (pc := 38) C 55 dX7_statement_38 rfl (fun c_8 => ?_) (fun c_8 => ?_)
            · replace h := of_ifp c_8 h
              exact x_sub [1, 0] rfl (kJ_1 () h)
            · replace h := of_ifn c_8 h
              refine x_iload_n (pc := 41) C 0 dX7_statement_41 rfl ?_
              refine x_bipush (pc := 42) C (v := (100 : Int32)) dX7_statement_42 rfl ?_
              refine x_icmp_eq (pc := 44) C 55 dX7_statement_44 rfl (fun c_9 => ?_) (fun c_9 => ?_)
              · replace h := of_ifp c_9 h
                exact x_sub [1, 0] rfl (kJ_1 () h)
              · replace h := of_ifn c_9 h
                refine x_iload_n (pc := 47) C 0 dX7_statement_47 rfl ?_
                refine x_bipush (pc := 48) C (v := (119 : Int32)) dX7_statement_48 rfl ?_
                refine x_icmp_eq (pc := 50) C 55 dX7_statement_50 rfl (fun c_10 => ?_) (fun c_10 => ?_)
                · replace h := of_ifp c_10 h
                  exact x_sub [1, 0] rfl (kJ_1 () h)
                · replace h := of_ifn c_10 h
                  refine x_iconst (pc := 53) C (v := (0 : Int32)) dX7_statement_53 rfl ?_
                  exact x_zreturn (pc := 54) C (by decide) dX7_statement_54 (of_sp h).1 (of_sp h).2
set_option maxRecDepth 100000 in
set_option maxHeartbeats 4000000 in
theorem l_X7_guard_12 {p : Program} {l : Launch} {e : Env} {s : State} {m : MethodId} {args : Array Value} {below : List Frame} {meth : Method} {c : Code} {G : zz_G} {L : Ly} {b : Nat} {Q : State → Prop} (C : CX p G s m args meth c cX7_guard yX7_guard 3 (some .int)) (hO : isMo L) : ∀ (n : Nat) (v1 : Int32) (S : Sg) {z}, L_X7_guard_12 n v1 S = some z → (∀ (v1_o : Int32) (S_o : Sg), z = (v1_o, S_o) → X p l e (rmz 11 264) s m args below meth c 0 0 Q 3 G L b S_o 60 [(0, .ref (b + 140)), (1, .int v1_o)] []) → X p l e (rmz 11 264) s m args below meth c 0 0 Q 3 G L b S 12 [(0, .ref (b + 140)), (1, .int v1)] [] := by
  intro n
  induction n with
  | zero =>
    intro v1 S z h
    exact of_none h
  | succ n ih =>
    intro v1 S z h hx
    rw [L_X7_guard_12] at h
    refine x_iload_n (pc := 12) C 1 dX7_guard_12 rfl ?_
    refine x_if_eq (pc := 13) C 60 dX7_guard_13 rfl (fun c_1 => ?_) (fun c_1 => ?_)
    · replace h := of_ifp c_1 h
      exact x_sub [0, 1] rfl (hx _ _ (of_s1 h).symm)
    · replace h := of_ifn c_1 h
      refine x_aload_n (pc := 16) C 0 dX7_guard_16 rfl ?_
      refine x_geti (pc := 17) C (k := 29) hO.1 rfl rfl wd_757 dX7_guard_17 ⟨Nat.le_of_ble_eq_true rfl, rfl⟩ ?_
      refine x_aload_n (pc := 20) C 0 dX7_guard_20 rfl ?_
      refine x_geti (pc := 21) C (k := 28) hO.1 rfl rfl wd_756 dX7_guard_21 ⟨Nat.le_of_ble_eq_true rfl, rfl⟩ ?_
      obtain ⟨J_1, eJ_1, h⟩ := of_lt h
      have kJ_1 : ∀ (_ : Unit), J_1 () = some z → X p l e (rmz 11 264) s m args below meth c 0 0 Q 3 G L b S 34 [(0, .ref (b + 140))] [] := by
        intro _ h
        replace h := of_J1 eJ_1 h
        refine x_aload_n (pc := 34) C 0 dX7_guard_34 rfl ?_
        obtain ⟨⟨r_1, S_1⟩, hc_1, h⟩ := of_bd h
        replace h := of_u2 h
        refine x_callV1 (pc := 35) C (o := 140) [] [] (c_X7_statement (b := b) hO S _ _ hc_1) cw_X7_288 vi_X7_statement ⟨rfl, rfl, Nat.le_of_ble_eq_true rfl, Nat.le_of_ble_eq_true rfl⟩ ⟨Nat.le_refl _, Nat.le_refl _⟩ hO.1 ⟨rfl, rfl, rfl⟩ rfl ⟨rfl, Nat.le_of_ble_eq_true rfl⟩ dX7_guard_35 (fun hx_1 => ?_)
        refine x_istore_n (pc := 38) C 1 [(1, .int r_1), (0, .ref (b + 140))] dX7_guard_38 rfl (Nat.le_of_ble_eq_true rfl) rfl rfl ?_
        refine x_aload_n (pc := 39) C 1 dX7_guard_39 rfl ?_
        refine x_dup (pc := 40) C dX7_guard_40 rfl ?_
        refine x_geti (pc := 41) C (k := 30) hO.1 rfl rfl wd_758 dX7_guard_41 ⟨Nat.le_of_ble_eq_true rfl, rfl⟩ ?_
        refine x_iload_n (pc := 44) C 0 dX7_guard_44 rfl ?_
        obtain ⟨x_1, ex_1, h⟩ := of_lt h
        have kd_1 : X p l e (rmz 11 264) s m args below meth c 0 0 Q 3 G L b S_1 53 [(0, .ref (b + 140)), (1, .int r_1)] [.int x_1, .int (S_1.1 140 30), .ref (b + 140)] := by
          refine x_iadd (pc := 53) C dX7_guard_53 ?_
          obtain ⟨S_2, eS_2, h⟩ := of_lt h
          refine x_puti (pc := 54) C (k := 30) hO.1 rfl rfl wd_758 dX7_guard_54 ⟨Nat.le_of_ble_eq_true rfl, rfl⟩ eS_2 ?_
          refine x_goto (pc := 57) C 12 dX7_guard_57 rfl ?_
          exact x_sub [0, 1] rfl (ih _ _ h hx)
        refine x_if_eq (pc := 45) C 52 dX7_guard_45 rfl (fun c_2 => ?_) (fun c_2 => ?_)
        · refine x_iconst (pc := 52) C (v := (0 : Int32)) dX7_guard_52 rfl ?_
          refine x_sub [1, 0] rfl ?_
          rw [show x_1 = (0 : Int32) from (ex_1.trans (if_pos c_2))] at kd_1
          exact kd_1
        · refine x_iconst (pc := 48) C (v := (1 : Int32)) dX7_guard_48 rfl ?_
          refine x_goto (pc := 49) C 53 dX7_guard_49 rfl ?_
          refine x_sub [1, 0] rfl ?_
          rw [show x_1 = (1 : Int32) from (ex_1.trans (if_neg c_2))] at kd_1
          exact kd_1
      refine x_icmp_lt (pc := 24) C 34 dX7_guard_24 rfl (fun c_3 => ?_) (fun c_3 => ?_)
      · replace h := of_ifp c_3 h
        exact x_sub [0] rfl (kJ_1 () h)
      · replace h := of_ifn c_3 h
        refine x_aload_n (pc := 27) C 0 dX7_guard_27 rfl ?_
        refine x_geti (pc := 28) C (k := 30) hO.1 rfl rfl wd_758 dX7_guard_28 ⟨Nat.le_of_ble_eq_true rfl, rfl⟩ ?_
        refine x_if_ne (pc := 31) C 60 dX7_guard_31 rfl (fun c_4 => ?_) (fun c_4 => ?_)
        · replace h := of_ifn c_4 h
          exact x_sub [0, 1] rfl (hx _ _ (of_s1 h).symm)
        · replace h := of_ifp c_4 h
          exact x_sub [0] rfl (kJ_1 () h)
set_option maxRecDepth 100000 in
set_option maxHeartbeats 4000000 in
theorem l_X7_guard_86 {p : Program} {l : Launch} {e : Env} {s : State} {m : MethodId} {args : Array Value} {below : List Frame} {meth : Method} {c : Code} {G : zz_G} {L : Ly} {b : Nat} (C : CX p G s m args meth c cX7_guard yX7_guard 3 (some .int)) (hO : isMo L) (rf : Int32) (Sf : Sg) : ∀ (n : Nat) (v2 : Int32) (S : Sg) {z}, L_X7_guard_86 n v2 S = some z → (∀ q, z = .inl q → q.1 = rf ∧ q.2 = Sf) → (∀ (S_o : Sg), z = .inr S_o → X p l e (rmz 11 264) s m args below meth c 0 0 (RQ G L b Sf below args s (some (.int rf)) True) 3 G L b S_o 128 [(0, .ref (b + 140))] []) → X p l e (rmz 11 264) s m args below meth c 0 0 (RQ G L b Sf below args s (some (.int rf)) True) 3 G L b S 86 [(0, .ref (b + 140)), (2, .int v2)] [] := by
  intro n
  induction n with
  | zero =>
    intro v2 S z h
    exact of_none h
  | succ n ih =>
    intro v2 S z h hr hx
    rw [L_X7_guard_86] at h
    refine x_iload_n (pc := 86) C 1 dX7_guard_86 rfl ?_
    refine x_aload_n (pc := 87) C 0 dX7_guard_87 rfl ?_
    refine x_geti (pc := 88) C (k := 30) hO.1 rfl rfl wd_758 dX7_guard_88 ⟨Nat.le_of_ble_eq_true rfl, rfl⟩ ?_
    refine x_icmp_ge (pc := 91) C 128 dX7_guard_91 rfl (fun c_1 => ?_) (fun c_1 => ?_)
    · replace h := of_ifn c_1 h
      exact x_sub [0] rfl (hx _ (of_s1 h).symm)
    · replace h := of_ifp c_1 h
      refine x_aload_n (pc := 94) C 0 dX7_guard_94 rfl ?_
      refine x_iload_n (pc := 95) C 1 dX7_guard_95 rfl ?_
      obtain ⟨⟨r_1, S_1⟩, hc_1, h⟩ := of_bd h
      replace h := of_u2 h
      refine x_callV1 (pc := 96) C (o := 140) [.int v2] [] (c_X7_comes (b := b) v2 hO S _ _ hc_1) cw_X7_291 vi_X7_comes ⟨rfl, rfl, Nat.le_of_ble_eq_true rfl, Nat.le_of_ble_eq_true rfl⟩ ⟨Nat.le_refl _, Nat.le_refl _⟩ hO.1 ⟨rfl, rfl, rfl⟩ rfl ⟨rfl, Nat.le_of_ble_eq_true rfl⟩ dX7_guard_96 (fun hx_1 => ?_)
      refine x_if_eq (pc := 99) C 105 dX7_guard_99 rfl (fun c_2 => ?_) (fun c_2 => ?_)
      · replace h := of_ifp c_2 h
        refine x_aload_n (pc := 105) C 0 dX7_guard_105 rfl ?_
        refine x_iconst (pc := 106) C (v := (1 : Int32)) dX7_guard_106 rfl ?_
        refine x_iconst (pc := 107) C (v := (0 : Int32)) dX7_guard_107 rfl ?_
        obtain ⟨S_2, hc_2, h⟩ := of_bd h
        refine x_callV_ (pc := 108) C (o := 140) [.int (1 : Int32), .int (0 : Int32)] [] (c_X7_passesAll (b := b) (1 : Int32) (0 : Int32) hO S_1 _ hc_2) cw_X7_206 vi_X7_passesAll ⟨rfl, rfl, Nat.le_of_ble_eq_true rfl, Nat.le_of_ble_eq_true rfl⟩ ⟨Nat.le_refl _, Nat.le_refl _⟩ hO.1 ⟨rfl, rfl, rfl⟩ rfl ⟨rfl, Nat.le_of_ble_eq_true rfl⟩ dX7_guard_108 (fun hx_2 => ?_)
        refine x_sipush (pc := 111) C (v := (-2000 : Int32)) dX7_guard_111 rfl ?_
        refine x_aload_n (pc := 114) C 0 dX7_guard_114 rfl ?_
        refine x_getr (pc := 115) C (k := 26) 157 hO.1 rfl rfl wd_754 dX7_guard_115 (Nat.le_of_ble_eq_true rfl) rfl ?_
        refine x_iload_n (pc := 118) C 1 dX7_guard_118 rfl ?_
        obtain ⟨g_1, h⟩ := of_gd h
        refine x_iaload (pc := 119) C hO.2.2.2.2.2.2.2.2.2.2.2.2.2.2.2.2.2.1 g_1 dX7_guard_119 ?_
        refine x_isub (pc := 120) C dX7_guard_120 ?_
        have hq := hr _ (of_s1 h).symm
        exact x_ireturn (pc := 121) C dX7_guard_121 hq.1 hq.2
      · replace h := of_ifn c_2 h
        refine x_goto (pc := 102) C 122 dX7_guard_102 rfl ?_
        obtain ⟨v2_1, ev2_1, h⟩ := of_lt h
        refine x_iinc (pc := 122) C (w := (1 : Int32)) 1 [(2, .int v2_1), (0, .ref (b + 140))] dX7_guard_122 rfl rfl (Nat.le_of_ble_eq_true rfl) ev2_1 rfl ?_
        refine x_goto (pc := 125) C 86 dX7_guard_125 rfl ?_
        exact x_sub [1, 0] rfl (ih _ _ h hr hx)
set_option maxRecDepth 100000 in
set_option maxHeartbeats 4000000 in
theorem c_X7_guard {l : Launch} {G : zz_G} {L : Ly} {b : Nat} (hO : isMo L) (S : Sg) (rf : Int32) (Sf : Sg) (h : f_X7_guard S = some (rf, Sf)) : Met l yX7_guard (Cond.code yX7_guard cX7_guard 3 (some .int) :: zz_all) (rmz 11 264) (PC G L b S [.ref (b + 140)]) (QC G L b Sf (some (.int rf)) True) 0 0 (fun q => b ≤ q) := by
  refine x_met [.ref (b + 140)] (by decide +kernel) (Nat.le_of_ble_eq_true rfl) fun p e s m args below meth c C => ?_
  unfold f_X7_guard at h
  refine x_aload_n (pc := 0) C 0 dX7_guard_0 rfl ?_
  refine x_iconst (pc := 1) C (v := (0 : Int32)) dX7_guard_1 rfl ?_
  obtain ⟨S_1, eS_1, h⟩ := of_lt h
  refine x_puti (pc := 2) C (k := 29) hO.1 rfl rfl wd_757 dX7_guard_2 ⟨Nat.le_of_ble_eq_true rfl, rfl⟩ eS_1 ?_
  refine x_aload_n (pc := 5) C 0 dX7_guard_5 rfl ?_
  refine x_iconst (pc := 6) C (v := (0 : Int32)) dX7_guard_6 rfl ?_
  obtain ⟨S_2, eS_2, h⟩ := of_lt h
  refine x_puti (pc := 7) C (k := 30) hO.1 rfl rfl wd_758 dX7_guard_7 ⟨Nat.le_of_ble_eq_true rfl, rfl⟩ eS_2 ?_
  refine x_iconst (pc := 10) C (v := (1 : Int32)) dX7_guard_10 rfl ?_
  refine x_istore_n (pc := 11) C 1 [(1, .int (1 : Int32)), (0, .ref (b + 140))] dX7_guard_11 rfl (Nat.le_of_ble_eq_true rfl) rfl rfl ?_
  refine x_sub [1, 0] rfl ?_
  obtain ⟨z_hz_2, hz_2, h⟩ := of_bd h
  refine l_X7_guard_12 C hO 400 _ _ hz_2 (fun v1_1 S_3 ez => ?_)
  subst z_hz_2
  replace h := of_u2 h
  refine x_aload_n (pc := 60) C 0 dX7_guard_60 rfl ?_
  refine x_iconst (pc := 61) C (v := (0 : Int32)) dX7_guard_61 rfl ?_
  obtain ⟨S_4, eS_4, h⟩ := of_lt h
  refine x_puti (pc := 62) C (k := 28) hO.1 rfl rfl wd_756 dX7_guard_62 ⟨Nat.le_of_ble_eq_true rfl, rfl⟩ eS_4 ?_
  refine x_iload_n (pc := 65) C 1 dX7_guard_65 rfl ?_
  refine x_if_ne (pc := 66) C 78 dX7_guard_66 rfl (fun c_1 => ?_) (fun c_1 => ?_)
  · replace h := of_ifn c_1 h
    refine x_aload_n (pc := 78) C 0 dX7_guard_78 rfl ?_
    refine x_iconst (pc := 79) C (v := (1 : Int32)) dX7_guard_79 rfl ?_
    refine x_iconst (pc := 80) C (v := (1 : Int32)) dX7_guard_80 rfl ?_
    obtain ⟨S_5, hc_1, h⟩ := of_bd h
    refine x_callV_ (pc := 81) C (o := 140) [.int (1 : Int32), .int (1 : Int32)] [] (c_X7_passesAll (b := b) (1 : Int32) (1 : Int32) hO S_4 _ hc_1) cw_X7_206 vi_X7_passesAll ⟨rfl, rfl, Nat.le_of_ble_eq_true rfl, Nat.le_of_ble_eq_true rfl⟩ ⟨Nat.le_refl _, Nat.le_refl _⟩ hO.1 ⟨rfl, rfl, rfl⟩ rfl ⟨rfl, Nat.le_of_ble_eq_true rfl⟩ dX7_guard_81 (fun hx_1 => ?_)
    refine x_iconst (pc := 84) C (v := (0 : Int32)) dX7_guard_84 rfl ?_
    refine x_istore_n (pc := 85) C 2 [(2, .int (0 : Int32)), (0, .ref (b + 140)), (1, .int v1_1)] dX7_guard_85 rfl (Nat.le_of_ble_eq_true rfl) rfl rfl ?_
    refine x_sub [1, 0] rfl ?_
    obtain ⟨z_hz_1, hz_1, hl, hrr⟩ := of_bs h
    refine l_X7_guard_86 C hO rf Sf 400 _ _ hz_1 (fun q ez => of_sp (x := q.1) (u := q.2) (hl _ ez)) (fun S_6 ez => ?_)
    replace h := hrr _ ez
    clear hl hrr
    refine x_aload_n (pc := 128) C 0 dX7_guard_128 rfl ?_
    refine x_geti (pc := 129) C (k := 30) hO.1 rfl rfl wd_758 dX7_guard_129 ⟨Nat.le_of_ble_eq_true rfl, rfl⟩ ?_
    exact x_ireturn (pc := 132) C dX7_guard_132 (of_sp h).1 (of_sp h).2
  · replace h := of_ifp c_1 h
    refine x_sipush (pc := 69) C (v := (-1000 : Int32)) dX7_guard_69 rfl ?_
    refine x_aload_n (pc := 72) C 0 dX7_guard_72 rfl ?_
    refine x_geti (pc := 73) C (k := 29) hO.1 rfl rfl wd_757 dX7_guard_73 ⟨Nat.le_of_ble_eq_true rfl, rfl⟩ ?_
    refine x_isub (pc := 76) C dX7_guard_76 ?_
    exact x_ireturn (pc := 77) C dX7_guard_77 (of_sp h).1 (of_sp h).2
set_option maxRecDepth 100000 in
set_option maxHeartbeats 4000000 in
theorem c_X7_image {l : Launch} {G : zz_G} {L : Ly} {b : Nat} (hO : isMo L) (S : Sg) (rf : Int32) (Sf : Sg) (h : f_X7_image S = some (rf, Sf)) : Met l yX7_image (Cond.code yX7_image cX7_image 1 (some .int) :: zz_all) (rmz 2 44) (PC G L b S [.ref (b + 140)]) (QC G L b Sf (some (.int rf)) True) 0 0 (fun q => b ≤ q) := by
  refine x_met [.ref (b + 140)] (by decide +kernel) (Nat.le_of_ble_eq_true rfl) fun p e s m args below meth c C => ?_
  unfold f_X7_image at h
  refine x_aload_n (pc := 0) C 0 dX7_image_0 rfl ?_
  refine x_iconst (pc := 1) C (v := (1 : Int32)) dX7_image_1 rfl ?_
  obtain ⟨S_1, eS_1, h⟩ := of_lt h
  refine x_putz (pc := 2) C (k := 21) hO.1 rfl rfl wd_749 dX7_image_2 ⟨Nat.le_of_ble_eq_true rfl, rfl⟩ (isb_of (by decide)) eS_1 ?_
  refine x_aload_n (pc := 5) C 0 dX7_image_5 rfl ?_
  refine x_iconst (pc := 6) C (v := (0 : Int32)) dX7_image_6 rfl ?_
  refine x_iconst (pc := 7) C (v := (1 : Int32)) dX7_image_7 rfl ?_
  obtain ⟨S_2, hc_1, h⟩ := of_bd h
  refine x_callV_ (pc := 8) C (o := 140) [.int (0 : Int32), .int (1 : Int32)] [] (c_X7_passesAll (b := b) (0 : Int32) (1 : Int32) hO S_1 _ hc_1) cw_X7_206 vi_X7_passesAll ⟨rfl, rfl, Nat.le_of_ble_eq_true rfl, Nat.le_of_ble_eq_true rfl⟩ ⟨Nat.le_refl _, Nat.le_refl _⟩ hO.1 ⟨rfl, rfl, rfl⟩ rfl ⟨rfl, Nat.le_of_ble_eq_true rfl⟩ dX7_image_8 (fun hx_1 => ?_)
  refine x_aload_n (pc := 11) C 0 dX7_image_11 rfl ?_
  refine x_geti (pc := 12) C (k := 8) hO.1 rfl rfl wd_736 dX7_image_12 ⟨Nat.le_of_ble_eq_true rfl, rfl⟩ ?_
  exact x_ireturn (pc := 15) C dX7_image_15 (of_sp h).1 (of_sp h).2
set_option maxRecDepth 100000 in
set_option maxHeartbeats 4000000 in
theorem l_X7_isMetSo_2 {p : Program} {l : Launch} {e : Env} {s : State} {m : MethodId} {args : Array Value} {below : List Frame} {meth : Method} {c : Code} {G : zz_G} {L : Ly} {b : Nat} (C : CX p G s m args meth c cX7_isMetSo yX7_isMetSo 4 (some .boolean)) (hO : isMo L) (v1 : Int32) (v2 : Int32) (rf : Int32) (Sf : Sg) : ∀ (n : Nat) (v3 : Int32) (S : Sg) {z}, L_X7_isMetSo_2 v1 v2 n v3 S = some z → (∀ q, z = .inl q → q.1 = rf ∧ q.2 = Sf) → (∀ (S_o : Sg), z = .inr S_o → X p l e (rmz 7 176) s m args below meth c 0 0 (RQ G L b Sf below args s (some (.int rf)) (rf = 0 ∨ rf = 1)) 4 G L b S_o 47 [] []) → X p l e (rmz 7 176) s m args below meth c 0 0 (RQ G L b Sf below args s (some (.int rf)) (rf = 0 ∨ rf = 1)) 4 G L b S 2 [(0, .ref (b + 140)), (1, .int v1), (2, .int v2), (3, .int v3)] [] := by
  intro n
  induction n with
  | zero =>
    intro v3 S z h
    exact of_none h
  | succ n ih =>
    intro v3 S z h hr hx
    rw [L_X7_isMetSo_2] at h
    refine x_iload_n (pc := 2) C 3 dX7_isMetSo_2 rfl ?_
    refine x_aload_n (pc := 3) C 0 dX7_isMetSo_3 rfl ?_
    refine x_geti (pc := 4) C (k := 39) hO.1 rfl rfl wd_767 dX7_isMetSo_4 ⟨Nat.le_of_ble_eq_true rfl, rfl⟩ ?_
    refine x_icmp_ge (pc := 7) C 47 dX7_isMetSo_7 rfl (fun c_1 => ?_) (fun c_1 => ?_)
    · replace h := of_ifn c_1 h
      exact x_sub [] rfl (hx _ (of_s1 h).symm)
    · replace h := of_ifp c_1 h
      refine x_aload_n (pc := 10) C 0 dX7_isMetSo_10 rfl ?_
      refine x_iconst (pc := 11) C (v := (0 : Int32)) dX7_isMetSo_11 rfl ?_
      refine x_aload_n (pc := 12) C 0 dX7_isMetSo_12 rfl ?_
      refine x_getr (pc := 13) C (k := 38) 165 hO.1 rfl rfl wd_766 dX7_isMetSo_13 (Nat.le_of_ble_eq_true rfl) rfl ?_
      refine x_iload_n (pc := 16) C 3 dX7_isMetSo_16 rfl ?_
      obtain ⟨g_1, h⟩ := of_gd h
      refine x_iaload (pc := 17) C hO.2.2.2.2.2.2.2.2.2.2.2.2.2.2.2.2.2.2.2.2.2.2.2.2.2 g_1 dX7_isMetSo_17 ?_
      refine x_iconst (pc := 18) C (v := (0 : Int32)) dX7_isMetSo_18 rfl ?_
      obtain ⟨S_1, hc_1, h⟩ := of_bd h
      refine x_callV_ (pc := 19) C (o := 140) [.int (0 : Int32), .int (S.1 165 (ix v3)), .int (0 : Int32)] [] (c_X7_asks (b := b) (0 : Int32) (S.1 165 (ix v3)) (0 : Int32) hO S _ hc_1) cw_X7_266 vi_X7_asks ⟨rfl, rfl, Nat.le_of_ble_eq_true rfl, Nat.le_of_ble_eq_true rfl⟩ ⟨Nat.le_refl _, Nat.le_refl _⟩ hO.1 ⟨rfl, rfl, rfl⟩ rfl ⟨rfl, Nat.le_of_ble_eq_true rfl⟩ dX7_isMetSo_19 (fun hx_1 => ?_)
      refine x_aload_n (pc := 22) C 0 dX7_isMetSo_22 rfl ?_
      refine x_iload_n (pc := 23) C 1 dX7_isMetSo_23 rfl ?_
      refine x_iload_n (pc := 24) C 2 dX7_isMetSo_24 rfl ?_
      obtain ⟨⟨r_1, S_2⟩, hc_2, h⟩ := of_bd h
      replace h := of_u2 h
      refine x_callV1 (pc := 25) C (o := 140) [.int v1, .int v2] [] (c_X7_meetsBy (b := b) v1 v2 hO S_1 _ _ hc_2) cw_X7_179 vi_X7_meetsBy ⟨rfl, rfl, Nat.le_of_ble_eq_true rfl, Nat.le_of_ble_eq_true rfl⟩ ⟨Nat.le_refl _, Nat.le_refl _⟩ hO.1 ⟨rfl, rfl, rfl⟩ rfl ⟨rfl, Nat.le_of_ble_eq_true rfl⟩ dX7_isMetSo_25 (fun hx_2 => ?_)
      refine x_aload_n (pc := 28) C 0 dX7_isMetSo_28 rfl ?_
      refine x_getr (pc := 29) C (k := 38) 165 hO.1 rfl rfl wd_766 dX7_isMetSo_29 (Nat.le_of_ble_eq_true rfl) rfl ?_
      refine x_iload_n (pc := 32) C 3 dX7_isMetSo_32 rfl ?_
      refine x_iconst (pc := 33) C (v := (1 : Int32)) dX7_isMetSo_33 rfl ?_
      refine x_iadd (pc := 34) C dX7_isMetSo_34 ?_
      obtain ⟨g_2, h⟩ := of_gd h
      refine x_iaload (pc := 35) C hO.2.2.2.2.2.2.2.2.2.2.2.2.2.2.2.2.2.2.2.2.2.2.2.2.2 g_2 dX7_isMetSo_35 ?_
      refine x_icmp_eq (pc := 36) C 41 dX7_isMetSo_36 rfl (fun c_2 => ?_) (fun c_2 => ?_)
      · replace h := of_ifp c_2 h
        obtain ⟨v3_1, ev3_1, h⟩ := of_lt h
        refine x_iinc (pc := 41) C (w := (2 : Int32)) 3 [(3, .int v3_1), (0, .ref (b + 140)), (1, .int v1), (2, .int v2)] dX7_isMetSo_41 rfl rfl (Nat.le_of_ble_eq_true rfl) ev3_1 rfl ?_
        refine x_goto (pc := 44) C 2 dX7_isMetSo_44 rfl ?_
        exact x_sub [1, 2, 3, 0] rfl (ih _ _ h hr hx)
      · replace h := of_ifn c_2 h
        refine x_iconst (pc := 39) C (v := (0 : Int32)) dX7_isMetSo_39 rfl ?_
        have hq := hr _ (of_s1 h).symm
        exact x_zreturn (pc := 40) C (by decide) dX7_isMetSo_40 hq.1 hq.2
set_option maxRecDepth 100000 in
set_option maxHeartbeats 4000000 in
theorem c_X7_isMetSo {l : Launch} {G : zz_G} {L : Ly} {b : Nat} (p1 : Int32) (p2 : Int32) (hO : isMo L) (S : Sg) (rf : Int32) (Sf : Sg) (h : f_X7_isMetSo p1 p2 S = some (rf, Sf)) : Met l yX7_isMetSo (Cond.code yX7_isMetSo cX7_isMetSo 4 (some .boolean) :: zz_all) (rmz 7 176) (PC G L b S [.ref (b + 140), .int p1, .int p2]) (QC G L b Sf (some (.int rf)) (rf = 0 ∨ rf = 1)) 0 0 (fun q => b ≤ q) := by
  refine x_met [.ref (b + 140), .int p1, .int p2] (by decide +kernel) (Nat.le_of_ble_eq_true rfl) fun p e s m args below meth c C => ?_
  unfold f_X7_isMetSo at h
  refine x_iconst (pc := 0) C (v := (0 : Int32)) dX7_isMetSo_0 rfl ?_
  refine x_istore_n (pc := 1) C 3 [(3, .int (0 : Int32)), (0, .ref (b + 140)), (1, .int p1), (2, .int p2)] dX7_isMetSo_1 rfl (Nat.le_of_ble_eq_true rfl) rfl rfl ?_
  refine x_sub [1, 2, 3, 0] rfl ?_
  obtain ⟨z_hz_1, hz_1, hl, hrr⟩ := of_bs h
  refine l_X7_isMetSo_2 C hO p1 p2 rf Sf 400 _ _ hz_1 (fun q ez => of_sp (x := q.1) (u := q.2) (hl _ ez)) (fun S_1 ez => ?_)
  replace h := hrr _ ez
  clear hl hrr
  refine x_iconst (pc := 47) C (v := (1 : Int32)) dX7_isMetSo_47 rfl ?_
  exact x_zreturn (pc := 48) C (by decide) dX7_isMetSo_48 (of_sp h).1 (of_sp h).2
