def ml (o : Nat) : List Sh := [(0, 6, [o + 1 + 3, o + 2 + 3, o + 3 + 3, o + 4 + 3, o + 5 + 3, o + 6 + 3, o + 7 + 3, 0, 0, 0, 0, o + 8 + 3, 0, o + 9 + 3, o + 10 + 3, o + 11 + 3, o + 12 + 3, o + 13 + 3, 0, 0, o + 14 + 3, 0, 0, 0, o + 15 + 3, o + 16 + 3, o + 17 + 3, o + 18 + 3, 0, 0, 0, 0, o + 19 + 3, o + 20 + 3, o + 21 + 3, o + 22 + 3, o + 23 + 3, o + 24 + 3, o + 25 + 3, 0, 0]), (1, 7, []), (1, 10, []), (1, 10, []), (1, 10, []), (1, 8, []), (1, 100, []), (1, 10, []), (1, 10, []), (2, 110, []), (2, 110, []), (2, 10, []), (1, 11, []), (1, 11, []), (1, 456, []), (1, 96, []), (1, 33, []), (1, 33, []), (1, 297, []), (1, 256, []), (1, 3, []), (1, 10, []), (1, 10, []), (1, 3, []), (1, 8, []), (1, 32, [])]
def mS (o : Nat) (S : Sg) : Sg := setI (setI (lpI (o + 4) (fun _ => 99) 10 (lpI (o + 5) nI 8 S)) o 7 8) o 10 4
set_option maxRecDepth 100000 in
set_option maxHeartbeats 4000000 in
theorem c_X7_init {l : Launch} {G : zz_G} {L0 : Ly} {b : Nat} (S : Sg) (hz : ∀ i, 0 < i → i ≤ 25 → S.1 (L0.1 + i) = zr ∧ S.2 (L0.1 + i) = zrJ) : Met l yX7_init (Cond.code yX7_init cX7_init 2 none :: zz_all) { frames := 1, cells := 25, slots := 1654, locals := 28 } (PN G (lay0 L0 [(0, 6, [2, 2, 2, 2, 2, 2, 2, 0, 0, 0, 0, 2, 0, 2, 2, 2, 2, 2, 0, 0, 2, 0, 0, 0, 2, 2, 2, 2, 0, 0, 0, 0, 2, 2, 2, 2, 2, 2, 2, 0, 0])]) b S [.ref (b + (L0.1 + 0))]) (QC G (lay0 L0 (ml L0.1)) b (mS L0.1 S) none True) 25 1654 (fun q => b ≤ q) := by
  refine x_metN [.ref (b + (L0.1 + 0))] (by decide +kernel) (Nat.le_of_ble_eq_true rfl) fun p e s m args below meth c C hA => ?_
  refine x_aload_n (pc := 0) C 0 dX7_init_0 rfl ?_
  refine x_objI (pc := 1) C wd_727 ⟨Nat.le_of_ble_eq_true rfl, Nat.le_of_ble_eq_true rfl⟩ dX7_init_1 ?_
  refine x_aload_n (pc := 4) C 0 dX7_init_4 rfl ?_
  refine x_bipush (pc := 5) C (v := (7 : Int32)) dX7_init_5 rfl ?_
  refine x_newI (pc := 7) C (N := 7) ⟨by decide, rfl, by decide⟩ ⟨Nat.le_of_ble_eq_true rfl, Nat.le_of_ble_eq_true rfl⟩ (hz 1 (by decide) (by decide)).1 dX7_init_7 ?_
  refine x_putf (pc := 9) C (i := 0) (k := 0) (ty := (.array .int)) rfl rfl ⟨Nat.le_of_ble_eq_true rfl, Nat.le_of_ble_eq_true rfl⟩ rfl wd_728 ⟨rfl, rfl⟩ dX7_init_9 (by decide +kernel) (fun q => ⟨rfl, rfl⟩) ?_
  refine x_ly (ly' := [(0, 6, [L0.1 + 1 + 3, 2, 2, 2, 2, 2, 2, 0, 0, 0, 0, 2, 0, 2, 2, 2, 2, 2, 0, 0, 2, 0, 0, 0, 2, 2, 2, 2, 0, 0, 0, 0, 2, 2, 2, 2, 2, 2, 2, 0, 0]), (1, 7, [])]) rfl ?_
  refine x_aload_n (pc := 12) C 0 dX7_init_12 rfl ?_
  refine x_bipush (pc := 13) C (v := (10 : Int32)) dX7_init_13 rfl ?_
  refine x_newI (pc := 15) C (N := 10) ⟨by decide, rfl, by decide⟩ ⟨Nat.le_of_ble_eq_true rfl, Nat.le_of_ble_eq_true rfl⟩ (hz 2 (by decide) (by decide)).1 dX7_init_15 ?_
  refine x_putf (pc := 17) C (i := 0) (k := 1) (ty := (.array .int)) rfl rfl ⟨Nat.le_of_ble_eq_true rfl, Nat.le_of_ble_eq_true rfl⟩ rfl wd_729 ⟨rfl, rfl⟩ dX7_init_17 (by decide +kernel) (fun q => ⟨rfl, rfl⟩) ?_
  refine x_ly (ly' := [(0, 6, [L0.1 + 1 + 3, L0.1 + 2 + 3, 2, 2, 2, 2, 2, 0, 0, 0, 0, 2, 0, 2, 2, 2, 2, 2, 0, 0, 2, 0, 0, 0, 2, 2, 2, 2, 0, 0, 0, 0, 2, 2, 2, 2, 2, 2, 2, 0, 0]), (1, 7, []), (1, 10, [])]) rfl ?_
  refine x_aload_n (pc := 20) C 0 dX7_init_20 rfl ?_
  refine x_bipush (pc := 21) C (v := (10 : Int32)) dX7_init_21 rfl ?_
  refine x_newI (pc := 23) C (N := 10) ⟨by decide, rfl, by decide⟩ ⟨Nat.le_of_ble_eq_true rfl, Nat.le_of_ble_eq_true rfl⟩ (hz 3 (by decide) (by decide)).1 dX7_init_23 ?_
  refine x_putf (pc := 25) C (i := 0) (k := 2) (ty := (.array .int)) rfl rfl ⟨Nat.le_of_ble_eq_true rfl, Nat.le_of_ble_eq_true rfl⟩ rfl wd_730 ⟨rfl, rfl⟩ dX7_init_25 (by decide +kernel) (fun q => ⟨rfl, rfl⟩) ?_
  refine x_ly (ly' := [(0, 6, [L0.1 + 1 + 3, L0.1 + 2 + 3, L0.1 + 3 + 3, 2, 2, 2, 2, 0, 0, 0, 0, 2, 0, 2, 2, 2, 2, 2, 0, 0, 2, 0, 0, 0, 2, 2, 2, 2, 0, 0, 0, 0, 2, 2, 2, 2, 2, 2, 2, 0, 0]), (1, 7, []), (1, 10, []), (1, 10, [])]) rfl ?_
  refine x_aload_n (pc := 28) C 0 dX7_init_28 rfl ?_
  refine x_bipush (pc := 29) C (v := (10 : Int32)) dX7_init_29 rfl ?_
  refine x_newI (pc := 31) C (N := 10) ⟨by decide, rfl, by decide⟩ ⟨Nat.le_of_ble_eq_true rfl, Nat.le_of_ble_eq_true rfl⟩ (hz 4 (by decide) (by decide)).1 dX7_init_31 ?_
  refine x_putf (pc := 33) C (i := 0) (k := 3) (ty := (.array .int)) rfl rfl ⟨Nat.le_of_ble_eq_true rfl, Nat.le_of_ble_eq_true rfl⟩ rfl wd_731 ⟨rfl, rfl⟩ dX7_init_33 (by decide +kernel) (fun q => ⟨rfl, rfl⟩) ?_
  refine x_ly (ly' := [(0, 6, [L0.1 + 1 + 3, L0.1 + 2 + 3, L0.1 + 3 + 3, L0.1 + 4 + 3, 2, 2, 2, 0, 0, 0, 0, 2, 0, 2, 2, 2, 2, 2, 0, 0, 2, 0, 0, 0, 2, 2, 2, 2, 0, 0, 0, 0, 2, 2, 2, 2, 2, 2, 2, 0, 0]), (1, 7, []), (1, 10, []), (1, 10, []), (1, 10, [])]) rfl ?_
  refine x_aload_n (pc := 36) C 0 dX7_init_36 rfl ?_
  refine x_bipush (pc := 37) C (v := (8 : Int32)) dX7_init_37 rfl ?_
  refine x_newI (pc := 39) C (N := 8) ⟨by decide, rfl, by decide⟩ ⟨Nat.le_of_ble_eq_true rfl, Nat.le_of_ble_eq_true rfl⟩ (hz 5 (by decide) (by decide)).1 dX7_init_39 ?_
  refine x_putf (pc := 41) C (i := 0) (k := 4) (ty := (.array .int)) rfl rfl ⟨Nat.le_of_ble_eq_true rfl, Nat.le_of_ble_eq_true rfl⟩ rfl wd_732 ⟨rfl, rfl⟩ dX7_init_41 (by decide +kernel) (fun q => ⟨rfl, rfl⟩) ?_
  refine x_ly (ly' := [(0, 6, [L0.1 + 1 + 3, L0.1 + 2 + 3, L0.1 + 3 + 3, L0.1 + 4 + 3, L0.1 + 5 + 3, 2, 2, 0, 0, 0, 0, 2, 0, 2, 2, 2, 2, 2, 0, 0, 2, 0, 0, 0, 2, 2, 2, 2, 0, 0, 0, 0, 2, 2, 2, 2, 2, 2, 2, 0, 0]), (1, 7, []), (1, 10, []), (1, 10, []), (1, 10, []), (1, 8, [])]) rfl ?_
  refine x_aload_n (pc := 44) C 0 dX7_init_44 rfl ?_
  refine x_bipush (pc := 45) C (v := (100 : Int32)) dX7_init_45 rfl ?_
  refine x_newI (pc := 47) C (N := 100) ⟨by decide, rfl, by decide⟩ ⟨Nat.le_of_ble_eq_true rfl, Nat.le_of_ble_eq_true rfl⟩ (hz 6 (by decide) (by decide)).1 dX7_init_47 ?_
  refine x_putf (pc := 49) C (i := 0) (k := 5) (ty := (.array .int)) rfl rfl ⟨Nat.le_of_ble_eq_true rfl, Nat.le_of_ble_eq_true rfl⟩ rfl wd_733 ⟨rfl, rfl⟩ dX7_init_49 (by decide +kernel) (fun q => ⟨rfl, rfl⟩) ?_
  refine x_ly (ly' := [(0, 6, [L0.1 + 1 + 3, L0.1 + 2 + 3, L0.1 + 3 + 3, L0.1 + 4 + 3, L0.1 + 5 + 3, L0.1 + 6 + 3, 2, 0, 0, 0, 0, 2, 0, 2, 2, 2, 2, 2, 0, 0, 2, 0, 0, 0, 2, 2, 2, 2, 0, 0, 0, 0, 2, 2, 2, 2, 2, 2, 2, 0, 0]), (1, 7, []), (1, 10, []), (1, 10, []), (1, 10, []), (1, 8, []), (1, 100, [])]) rfl ?_
  refine x_aload_n (pc := 52) C 0 dX7_init_52 rfl ?_
  refine x_bipush (pc := 53) C (v := (10 : Int32)) dX7_init_53 rfl ?_
  refine x_newI (pc := 55) C (N := 10) ⟨by decide, rfl, by decide⟩ ⟨Nat.le_of_ble_eq_true rfl, Nat.le_of_ble_eq_true rfl⟩ (hz 7 (by decide) (by decide)).1 dX7_init_55 ?_
  refine x_putf (pc := 57) C (i := 0) (k := 6) (ty := (.array .int)) rfl rfl ⟨Nat.le_of_ble_eq_true rfl, Nat.le_of_ble_eq_true rfl⟩ rfl wd_734 ⟨rfl, rfl⟩ dX7_init_57 (by decide +kernel) (fun q => ⟨rfl, rfl⟩) ?_
  refine x_ly (ly' := [(0, 6, [L0.1 + 1 + 3, L0.1 + 2 + 3, L0.1 + 3 + 3, L0.1 + 4 + 3, L0.1 + 5 + 3, L0.1 + 6 + 3, L0.1 + 7 + 3, 0, 0, 0, 0, 2, 0, 2, 2, 2, 2, 2, 0, 0, 2, 0, 0, 0, 2, 2, 2, 2, 0, 0, 0, 0, 2, 2, 2, 2, 2, 2, 2, 0, 0]), (1, 7, []), (1, 10, []), (1, 10, []), (1, 10, []), (1, 8, []), (1, 100, []), (1, 10, [])]) rfl ?_
  refine x_aload_n (pc := 60) C 0 dX7_init_60 rfl ?_
  refine x_bipush (pc := 61) C (v := (10 : Int32)) dX7_init_61 rfl ?_
  refine x_newI (pc := 63) C (N := 10) ⟨by decide, rfl, by decide⟩ ⟨Nat.le_of_ble_eq_true rfl, Nat.le_of_ble_eq_true rfl⟩ (hz 8 (by decide) (by decide)).1 dX7_init_63 ?_
  refine x_putf (pc := 65) C (i := 0) (k := 11) (ty := (.array .int)) rfl rfl ⟨Nat.le_of_ble_eq_true rfl, Nat.le_of_ble_eq_true rfl⟩ rfl wd_739 ⟨rfl, rfl⟩ dX7_init_65 (by decide +kernel) (fun q => ⟨rfl, rfl⟩) ?_
  refine x_ly (ly' := [(0, 6, [L0.1 + 1 + 3, L0.1 + 2 + 3, L0.1 + 3 + 3, L0.1 + 4 + 3, L0.1 + 5 + 3, L0.1 + 6 + 3, L0.1 + 7 + 3, 0, 0, 0, 0, L0.1 + 8 + 3, 0, 2, 2, 2, 2, 2, 0, 0, 2, 0, 0, 0, 2, 2, 2, 2, 0, 0, 0, 0, 2, 2, 2, 2, 2, 2, 2, 0, 0]), (1, 7, []), (1, 10, []), (1, 10, []), (1, 10, []), (1, 8, []), (1, 100, []), (1, 10, []), (1, 10, [])]) rfl ?_
  refine x_aload_n (pc := 68) C 0 dX7_init_68 rfl ?_
  refine x_bipush (pc := 69) C (v := (110 : Int32)) dX7_init_69 rfl ?_
  refine x_newJ (pc := 71) C (N := 110) ⟨by decide, rfl, by decide⟩ ⟨Nat.le_of_ble_eq_true rfl, Nat.le_of_ble_eq_true rfl⟩ (hz 9 (by decide) (by decide)).2 dX7_init_71 ?_
  refine x_putf (pc := 73) C (i := 0) (k := 13) (ty := (.array .long)) rfl rfl ⟨Nat.le_of_ble_eq_true rfl, Nat.le_of_ble_eq_true rfl⟩ rfl wd_741 ⟨rfl, rfl⟩ dX7_init_73 (by decide +kernel) (fun q => ⟨rfl, rfl⟩) ?_
  refine x_ly (ly' := [(0, 6, [L0.1 + 1 + 3, L0.1 + 2 + 3, L0.1 + 3 + 3, L0.1 + 4 + 3, L0.1 + 5 + 3, L0.1 + 6 + 3, L0.1 + 7 + 3, 0, 0, 0, 0, L0.1 + 8 + 3, 0, L0.1 + 9 + 3, 2, 2, 2, 2, 0, 0, 2, 0, 0, 0, 2, 2, 2, 2, 0, 0, 0, 0, 2, 2, 2, 2, 2, 2, 2, 0, 0]), (1, 7, []), (1, 10, []), (1, 10, []), (1, 10, []), (1, 8, []), (1, 100, []), (1, 10, []), (1, 10, []), (2, 110, [])]) rfl ?_
  refine x_aload_n (pc := 76) C 0 dX7_init_76 rfl ?_
  refine x_bipush (pc := 77) C (v := (110 : Int32)) dX7_init_77 rfl ?_
  refine x_newJ (pc := 79) C (N := 110) ⟨by decide, rfl, by decide⟩ ⟨Nat.le_of_ble_eq_true rfl, Nat.le_of_ble_eq_true rfl⟩ (hz 10 (by decide) (by decide)).2 dX7_init_79 ?_
  refine x_putf (pc := 81) C (i := 0) (k := 14) (ty := (.array .long)) rfl rfl ⟨Nat.le_of_ble_eq_true rfl, Nat.le_of_ble_eq_true rfl⟩ rfl wd_742 ⟨rfl, rfl⟩ dX7_init_81 (by decide +kernel) (fun q => ⟨rfl, rfl⟩) ?_
  refine x_ly (ly' := [(0, 6, [L0.1 + 1 + 3, L0.1 + 2 + 3, L0.1 + 3 + 3, L0.1 + 4 + 3, L0.1 + 5 + 3, L0.1 + 6 + 3, L0.1 + 7 + 3, 0, 0, 0, 0, L0.1 + 8 + 3, 0, L0.1 + 9 + 3, L0.1 + 10 + 3, 2, 2, 2, 0, 0, 2, 0, 0, 0, 2, 2, 2, 2, 0, 0, 0, 0, 2, 2, 2, 2, 2, 2, 2, 0, 0]), (1, 7, []), (1, 10, []), (1, 10, []), (1, 10, []), (1, 8, []), (1, 100, []), (1, 10, []), (1, 10, []), (2, 110, []), (2, 110, [])]) rfl ?_
  refine x_aload_n (pc := 84) C 0 dX7_init_84 rfl ?_
  refine x_bipush (pc := 85) C (v := (10 : Int32)) dX7_init_85 rfl ?_
  refine x_newJ (pc := 87) C (N := 10) ⟨by decide, rfl, by decide⟩ ⟨Nat.le_of_ble_eq_true rfl, Nat.le_of_ble_eq_true rfl⟩ (hz 11 (by decide) (by decide)).2 dX7_init_87 ?_
  refine x_putf (pc := 89) C (i := 0) (k := 15) (ty := (.array .long)) rfl rfl ⟨Nat.le_of_ble_eq_true rfl, Nat.le_of_ble_eq_true rfl⟩ rfl wd_743 ⟨rfl, rfl⟩ dX7_init_89 (by decide +kernel) (fun q => ⟨rfl, rfl⟩) ?_
  refine x_ly (ly' := [(0, 6, [L0.1 + 1 + 3, L0.1 + 2 + 3, L0.1 + 3 + 3, L0.1 + 4 + 3, L0.1 + 5 + 3, L0.1 + 6 + 3, L0.1 + 7 + 3, 0, 0, 0, 0, L0.1 + 8 + 3, 0, L0.1 + 9 + 3, L0.1 + 10 + 3, L0.1 + 11 + 3, 2, 2, 0, 0, 2, 0, 0, 0, 2, 2, 2, 2, 0, 0, 0, 0, 2, 2, 2, 2, 2, 2, 2, 0, 0]), (1, 7, []), (1, 10, []), (1, 10, []), (1, 10, []), (1, 8, []), (1, 100, []), (1, 10, []), (1, 10, []), (2, 110, []), (2, 110, []), (2, 10, [])]) rfl ?_
  refine x_aload_n (pc := 92) C 0 dX7_init_92 rfl ?_
  refine x_bipush (pc := 93) C (v := (11 : Int32)) dX7_init_93 rfl ?_
  refine x_newI (pc := 95) C (N := 11) ⟨by decide, rfl, by decide⟩ ⟨Nat.le_of_ble_eq_true rfl, Nat.le_of_ble_eq_true rfl⟩ (hz 12 (by decide) (by decide)).1 dX7_init_95 ?_
  refine x_putf (pc := 97) C (i := 0) (k := 16) (ty := (.array .int)) rfl rfl ⟨Nat.le_of_ble_eq_true rfl, Nat.le_of_ble_eq_true rfl⟩ rfl wd_744 ⟨rfl, rfl⟩ dX7_init_97 (by decide +kernel) (fun q => ⟨rfl, rfl⟩) ?_
  refine x_ly (ly' := [(0, 6, [L0.1 + 1 + 3, L0.1 + 2 + 3, L0.1 + 3 + 3, L0.1 + 4 + 3, L0.1 + 5 + 3, L0.1 + 6 + 3, L0.1 + 7 + 3, 0, 0, 0, 0, L0.1 + 8 + 3, 0, L0.1 + 9 + 3, L0.1 + 10 + 3, L0.1 + 11 + 3, L0.1 + 12 + 3, 2, 0, 0, 2, 0, 0, 0, 2, 2, 2, 2, 0, 0, 0, 0, 2, 2, 2, 2, 2, 2, 2, 0, 0]), (1, 7, []), (1, 10, []), (1, 10, []), (1, 10, []), (1, 8, []), (1, 100, []), (1, 10, []), (1, 10, []), (2, 110, []), (2, 110, []), (2, 10, []), (1, 11, [])]) rfl ?_
  refine x_aload_n (pc := 100) C 0 dX7_init_100 rfl ?_
  refine x_bipush (pc := 101) C (v := (11 : Int32)) dX7_init_101 rfl ?_
  refine x_newI (pc := 103) C (N := 11) ⟨by decide, rfl, by decide⟩ ⟨Nat.le_of_ble_eq_true rfl, Nat.le_of_ble_eq_true rfl⟩ (hz 13 (by decide) (by decide)).1 dX7_init_103 ?_
  refine x_putf (pc := 105) C (i := 0) (k := 17) (ty := (.array .int)) rfl rfl ⟨Nat.le_of_ble_eq_true rfl, Nat.le_of_ble_eq_true rfl⟩ rfl wd_745 ⟨rfl, rfl⟩ dX7_init_105 (by decide +kernel) (fun q => ⟨rfl, rfl⟩) ?_
  refine x_ly (ly' := [(0, 6, [L0.1 + 1 + 3, L0.1 + 2 + 3, L0.1 + 3 + 3, L0.1 + 4 + 3, L0.1 + 5 + 3, L0.1 + 6 + 3, L0.1 + 7 + 3, 0, 0, 0, 0, L0.1 + 8 + 3, 0, L0.1 + 9 + 3, L0.1 + 10 + 3, L0.1 + 11 + 3, L0.1 + 12 + 3, L0.1 + 13 + 3, 0, 0, 2, 0, 0, 0, 2, 2, 2, 2, 0, 0, 0, 0, 2, 2, 2, 2, 2, 2, 2, 0, 0]), (1, 7, []), (1, 10, []), (1, 10, []), (1, 10, []), (1, 8, []), (1, 100, []), (1, 10, []), (1, 10, []), (2, 110, []), (2, 110, []), (2, 10, []), (1, 11, []), (1, 11, [])]) rfl ?_
  refine x_aload_n (pc := 108) C 0 dX7_init_108 rfl ?_
  refine x_sipush (pc := 109) C (v := (456 : Int32)) dX7_init_109 rfl ?_
  refine x_newI (pc := 112) C (N := 456) ⟨by decide, rfl, by decide⟩ ⟨Nat.le_of_ble_eq_true rfl, Nat.le_of_ble_eq_true rfl⟩ (hz 14 (by decide) (by decide)).1 dX7_init_112 ?_
  refine x_putf (pc := 114) C (i := 0) (k := 20) (ty := (.array .int)) rfl rfl ⟨Nat.le_of_ble_eq_true rfl, Nat.le_of_ble_eq_true rfl⟩ rfl wd_748 ⟨rfl, rfl⟩ dX7_init_114 (by decide +kernel) (fun q => ⟨rfl, rfl⟩) ?_
  refine x_ly (ly' := [(0, 6, [L0.1 + 1 + 3, L0.1 + 2 + 3, L0.1 + 3 + 3, L0.1 + 4 + 3, L0.1 + 5 + 3, L0.1 + 6 + 3, L0.1 + 7 + 3, 0, 0, 0, 0, L0.1 + 8 + 3, 0, L0.1 + 9 + 3, L0.1 + 10 + 3, L0.1 + 11 + 3, L0.1 + 12 + 3, L0.1 + 13 + 3, 0, 0, L0.1 + 14 + 3, 0, 0, 0, 2, 2, 2, 2, 0, 0, 0, 0, 2, 2, 2, 2, 2, 2, 2, 0, 0]), (1, 7, []), (1, 10, []), (1, 10, []), (1, 10, []), (1, 8, []), (1, 100, []), (1, 10, []), (1, 10, []), (2, 110, []), (2, 110, []), (2, 10, []), (1, 11, []), (1, 11, []), (1, 456, [])]) rfl ?_
  refine x_aload_n (pc := 117) C 0 dX7_init_117 rfl ?_
  refine x_bipush (pc := 118) C (v := (96 : Int32)) dX7_init_118 rfl ?_
  refine x_newI (pc := 120) C (N := 96) ⟨by decide, rfl, by decide⟩ ⟨Nat.le_of_ble_eq_true rfl, Nat.le_of_ble_eq_true rfl⟩ (hz 15 (by decide) (by decide)).1 dX7_init_120 ?_
  refine x_putf (pc := 122) C (i := 0) (k := 24) (ty := (.array .int)) rfl rfl ⟨Nat.le_of_ble_eq_true rfl, Nat.le_of_ble_eq_true rfl⟩ rfl wd_752 ⟨rfl, rfl⟩ dX7_init_122 (by decide +kernel) (fun q => ⟨rfl, rfl⟩) ?_
  refine x_ly (ly' := [(0, 6, [L0.1 + 1 + 3, L0.1 + 2 + 3, L0.1 + 3 + 3, L0.1 + 4 + 3, L0.1 + 5 + 3, L0.1 + 6 + 3, L0.1 + 7 + 3, 0, 0, 0, 0, L0.1 + 8 + 3, 0, L0.1 + 9 + 3, L0.1 + 10 + 3, L0.1 + 11 + 3, L0.1 + 12 + 3, L0.1 + 13 + 3, 0, 0, L0.1 + 14 + 3, 0, 0, 0, L0.1 + 15 + 3, 2, 2, 2, 0, 0, 0, 0, 2, 2, 2, 2, 2, 2, 2, 0, 0]), (1, 7, []), (1, 10, []), (1, 10, []), (1, 10, []), (1, 8, []), (1, 100, []), (1, 10, []), (1, 10, []), (2, 110, []), (2, 110, []), (2, 10, []), (1, 11, []), (1, 11, []), (1, 456, []), (1, 96, [])]) rfl ?_
  refine x_aload_n (pc := 125) C 0 dX7_init_125 rfl ?_
  refine x_bipush (pc := 126) C (v := (33 : Int32)) dX7_init_126 rfl ?_
  refine x_newI (pc := 128) C (N := 33) ⟨by decide, rfl, by decide⟩ ⟨Nat.le_of_ble_eq_true rfl, Nat.le_of_ble_eq_true rfl⟩ (hz 16 (by decide) (by decide)).1 dX7_init_128 ?_
  refine x_putf (pc := 130) C (i := 0) (k := 25) (ty := (.array .int)) rfl rfl ⟨Nat.le_of_ble_eq_true rfl, Nat.le_of_ble_eq_true rfl⟩ rfl wd_753 ⟨rfl, rfl⟩ dX7_init_130 (by decide +kernel) (fun q => ⟨rfl, rfl⟩) ?_
  refine x_ly (ly' := [(0, 6, [L0.1 + 1 + 3, L0.1 + 2 + 3, L0.1 + 3 + 3, L0.1 + 4 + 3, L0.1 + 5 + 3, L0.1 + 6 + 3, L0.1 + 7 + 3, 0, 0, 0, 0, L0.1 + 8 + 3, 0, L0.1 + 9 + 3, L0.1 + 10 + 3, L0.1 + 11 + 3, L0.1 + 12 + 3, L0.1 + 13 + 3, 0, 0, L0.1 + 14 + 3, 0, 0, 0, L0.1 + 15 + 3, L0.1 + 16 + 3, 2, 2, 0, 0, 0, 0, 2, 2, 2, 2, 2, 2, 2, 0, 0]), (1, 7, []), (1, 10, []), (1, 10, []), (1, 10, []), (1, 8, []), (1, 100, []), (1, 10, []), (1, 10, []), (2, 110, []), (2, 110, []), (2, 10, []), (1, 11, []), (1, 11, []), (1, 456, []), (1, 96, []), (1, 33, [])]) rfl ?_
  refine x_aload_n (pc := 133) C 0 dX7_init_133 rfl ?_
  refine x_bipush (pc := 134) C (v := (33 : Int32)) dX7_init_134 rfl ?_
  refine x_newI (pc := 136) C (N := 33) ⟨by decide, rfl, by decide⟩ ⟨Nat.le_of_ble_eq_true rfl, Nat.le_of_ble_eq_true rfl⟩ (hz 17 (by decide) (by decide)).1 dX7_init_136 ?_
  refine x_putf (pc := 138) C (i := 0) (k := 26) (ty := (.array .int)) rfl rfl ⟨Nat.le_of_ble_eq_true rfl, Nat.le_of_ble_eq_true rfl⟩ rfl wd_754 ⟨rfl, rfl⟩ dX7_init_138 (by decide +kernel) (fun q => ⟨rfl, rfl⟩) ?_
  refine x_ly (ly' := [(0, 6, [L0.1 + 1 + 3, L0.1 + 2 + 3, L0.1 + 3 + 3, L0.1 + 4 + 3, L0.1 + 5 + 3, L0.1 + 6 + 3, L0.1 + 7 + 3, 0, 0, 0, 0, L0.1 + 8 + 3, 0, L0.1 + 9 + 3, L0.1 + 10 + 3, L0.1 + 11 + 3, L0.1 + 12 + 3, L0.1 + 13 + 3, 0, 0, L0.1 + 14 + 3, 0, 0, 0, L0.1 + 15 + 3, L0.1 + 16 + 3, L0.1 + 17 + 3, 2, 0, 0, 0, 0, 2, 2, 2, 2, 2, 2, 2, 0, 0]), (1, 7, []), (1, 10, []), (1, 10, []), (1, 10, []), (1, 8, []), (1, 100, []), (1, 10, []), (1, 10, []), (2, 110, []), (2, 110, []), (2, 10, []), (1, 11, []), (1, 11, []), (1, 456, []), (1, 96, []), (1, 33, []), (1, 33, [])]) rfl ?_
  refine x_aload_n (pc := 141) C 0 dX7_init_141 rfl ?_
  refine x_sipush (pc := 142) C (v := (297 : Int32)) dX7_init_142 rfl ?_
  refine x_newI (pc := 145) C (N := 297) ⟨by decide, rfl, by decide⟩ ⟨Nat.le_of_ble_eq_true rfl, Nat.le_of_ble_eq_true rfl⟩ (hz 18 (by decide) (by decide)).1 dX7_init_145 ?_
  refine x_putf (pc := 147) C (i := 0) (k := 27) (ty := (.array .int)) rfl rfl ⟨Nat.le_of_ble_eq_true rfl, Nat.le_of_ble_eq_true rfl⟩ rfl wd_755 ⟨rfl, rfl⟩ dX7_init_147 (by decide +kernel) (fun q => ⟨rfl, rfl⟩) ?_
  refine x_ly (ly' := [(0, 6, [L0.1 + 1 + 3, L0.1 + 2 + 3, L0.1 + 3 + 3, L0.1 + 4 + 3, L0.1 + 5 + 3, L0.1 + 6 + 3, L0.1 + 7 + 3, 0, 0, 0, 0, L0.1 + 8 + 3, 0, L0.1 + 9 + 3, L0.1 + 10 + 3, L0.1 + 11 + 3, L0.1 + 12 + 3, L0.1 + 13 + 3, 0, 0, L0.1 + 14 + 3, 0, 0, 0, L0.1 + 15 + 3, L0.1 + 16 + 3, L0.1 + 17 + 3, L0.1 + 18 + 3, 0, 0, 0, 0, 2, 2, 2, 2, 2, 2, 2, 0, 0]), (1, 7, []), (1, 10, []), (1, 10, []), (1, 10, []), (1, 8, []), (1, 100, []), (1, 10, []), (1, 10, []), (2, 110, []), (2, 110, []), (2, 10, []), (1, 11, []), (1, 11, []), (1, 456, []), (1, 96, []), (1, 33, []), (1, 33, []), (1, 297, [])]) rfl ?_
  refine x_aload_n (pc := 150) C 0 dX7_init_150 rfl ?_
  refine x_sipush (pc := 151) C (v := (256 : Int32)) dX7_init_151 rfl ?_
  refine x_newI (pc := 154) C (N := 256) ⟨by decide, rfl, by decide⟩ ⟨Nat.le_of_ble_eq_true rfl, Nat.le_of_ble_eq_true rfl⟩ (hz 19 (by decide) (by decide)).1 dX7_init_154 ?_
  refine x_putf (pc := 156) C (i := 0) (k := 32) (ty := (.array .int)) rfl rfl ⟨Nat.le_of_ble_eq_true rfl, Nat.le_of_ble_eq_true rfl⟩ rfl wd_760 ⟨rfl, rfl⟩ dX7_init_156 (by decide +kernel) (fun q => ⟨rfl, rfl⟩) ?_
  refine x_ly (ly' := [(0, 6, [L0.1 + 1 + 3, L0.1 + 2 + 3, L0.1 + 3 + 3, L0.1 + 4 + 3, L0.1 + 5 + 3, L0.1 + 6 + 3, L0.1 + 7 + 3, 0, 0, 0, 0, L0.1 + 8 + 3, 0, L0.1 + 9 + 3, L0.1 + 10 + 3, L0.1 + 11 + 3, L0.1 + 12 + 3, L0.1 + 13 + 3, 0, 0, L0.1 + 14 + 3, 0, 0, 0, L0.1 + 15 + 3, L0.1 + 16 + 3, L0.1 + 17 + 3, L0.1 + 18 + 3, 0, 0, 0, 0, L0.1 + 19 + 3, 2, 2, 2, 2, 2, 2, 0, 0]), (1, 7, []), (1, 10, []), (1, 10, []), (1, 10, []), (1, 8, []), (1, 100, []), (1, 10, []), (1, 10, []), (2, 110, []), (2, 110, []), (2, 10, []), (1, 11, []), (1, 11, []), (1, 456, []), (1, 96, []), (1, 33, []), (1, 33, []), (1, 297, []), (1, 256, [])]) rfl ?_
  refine x_aload_n (pc := 159) C 0 dX7_init_159 rfl ?_
  refine x_iconst (pc := 160) C (v := (3 : Int32)) dX7_init_160 rfl ?_
  refine x_newI (pc := 161) C (N := 3) ⟨by decide, rfl, by decide⟩ ⟨Nat.le_of_ble_eq_true rfl, Nat.le_of_ble_eq_true rfl⟩ (hz 20 (by decide) (by decide)).1 dX7_init_161 ?_
  refine x_putf (pc := 163) C (i := 0) (k := 33) (ty := (.array .int)) rfl rfl ⟨Nat.le_of_ble_eq_true rfl, Nat.le_of_ble_eq_true rfl⟩ rfl wd_761 ⟨rfl, rfl⟩ dX7_init_163 (by decide +kernel) (fun q => ⟨rfl, rfl⟩) ?_
  refine x_ly (ly' := [(0, 6, [L0.1 + 1 + 3, L0.1 + 2 + 3, L0.1 + 3 + 3, L0.1 + 4 + 3, L0.1 + 5 + 3, L0.1 + 6 + 3, L0.1 + 7 + 3, 0, 0, 0, 0, L0.1 + 8 + 3, 0, L0.1 + 9 + 3, L0.1 + 10 + 3, L0.1 + 11 + 3, L0.1 + 12 + 3, L0.1 + 13 + 3, 0, 0, L0.1 + 14 + 3, 0, 0, 0, L0.1 + 15 + 3, L0.1 + 16 + 3, L0.1 + 17 + 3, L0.1 + 18 + 3, 0, 0, 0, 0, L0.1 + 19 + 3, L0.1 + 20 + 3, 2, 2, 2, 2, 2, 0, 0]), (1, 7, []), (1, 10, []), (1, 10, []), (1, 10, []), (1, 8, []), (1, 100, []), (1, 10, []), (1, 10, []), (2, 110, []), (2, 110, []), (2, 10, []), (1, 11, []), (1, 11, []), (1, 456, []), (1, 96, []), (1, 33, []), (1, 33, []), (1, 297, []), (1, 256, []), (1, 3, [])]) rfl ?_
  refine x_aload_n (pc := 166) C 0 dX7_init_166 rfl ?_
  refine x_bipush (pc := 167) C (v := (10 : Int32)) dX7_init_167 rfl ?_
  refine x_newI (pc := 169) C (N := 10) ⟨by decide, rfl, by decide⟩ ⟨Nat.le_of_ble_eq_true rfl, Nat.le_of_ble_eq_true rfl⟩ (hz 21 (by decide) (by decide)).1 dX7_init_169 ?_
  refine x_putf (pc := 171) C (i := 0) (k := 34) (ty := (.array .int)) rfl rfl ⟨Nat.le_of_ble_eq_true rfl, Nat.le_of_ble_eq_true rfl⟩ rfl wd_762 ⟨rfl, rfl⟩ dX7_init_171 (by decide +kernel) (fun q => ⟨rfl, rfl⟩) ?_
  refine x_ly (ly' := [(0, 6, [L0.1 + 1 + 3, L0.1 + 2 + 3, L0.1 + 3 + 3, L0.1 + 4 + 3, L0.1 + 5 + 3, L0.1 + 6 + 3, L0.1 + 7 + 3, 0, 0, 0, 0, L0.1 + 8 + 3, 0, L0.1 + 9 + 3, L0.1 + 10 + 3, L0.1 + 11 + 3, L0.1 + 12 + 3, L0.1 + 13 + 3, 0, 0, L0.1 + 14 + 3, 0, 0, 0, L0.1 + 15 + 3, L0.1 + 16 + 3, L0.1 + 17 + 3, L0.1 + 18 + 3, 0, 0, 0, 0, L0.1 + 19 + 3, L0.1 + 20 + 3, L0.1 + 21 + 3, 2, 2, 2, 2, 0, 0]), (1, 7, []), (1, 10, []), (1, 10, []), (1, 10, []), (1, 8, []), (1, 100, []), (1, 10, []), (1, 10, []), (2, 110, []), (2, 110, []), (2, 10, []), (1, 11, []), (1, 11, []), (1, 456, []), (1, 96, []), (1, 33, []), (1, 33, []), (1, 297, []), (1, 256, []), (1, 3, []), (1, 10, [])]) rfl ?_
  refine x_aload_n (pc := 174) C 0 dX7_init_174 rfl ?_
  refine x_bipush (pc := 175) C (v := (10 : Int32)) dX7_init_175 rfl ?_
  refine x_newI (pc := 177) C (N := 10) ⟨by decide, rfl, by decide⟩ ⟨Nat.le_of_ble_eq_true rfl, Nat.le_of_ble_eq_true rfl⟩ (hz 22 (by decide) (by decide)).1 dX7_init_177 ?_
  refine x_putf (pc := 179) C (i := 0) (k := 35) (ty := (.array .int)) rfl rfl ⟨Nat.le_of_ble_eq_true rfl, Nat.le_of_ble_eq_true rfl⟩ rfl wd_763 ⟨rfl, rfl⟩ dX7_init_179 (by decide +kernel) (fun q => ⟨rfl, rfl⟩) ?_
  refine x_ly (ly' := [(0, 6, [L0.1 + 1 + 3, L0.1 + 2 + 3, L0.1 + 3 + 3, L0.1 + 4 + 3, L0.1 + 5 + 3, L0.1 + 6 + 3, L0.1 + 7 + 3, 0, 0, 0, 0, L0.1 + 8 + 3, 0, L0.1 + 9 + 3, L0.1 + 10 + 3, L0.1 + 11 + 3, L0.1 + 12 + 3, L0.1 + 13 + 3, 0, 0, L0.1 + 14 + 3, 0, 0, 0, L0.1 + 15 + 3, L0.1 + 16 + 3, L0.1 + 17 + 3, L0.1 + 18 + 3, 0, 0, 0, 0, L0.1 + 19 + 3, L0.1 + 20 + 3, L0.1 + 21 + 3, L0.1 + 22 + 3, 2, 2, 2, 0, 0]), (1, 7, []), (1, 10, []), (1, 10, []), (1, 10, []), (1, 8, []), (1, 100, []), (1, 10, []), (1, 10, []), (2, 110, []), (2, 110, []), (2, 10, []), (1, 11, []), (1, 11, []), (1, 456, []), (1, 96, []), (1, 33, []), (1, 33, []), (1, 297, []), (1, 256, []), (1, 3, []), (1, 10, []), (1, 10, [])]) rfl ?_
  refine x_aload_n (pc := 182) C 0 dX7_init_182 rfl ?_
  refine x_iconst (pc := 183) C (v := (3 : Int32)) dX7_init_183 rfl ?_
  refine x_newI (pc := 184) C (N := 3) ⟨by decide, rfl, by decide⟩ ⟨Nat.le_of_ble_eq_true rfl, Nat.le_of_ble_eq_true rfl⟩ (hz 23 (by decide) (by decide)).1 dX7_init_184 ?_
  refine x_putf (pc := 186) C (i := 0) (k := 36) (ty := (.array .int)) rfl rfl ⟨Nat.le_of_ble_eq_true rfl, Nat.le_of_ble_eq_true rfl⟩ rfl wd_764 ⟨rfl, rfl⟩ dX7_init_186 (by decide +kernel) (fun q => ⟨rfl, rfl⟩) ?_
  refine x_ly (ly' := [(0, 6, [L0.1 + 1 + 3, L0.1 + 2 + 3, L0.1 + 3 + 3, L0.1 + 4 + 3, L0.1 + 5 + 3, L0.1 + 6 + 3, L0.1 + 7 + 3, 0, 0, 0, 0, L0.1 + 8 + 3, 0, L0.1 + 9 + 3, L0.1 + 10 + 3, L0.1 + 11 + 3, L0.1 + 12 + 3, L0.1 + 13 + 3, 0, 0, L0.1 + 14 + 3, 0, 0, 0, L0.1 + 15 + 3, L0.1 + 16 + 3, L0.1 + 17 + 3, L0.1 + 18 + 3, 0, 0, 0, 0, L0.1 + 19 + 3, L0.1 + 20 + 3, L0.1 + 21 + 3, L0.1 + 22 + 3, L0.1 + 23 + 3, 2, 2, 0, 0]), (1, 7, []), (1, 10, []), (1, 10, []), (1, 10, []), (1, 8, []), (1, 100, []), (1, 10, []), (1, 10, []), (2, 110, []), (2, 110, []), (2, 10, []), (1, 11, []), (1, 11, []), (1, 456, []), (1, 96, []), (1, 33, []), (1, 33, []), (1, 297, []), (1, 256, []), (1, 3, []), (1, 10, []), (1, 10, []), (1, 3, [])]) rfl ?_
  refine x_aload_n (pc := 189) C 0 dX7_init_189 rfl ?_
  refine x_bipush (pc := 190) C (v := (8 : Int32)) dX7_init_190 rfl ?_
  refine x_newI (pc := 192) C (N := 8) ⟨by decide, rfl, by decide⟩ ⟨Nat.le_of_ble_eq_true rfl, Nat.le_of_ble_eq_true rfl⟩ (hz 24 (by decide) (by decide)).1 dX7_init_192 ?_
  refine x_putf (pc := 194) C (i := 0) (k := 37) (ty := (.array .int)) rfl rfl ⟨Nat.le_of_ble_eq_true rfl, Nat.le_of_ble_eq_true rfl⟩ rfl wd_765 ⟨rfl, rfl⟩ dX7_init_194 (by decide +kernel) (fun q => ⟨rfl, rfl⟩) ?_
  refine x_ly (ly' := [(0, 6, [L0.1 + 1 + 3, L0.1 + 2 + 3, L0.1 + 3 + 3, L0.1 + 4 + 3, L0.1 + 5 + 3, L0.1 + 6 + 3, L0.1 + 7 + 3, 0, 0, 0, 0, L0.1 + 8 + 3, 0, L0.1 + 9 + 3, L0.1 + 10 + 3, L0.1 + 11 + 3, L0.1 + 12 + 3, L0.1 + 13 + 3, 0, 0, L0.1 + 14 + 3, 0, 0, 0, L0.1 + 15 + 3, L0.1 + 16 + 3, L0.1 + 17 + 3, L0.1 + 18 + 3, 0, 0, 0, 0, L0.1 + 19 + 3, L0.1 + 20 + 3, L0.1 + 21 + 3, L0.1 + 22 + 3, L0.1 + 23 + 3, L0.1 + 24 + 3, 2, 0, 0]), (1, 7, []), (1, 10, []), (1, 10, []), (1, 10, []), (1, 8, []), (1, 100, []), (1, 10, []), (1, 10, []), (2, 110, []), (2, 110, []), (2, 10, []), (1, 11, []), (1, 11, []), (1, 456, []), (1, 96, []), (1, 33, []), (1, 33, []), (1, 297, []), (1, 256, []), (1, 3, []), (1, 10, []), (1, 10, []), (1, 3, []), (1, 8, [])]) rfl ?_
  refine x_aload_n (pc := 197) C 0 dX7_init_197 rfl ?_
  refine x_bipush (pc := 198) C (v := (32 : Int32)) dX7_init_198 rfl ?_
  refine x_newI (pc := 200) C (N := 32) ⟨by decide, rfl, by decide⟩ ⟨Nat.le_of_ble_eq_true rfl, Nat.le_of_ble_eq_true rfl⟩ (hz 25 (by decide) (by decide)).1 dX7_init_200 ?_
  refine x_putf (pc := 202) C (i := 0) (k := 38) (ty := (.array .int)) rfl rfl ⟨Nat.le_of_ble_eq_true rfl, Nat.le_of_ble_eq_true rfl⟩ rfl wd_766 ⟨rfl, rfl⟩ dX7_init_202 (by decide +kernel) (fun q => ⟨rfl, rfl⟩) ?_
  refine x_ly (ly' := [(0, 6, [L0.1 + 1 + 3, L0.1 + 2 + 3, L0.1 + 3 + 3, L0.1 + 4 + 3, L0.1 + 5 + 3, L0.1 + 6 + 3, L0.1 + 7 + 3, 0, 0, 0, 0, L0.1 + 8 + 3, 0, L0.1 + 9 + 3, L0.1 + 10 + 3, L0.1 + 11 + 3, L0.1 + 12 + 3, L0.1 + 13 + 3, 0, 0, L0.1 + 14 + 3, 0, 0, 0, L0.1 + 15 + 3, L0.1 + 16 + 3, L0.1 + 17 + 3, L0.1 + 18 + 3, 0, 0, 0, 0, L0.1 + 19 + 3, L0.1 + 20 + 3, L0.1 + 21 + 3, L0.1 + 22 + 3, L0.1 + 23 + 3, L0.1 + 24 + 3, L0.1 + 25 + 3, 0, 0]), (1, 7, []), (1, 10, []), (1, 10, []), (1, 10, []), (1, 8, []), (1, 100, []), (1, 10, []), (1, 10, []), (2, 110, []), (2, 110, []), (2, 10, []), (1, 11, []), (1, 11, []), (1, 456, []), (1, 96, []), (1, 33, []), (1, 33, []), (1, 297, []), (1, 256, []), (1, 3, []), (1, 10, []), (1, 10, []), (1, 3, []), (1, 8, []), (1, 32, [])]) rfl ?_
  refine x_iconst (pc := 205) C (v := (0 : Int32)) dX7_init_205 rfl ?_
  refine x_istore_n (pc := 206) C 1 [(1, .int 0), (0, .ref (b + (L0.1 + 0)))] dX7_init_206 rfl (Nat.le_of_ble_eq_true rfl) rfl rfl ?_
  refine x_ly (ly' := ml L0.1) rfl ?_
  refine x_fillA (B := 8) (pcE := 226) (pc0 := 207) C (o := L0.1 + 0) (oa := L0.1 + 5) (na := 8) (kf := 4) (lay_at (i := 0)) (lay_at (i := 5)) ⟨Nat.le_of_ble_eq_true rfl, Nat.le_of_ble_eq_true rfl⟩ rfl rfl wd_732 ⟨Nat.le_of_ble_eq_true rfl, Nat.le_of_ble_eq_true rfl⟩ rfl dX7_init_207 dX7_init_208 rfl dX7_init_210 rfl dX7_init_213 dX7_init_214 dX7_init_217 dX7_init_218 dX7_init_219 dX7_init_220 dX7_init_223 rfl ?_
  refine x_iconst (pc := 226) C (v := (0 : Int32)) dX7_init_226 rfl ?_
  refine x_istore_n (pc := 227) C 1 [(1, .int 0), (0, .ref (b + (L0.1 + 0)))] dX7_init_227 rfl (Nat.le_of_ble_eq_true rfl) rfl rfl ?_
  refine x_fillB (B := 10) (pcE := 248) (pc0 := 228) C (o := L0.1 + 0) (oa := L0.1 + 4) (na := 10) (kf := 3) (lay_at (i := 0)) (lay_at (i := 4)) ⟨Nat.le_of_ble_eq_true rfl, Nat.le_of_ble_eq_true rfl⟩ rfl rfl wd_731 ⟨Nat.le_of_ble_eq_true rfl, Nat.le_of_ble_eq_true rfl⟩ rfl dX7_init_228 dX7_init_229 rfl dX7_init_231 rfl dX7_init_234 dX7_init_235 dX7_init_238 dX7_init_239 dX7_init_241 dX7_init_242 dX7_init_245 rfl ?_
  refine x_aload_n (pc := 248) C 1 dX7_init_248 rfl ?_
  refine x_bipush (pc := 249) C (v := (8 : Int32)) dX7_init_249 rfl ?_
  refine x_puti (pc := 251) C (k := 7) (S' := (setI (lpI (L0.1 + 4) (fun _ => 99) 10 (lpI (L0.1 + 5) nI 8 S)) L0.1 7 (8 : Int32))) (lay_at (i := 0)) rfl rfl wd_735 dX7_init_251 ⟨Nat.le_of_ble_eq_true rfl, rfl⟩ rfl ?_
  refine x_aload_n (pc := 254) C 1 dX7_init_254 rfl ?_
  refine x_iconst (pc := 255) C (v := (4 : Int32)) dX7_init_255 rfl ?_
  refine x_puti (pc := 256) C (k := 10) (S' := (setI (setI (lpI (L0.1 + 4) (fun _ => 99) 10 (lpI (L0.1 + 5) nI 8 S)) L0.1 7 (8 : Int32)) L0.1 10 (4 : Int32))) (lay_at (i := 0)) rfl rfl wd_738 dX7_init_256 ⟨Nat.le_of_ble_eq_true rfl, rfl⟩ rfl ?_
  exact x_vreturn (pc := 259) C dX7_init_259 rfl
