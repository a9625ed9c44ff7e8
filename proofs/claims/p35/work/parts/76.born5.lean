theorem wS_o {o o' : Nat} {S : Sg} (h : o' < o ∨ o + 43 ≤ o') : (wS o S).1 o' = S.1 o' ∧ (wS o S).2 o' = S.2 o' := by
  obtain ⟨a1, a2⟩ := lpI_o (o := o + 4) (o' := o') (f := fun _ => 99) (n := 10) (S := lpI (o + 1) nI 8 (spS (o + 29) (spS (o + 17) (setI (setI S o 4 8) o 6 4)))) (by omega)
  obtain ⟨b1, b2⟩ := lpI_o (o := o + 1) (o' := o') (f := nI) (n := 8) (S := spS (o + 29) (spS (o + 17) (setI (setI S o 4 8) o 6 4))) (by omega)
  obtain ⟨c1, c2⟩ := spS_o (o := o + 29) (o' := o') (S := spS (o + 17) (setI (setI S o 4 8) o 6 4)) (by omega)
  obtain ⟨d1, d2⟩ := spS_o (o := o + 17) (o' := o') (S := setI (setI S o 4 8) o 6 4) (by omega)
  obtain ⟨e1, e2⟩ := setI_o (o := o) (o' := o') (k := 6) (v := 4) (S := setI S o 4 8) (by omega)
  obtain ⟨f1, f2⟩ := setI_o (o := o) (o' := o') (k := 4) (v := 8) (S := S) (by omega)
  exact ⟨((((a1.trans b1).trans c1).trans d1).trans e1).trans f1, ((((a2.trans b2).trans c2).trans d2).trans e2).trans f2⟩
def gl (o : Nat) : List Sh := (0, 5, [o + 1 + 3, o + 44 + 3, o + 87 + 3, 0, o + 130 + 3, o + 132 + 3, o + 135 + 3, o + 137 + 3, o + 139 + 3]) :: (((((((wl (o + 1) ++ wl (o + 44)) ++ wl (o + 87)) ++ [(0, 2, [o + 131 + 3]), (1, 8, [])]) ++ [(0, 0, [o + 133 + 3, o + 134 + 3, 0]), (1, 10, []), (1, 10, [])]) ++ [(0, 1, [0, o + 136 + 3]), (1, 96, [])]) ++ [(0, 1, [0, o + 138 + 3]), (1, 32, [])]) ++ [(1, 6, [])])
def gS (o : Nat) (S : Sg) : Sg := wS (o + 87) (wS (o + 44) (wS (o + 1) S))
set_option maxRecDepth 100000 in
set_option maxHeartbeats 4000000 in
theorem c_X6_init {l : Launch} {G : zz_G} {L0 : Ly} {b : Nat} (S : Sg) (hz : ∀ i, 0 < i → i ≤ 139 → S.1 (L0.1 + i) = zr ∧ S.2 (L0.1 + i) = zrJ) : Met l yX6_init (Cond.code yX6_init cX6_init 1 none :: zz_all) { frames := 3, cells := 139, slots := 1424, locals := 90 } (PN G (lay0 L0 [(0, 5, [2, 2, 2, 0, 2, 2, 2, 2, 2])]) b S [.ref (b + (L0.1 + 0))]) (QC G (lay0 L0 (gl L0.1)) b (gS L0.1 S) none True) 139 1424 (fun q => b ≤ q) := by
  refine x_metN [.ref (b + (L0.1 + 0))] (by decide +kernel) (Nat.le_of_ble_eq_true rfl) fun p e s m args below meth c C hA => ?_
  have z1 : ∀ i, 44 ≤ i → i ≤ 139 → (wS (L0.1 + 1) S).1 (L0.1 + i) = zr ∧ (wS (L0.1 + 1) S).2 (L0.1 + i) = zrJ := fun i h1 h2 => by
    obtain ⟨a1, a2⟩ := hz i (by omega) h2
    obtain ⟨b1, b2⟩ := wS_o (S := S) (o := L0.1 + 1) (o' := L0.1 + i) (by omega)
    exact ⟨b1.trans a1, b2.trans a2⟩
  have z2 : ∀ i, 87 ≤ i → i ≤ 139 → (wS (L0.1 + 44) (wS (L0.1 + 1) S)).1 (L0.1 + i) = zr ∧ (wS (L0.1 + 44) (wS (L0.1 + 1) S)).2 (L0.1 + i) = zrJ := fun i h1 h2 => by
    obtain ⟨a1, a2⟩ := z1 i (by omega) h2
    obtain ⟨b1, b2⟩ := wS_o (S := (wS (L0.1 + 1) S)) (o := L0.1 + 44) (o' := L0.1 + i) (by omega)
    exact ⟨b1.trans a1, b2.trans a2⟩
  have z3 : ∀ i, 130 ≤ i → i ≤ 139 → (wS (L0.1 + 87) (wS (L0.1 + 44) (wS (L0.1 + 1) S))).1 (L0.1 + i) = zr ∧ (wS (L0.1 + 87) (wS (L0.1 + 44) (wS (L0.1 + 1) S))).2 (L0.1 + i) = zrJ := fun i h1 h2 => by
    obtain ⟨a1, a2⟩ := z2 i (by omega) h2
    obtain ⟨b1, b2⟩ := wS_o (S := (wS (L0.1 + 44) (wS (L0.1 + 1) S))) (o := L0.1 + 87) (o' := L0.1 + i) (by omega)
    exact ⟨b1.trans a1, b2.trans a2⟩
  refine x_aload_n (pc := 0) C 0 dX6_init_0 rfl ?_
  refine x_objI (pc := 1) C wd_27 ⟨Nat.le_of_ble_eq_true rfl, Nat.le_of_ble_eq_true rfl⟩ dX6_init_1 ?_
  refine x_aload_n (pc := 4) C 0 dX6_init_4 rfl ?_
  refine x_new (pc := 5) C (ci := 4) [2, 2, 2, 2, 0, 0, 0, 2, 2, 0, 2, 2, 2, 2] rfl ⟨wd_30, wd_31, wd_14⟩ (by decide +kernel) ⟨Nat.le_of_ble_eq_true rfl, Nat.le_of_ble_eq_true rfl⟩ (hz 1 (by decide) (by decide)) dX6_init_5 ?_
  refine x_dup (pc := 8) C dX6_init_8 rfl ?_
  refine x_L lay_lay.symm ?_
  refine x_callI (pc := 9) C hA (S' := (wS (L0.1 + 1) S)) (o := (lay0 L0 [(0, 5, [2, 2, 2, 0, 2, 2, 2, 2, 2])]).1 + 0) [] _ (c_X5_init _ (fun i h1 h2 => by rw [show (lay0 L0 [(0, 5, [2, 2, 2, 0, 2, 2, 2, 2, 2])]).1 + i = L0.1 + (1 + i) from Nat.add_assoc L0.1 1 i]; exact hz (1 + i) (by omega) (by omega))) cw_X6_9 ⟨rfl, wd_33⟩ ⟨rfl, rfl, Nat.le_of_ble_eq_true rfl, Nat.le_of_ble_eq_true rfl⟩ ⟨Nat.le_of_ble_eq_true rfl, Nat.le_of_ble_eq_true rfl⟩ rfl ⟨rfl, Nat.le_of_ble_eq_true rfl⟩ dX6_init_9 ?_
  refine x_L lay_lay ?_
  refine x_ly (ly' := ((0, 5, [2, 2, 2, 0, 2, 2, 2, 2, 2]) :: wl (L0.1 + 1))) rfl ?_
  refine x_putf (pc := 12) C (i := 0) (r := L0.1 + 1) (k := 0) (ty := (.object "GuardOfSums$World")) rfl rfl ⟨Nat.le_of_ble_eq_true rfl, Nat.le_of_ble_eq_true rfl⟩ rfl wd_149 ⟨rfl, rfl⟩ dX6_init_12 (by decide +kernel) (fun q => ⟨rfl, rfl⟩) ?_
  refine x_ly (ly' := ((0, 5, [L0.1 + 1 + 3, 2, 2, 0, 2, 2, 2, 2, 2]) :: wl (L0.1 + 1))) rfl ?_
  refine x_aload_n (pc := 15) C 0 dX6_init_15 rfl ?_
  refine x_new (pc := 16) C (ci := 4) [2, 2, 2, 2, 0, 0, 0, 2, 2, 0, 2, 2, 2, 2] rfl ⟨wd_30, wd_31, wd_14⟩ (by decide +kernel) ⟨Nat.le_of_ble_eq_true rfl, Nat.le_of_ble_eq_true rfl⟩ (z1 44 (by decide) (by decide)) dX6_init_16 ?_
  refine x_dup (pc := 19) C dX6_init_19 rfl ?_
  refine x_L lay_lay.symm ?_
  refine x_callI (pc := 20) C hA (S' := (wS (L0.1 + 44) (wS (L0.1 + 1) S))) (o := (lay0 L0 ((0, 5, [L0.1 + 1 + 3, 2, 2, 0, 2, 2, 2, 2, 2]) :: wl (L0.1 + 1))).1 + 0) [] _ (c_X5_init _ (fun i h1 h2 => by rw [show (lay0 L0 ((0, 5, [L0.1 + 1 + 3, 2, 2, 0, 2, 2, 2, 2, 2]) :: wl (L0.1 + 1))).1 + i = L0.1 + (44 + i) from Nat.add_assoc L0.1 44 i]; exact z1 (44 + i) (by omega) (by omega))) cw_X6_9 ⟨rfl, wd_33⟩ ⟨rfl, rfl, Nat.le_of_ble_eq_true rfl, Nat.le_of_ble_eq_true rfl⟩ ⟨Nat.le_of_ble_eq_true rfl, Nat.le_of_ble_eq_true rfl⟩ rfl ⟨rfl, Nat.le_of_ble_eq_true rfl⟩ dX6_init_20 ?_
  refine x_L lay_lay ?_
  refine x_ly (ly' := ((0, 5, [L0.1 + 1 + 3, 2, 2, 0, 2, 2, 2, 2, 2]) :: (wl (L0.1 + 1) ++ wl (L0.1 + 44)))) rfl ?_
  refine x_putf (pc := 23) C (i := 0) (r := L0.1 + 44) (k := 1) (ty := (.object "GuardOfSums$World")) rfl rfl ⟨Nat.le_of_ble_eq_true rfl, Nat.le_of_ble_eq_true rfl⟩ rfl wd_150 ⟨rfl, rfl⟩ dX6_init_23 (by decide +kernel) (fun q => ⟨rfl, rfl⟩) ?_
  refine x_ly (ly' := ((0, 5, [L0.1 + 1 + 3, L0.1 + 44 + 3, 2, 0, 2, 2, 2, 2, 2]) :: (wl (L0.1 + 1) ++ wl (L0.1 + 44)))) rfl ?_
  refine x_aload_n (pc := 26) C 0 dX6_init_26 rfl ?_
  refine x_new (pc := 27) C (ci := 4) [2, 2, 2, 2, 0, 0, 0, 2, 2, 0, 2, 2, 2, 2] rfl ⟨wd_30, wd_31, wd_14⟩ (by decide +kernel) ⟨Nat.le_of_ble_eq_true rfl, Nat.le_of_ble_eq_true rfl⟩ (z2 87 (by decide) (by decide)) dX6_init_27 ?_
  refine x_dup (pc := 30) C dX6_init_30 rfl ?_
  refine x_L lay_lay.symm ?_
  refine x_callI (pc := 31) C hA (S' := (wS (L0.1 + 87) (wS (L0.1 + 44) (wS (L0.1 + 1) S)))) (o := (lay0 L0 ((0, 5, [L0.1 + 1 + 3, L0.1 + 44 + 3, 2, 0, 2, 2, 2, 2, 2]) :: (wl (L0.1 + 1) ++ wl (L0.1 + 44)))).1 + 0) [] _ (c_X5_init _ (fun i h1 h2 => by rw [show (lay0 L0 ((0, 5, [L0.1 + 1 + 3, L0.1 + 44 + 3, 2, 0, 2, 2, 2, 2, 2]) :: (wl (L0.1 + 1) ++ wl (L0.1 + 44)))).1 + i = L0.1 + (87 + i) from Nat.add_assoc L0.1 87 i]; exact z2 (87 + i) (by omega) (by omega))) cw_X6_9 ⟨rfl, wd_33⟩ ⟨rfl, rfl, Nat.le_of_ble_eq_true rfl, Nat.le_of_ble_eq_true rfl⟩ ⟨Nat.le_of_ble_eq_true rfl, Nat.le_of_ble_eq_true rfl⟩ rfl ⟨rfl, Nat.le_of_ble_eq_true rfl⟩ dX6_init_31 ?_
  refine x_L lay_lay ?_
  refine x_ly (ly' := ((0, 5, [L0.1 + 1 + 3, L0.1 + 44 + 3, 2, 0, 2, 2, 2, 2, 2]) :: ((wl (L0.1 + 1) ++ wl (L0.1 + 44)) ++ wl (L0.1 + 87)))) rfl ?_
  refine x_putf (pc := 34) C (i := 0) (r := L0.1 + 87) (k := 2) (ty := (.object "GuardOfSums$World")) rfl rfl ⟨Nat.le_of_ble_eq_true rfl, Nat.le_of_ble_eq_true rfl⟩ rfl wd_151 ⟨rfl, rfl⟩ dX6_init_34 (by decide +kernel) (fun q => ⟨rfl, rfl⟩) ?_
  refine x_ly (ly' := ((0, 5, [L0.1 + 1 + 3, L0.1 + 44 + 3, L0.1 + 87 + 3, 0, 2, 2, 2, 2, 2]) :: ((wl (L0.1 + 1) ++ wl (L0.1 + 44)) ++ wl (L0.1 + 87)))) rfl ?_
  refine x_aload_n (pc := 37) C 0 dX6_init_37 rfl ?_
  refine x_new (pc := 38) C (ci := 2) [2] rfl ⟨wd_109, wd_110, wd_16⟩ (by decide +kernel) ⟨Nat.le_of_ble_eq_true rfl, Nat.le_of_ble_eq_true rfl⟩ (z3 130 (by decide) (by decide)) dX6_init_38 ?_
  refine x_dup (pc := 41) C dX6_init_41 rfl ?_
  refine x_L lay_lay.symm ?_
  refine x_callIN (pc := 42) C hA (S' := (wS (L0.1 + 87) (wS (L0.1 + 44) (wS (L0.1 + 1) S)))) (o := (lay0 L0 ((0, 5, [L0.1 + 1 + 3, L0.1 + 44 + 3, L0.1 + 87 + 3, 0, 2, 2, 2, 2, 2]) :: ((wl (L0.1 + 1) ++ wl (L0.1 + 44)) ++ wl (L0.1 + 87)))).1 + 0) [] _ (c_X2_init _ (fun i h1 h2 => by rw [show (lay0 L0 ((0, 5, [L0.1 + 1 + 3, L0.1 + 44 + 3, L0.1 + 87 + 3, 0, 2, 2, 2, 2, 2]) :: ((wl (L0.1 + 1) ++ wl (L0.1 + 44)) ++ wl (L0.1 + 87)))).1 + i = L0.1 + (130 + i) from Nat.add_assoc L0.1 130 i]; exact z3 (130 + i) (by omega) (by omega))) cn_X6_24 ⟨rfl, wd_112⟩ ⟨rfl, rfl, Nat.le_of_ble_eq_true rfl, Nat.le_of_ble_eq_true rfl⟩ ⟨Nat.le_of_ble_eq_true rfl, Nat.le_of_ble_eq_true rfl⟩ rfl ⟨rfl, Nat.le_of_ble_eq_true rfl⟩ dX6_init_42 ?_
  refine x_L lay_lay ?_
  refine x_ly (ly' := ((0, 5, [L0.1 + 1 + 3, L0.1 + 44 + 3, L0.1 + 87 + 3, 0, 2, 2, 2, 2, 2]) :: (((wl (L0.1 + 1) ++ wl (L0.1 + 44)) ++ wl (L0.1 + 87)) ++ [(0, 2, [L0.1 + 131 + 3]), (1, 8, [])]))) rfl ?_
  refine x_putf (pc := 45) C (i := 0) (r := L0.1 + 130) (k := 4) (ty := (.object "GuardOfSums$Question")) rfl rfl ⟨Nat.le_of_ble_eq_true rfl, Nat.le_of_ble_eq_true rfl⟩ rfl wd_153 ⟨rfl, rfl⟩ dX6_init_45 (by decide +kernel) (fun q => ⟨rfl, rfl⟩) ?_
  refine x_ly (ly' := ((0, 5, [L0.1 + 1 + 3, L0.1 + 44 + 3, L0.1 + 87 + 3, 0, L0.1 + 130 + 3, 2, 2, 2, 2]) :: (((wl (L0.1 + 1) ++ wl (L0.1 + 44)) ++ wl (L0.1 + 87)) ++ [(0, 2, [L0.1 + 131 + 3]), (1, 8, [])]))) rfl ?_
  refine x_aload_n (pc := 48) C 0 dX6_init_48 rfl ?_
  refine x_new (pc := 49) C (ci := 0) [2, 2, 0] rfl ⟨wd_120, wd_121, wd_17⟩ (by decide +kernel) ⟨Nat.le_of_ble_eq_true rfl, Nat.le_of_ble_eq_true rfl⟩ (z3 132 (by decide) (by decide)) dX6_init_49 ?_
  refine x_dup (pc := 52) C dX6_init_52 rfl ?_
  refine x_L lay_lay.symm ?_
  refine x_callIN (pc := 53) C hA (S' := (wS (L0.1 + 87) (wS (L0.1 + 44) (wS (L0.1 + 1) S)))) (o := (lay0 L0 ((0, 5, [L0.1 + 1 + 3, L0.1 + 44 + 3, L0.1 + 87 + 3, 0, L0.1 + 130 + 3, 2, 2, 2, 2]) :: (((wl (L0.1 + 1) ++ wl (L0.1 + 44)) ++ wl (L0.1 + 87)) ++ [(0, 2, [L0.1 + 131 + 3]), (1, 8, [])]))).1 + 0) [] _ (c_X0_init _ (fun i h1 h2 => by rw [show (lay0 L0 ((0, 5, [L0.1 + 1 + 3, L0.1 + 44 + 3, L0.1 + 87 + 3, 0, L0.1 + 130 + 3, 2, 2, 2, 2]) :: (((wl (L0.1 + 1) ++ wl (L0.1 + 44)) ++ wl (L0.1 + 87)) ++ [(0, 2, [L0.1 + 131 + 3]), (1, 8, [])]))).1 + i = L0.1 + (132 + i) from Nat.add_assoc L0.1 132 i]; exact z3 (132 + i) (by omega) (by omega))) cn_X6_31 ⟨rfl, wd_123⟩ ⟨rfl, rfl, Nat.le_of_ble_eq_true rfl, Nat.le_of_ble_eq_true rfl⟩ ⟨Nat.le_of_ble_eq_true rfl, Nat.le_of_ble_eq_true rfl⟩ rfl ⟨rfl, Nat.le_of_ble_eq_true rfl⟩ dX6_init_53 ?_
  refine x_L lay_lay ?_
  refine x_ly (ly' := ((0, 5, [L0.1 + 1 + 3, L0.1 + 44 + 3, L0.1 + 87 + 3, 0, L0.1 + 130 + 3, 2, 2, 2, 2]) :: ((((wl (L0.1 + 1) ++ wl (L0.1 + 44)) ++ wl (L0.1 + 87)) ++ [(0, 2, [L0.1 + 131 + 3]), (1, 8, [])]) ++ [(0, 0, [L0.1 + 133 + 3, L0.1 + 134 + 3, 0]), (1, 10, []), (1, 10, [])]))) rfl ?_
  refine x_putf (pc := 56) C (i := 0) (r := L0.1 + 132) (k := 5) (ty := (.object "GuardOfSums$Narrowing")) rfl rfl ⟨Nat.le_of_ble_eq_true rfl, Nat.le_of_ble_eq_true rfl⟩ rfl wd_154 ⟨rfl, rfl⟩ dX6_init_56 (by decide +kernel) (fun q => ⟨rfl, rfl⟩) ?_
  refine x_ly (ly' := ((0, 5, [L0.1 + 1 + 3, L0.1 + 44 + 3, L0.1 + 87 + 3, 0, L0.1 + 130 + 3, L0.1 + 132 + 3, 2, 2, 2]) :: ((((wl (L0.1 + 1) ++ wl (L0.1 + 44)) ++ wl (L0.1 + 87)) ++ [(0, 2, [L0.1 + 131 + 3]), (1, 8, [])]) ++ [(0, 0, [L0.1 + 133 + 3, L0.1 + 134 + 3, 0]), (1, 10, []), (1, 10, [])]))) rfl ?_
  refine x_aload_n (pc := 59) C 0 dX6_init_59 rfl ?_
  refine x_new (pc := 60) C (ci := 1) [0, 2] rfl ⟨wd_136, wd_137, wd_18⟩ (by decide +kernel) ⟨Nat.le_of_ble_eq_true rfl, Nat.le_of_ble_eq_true rfl⟩ (z3 135 (by decide) (by decide)) dX6_init_60 ?_
  refine x_dup (pc := 63) C dX6_init_63 rfl ?_
  refine x_bipush (pc := 64) C (v := (96 : Int32)) dX6_init_64 rfl ?_
  refine x_L lay_lay.symm ?_
  refine x_callI (pc := 66) C hA (S' := (wS (L0.1 + 87) (wS (L0.1 + 44) (wS (L0.1 + 1) S)))) (o := (lay0 L0 ((0, 5, [L0.1 + 1 + 3, L0.1 + 44 + 3, L0.1 + 87 + 3, 0, L0.1 + 130 + 3, L0.1 + 132 + 3, 2, 2, 2]) :: ((((wl (L0.1 + 1) ++ wl (L0.1 + 44)) ++ wl (L0.1 + 87)) ++ [(0, 2, [L0.1 + 131 + 3]), (1, 8, [])]) ++ [(0, 0, [L0.1 + 133 + 3, L0.1 + 134 + 3, 0]), (1, 10, []), (1, 10, [])]))).1 + 0) [.int (96 : Int32)] _ (c_X1_init96 _ (fun i h1 h2 => by rw [show (lay0 L0 ((0, 5, [L0.1 + 1 + 3, L0.1 + 44 + 3, L0.1 + 87 + 3, 0, L0.1 + 130 + 3, L0.1 + 132 + 3, 2, 2, 2]) :: ((((wl (L0.1 + 1) ++ wl (L0.1 + 44)) ++ wl (L0.1 + 87)) ++ [(0, 2, [L0.1 + 131 + 3]), (1, 8, [])]) ++ [(0, 0, [L0.1 + 133 + 3, L0.1 + 134 + 3, 0]), (1, 10, []), (1, 10, [])]))).1 + i = L0.1 + (135 + i) from Nat.add_assoc L0.1 135 i]; exact z3 (135 + i) (by omega) (by omega))) cw_X6_38 ⟨rfl, wd_139⟩ ⟨rfl, rfl, Nat.le_of_ble_eq_true rfl, Nat.le_of_ble_eq_true rfl⟩ ⟨Nat.le_of_ble_eq_true rfl, Nat.le_of_ble_eq_true rfl⟩ rfl ⟨rfl, Nat.le_of_ble_eq_true rfl⟩ dX6_init_66 ?_
  refine x_L lay_lay ?_
  refine x_ly (ly' := ((0, 5, [L0.1 + 1 + 3, L0.1 + 44 + 3, L0.1 + 87 + 3, 0, L0.1 + 130 + 3, L0.1 + 132 + 3, 2, 2, 2]) :: (((((wl (L0.1 + 1) ++ wl (L0.1 + 44)) ++ wl (L0.1 + 87)) ++ [(0, 2, [L0.1 + 131 + 3]), (1, 8, [])]) ++ [(0, 0, [L0.1 + 133 + 3, L0.1 + 134 + 3, 0]), (1, 10, []), (1, 10, [])]) ++ [(0, 1, [0, L0.1 + 136 + 3]), (1, 96, [])]))) rfl ?_
  refine x_putf (pc := 69) C (i := 0) (r := L0.1 + 135) (k := 6) (ty := (.object "GuardOfSums$Numbers")) rfl rfl ⟨Nat.le_of_ble_eq_true rfl, Nat.le_of_ble_eq_true rfl⟩ rfl wd_155 ⟨rfl, rfl⟩ dX6_init_69 (by decide +kernel) (fun q => ⟨rfl, rfl⟩) ?_
  refine x_ly (ly' := ((0, 5, [L0.1 + 1 + 3, L0.1 + 44 + 3, L0.1 + 87 + 3, 0, L0.1 + 130 + 3, L0.1 + 132 + 3, L0.1 + 135 + 3, 2, 2]) :: (((((wl (L0.1 + 1) ++ wl (L0.1 + 44)) ++ wl (L0.1 + 87)) ++ [(0, 2, [L0.1 + 131 + 3]), (1, 8, [])]) ++ [(0, 0, [L0.1 + 133 + 3, L0.1 + 134 + 3, 0]), (1, 10, []), (1, 10, [])]) ++ [(0, 1, [0, L0.1 + 136 + 3]), (1, 96, [])]))) rfl ?_
  refine x_aload_n (pc := 72) C 0 dX6_init_72 rfl ?_
  refine x_new (pc := 73) C (ci := 1) [0, 2] rfl ⟨wd_136, wd_137, wd_18⟩ (by decide +kernel) ⟨Nat.le_of_ble_eq_true rfl, Nat.le_of_ble_eq_true rfl⟩ (z3 137 (by decide) (by decide)) dX6_init_73 ?_
  refine x_dup (pc := 76) C dX6_init_76 rfl ?_
  refine x_bipush (pc := 77) C (v := (32 : Int32)) dX6_init_77 rfl ?_
  refine x_L lay_lay.symm ?_
  refine x_callI (pc := 79) C hA (S' := (wS (L0.1 + 87) (wS (L0.1 + 44) (wS (L0.1 + 1) S)))) (o := (lay0 L0 ((0, 5, [L0.1 + 1 + 3, L0.1 + 44 + 3, L0.1 + 87 + 3, 0, L0.1 + 130 + 3, L0.1 + 132 + 3, L0.1 + 135 + 3, 2, 2]) :: (((((wl (L0.1 + 1) ++ wl (L0.1 + 44)) ++ wl (L0.1 + 87)) ++ [(0, 2, [L0.1 + 131 + 3]), (1, 8, [])]) ++ [(0, 0, [L0.1 + 133 + 3, L0.1 + 134 + 3, 0]), (1, 10, []), (1, 10, [])]) ++ [(0, 1, [0, L0.1 + 136 + 3]), (1, 96, [])]))).1 + 0) [.int (32 : Int32)] _ (c_X1_init32 _ (fun i h1 h2 => by rw [show (lay0 L0 ((0, 5, [L0.1 + 1 + 3, L0.1 + 44 + 3, L0.1 + 87 + 3, 0, L0.1 + 130 + 3, L0.1 + 132 + 3, L0.1 + 135 + 3, 2, 2]) :: (((((wl (L0.1 + 1) ++ wl (L0.1 + 44)) ++ wl (L0.1 + 87)) ++ [(0, 2, [L0.1 + 131 + 3]), (1, 8, [])]) ++ [(0, 0, [L0.1 + 133 + 3, L0.1 + 134 + 3, 0]), (1, 10, []), (1, 10, [])]) ++ [(0, 1, [0, L0.1 + 136 + 3]), (1, 96, [])]))).1 + i = L0.1 + (137 + i) from Nat.add_assoc L0.1 137 i]; exact z3 (137 + i) (by omega) (by omega))) cw_X6_38 ⟨rfl, wd_139⟩ ⟨rfl, rfl, Nat.le_of_ble_eq_true rfl, Nat.le_of_ble_eq_true rfl⟩ ⟨Nat.le_of_ble_eq_true rfl, Nat.le_of_ble_eq_true rfl⟩ rfl ⟨rfl, Nat.le_of_ble_eq_true rfl⟩ dX6_init_79 ?_
  refine x_L lay_lay ?_
  refine x_ly (ly' := ((0, 5, [L0.1 + 1 + 3, L0.1 + 44 + 3, L0.1 + 87 + 3, 0, L0.1 + 130 + 3, L0.1 + 132 + 3, L0.1 + 135 + 3, 2, 2]) :: ((((((wl (L0.1 + 1) ++ wl (L0.1 + 44)) ++ wl (L0.1 + 87)) ++ [(0, 2, [L0.1 + 131 + 3]), (1, 8, [])]) ++ [(0, 0, [L0.1 + 133 + 3, L0.1 + 134 + 3, 0]), (1, 10, []), (1, 10, [])]) ++ [(0, 1, [0, L0.1 + 136 + 3]), (1, 96, [])]) ++ [(0, 1, [0, L0.1 + 138 + 3]), (1, 32, [])]))) rfl ?_
  refine x_putf (pc := 82) C (i := 0) (r := L0.1 + 137) (k := 7) (ty := (.object "GuardOfSums$Numbers")) rfl rfl ⟨Nat.le_of_ble_eq_true rfl, Nat.le_of_ble_eq_true rfl⟩ rfl wd_156 ⟨rfl, rfl⟩ dX6_init_82 (by decide +kernel) (fun q => ⟨rfl, rfl⟩) ?_
  refine x_ly (ly' := ((0, 5, [L0.1 + 1 + 3, L0.1 + 44 + 3, L0.1 + 87 + 3, 0, L0.1 + 130 + 3, L0.1 + 132 + 3, L0.1 + 135 + 3, L0.1 + 137 + 3, 2]) :: ((((((wl (L0.1 + 1) ++ wl (L0.1 + 44)) ++ wl (L0.1 + 87)) ++ [(0, 2, [L0.1 + 131 + 3]), (1, 8, [])]) ++ [(0, 0, [L0.1 + 133 + 3, L0.1 + 134 + 3, 0]), (1, 10, []), (1, 10, [])]) ++ [(0, 1, [0, L0.1 + 136 + 3]), (1, 96, [])]) ++ [(0, 1, [0, L0.1 + 138 + 3]), (1, 32, [])]))) rfl ?_
  refine x_aload_n (pc := 85) C 0 dX6_init_85 rfl ?_
  refine x_bipush (pc := 86) C (v := (6 : Int32)) dX6_init_86 rfl ?_
  refine x_newI (pc := 88) C (N := 6) ⟨by decide, rfl, by decide⟩ ⟨Nat.le_of_ble_eq_true rfl, Nat.le_of_ble_eq_true rfl⟩ (z3 139 (by decide) (by decide)).1 dX6_init_88 ?_
  refine x_ly (ly' := ((0, 5, [L0.1 + 1 + 3, L0.1 + 44 + 3, L0.1 + 87 + 3, 0, L0.1 + 130 + 3, L0.1 + 132 + 3, L0.1 + 135 + 3, L0.1 + 137 + 3, 2]) :: (((((((wl (L0.1 + 1) ++ wl (L0.1 + 44)) ++ wl (L0.1 + 87)) ++ [(0, 2, [L0.1 + 131 + 3]), (1, 8, [])]) ++ [(0, 0, [L0.1 + 133 + 3, L0.1 + 134 + 3, 0]), (1, 10, []), (1, 10, [])]) ++ [(0, 1, [0, L0.1 + 136 + 3]), (1, 96, [])]) ++ [(0, 1, [0, L0.1 + 138 + 3]), (1, 32, [])]) ++ [(1, 6, [])]))) rfl ?_
  refine x_putf (pc := 90) C (i := 0) (r := L0.1 + 139) (k := 8) (ty := (.array .int)) rfl rfl ⟨Nat.le_of_ble_eq_true rfl, Nat.le_of_ble_eq_true rfl⟩ rfl wd_157 ⟨rfl, rfl⟩ dX6_init_90 (by decide +kernel) (fun q => ⟨rfl, rfl⟩) ?_
  refine x_ly (ly' := gl L0.1) rfl ?_
  exact x_vreturn (pc := 93) C dX6_init_93 rfl
