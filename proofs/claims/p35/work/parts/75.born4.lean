set_option maxRecDepth 100000 in
set_option maxHeartbeats 4000000 in
theorem c_X0_init {l : Launch} {G : zz_G} {L0 : Ly} {b : Nat} (S : Sg) (hz : ∀ i, 0 < i → i ≤ 2 → S.1 (L0.1 + i) = zr ∧ S.2 (L0.1 + i) = zrJ) : Met l yX0_init (Cond.code yX0_init cX0_init 1 none :: zz_all) { frames := 1, cells := 2, slots := 20, locals := 20 } (PN G (lay0 L0 [(0, 0, [2, 2, 0])]) b S [.ref (b + (L0.1 + 0))]) (QC G (lay0 L0 ([(0, 0, [L0.1 + 1 + 3, L0.1 + 2 + 3, 0]), (1, 10, []), (1, 10, [])])) b (S) none True) 2 20 (fun q => b ≤ q) := by
  refine x_metN [.ref (b + (L0.1 + 0))] (by decide +kernel) (Nat.le_of_ble_eq_true rfl) fun p e s m args below meth c C hA => ?_
  refine x_aload_n (pc := 0) C 0 dX0_init_0 rfl ?_
  refine x_objI (pc := 1) C wd_125 ⟨Nat.le_of_ble_eq_true rfl, Nat.le_of_ble_eq_true rfl⟩ dX0_init_1 ?_
  refine x_aload_n (pc := 4) C 0 dX0_init_4 rfl ?_
  refine x_bipush (pc := 5) C (v := (10 : Int32)) dX0_init_5 rfl ?_
  refine x_newI (pc := 7) C (N := 10) ⟨by decide, rfl, by decide⟩ ⟨Nat.le_of_ble_eq_true rfl, Nat.le_of_ble_eq_true rfl⟩ (hz 1 (by decide) (by decide)).1 dX0_init_7 ?_
  refine x_putf (pc := 9) C (i := 0) (k := 0) (ty := (.array .int)) rfl rfl ⟨Nat.le_of_ble_eq_true rfl, Nat.le_of_ble_eq_true rfl⟩ rfl wd_126 ⟨rfl, rfl⟩ dX0_init_9 (by decide +kernel) (fun q => ⟨rfl, rfl⟩) ?_
  refine x_ly (ly' := [(0, 0, [L0.1 + 1 + 3, 2, 0]), (1, 10, [])]) rfl ?_
  refine x_aload_n (pc := 12) C 0 dX0_init_12 rfl ?_
  refine x_bipush (pc := 13) C (v := (10 : Int32)) dX0_init_13 rfl ?_
  refine x_newI (pc := 15) C (N := 10) ⟨by decide, rfl, by decide⟩ ⟨Nat.le_of_ble_eq_true rfl, Nat.le_of_ble_eq_true rfl⟩ (hz 2 (by decide) (by decide)).1 dX0_init_15 ?_
  refine x_putf (pc := 17) C (i := 0) (k := 1) (ty := (.array .int)) rfl rfl ⟨Nat.le_of_ble_eq_true rfl, Nat.le_of_ble_eq_true rfl⟩ rfl wd_127 ⟨rfl, rfl⟩ dX0_init_17 (by decide +kernel) (fun q => ⟨rfl, rfl⟩) ?_
  refine x_ly (ly' := [(0, 0, [L0.1 + 1 + 3, L0.1 + 2 + 3, 0]), (1, 10, []), (1, 10, [])]) rfl ?_
  exact x_vreturn (pc := 20) C dX0_init_20 rfl
set_option maxRecDepth 100000 in
set_option maxHeartbeats 4000000 in
theorem c_X2_init {l : Launch} {G : zz_G} {L0 : Ly} {b : Nat} (S : Sg) (hz : ∀ i, 0 < i → i ≤ 1 → S.1 (L0.1 + i) = zr ∧ S.2 (L0.1 + i) = zrJ) : Met l yX2_init (Cond.code yX2_init cX2_init 1 none :: zz_all) { frames := 1, cells := 1, slots := 8, locals := 20 } (PN G (lay0 L0 [(0, 2, [2])]) b S [.ref (b + (L0.1 + 0))]) (QC G (lay0 L0 ([(0, 2, [L0.1 + 1 + 3]), (1, 8, [])])) b (S) none True) 1 8 (fun q => b ≤ q) := by
  refine x_metN [.ref (b + (L0.1 + 0))] (by decide +kernel) (Nat.le_of_ble_eq_true rfl) fun p e s m args below meth c C hA => ?_
  refine x_aload_n (pc := 0) C 0 dX2_init_0 rfl ?_
  refine x_objI (pc := 1) C wd_114 ⟨Nat.le_of_ble_eq_true rfl, Nat.le_of_ble_eq_true rfl⟩ dX2_init_1 ?_
  refine x_aload_n (pc := 4) C 0 dX2_init_4 rfl ?_
  refine x_bipush (pc := 5) C (v := (8 : Int32)) dX2_init_5 rfl ?_
  refine x_newI (pc := 7) C (N := 8) ⟨by decide, rfl, by decide⟩ ⟨Nat.le_of_ble_eq_true rfl, Nat.le_of_ble_eq_true rfl⟩ (hz 1 (by decide) (by decide)).1 dX2_init_7 ?_
  refine x_putf (pc := 9) C (i := 0) (k := 0) (ty := (.array .int)) rfl rfl ⟨Nat.le_of_ble_eq_true rfl, Nat.le_of_ble_eq_true rfl⟩ rfl wd_115 ⟨rfl, rfl⟩ dX2_init_9 (by decide +kernel) (fun q => ⟨rfl, rfl⟩) ?_
  refine x_ly (ly' := [(0, 2, [L0.1 + 1 + 3]), (1, 8, [])]) rfl ?_
  exact x_vreturn (pc := 12) C dX2_init_12 rfl
set_option maxRecDepth 100000 in
set_option maxHeartbeats 4000000 in
theorem c_X1_init96 {l : Launch} {G : zz_G} {L0 : Ly} {b : Nat} (S : Sg) (hz : ∀ i, 0 < i → i ≤ 1 → S.1 (L0.1 + i) = zr ∧ S.2 (L0.1 + i) = zrJ) : Met l yX1_init (Cond.code yX1_init cX1_init 2 none :: zz_all) { frames := 1, cells := 1, slots := 96, locals := 20 } (PN G (lay0 L0 [(0, 1, [0, 2])]) b S [.ref (b + (L0.1 + 0)), .int (96 : Int32)]) (QC G (lay0 L0 ([(0, 1, [0, L0.1 + 1 + 3]), (1, 96, [])])) b (S) none True) 1 96 (fun q => b ≤ q) := by
  refine x_metN [.ref (b + (L0.1 + 0)), .int (96 : Int32)] (by decide +kernel) (Nat.le_of_ble_eq_true rfl) fun p e s m args below meth c C hA => ?_
  refine x_aload_n (pc := 0) C 0 dX1_init_0 rfl ?_
  refine x_objI (pc := 1) C wd_141 ⟨Nat.le_of_ble_eq_true rfl, Nat.le_of_ble_eq_true rfl⟩ dX1_init_1 ?_
  refine x_aload_n (pc := 4) C 0 dX1_init_4 rfl ?_
  refine x_iload_n (pc := 5) C 1 dX1_init_5 rfl ?_
  refine x_if_ge (pc := 6) C 13 dX1_init_6 rfl (fun _ => ?_) (fun q => absurd q (by decide))
  refine x_iload_n (pc := 13) C 1 dX1_init_13 rfl ?_
  refine x_newI (pc := 14) C (N := 96) ⟨by decide, rfl, by decide⟩ ⟨Nat.le_of_ble_eq_true rfl, Nat.le_of_ble_eq_true rfl⟩ (hz 1 (by decide) (by decide)).1 dX1_init_14 ?_
  refine x_putf (pc := 16) C (i := 0) (k := 1) (ty := (.array .int)) rfl rfl ⟨Nat.le_of_ble_eq_true rfl, Nat.le_of_ble_eq_true rfl⟩ rfl wd_143 ⟨rfl, rfl⟩ dX1_init_16 (by decide +kernel) (fun q => ⟨rfl, rfl⟩) ?_
  refine x_ly (ly' := [(0, 1, [0, L0.1 + 1 + 3]), (1, 96, [])]) rfl ?_
  exact x_vreturn (pc := 19) C dX1_init_19 rfl
set_option maxRecDepth 100000 in
set_option maxHeartbeats 4000000 in
theorem c_X1_init32 {l : Launch} {G : zz_G} {L0 : Ly} {b : Nat} (S : Sg) (hz : ∀ i, 0 < i → i ≤ 1 → S.1 (L0.1 + i) = zr ∧ S.2 (L0.1 + i) = zrJ) : Met l yX1_init (Cond.code yX1_init cX1_init 2 none :: zz_all) { frames := 1, cells := 1, slots := 32, locals := 20 } (PN G (lay0 L0 [(0, 1, [0, 2])]) b S [.ref (b + (L0.1 + 0)), .int (32 : Int32)]) (QC G (lay0 L0 ([(0, 1, [0, L0.1 + 1 + 3]), (1, 32, [])])) b (S) none True) 1 32 (fun q => b ≤ q) := by
  refine x_metN [.ref (b + (L0.1 + 0)), .int (32 : Int32)] (by decide +kernel) (Nat.le_of_ble_eq_true rfl) fun p e s m args below meth c C hA => ?_
  refine x_aload_n (pc := 0) C 0 dX1_init_0 rfl ?_
  refine x_objI (pc := 1) C wd_141 ⟨Nat.le_of_ble_eq_true rfl, Nat.le_of_ble_eq_true rfl⟩ dX1_init_1 ?_
  refine x_aload_n (pc := 4) C 0 dX1_init_4 rfl ?_
  refine x_iload_n (pc := 5) C 1 dX1_init_5 rfl ?_
  refine x_if_ge (pc := 6) C 13 dX1_init_6 rfl (fun _ => ?_) (fun q => absurd q (by decide))
  refine x_iload_n (pc := 13) C 1 dX1_init_13 rfl ?_
  refine x_newI (pc := 14) C (N := 32) ⟨by decide, rfl, by decide⟩ ⟨Nat.le_of_ble_eq_true rfl, Nat.le_of_ble_eq_true rfl⟩ (hz 1 (by decide) (by decide)).1 dX1_init_14 ?_
  refine x_putf (pc := 16) C (i := 0) (k := 1) (ty := (.array .int)) rfl rfl ⟨Nat.le_of_ble_eq_true rfl, Nat.le_of_ble_eq_true rfl⟩ rfl wd_143 ⟨rfl, rfl⟩ dX1_init_16 (by decide +kernel) (fun q => ⟨rfl, rfl⟩) ?_
  refine x_ly (ly' := [(0, 1, [0, L0.1 + 1 + 3]), (1, 32, [])]) rfl ?_
  exact x_vreturn (pc := 19) C dX1_init_19 rfl
def sl (o : Nat) : List Sh := [(0, 3, [o + 1 + 3, 1, 0]), (4, 10, [o + 2])] ++ List.replicate 10 (2, 10, [])
theorem rep_at {n i : Nat} {x : Sh} {l1 l2 : List Sh} (h : i < n) : (l1 ++ (List.replicate n x ++ l2))[l1.length + i]? = some x := by
  rw [List.getElem?_append_right (Nat.le_add_right _ _), Nat.add_sub_cancel_left, List.getElem?_append_left (by rw [List.length_replicate]; exact h), List.getElem?_replicate, if_pos h]
theorem sl_ok {L0 : Ly} : isSp (lay0 L0 (sl L0.1)) (L0.1 + 0) := by
  refine ⟨lay_at (i := 0), lay_at (i := 1), fun j hj => ?_⟩
  have := rep_at (l1 := [(0, 3, [L0.1 + 1 + 3, 1, 0]), (4, 10, [L0.1 + 2])]) (l2 := []) (x := (2, 10, [])) hj
  rw [List.append_nil] at this
  have e : (lay0 L0 (sl L0.1)).2 (L0.1 + (2 + j)) = some (2, 10, []) := lay_at.trans this
  rw [show L0.1 + 0 + 2 + j = L0.1 + (2 + j) by omega]
  exact e
def wl (o : Nat) : List Sh := [(0, 4, [o + 1 + 3, o + 2 + 3, o + 3 + 3, o + 4 + 3, 0, 0, 0, o + 5 + 3, o + 16 + 3, 0, o + 17 + 3, o + 29 + 3, o + 41 + 3, o + 42 + 3]), (1, 8, []), (1, 10, []), (1, 10, []), (1, 10, []), (3, 10, [o + 6]), (1, 10, []), (1, 10, []), (1, 10, []), (1, 10, []), (1, 10, []), (1, 10, []), (1, 10, []), (1, 10, []), (1, 10, []), (1, 10, []), (1, 10, [])] ++ (sl (o + 17) ++ (sl (o + 29) ++ [(1, 10, []), (2, 10, [])]))
def wS (o : Nat) (S : Sg) : Sg := lpI (o + 4) (fun _ => 99) 10 (lpI (o + 1) nI 8 (spS (o + 29) (spS (o + 17) (setI (setI S o 4 8) o 6 4))))
set_option maxRecDepth 100000 in
set_option maxHeartbeats 4000000 in
theorem c_X4_init {l : Launch} {G : zz_G} {L0 : Ly} {b : Nat} (S : Sg) (hz : ∀ i, 0 < i → i ≤ 11 → S.1 (L0.1 + i) = zr ∧ S.2 (L0.1 + i) = zrJ) : Met l yX4_init (Cond.code yX4_init cX4_init 2 none :: zz_all) { frames := 1, cells := 11, slots := 110, locals := 28 } (PN G (lay0 L0 [(0, 3, [2, 1, 0])]) b S [.ref (b + (L0.1 + 0))]) (QC G (lay0 L0 (sl L0.1)) b (spS L0.1 S) none True) 11 110 (fun q => b ≤ q) := by
  refine x_metN [.ref (b + (L0.1 + 0))] (by decide +kernel) (Nat.le_of_ble_eq_true rfl) fun p e s m args below meth c C hA => ?_
  refine x_aload_n (pc := 0) C 0 dX4_init_0 rfl ?_
  refine x_objI (pc := 1) C wd_43 ⟨Nat.le_of_ble_eq_true rfl, Nat.le_of_ble_eq_true rfl⟩ dX4_init_1 ?_
  refine x_aload_n (pc := 4) C 0 dX4_init_4 rfl ?_
  refine x_bipush (pc := 5) C (v := (10 : Int32)) dX4_init_5 rfl ?_
  refine x_bipush (pc := 7) C (v := (10 : Int32)) dX4_init_7 rfl ?_
  refine x_mnaJ (pc := 9) C hA.2 (N := 10) (K := 10) wd_44 ⟨by decide, rfl, by decide⟩ ⟨by decide, rfl, by decide, by decide⟩ ⟨Nat.le_of_ble_eq_true rfl, Nat.le_of_ble_eq_true rfl⟩ (fun j hj => by have q := (hz (1 + 1 + j) (by omega) (by omega)).2; rw [show L0.1 + (1 + 1 + j) = L0.1 + 1 + 1 + j by omega] at q; exact q) dX4_init_9 ?_
  refine x_putf (pc := 13) C (i := 0) (k := 0) (ty := (.array (.array .long))) rfl rfl ⟨Nat.le_of_ble_eq_true rfl, Nat.le_of_ble_eq_true rfl⟩ rfl wd_46 ⟨rfl, rfl⟩ dX4_init_13 (by decide +kernel) (fun q => ⟨rfl, rfl⟩) ?_
  refine x_ly (ly' := [(0, 3, [L0.1 + 1 + 3, 1, 0]), (4, 10, [L0.1 + 2]), (2, 10, []), (2, 10, []), (2, 10, []), (2, 10, []), (2, 10, []), (2, 10, []), (2, 10, []), (2, 10, []), (2, 10, []), (2, 10, [])]) rfl ?_
  refine x_aload_n (pc := 16) C 0 dX4_init_16 rfl ?_
  refine x_lconst (pc := 17) C (v := (1 : Int64)) dX4_init_17 rfl ?_
  refine x_putj (pc := 18) C (k := 1) (S' := (setJ S L0.1 1 (1 : Int64))) (lay_at (i := 0)) rfl rfl wd_47 dX4_init_18 ⟨Nat.le_of_ble_eq_true rfl, rfl⟩ rfl ?_
  refine x_iconst (pc := 21) C (v := (0 : Int32)) dX4_init_21 rfl ?_
  refine x_istore_n (pc := 22) C 1 [(1, .int 0), (0, .ref (b + (L0.1 + 0)))] dX4_init_22 rfl (Nat.le_of_ble_eq_true rfl) rfl rfl ?_
  refine x_ly (ly' := sl L0.1) rfl ?_
  refine x_fillS C (o := L0.1 + 0) sl_ok ?_
  exact x_vreturn (pc := 44) C dX4_init_44 rfl
set_option maxRecDepth 100000 in
set_option maxHeartbeats 4000000 in
theorem c_X5_init {l : Launch} {G : zz_G} {L0 : Ly} {b : Nat} (S : Sg) (hz : ∀ i, 0 < i → i ≤ 42 → S.1 (L0.1 + i) = zr ∧ S.2 (L0.1 + i) = zrJ) : Met l yX5_init (Cond.code yX5_init cX5_init 2 none :: zz_all) { frames := 2, cells := 42, slots := 404, locals := 60 } (PN G (lay0 L0 [(0, 4, [2, 2, 2, 2, 0, 0, 0, 2, 2, 0, 2, 2, 2, 2])]) b S [.ref (b + (L0.1 + 0))]) (QC G (lay0 L0 (wl L0.1)) b (wS L0.1 S) none True) 42 404 (fun q => b ≤ q) := by
  refine x_metN [.ref (b + (L0.1 + 0))] (by decide +kernel) (Nat.le_of_ble_eq_true rfl) fun p e s m args below meth c C hA => ?_
  have z2 : ∀ i, 0 < i → i ≤ 42 → (setI (setI S L0.1 4 (8 : Int32)) L0.1 6 (4 : Int32)).1 (L0.1 + i) = zr ∧ (setI (setI S L0.1 4 (8 : Int32)) L0.1 6 (4 : Int32)).2 (L0.1 + i) = zrJ := fun i h1 h2 => by
    obtain ⟨a1, a2⟩ := hz i h1 h2
    obtain ⟨b1, b2⟩ := setI_o (S := S) (o := L0.1) (k := 4) (v := 8) (o' := L0.1 + i) (by omega)
    obtain ⟨c1, c2⟩ := setI_o (S := setI S L0.1 4 8) (o := L0.1) (k := 6) (v := 4) (o' := L0.1 + i) (by omega)
    exact ⟨(c1.trans b1).trans a1, (c2.trans b2).trans a2⟩
  have z3 : ∀ i, 29 ≤ i → i ≤ 42 → (spS (L0.1 + 17) (setI (setI S L0.1 4 (8 : Int32)) L0.1 6 (4 : Int32))).1 (L0.1 + i) = zr ∧ (spS (L0.1 + 17) (setI (setI S L0.1 4 (8 : Int32)) L0.1 6 (4 : Int32))).2 (L0.1 + i) = zrJ := fun i h1 h2 => by
    obtain ⟨a1, a2⟩ := z2 i (by omega) h2
    obtain ⟨b1, b2⟩ := spS_o (S := (setI (setI S L0.1 4 (8 : Int32)) L0.1 6 (4 : Int32))) (o := L0.1 + 17) (o' := L0.1 + i) (by omega)
    exact ⟨b1.trans a1, b2.trans a2⟩
  have z4 : ∀ i, 41 ≤ i → i ≤ 42 → (spS (L0.1 + 29) (spS (L0.1 + 17) (setI (setI S L0.1 4 (8 : Int32)) L0.1 6 (4 : Int32)))).1 (L0.1 + i) = zr ∧ (spS (L0.1 + 29) (spS (L0.1 + 17) (setI (setI S L0.1 4 (8 : Int32)) L0.1 6 (4 : Int32)))).2 (L0.1 + i) = zrJ := fun i h1 h2 => by
    obtain ⟨a1, a2⟩ := z3 i (by omega) h2
    obtain ⟨b1, b2⟩ := spS_o (S := spS (L0.1 + 17) (setI (setI S L0.1 4 (8 : Int32)) L0.1 6 (4 : Int32))) (o := L0.1 + 29) (o' := L0.1 + i) (by omega)
    exact ⟨b1.trans a1, b2.trans a2⟩
  refine x_aload_n (pc := 0) C 0 dX5_init_0 rfl ?_
  refine x_objI (pc := 1) C wd_35 ⟨Nat.le_of_ble_eq_true rfl, Nat.le_of_ble_eq_true rfl⟩ dX5_init_1 ?_
  refine x_aload_n (pc := 4) C 0 dX5_init_4 rfl ?_
  refine x_bipush (pc := 5) C (v := (8 : Int32)) dX5_init_5 rfl ?_
  refine x_newI (pc := 7) C (N := 8) ⟨by decide, rfl, by decide⟩ ⟨Nat.le_of_ble_eq_true rfl, Nat.le_of_ble_eq_true rfl⟩ (hz 1 (by decide) (by decide)).1 dX5_init_7 ?_
  refine x_putf (pc := 9) C (i := 0) (k := 0) (ty := (.array .int)) rfl rfl ⟨Nat.le_of_ble_eq_true rfl, Nat.le_of_ble_eq_true rfl⟩ rfl wd_59 ⟨rfl, rfl⟩ dX5_init_9 (by decide +kernel) (fun q => ⟨rfl, rfl⟩) ?_
  refine x_ly (ly' := [(0, 4, [L0.1 + 1 + 3, 2, 2, 2, 0, 0, 0, 2, 2, 0, 2, 2, 2, 2]), (1, 8, [])]) rfl ?_
  refine x_aload_n (pc := 12) C 0 dX5_init_12 rfl ?_
  refine x_bipush (pc := 13) C (v := (10 : Int32)) dX5_init_13 rfl ?_
  refine x_newI (pc := 15) C (N := 10) ⟨by decide, rfl, by decide⟩ ⟨Nat.le_of_ble_eq_true rfl, Nat.le_of_ble_eq_true rfl⟩ (hz 2 (by decide) (by decide)).1 dX5_init_15 ?_
  refine x_putf (pc := 17) C (i := 0) (k := 1) (ty := (.array .int)) rfl rfl ⟨Nat.le_of_ble_eq_true rfl, Nat.le_of_ble_eq_true rfl⟩ rfl wd_60 ⟨rfl, rfl⟩ dX5_init_17 (by decide +kernel) (fun q => ⟨rfl, rfl⟩) ?_
  refine x_ly (ly' := [(0, 4, [L0.1 + 1 + 3, L0.1 + 2 + 3, 2, 2, 0, 0, 0, 2, 2, 0, 2, 2, 2, 2]), (1, 8, []), (1, 10, [])]) rfl ?_
  refine x_aload_n (pc := 20) C 0 dX5_init_20 rfl ?_
  refine x_bipush (pc := 21) C (v := (10 : Int32)) dX5_init_21 rfl ?_
  refine x_newI (pc := 23) C (N := 10) ⟨by decide, rfl, by decide⟩ ⟨Nat.le_of_ble_eq_true rfl, Nat.le_of_ble_eq_true rfl⟩ (hz 3 (by decide) (by decide)).1 dX5_init_23 ?_
  refine x_putf (pc := 25) C (i := 0) (k := 2) (ty := (.array .int)) rfl rfl ⟨Nat.le_of_ble_eq_true rfl, Nat.le_of_ble_eq_true rfl⟩ rfl wd_61 ⟨rfl, rfl⟩ dX5_init_25 (by decide +kernel) (fun q => ⟨rfl, rfl⟩) ?_
  refine x_ly (ly' := [(0, 4, [L0.1 + 1 + 3, L0.1 + 2 + 3, L0.1 + 3 + 3, 2, 0, 0, 0, 2, 2, 0, 2, 2, 2, 2]), (1, 8, []), (1, 10, []), (1, 10, [])]) rfl ?_
  refine x_aload_n (pc := 28) C 0 dX5_init_28 rfl ?_
  refine x_bipush (pc := 29) C (v := (10 : Int32)) dX5_init_29 rfl ?_
  refine x_newI (pc := 31) C (N := 10) ⟨by decide, rfl, by decide⟩ ⟨Nat.le_of_ble_eq_true rfl, Nat.le_of_ble_eq_true rfl⟩ (hz 4 (by decide) (by decide)).1 dX5_init_31 ?_
  refine x_putf (pc := 33) C (i := 0) (k := 3) (ty := (.array .int)) rfl rfl ⟨Nat.le_of_ble_eq_true rfl, Nat.le_of_ble_eq_true rfl⟩ rfl wd_62 ⟨rfl, rfl⟩ dX5_init_33 (by decide +kernel) (fun q => ⟨rfl, rfl⟩) ?_
  refine x_ly (ly' := [(0, 4, [L0.1 + 1 + 3, L0.1 + 2 + 3, L0.1 + 3 + 3, L0.1 + 4 + 3, 0, 0, 0, 2, 2, 0, 2, 2, 2, 2]), (1, 8, []), (1, 10, []), (1, 10, []), (1, 10, [])]) rfl ?_
  refine x_aload_n (pc := 36) C 0 dX5_init_36 rfl ?_
  refine x_bipush (pc := 37) C (v := (8 : Int32)) dX5_init_37 rfl ?_
  refine x_puti (pc := 39) C (k := 4) (S' := (setI S L0.1 4 (8 : Int32))) (lay_at (i := 0)) rfl rfl wd_63 dX5_init_39 ⟨Nat.le_of_ble_eq_true rfl, rfl⟩ rfl ?_
  refine x_aload_n (pc := 42) C 0 dX5_init_42 rfl ?_
  refine x_iconst (pc := 43) C (v := (4 : Int32)) dX5_init_43 rfl ?_
  refine x_puti (pc := 44) C (k := 6) (S' := (setI (setI S L0.1 4 (8 : Int32)) L0.1 6 (4 : Int32))) (lay_at (i := 0)) rfl rfl wd_68 dX5_init_44 ⟨Nat.le_of_ble_eq_true rfl, rfl⟩ rfl ?_
  refine x_aload_n (pc := 47) C 0 dX5_init_47 rfl ?_
  refine x_bipush (pc := 48) C (v := (10 : Int32)) dX5_init_48 rfl ?_
  refine x_bipush (pc := 50) C (v := (10 : Int32)) dX5_init_50 rfl ?_
  refine x_mnaI (pc := 52) C hA.1 (N := 10) (K := 10) wd_36 ⟨by decide, rfl, by decide⟩ ⟨by decide, rfl, by decide, by decide⟩ ⟨Nat.le_of_ble_eq_true rfl, Nat.le_of_ble_eq_true rfl⟩ (fun j hj => by have q := (z2 (5 + 1 + j) (by omega) (by omega)).1; rw [show L0.1 + (5 + 1 + j) = L0.1 + 5 + 1 + j by omega] at q; exact q) dX5_init_52 ?_
  refine x_putf (pc := 56) C (i := 0) (k := 7) (ty := (.array (.array .int))) rfl rfl ⟨Nat.le_of_ble_eq_true rfl, Nat.le_of_ble_eq_true rfl⟩ rfl wd_70 ⟨rfl, rfl⟩ dX5_init_56 (by decide +kernel) (fun q => ⟨rfl, rfl⟩) ?_
  refine x_ly (ly' := [(0, 4, [L0.1 + 1 + 3, L0.1 + 2 + 3, L0.1 + 3 + 3, L0.1 + 4 + 3, 0, 0, 0, L0.1 + 5 + 3, 2, 0, 2, 2, 2, 2]), (1, 8, []), (1, 10, []), (1, 10, []), (1, 10, []), (3, 10, [L0.1 + 6]), (1, 10, []), (1, 10, []), (1, 10, []), (1, 10, []), (1, 10, []), (1, 10, []), (1, 10, []), (1, 10, []), (1, 10, []), (1, 10, [])]) rfl ?_
  refine x_aload_n (pc := 59) C 0 dX5_init_59 rfl ?_
  refine x_bipush (pc := 60) C (v := (10 : Int32)) dX5_init_60 rfl ?_
  refine x_newI (pc := 62) C (N := 10) ⟨by decide, rfl, by decide⟩ ⟨Nat.le_of_ble_eq_true rfl, Nat.le_of_ble_eq_true rfl⟩ (z2 16 (by decide) (by decide)).1 dX5_init_62 ?_
  refine x_putf (pc := 64) C (i := 0) (k := 8) (ty := (.array .int)) rfl rfl ⟨Nat.le_of_ble_eq_true rfl, Nat.le_of_ble_eq_true rfl⟩ rfl wd_71 ⟨rfl, rfl⟩ dX5_init_64 (by decide +kernel) (fun q => ⟨rfl, rfl⟩) ?_
  refine x_ly (ly' := [(0, 4, [L0.1 + 1 + 3, L0.1 + 2 + 3, L0.1 + 3 + 3, L0.1 + 4 + 3, 0, 0, 0, L0.1 + 5 + 3, L0.1 + 16 + 3, 0, 2, 2, 2, 2]), (1, 8, []), (1, 10, []), (1, 10, []), (1, 10, []), (3, 10, [L0.1 + 6]), (1, 10, []), (1, 10, []), (1, 10, []), (1, 10, []), (1, 10, []), (1, 10, []), (1, 10, []), (1, 10, []), (1, 10, []), (1, 10, []), (1, 10, [])]) rfl ?_
  refine x_aload_n (pc := 67) C 0 dX5_init_67 rfl ?_
  refine x_new (pc := 68) C (ci := 3) [2, 1, 0] rfl ⟨wd_38, wd_39, wd_15⟩ (by decide +kernel) ⟨Nat.le_of_ble_eq_true rfl, Nat.le_of_ble_eq_true rfl⟩ (z2 17 (by decide) (by decide)) dX5_init_68 ?_
  refine x_dup (pc := 71) C dX5_init_71 rfl ?_
  refine x_L lay_lay.symm ?_
  refine x_callI (pc := 72) C hA (o := (lay0 L0 [(0, 4, [L0.1 + 1 + 3, L0.1 + 2 + 3, L0.1 + 3 + 3, L0.1 + 4 + 3, 0, 0, 0, L0.1 + 5 + 3, L0.1 + 16 + 3, 0, 2, 2, 2, 2]), (1, 8, []), (1, 10, []), (1, 10, []), (1, 10, []), (3, 10, [L0.1 + 6]), (1, 10, []), (1, 10, []), (1, 10, []), (1, 10, []), (1, 10, []), (1, 10, []), (1, 10, []), (1, 10, []), (1, 10, []), (1, 10, []), (1, 10, [])]).1 + 0) [] _ (c_X4_init _ (fun i h1 h2 => by rw [show (lay0 L0 [(0, 4, [L0.1 + 1 + 3, L0.1 + 2 + 3, L0.1 + 3 + 3, L0.1 + 4 + 3, 0, 0, 0, L0.1 + 5 + 3, L0.1 + 16 + 3, 0, 2, 2, 2, 2]), (1, 8, []), (1, 10, []), (1, 10, []), (1, 10, []), (3, 10, [L0.1 + 6]), (1, 10, []), (1, 10, []), (1, 10, []), (1, 10, []), (1, 10, []), (1, 10, []), (1, 10, []), (1, 10, []), (1, 10, []), (1, 10, []), (1, 10, [])]).1 + i = L0.1 + (17 + i) from Nat.add_assoc L0.1 17 i]; exact z2 (17 + i) (by omega) (by omega))) cw_X5_41 ⟨rfl, wd_41⟩ ⟨rfl, rfl, Nat.le_of_ble_eq_true rfl, Nat.le_of_ble_eq_true rfl⟩ ⟨Nat.le_of_ble_eq_true rfl, Nat.le_of_ble_eq_true rfl⟩ rfl ⟨rfl, Nat.le_of_ble_eq_true rfl⟩ dX5_init_72 ?_
  refine x_L lay_lay ?_
  refine x_putf (pc := 75) C (i := 0) (k := 10) (ty := (.object "GuardOfSums$Space")) rfl rfl ⟨Nat.le_of_ble_eq_true rfl, Nat.le_of_ble_eq_true rfl⟩ rfl wd_75 ⟨rfl, rfl⟩ dX5_init_75 (by decide +kernel) (fun q => ⟨rfl, rfl⟩) ?_
  refine x_ly (ly' := [(0, 4, [L0.1 + 1 + 3, L0.1 + 2 + 3, L0.1 + 3 + 3, L0.1 + 4 + 3, 0, 0, 0, L0.1 + 5 + 3, L0.1 + 16 + 3, 0, L0.1 + 17 + 3, 2, 2, 2]), (1, 8, []), (1, 10, []), (1, 10, []), (1, 10, []), (3, 10, [L0.1 + 6]), (1, 10, []), (1, 10, []), (1, 10, []), (1, 10, []), (1, 10, []), (1, 10, []), (1, 10, []), (1, 10, []), (1, 10, []), (1, 10, []), (1, 10, []), (0, 3, [L0.1 + 18 + 3, 1, 0]), (4, 10, [L0.1 + 19]), (2, 10, []), (2, 10, []), (2, 10, []), (2, 10, []), (2, 10, []), (2, 10, []), (2, 10, []), (2, 10, []), (2, 10, []), (2, 10, [])]) rfl ?_
  refine x_aload_n (pc := 78) C 0 dX5_init_78 rfl ?_
  refine x_new (pc := 79) C (ci := 3) [2, 1, 0] rfl ⟨wd_38, wd_39, wd_15⟩ (by decide +kernel) ⟨Nat.le_of_ble_eq_true rfl, Nat.le_of_ble_eq_true rfl⟩ (z3 29 (by decide) (by decide)) dX5_init_79 ?_
  refine x_dup (pc := 82) C dX5_init_82 rfl ?_
  refine x_L lay_lay.symm ?_
  refine x_callI (pc := 83) C hA (o := (lay0 L0 [(0, 4, [L0.1 + 1 + 3, L0.1 + 2 + 3, L0.1 + 3 + 3, L0.1 + 4 + 3, 0, 0, 0, L0.1 + 5 + 3, L0.1 + 16 + 3, 0, L0.1 + 17 + 3, 2, 2, 2]), (1, 8, []), (1, 10, []), (1, 10, []), (1, 10, []), (3, 10, [L0.1 + 6]), (1, 10, []), (1, 10, []), (1, 10, []), (1, 10, []), (1, 10, []), (1, 10, []), (1, 10, []), (1, 10, []), (1, 10, []), (1, 10, []), (1, 10, []), (0, 3, [L0.1 + 18 + 3, 1, 0]), (4, 10, [L0.1 + 19]), (2, 10, []), (2, 10, []), (2, 10, []), (2, 10, []), (2, 10, []), (2, 10, []), (2, 10, []), (2, 10, []), (2, 10, []), (2, 10, [])]).1 + 0) [] _ (c_X4_init _ (fun i h1 h2 => by rw [show (lay0 L0 [(0, 4, [L0.1 + 1 + 3, L0.1 + 2 + 3, L0.1 + 3 + 3, L0.1 + 4 + 3, 0, 0, 0, L0.1 + 5 + 3, L0.1 + 16 + 3, 0, L0.1 + 17 + 3, 2, 2, 2]), (1, 8, []), (1, 10, []), (1, 10, []), (1, 10, []), (3, 10, [L0.1 + 6]), (1, 10, []), (1, 10, []), (1, 10, []), (1, 10, []), (1, 10, []), (1, 10, []), (1, 10, []), (1, 10, []), (1, 10, []), (1, 10, []), (1, 10, []), (0, 3, [L0.1 + 18 + 3, 1, 0]), (4, 10, [L0.1 + 19]), (2, 10, []), (2, 10, []), (2, 10, []), (2, 10, []), (2, 10, []), (2, 10, []), (2, 10, []), (2, 10, []), (2, 10, []), (2, 10, [])]).1 + i = L0.1 + (29 + i) from Nat.add_assoc L0.1 29 i]; exact z3 (29 + i) (by omega) (by omega))) cw_X5_41 ⟨rfl, wd_41⟩ ⟨rfl, rfl, Nat.le_of_ble_eq_true rfl, Nat.le_of_ble_eq_true rfl⟩ ⟨Nat.le_of_ble_eq_true rfl, Nat.le_of_ble_eq_true rfl⟩ rfl ⟨rfl, Nat.le_of_ble_eq_true rfl⟩ dX5_init_83 ?_
  refine x_L lay_lay ?_
  refine x_putf (pc := 86) C (i := 0) (k := 11) (ty := (.object "GuardOfSums$Space")) rfl rfl ⟨Nat.le_of_ble_eq_true rfl, Nat.le_of_ble_eq_true rfl⟩ rfl wd_77 ⟨rfl, rfl⟩ dX5_init_86 (by decide +kernel) (fun q => ⟨rfl, rfl⟩) ?_
  refine x_ly (ly' := [(0, 4, [L0.1 + 1 + 3, L0.1 + 2 + 3, L0.1 + 3 + 3, L0.1 + 4 + 3, 0, 0, 0, L0.1 + 5 + 3, L0.1 + 16 + 3, 0, L0.1 + 17 + 3, L0.1 + 29 + 3, 2, 2]), (1, 8, []), (1, 10, []), (1, 10, []), (1, 10, []), (3, 10, [L0.1 + 6]), (1, 10, []), (1, 10, []), (1, 10, []), (1, 10, []), (1, 10, []), (1, 10, []), (1, 10, []), (1, 10, []), (1, 10, []), (1, 10, []), (1, 10, []), (0, 3, [L0.1 + 18 + 3, 1, 0]), (4, 10, [L0.1 + 19]), (2, 10, []), (2, 10, []), (2, 10, []), (2, 10, []), (2, 10, []), (2, 10, []), (2, 10, []), (2, 10, []), (2, 10, []), (2, 10, []), (0, 3, [L0.1 + 30 + 3, 1, 0]), (4, 10, [L0.1 + 31]), (2, 10, []), (2, 10, []), (2, 10, []), (2, 10, []), (2, 10, []), (2, 10, []), (2, 10, []), (2, 10, []), (2, 10, []), (2, 10, [])]) rfl ?_
  refine x_aload_n (pc := 89) C 0 dX5_init_89 rfl ?_
  refine x_bipush (pc := 90) C (v := (10 : Int32)) dX5_init_90 rfl ?_
  refine x_newI (pc := 92) C (N := 10) ⟨by decide, rfl, by decide⟩ ⟨Nat.le_of_ble_eq_true rfl, Nat.le_of_ble_eq_true rfl⟩ (z4 41 (by decide) (by decide)).1 dX5_init_92 ?_
  refine x_putf (pc := 94) C (i := 0) (k := 12) (ty := (.array .int)) rfl rfl ⟨Nat.le_of_ble_eq_true rfl, Nat.le_of_ble_eq_true rfl⟩ rfl wd_78 ⟨rfl, rfl⟩ dX5_init_94 (by decide +kernel) (fun q => ⟨rfl, rfl⟩) ?_
  refine x_ly (ly' := [(0, 4, [L0.1 + 1 + 3, L0.1 + 2 + 3, L0.1 + 3 + 3, L0.1 + 4 + 3, 0, 0, 0, L0.1 + 5 + 3, L0.1 + 16 + 3, 0, L0.1 + 17 + 3, L0.1 + 29 + 3, L0.1 + 41 + 3, 2]), (1, 8, []), (1, 10, []), (1, 10, []), (1, 10, []), (3, 10, [L0.1 + 6]), (1, 10, []), (1, 10, []), (1, 10, []), (1, 10, []), (1, 10, []), (1, 10, []), (1, 10, []), (1, 10, []), (1, 10, []), (1, 10, []), (1, 10, []), (0, 3, [L0.1 + 18 + 3, 1, 0]), (4, 10, [L0.1 + 19]), (2, 10, []), (2, 10, []), (2, 10, []), (2, 10, []), (2, 10, []), (2, 10, []), (2, 10, []), (2, 10, []), (2, 10, []), (2, 10, []), (0, 3, [L0.1 + 30 + 3, 1, 0]), (4, 10, [L0.1 + 31]), (2, 10, []), (2, 10, []), (2, 10, []), (2, 10, []), (2, 10, []), (2, 10, []), (2, 10, []), (2, 10, []), (2, 10, []), (2, 10, []), (1, 10, [])]) rfl ?_
  refine x_aload_n (pc := 97) C 0 dX5_init_97 rfl ?_
  refine x_bipush (pc := 98) C (v := (10 : Int32)) dX5_init_98 rfl ?_
  refine x_newJ (pc := 100) C (N := 10) ⟨by decide, rfl, by decide⟩ ⟨Nat.le_of_ble_eq_true rfl, Nat.le_of_ble_eq_true rfl⟩ (z4 42 (by decide) (by decide)).2 dX5_init_100 ?_
  refine x_putf (pc := 102) C (i := 0) (k := 13) (ty := (.array .long)) rfl rfl ⟨Nat.le_of_ble_eq_true rfl, Nat.le_of_ble_eq_true rfl⟩ rfl wd_79 ⟨rfl, rfl⟩ dX5_init_102 (by decide +kernel) (fun q => ⟨rfl, rfl⟩) ?_
  refine x_ly (ly' := [(0, 4, [L0.1 + 1 + 3, L0.1 + 2 + 3, L0.1 + 3 + 3, L0.1 + 4 + 3, 0, 0, 0, L0.1 + 5 + 3, L0.1 + 16 + 3, 0, L0.1 + 17 + 3, L0.1 + 29 + 3, L0.1 + 41 + 3, L0.1 + 42 + 3]), (1, 8, []), (1, 10, []), (1, 10, []), (1, 10, []), (3, 10, [L0.1 + 6]), (1, 10, []), (1, 10, []), (1, 10, []), (1, 10, []), (1, 10, []), (1, 10, []), (1, 10, []), (1, 10, []), (1, 10, []), (1, 10, []), (1, 10, []), (0, 3, [L0.1 + 18 + 3, 1, 0]), (4, 10, [L0.1 + 19]), (2, 10, []), (2, 10, []), (2, 10, []), (2, 10, []), (2, 10, []), (2, 10, []), (2, 10, []), (2, 10, []), (2, 10, []), (2, 10, []), (0, 3, [L0.1 + 30 + 3, 1, 0]), (4, 10, [L0.1 + 31]), (2, 10, []), (2, 10, []), (2, 10, []), (2, 10, []), (2, 10, []), (2, 10, []), (2, 10, []), (2, 10, []), (2, 10, []), (2, 10, []), (1, 10, []), (2, 10, [])]) rfl ?_
  refine x_iconst (pc := 105) C (v := (0 : Int32)) dX5_init_105 rfl ?_
  refine x_istore_n (pc := 106) C 1 [(1, .int 0), (0, .ref (b + (L0.1 + 0)))] dX5_init_106 rfl (Nat.le_of_ble_eq_true rfl) rfl rfl ?_
  refine x_ly (ly' := wl L0.1) rfl ?_
  refine x_fillA (B := 8) (pcE := 126) (pc0 := 107) C (o := L0.1 + 0) (oa := L0.1 + 1) (na := 8) (kf := 0) (lay_at (i := 0)) (lay_at (i := 1)) ⟨Nat.le_of_ble_eq_true rfl, Nat.le_of_ble_eq_true rfl⟩ rfl rfl wd_59 ⟨Nat.le_of_ble_eq_true rfl, Nat.le_of_ble_eq_true rfl⟩ rfl dX5_init_107 dX5_init_108 rfl dX5_init_110 rfl dX5_init_113 dX5_init_114 dX5_init_117 dX5_init_118 dX5_init_119 dX5_init_120 dX5_init_123 rfl ?_
  refine x_iconst (pc := 126) C (v := (0 : Int32)) dX5_init_126 rfl ?_
  refine x_istore_n (pc := 127) C 1 [(1, .int 0), (0, .ref (b + (L0.1 + 0)))] dX5_init_127 rfl (Nat.le_of_ble_eq_true rfl) rfl rfl ?_
  refine x_fillB (B := 10) (pcE := 148) (pc0 := 128) C (o := L0.1 + 0) (oa := L0.1 + 4) (na := 10) (kf := 3) (lay_at (i := 0)) (lay_at (i := 4)) ⟨Nat.le_of_ble_eq_true rfl, Nat.le_of_ble_eq_true rfl⟩ rfl rfl wd_62 ⟨Nat.le_of_ble_eq_true rfl, Nat.le_of_ble_eq_true rfl⟩ rfl dX5_init_128 dX5_init_129 rfl dX5_init_131 rfl dX5_init_134 dX5_init_135 dX5_init_138 dX5_init_139 dX5_init_141 dX5_init_142 dX5_init_145 rfl ?_
  exact x_vreturn (pc := 148) C dX5_init_148 rfl
