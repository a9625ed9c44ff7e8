section ZLL
variable {p : Program} {l : Launch} {e : Env} {s : State} {m : MethodId} {args : Array Value} {below : List Frame} {meth : Method} {c : Code} {cells slots : Nat} {Q : State → Prop} {G : zz_G} {L : Ly} {S : Sg} {ret : Option FieldType} {bs Ls k : Nat} {xs : Nat → Int32} {mn md : String}
set_option maxHeartbeats 2000000 in
/-- one call of the script -/
theorem law_one (C : CX p G s m args meth c cL_law ⟨RL, mn, md⟩ 4 ret) (hX : va_X bs Ls xs s s.heap) (hbl : bs < s.heap.size) (hk : k + 5 ≤ Ls) (hL : Ls ≤ 2560) (hGu : isGu L) (hMo : isMo L) (hR : cells ≤ room_1.cells ∧ slots ≤ room_1.slots) (hI : Inv S) (kk : ∀ S', Inv S' → X p l e room_1 s m args below meth c cells slots Q 4 G L s.heap.size S' 1076 [(3, .int (nI k)), (2, .ref (s.heap.size + 140)), (1, .ref (s.heap.size + 0)), (0, .ref bs)] []) : X p l e room_1 s m args below meth c cells slots Q 4 G L s.heap.size S 26 [(3, .int (nI k)), (2, .ref (s.heap.size + 140)), (1, .ref (s.heap.size + 0)), (0, .ref bs)] [] := by
  refine x_aload_n (pc := 26) C 3 dL_law_26 rfl ?_
  refine x_iload_n (pc := 27) C 0 dL_law_27 rfl ?_
  refine x_sld (pc := 28) C hX hbl (j := k) rfl ⟨by omega, hL⟩ dL_law_28 ?_
  refine x_bipush (pc := 29) C (v := (31 : Int32)) dL_law_29 rfl ?_
  refine x_iand (pc := 31) C dL_law_31 ?_
  obtain ⟨j, hj, ej⟩ := and31 (xs k)
  have go : X p l e room_1 s m args below meth c cells slots Q 4 G L s.heap.size S 32 [(3, .int (nI k)), (2, .ref (s.heap.size + 140)), (1, .ref (s.heap.size + 0)), (0, .ref bs)] [.int (xs k &&& 31)] := by
    match j, hj with
    | 0, _ => exact x_tabIn (pc := 32) C 176 (v := nI 0) (off := 144) dL_law_32 ej (by decide) (by decide) rfl rfl (lc_0 C hX hbl hk hL hGu hMo hR hI kk)
    | 1, _ => exact x_tabIn (pc := 32) C 199 (v := nI 1) (off := 167) dL_law_32 ej (by decide) (by decide) rfl rfl (lc_1 C hX hbl hk hL hGu hMo hR hI kk)
    | 2, _ => exact x_tabIn (pc := 32) C 212 (v := nI 2) (off := 180) dL_law_32 ej (by decide) (by decide) rfl rfl (lc_2 C hX hbl hk hL hGu hMo hR hI kk)
    | 3, _ => exact x_tabIn (pc := 32) C 245 (v := nI 3) (off := 213) dL_law_32 ej (by decide) (by decide) rfl rfl (lc_3 C hX hbl hk hL hGu hMo hR hI kk)
    | 4, _ => exact x_tabIn (pc := 32) C 278 (v := nI 4) (off := 246) dL_law_32 ej (by decide) (by decide) rfl rfl (lc_4 C hX hbl hk hL hGu hMo hR hI kk)
    | 5, _ => exact x_tabIn (pc := 32) C 311 (v := nI 5) (off := 279) dL_law_32 ej (by decide) (by decide) rfl rfl (lc_5 C hX hbl hk hL hGu hMo hR hI kk)
    | 6, _ => exact x_tabIn (pc := 32) C 344 (v := nI 6) (off := 312) dL_law_32 ej (by decide) (by decide) rfl rfl (lc_6 C hX hbl hk hL hGu hMo hR hI kk)
    | 7, _ => exact x_tabIn (pc := 32) C 387 (v := nI 7) (off := 355) dL_law_32 ej (by decide) (by decide) rfl rfl (lc_7 C hX hbl hk hL hGu hMo hR hI kk)
    | 8, _ => exact x_tabIn (pc := 32) C 410 (v := nI 8) (off := 378) dL_law_32 ej (by decide) (by decide) rfl rfl (lc_8 C hX hbl hk hL hGu hMo hR hI kk)
    | 9, _ => exact x_tabIn (pc := 32) C 433 (v := nI 9) (off := 401) dL_law_32 ej (by decide) (by decide) rfl rfl (lc_9 C hX hbl hk hL hGu hMo hR hI kk)
    | 10, _ => exact x_tabIn (pc := 32) C 476 (v := nI 10) (off := 444) dL_law_32 ej (by decide) (by decide) rfl rfl (lc_10 C hX hbl hk hL hGu hMo hR hI kk)
    | 11, _ => exact x_tabIn (pc := 32) C 519 (v := nI 11) (off := 487) dL_law_32 ej (by decide) (by decide) rfl rfl (lc_11 C hX hbl hk hL hGu hMo hR hI kk)
    | 12, _ => exact x_tabIn (pc := 32) C 542 (v := nI 12) (off := 510) dL_law_32 ej (by decide) (by decide) rfl rfl (lc_12 C hX hbl hk hL hGu hMo hR hI kk)
    | 13, _ => exact x_tabIn (pc := 32) C 575 (v := nI 13) (off := 543) dL_law_32 ej (by decide) (by decide) rfl rfl (lc_13 C hX hbl hk hL hGu hMo hR hI kk)
    | 14, _ => exact x_tabIn (pc := 32) C 599 (v := nI 14) (off := 567) dL_law_32 ej (by decide) (by decide) rfl rfl (lc_14 C hX hbl hk hL hGu hMo hR hI kk)
    | 15, _ => exact x_tabIn (pc := 32) C 643 (v := nI 15) (off := 611) dL_law_32 ej (by decide) (by decide) rfl rfl (lc_15 C hX hbl hk hL hGu hMo hR hI kk)
    | 16, _ => exact x_tabIn (pc := 32) C 656 (v := nI 16) (off := 624) dL_law_32 ej (by decide) (by decide) rfl rfl (lc_16 C hX hbl hk hL hGu hMo hR hI kk)
    | 17, _ => exact x_tabIn (pc := 32) C 689 (v := nI 17) (off := 657) dL_law_32 ej (by decide) (by decide) rfl rfl (lc_17 C hX hbl hk hL hGu hMo hR hI kk)
    | 18, _ => exact x_tabIn (pc := 32) C 702 (v := nI 18) (off := 670) dL_law_32 ej (by decide) (by decide) rfl rfl (lc_18 C hX hbl hk hL hGu hMo hR hI kk)
    | 19, _ => exact x_tabIn (pc := 32) C 755 (v := nI 19) (off := 723) dL_law_32 ej (by decide) (by decide) rfl rfl (lc_19 C hX hbl hk hL hGu hMo hR hI kk)
    | 20, _ => exact x_tabIn (pc := 32) C 808 (v := nI 20) (off := 776) dL_law_32 ej (by decide) (by decide) rfl rfl (lc_20 C hX hbl hk hL hGu hMo hR hI kk)
    | 21, _ => exact x_tabIn (pc := 32) C 841 (v := nI 21) (off := 809) dL_law_32 ej (by decide) (by decide) rfl rfl (lc_21 C hX hbl hk hL hGu hMo hR hI kk)
    | 22, _ => exact x_tabIn (pc := 32) C 864 (v := nI 22) (off := 832) dL_law_32 ej (by decide) (by decide) rfl rfl (lc_22 C hX hbl hk hL hGu hMo hR hI kk)
    | 23, _ => exact x_tabIn (pc := 32) C 888 (v := nI 23) (off := 856) dL_law_32 ej (by decide) (by decide) rfl rfl (lc_23 C hX hbl hk hL hGu hMo hR hI kk)
    | 24, _ => exact x_tabIn (pc := 32) C 912 (v := nI 24) (off := 880) dL_law_32 ej (by decide) (by decide) rfl rfl (lc_24 C hX hbl hk hL hGu hMo hR hI kk)
    | 25, _ => exact x_tabIn (pc := 32) C 935 (v := nI 25) (off := 903) dL_law_32 ej (by decide) (by decide) rfl rfl (lc_25 C hX hbl hk hL hGu hMo hR hI kk)
    | 26, _ => exact x_tabIn (pc := 32) C 958 (v := nI 26) (off := 926) dL_law_32 ej (by decide) (by decide) rfl rfl (lc_26 C hX hbl hk hL hGu hMo hR hI kk)
    | 27, _ => exact x_tabIn (pc := 32) C 971 (v := nI 27) (off := 939) dL_law_32 ej (by decide) (by decide) rfl rfl (lc_27 C hX hbl hk hL hGu hMo hR hI kk)
    | 28, _ => exact x_tabIn (pc := 32) C 984 (v := nI 28) (off := 952) dL_law_32 ej (by decide) (by decide) rfl rfl (lc_28 C hX hbl hk hL hGu hMo hR hI kk)
    | 29, _ => exact x_tabIn (pc := 32) C 1027 (v := nI 29) (off := 995) dL_law_32 ej (by decide) (by decide) rfl rfl (lc_29 C hX hbl hk hL hGu hMo hR hI kk)
    | 30, _ => exact x_tabIn (pc := 32) C 1040 (v := nI 30) (off := 1008) dL_law_32 ej (by decide) (by decide) rfl rfl (lc_30 C hX hbl hk hL hGu hMo hR hI kk)
    | 31, _ => exact x_tabIn (pc := 32) C 1053 (v := nI 31) (off := 1021) dL_law_32 ej (by decide) (by decide) rfl rfl (lc_31 C hX hbl hk hL hGu hMo hR hI kk)
    | j + 32, hj => exact absurd hj (by omega)
  exact go
/-- the law's loop -/
theorem law_loop (C : CX p G s m args meth c cL_law ⟨RL, mn, md⟩ 4 ret) (hX : va_X bs Ls xs s s.heap) (hbl : bs < s.heap.size) (hL : Ls ≤ 2560) (hGu : isGu L) (hMo : isMo L) (hR : cells ≤ room_1.cells ∧ slots ≤ room_1.slots) (hE : ∀ S, X p l e room_1 s m args below meth c cells slots Q 4 G L s.heap.size S 1083 [] [.int 1]) : ∀ n k S, Ls < k + 5 * n → k ≤ 2600 → Inv S → X p l e room_1 s m args below meth c cells slots Q 4 G L s.heap.size S 18 [(3, .int (nI k)), (2, .ref (s.heap.size + 140)), (1, .ref (s.heap.size + 0)), (0, .ref bs)] [] := by
  have cmp : ∀ k, k ≤ 2600 → (Int32.ofNat Ls - (5 : Int32) < nI k ↔ Ls < k + 5) := fun k hk => by
    rw [show Int32.ofNat Ls = I (Ls : Int) from rfl, show (5 : Int32) = I 5 from rfl, I_sub, show nI k = I (k : Int) from rfl, I_lt (by omega) (by omega)]
    omega
  have fin : ∀ k S, X p l e room_1 s m args below meth c cells slots Q 4 G L s.heap.size S 1082 [(3, .int (nI k)), (2, .ref (s.heap.size + 140)), (1, .ref (s.heap.size + 0)), (0, .ref bs)] [] := fun k S => by
    refine x_iconst (pc := 1082) C (v := (1 : Int32)) dL_law_1082 rfl ?_
    exact x_sub [] rfl (hE S)
  intro n
  induction n with
  | zero =>
    intro k S h1 h2 _
    refine x_iload_n (pc := 18) C 0 dL_law_18 rfl (x_aload_n (pc := 19) C 3 dL_law_19 rfl (x_slen (pc := 20) C hX hbl dL_law_20 (x_iconst (pc := 21) C (v := (5 : Int32)) dL_law_21 rfl (x_isub (pc := 22) C dL_law_22 ?_))))
    exact x_icmp_gt (pc := 23) C 1082 dL_law_23 rfl (fun _ => fin k S) (fun q => absurd ((cmp k h2).mpr (by omega)) q)
  | succ n ih =>
    intro k S h1 h2 hI
    refine x_iload_n (pc := 18) C 0 dL_law_18 rfl (x_aload_n (pc := 19) C 3 dL_law_19 rfl (x_slen (pc := 20) C hX hbl dL_law_20 (x_iconst (pc := 21) C (v := (5 : Int32)) dL_law_21 rfl (x_isub (pc := 22) C dL_law_22 ?_))))
    refine x_icmp_gt (pc := 23) C 1082 dL_law_23 rfl (fun _ => fin k S) (fun q => ?_)
    have hk : k + 5 ≤ Ls := by
      by_cases z : Ls < k + 5
      · exact absurd ((cmp k h2).mpr z) q
      · omega
    refine law_one C hX hbl hk hL hGu hMo hR hI fun S' hI' => ?_
    refine x_iinc (pc := 1076) C (w := (5 : Int32)) 0 [(3, .int (nI (k + 5))), (2, .ref (s.heap.size + 140)), (1, .ref (s.heap.size + 0)), (0, .ref bs)] dL_law_1076 rfl rfl (Nat.le_of_ble_eq_true rfl) (nI_add k 5).symm rfl ?_
    exact x_goto (pc := 1079) C 18 dL_law_1079 rfl (ih (k + 5) S' (by omega) (by omega) hI')
end ZLL
