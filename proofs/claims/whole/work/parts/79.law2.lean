section ZLC
variable {p : Program} {l : Launch} {e : Env} {s : State} {m : MethodId} {args : Array Value} {below : List Frame} {meth : Method} {c : Code} {cells slots : Nat} {Q : State → Prop} {G : zz_G} {L : Ly} {S : Sg} {ret : Option FieldType} {bs Ls k : Nat} {xs : Nat → Int32} {mn md : String}

set_option maxHeartbeats 2000000 in
/-- the call letter -/
theorem lc_0 (C : CX p G s m args meth c cL_law ⟨RL, mn, md⟩ 4 ret) (hX : va_X bs Ls xs s s.heap) (hbl : bs < s.heap.size) (hk : k + 5 ≤ Ls) (hL : Ls ≤ 2560) (hGu : isGu L) (hMo : isMo L) (hR : cells ≤ room_1.cells ∧ slots ≤ room_1.slots) (hI : Inv S) (kk : ∀ S', Inv S' → X p l e room_1 s m args below meth c cells slots Q 4 G L s.heap.size S' 1076 [(3, .int (nI k)), (2, .ref (s.heap.size + 140)), (1, .ref (s.heap.size + 0)), (0, .ref bs)] []) : X p l e room_1 s m args below meth c cells slots Q 4 G L s.heap.size S 176 [(3, .int (nI k)), (2, .ref (s.heap.size + 140)), (1, .ref (s.heap.size + 0)), (0, .ref bs)] [] := by
  have hI0 := hI
  obtain ⟨W, ok, hC, hM⟩ := hI
  obtain ⟨⟨r, S1⟩, h1, ⟨r2, S2⟩, h2, e, hI2⟩ := p_letter ok hC hM (xs (k + 1))
  have e9 : r2 = r := e
  subst e9
  have h2 : f_X7_letter (xs (k + 1)) S1 = some (r2, S2) := h2
  have hI2 : Inv S2 := hI2
  refine x_aload_n (pc := 176) C 2 dL_law_176 rfl ?_
  refine x_aload_n (pc := 177) C 3 dL_law_177 rfl ?_
  refine x_iload_n (pc := 178) C 0 dL_law_178 rfl ?_
  refine x_iconst (pc := 179) C (v := (1 : Int32)) dL_law_179 rfl ?_
  refine x_iadd (pc := 180) C dL_law_180 ?_
  refine x_sld (pc := 181) C hX hbl (j := k + 1) (nI_add k 1) ⟨by omega, hL⟩ dL_law_181 ?_
  refine x_callV1 (pc := 182) C (o := 0) [.int (xs (k + 1))] [] (c_X6_letter (xs (k + 1)) hGu S _ _ h1) cw_L_13 vi_X6_letter ⟨rfl, rfl, Nat.le_of_ble_eq_true rfl, Nat.le_of_ble_eq_true rfl⟩ hR hGu.1 ⟨rfl, rfl, rfl⟩ rfl ⟨rfl, Nat.le_of_ble_eq_true rfl⟩ dL_law_182 (fun _ => ?_)
  refine x_aload_n (pc := 185) C 1 dL_law_185 rfl ?_
  refine x_aload_n (pc := 186) C 3 dL_law_186 rfl ?_
  refine x_iload_n (pc := 187) C 0 dL_law_187 rfl ?_
  refine x_iconst (pc := 188) C (v := (1 : Int32)) dL_law_188 rfl ?_
  refine x_iadd (pc := 189) C dL_law_189 ?_
  refine x_sld (pc := 190) C hX hbl (j := k + 1) (nI_add k 1) ⟨by omega, hL⟩ dL_law_190 ?_
  refine x_callV1 (pc := 191) C (o := 140) [.int (xs (k + 1))] [.int r2] (c_X7_letter (xs (k + 1)) hMo S1 _ _ h2) cw_L_17 vi_X7_letter ⟨rfl, rfl, Nat.le_of_ble_eq_true rfl, Nat.le_of_ble_eq_true rfl⟩ hR hMo.1 ⟨rfl, rfl, rfl⟩ rfl ⟨rfl, Nat.le_of_ble_eq_true rfl⟩ dL_law_191 (fun _ => ?_)
  exact x_icmp_eq (pc := 194) C 1076 dL_law_194 rfl (fun _ => kk _ hI2) (fun q => absurd rfl q)
set_option maxHeartbeats 2000000 in
/-- the call guard -/
theorem lc_1 (C : CX p G s m args meth c cL_law ⟨RL, mn, md⟩ 4 ret) (hX : va_X bs Ls xs s s.heap) (hbl : bs < s.heap.size) (hk : k + 5 ≤ Ls) (hL : Ls ≤ 2560) (hGu : isGu L) (hMo : isMo L) (hR : cells ≤ room_1.cells ∧ slots ≤ room_1.slots) (hI : Inv S) (kk : ∀ S', Inv S' → X p l e room_1 s m args below meth c cells slots Q 4 G L s.heap.size S' 1076 [(3, .int (nI k)), (2, .ref (s.heap.size + 140)), (1, .ref (s.heap.size + 0)), (0, .ref bs)] []) : X p l e room_1 s m args below meth c cells slots Q 4 G L s.heap.size S 199 [(3, .int (nI k)), (2, .ref (s.heap.size + 140)), (1, .ref (s.heap.size + 0)), (0, .ref bs)] [] := by
  have hI0 := hI
  obtain ⟨W, ok, hC, hM⟩ := hI
  obtain ⟨⟨r, S1⟩, h1, ⟨r2, S2⟩, h2, e, hI2⟩ := p_guard ok hC hM
  have e9 : r2 = r := e
  subst e9
  have h2 : f_X7_guard S1 = some (r2, S2) := h2
  have hI2 : Inv S2 := hI2
  refine x_aload_n (pc := 199) C 2 dL_law_199 rfl ?_
  refine x_callV1 (pc := 200) C (o := 0) [] [] (c_X6_guard hGu S _ _ h1) cw_L_18 vi_X6_guard ⟨rfl, rfl, Nat.le_of_ble_eq_true rfl, Nat.le_of_ble_eq_true rfl⟩ hR hGu.1 ⟨rfl, rfl, rfl⟩ rfl ⟨rfl, Nat.le_of_ble_eq_true rfl⟩ dL_law_200 (fun _ => ?_)
  refine x_aload_n (pc := 203) C 1 dL_law_203 rfl ?_
  refine x_callV1 (pc := 204) C (o := 140) [] [.int r2] (c_X7_guard hMo S1 _ _ h2) cw_L_22 vi_X7_guard ⟨rfl, rfl, Nat.le_of_ble_eq_true rfl, Nat.le_of_ble_eq_true rfl⟩ hR hMo.1 ⟨rfl, rfl, rfl⟩ rfl ⟨rfl, Nat.le_of_ble_eq_true rfl⟩ dL_law_204 (fun _ => ?_)
  exact x_icmp_eq (pc := 207) C 1076 dL_law_207 rfl (fun _ => kk _ hI2) (fun q => absurd rfl q)
set_option maxHeartbeats 2000000 in
/-- the call person -/
theorem lc_2 (C : CX p G s m args meth c cL_law ⟨RL, mn, md⟩ 4 ret) (hX : va_X bs Ls xs s s.heap) (hbl : bs < s.heap.size) (hk : k + 5 ≤ Ls) (hL : Ls ≤ 2560) (hGu : isGu L) (hMo : isMo L) (hR : cells ≤ room_1.cells ∧ slots ≤ room_1.slots) (hI : Inv S) (kk : ∀ S', Inv S' → X p l e room_1 s m args below meth c cells slots Q 4 G L s.heap.size S' 1076 [(3, .int (nI k)), (2, .ref (s.heap.size + 140)), (1, .ref (s.heap.size + 0)), (0, .ref bs)] []) : X p l e room_1 s m args below meth c cells slots Q 4 G L s.heap.size S 212 [(3, .int (nI k)), (2, .ref (s.heap.size + 140)), (1, .ref (s.heap.size + 0)), (0, .ref bs)] [] := by
  have hI0 := hI
  obtain ⟨W, ok, hC, hM⟩ := hI
  obtain ⟨⟨r, S1⟩, h1, ⟨r2, S2⟩, h2, e, hI2⟩ := p_person ok hC hM (xs (k + 1)) (xs (k + 2))
  have e9 : r2 = r := e
  subst e9
  have h2 : f_X7_person (xs (k + 1)) (xs (k + 2)) S1 = some (r2, S2) := h2
  have hI2 : Inv S2 := hI2
  refine x_aload_n (pc := 212) C 2 dL_law_212 rfl ?_
  refine x_aload_n (pc := 213) C 3 dL_law_213 rfl ?_
  refine x_iload_n (pc := 214) C 0 dL_law_214 rfl ?_
  refine x_iconst (pc := 215) C (v := (1 : Int32)) dL_law_215 rfl ?_
  refine x_iadd (pc := 216) C dL_law_216 ?_
  refine x_sld (pc := 217) C hX hbl (j := k + 1) (nI_add k 1) ⟨by omega, hL⟩ dL_law_217 ?_
  refine x_aload_n (pc := 218) C 3 dL_law_218 rfl ?_
  refine x_iload_n (pc := 219) C 0 dL_law_219 rfl ?_
  refine x_iconst (pc := 220) C (v := (2 : Int32)) dL_law_220 rfl ?_
  refine x_iadd (pc := 221) C dL_law_221 ?_
  refine x_sld (pc := 222) C hX hbl (j := k + 2) (nI_add k 2) ⟨by omega, hL⟩ dL_law_222 ?_
  refine x_callV1 (pc := 223) C (o := 0) [.int (xs (k + 1)), .int (xs (k + 2))] [] (c_X6_person (xs (k + 1)) (xs (k + 2)) hGu S _ _ h1) cw_L_23 vi_X6_person ⟨rfl, rfl, Nat.le_of_ble_eq_true rfl, Nat.le_of_ble_eq_true rfl⟩ hR hGu.1 ⟨rfl, rfl, rfl⟩ rfl ⟨rfl, Nat.le_of_ble_eq_true rfl⟩ dL_law_223 (fun _ => ?_)
  refine x_aload_n (pc := 226) C 1 dL_law_226 rfl ?_
  refine x_aload_n (pc := 227) C 3 dL_law_227 rfl ?_
  refine x_iload_n (pc := 228) C 0 dL_law_228 rfl ?_
  refine x_iconst (pc := 229) C (v := (1 : Int32)) dL_law_229 rfl ?_
  refine x_iadd (pc := 230) C dL_law_230 ?_
  refine x_sld (pc := 231) C hX hbl (j := k + 1) (nI_add k 1) ⟨by omega, hL⟩ dL_law_231 ?_
  refine x_aload_n (pc := 232) C 3 dL_law_232 rfl ?_
  refine x_iload_n (pc := 233) C 0 dL_law_233 rfl ?_
  refine x_iconst (pc := 234) C (v := (2 : Int32)) dL_law_234 rfl ?_
  refine x_iadd (pc := 235) C dL_law_235 ?_
  refine x_sld (pc := 236) C hX hbl (j := k + 2) (nI_add k 2) ⟨by omega, hL⟩ dL_law_236 ?_
  refine x_callV1 (pc := 237) C (o := 140) [.int (xs (k + 1)), .int (xs (k + 2))] [.int r2] (c_X7_person (xs (k + 1)) (xs (k + 2)) hMo S1 _ _ h2) cw_L_27 vi_X7_person ⟨rfl, rfl, Nat.le_of_ble_eq_true rfl, Nat.le_of_ble_eq_true rfl⟩ hR hMo.1 ⟨rfl, rfl, rfl⟩ rfl ⟨rfl, Nat.le_of_ble_eq_true rfl⟩ dL_law_237 (fun _ => ?_)
  exact x_icmp_eq (pc := 240) C 1076 dL_law_240 rfl (fun _ => kk _ hI2) (fun q => absurd rfl q)
set_option maxHeartbeats 2000000 in
/-- the call variable -/
theorem lc_3 (C : CX p G s m args meth c cL_law ⟨RL, mn, md⟩ 4 ret) (hX : va_X bs Ls xs s s.heap) (hbl : bs < s.heap.size) (hk : k + 5 ≤ Ls) (hL : Ls ≤ 2560) (hGu : isGu L) (hMo : isMo L) (hR : cells ≤ room_1.cells ∧ slots ≤ room_1.slots) (hI : Inv S) (kk : ∀ S', Inv S' → X p l e room_1 s m args below meth c cells slots Q 4 G L s.heap.size S' 1076 [(3, .int (nI k)), (2, .ref (s.heap.size + 140)), (1, .ref (s.heap.size + 0)), (0, .ref bs)] []) : X p l e room_1 s m args below meth c cells slots Q 4 G L s.heap.size S 245 [(3, .int (nI k)), (2, .ref (s.heap.size + 140)), (1, .ref (s.heap.size + 0)), (0, .ref bs)] [] := by
  have hI0 := hI
  obtain ⟨W, ok, hC, hM⟩ := hI
  obtain ⟨⟨r, S1⟩, h1, ⟨r2, S2⟩, h2, e, hI2⟩ := p_variable ok hC hM (xs (k + 1)) (xs (k + 2))
  have e9 : r2 = r := e
  subst e9
  have h2 : f_X7_variable (xs (k + 1)) (xs (k + 2)) S1 = some (r2, S2) := h2
  have hI2 : Inv S2 := hI2
  refine x_aload_n (pc := 245) C 2 dL_law_245 rfl ?_
  refine x_aload_n (pc := 246) C 3 dL_law_246 rfl ?_
  refine x_iload_n (pc := 247) C 0 dL_law_247 rfl ?_
  refine x_iconst (pc := 248) C (v := (1 : Int32)) dL_law_248 rfl ?_
  refine x_iadd (pc := 249) C dL_law_249 ?_
  refine x_sld (pc := 250) C hX hbl (j := k + 1) (nI_add k 1) ⟨by omega, hL⟩ dL_law_250 ?_
  refine x_aload_n (pc := 251) C 3 dL_law_251 rfl ?_
  refine x_iload_n (pc := 252) C 0 dL_law_252 rfl ?_
  refine x_iconst (pc := 253) C (v := (2 : Int32)) dL_law_253 rfl ?_
  refine x_iadd (pc := 254) C dL_law_254 ?_
  refine x_sld (pc := 255) C hX hbl (j := k + 2) (nI_add k 2) ⟨by omega, hL⟩ dL_law_255 ?_
  refine x_callV1 (pc := 256) C (o := 0) [.int (xs (k + 1)), .int (xs (k + 2))] [] (c_X6_variable (xs (k + 1)) (xs (k + 2)) hGu S _ _ h1) cw_L_28 vi_X6_variable ⟨rfl, rfl, Nat.le_of_ble_eq_true rfl, Nat.le_of_ble_eq_true rfl⟩ hR hGu.1 ⟨rfl, rfl, rfl⟩ rfl ⟨rfl, Nat.le_of_ble_eq_true rfl⟩ dL_law_256 (fun _ => ?_)
  refine x_aload_n (pc := 259) C 1 dL_law_259 rfl ?_
  refine x_aload_n (pc := 260) C 3 dL_law_260 rfl ?_
  refine x_iload_n (pc := 261) C 0 dL_law_261 rfl ?_
  refine x_iconst (pc := 262) C (v := (1 : Int32)) dL_law_262 rfl ?_
  refine x_iadd (pc := 263) C dL_law_263 ?_
  refine x_sld (pc := 264) C hX hbl (j := k + 1) (nI_add k 1) ⟨by omega, hL⟩ dL_law_264 ?_
  refine x_aload_n (pc := 265) C 3 dL_law_265 rfl ?_
  refine x_iload_n (pc := 266) C 0 dL_law_266 rfl ?_
  refine x_iconst (pc := 267) C (v := (2 : Int32)) dL_law_267 rfl ?_
  refine x_iadd (pc := 268) C dL_law_268 ?_
  refine x_sld (pc := 269) C hX hbl (j := k + 2) (nI_add k 2) ⟨by omega, hL⟩ dL_law_269 ?_
  refine x_callV1 (pc := 270) C (o := 140) [.int (xs (k + 1)), .int (xs (k + 2))] [.int r2] (c_X7_variable (xs (k + 1)) (xs (k + 2)) hMo S1 _ _ h2) cw_L_31 vi_X7_variable ⟨rfl, rfl, Nat.le_of_ble_eq_true rfl, Nat.le_of_ble_eq_true rfl⟩ hR hMo.1 ⟨rfl, rfl, rfl⟩ rfl ⟨rfl, Nat.le_of_ble_eq_true rfl⟩ dL_law_270 (fun _ => ?_)
  exact x_icmp_eq (pc := 273) C 1076 dL_law_273 rfl (fun _ => kk _ hI2) (fun q => absurd rfl q)
set_option maxHeartbeats 2000000 in
/-- the call tells -/
theorem lc_4 (C : CX p G s m args meth c cL_law ⟨RL, mn, md⟩ 4 ret) (hX : va_X bs Ls xs s s.heap) (hbl : bs < s.heap.size) (hk : k + 5 ≤ Ls) (hL : Ls ≤ 2560) (hGu : isGu L) (hMo : isMo L) (hR : cells ≤ room_1.cells ∧ slots ≤ room_1.slots) (hI : Inv S) (kk : ∀ S', Inv S' → X p l e room_1 s m args below meth c cells slots Q 4 G L s.heap.size S' 1076 [(3, .int (nI k)), (2, .ref (s.heap.size + 140)), (1, .ref (s.heap.size + 0)), (0, .ref bs)] []) : X p l e room_1 s m args below meth c cells slots Q 4 G L s.heap.size S 278 [(3, .int (nI k)), (2, .ref (s.heap.size + 140)), (1, .ref (s.heap.size + 0)), (0, .ref bs)] [] := by
  have hI0 := hI
  obtain ⟨W, ok, hC, hM⟩ := hI
  obtain ⟨⟨r, S1⟩, h1, ⟨r2, S2⟩, h2, e, hI2⟩ := p_tells ok hC hM (xs (k + 1)) (xs (k + 2))
  have e9 : r2 = r := e
  subst e9
  have h2 : f_X7_tells (xs (k + 1)) (xs (k + 2)) S1 = some (r2, S2) := h2
  have hI2 : Inv S2 := hI2
  refine x_aload_n (pc := 278) C 2 dL_law_278 rfl ?_
  refine x_aload_n (pc := 279) C 3 dL_law_279 rfl ?_
  refine x_iload_n (pc := 280) C 0 dL_law_280 rfl ?_
  refine x_iconst (pc := 281) C (v := (1 : Int32)) dL_law_281 rfl ?_
  refine x_iadd (pc := 282) C dL_law_282 ?_
  refine x_sld (pc := 283) C hX hbl (j := k + 1) (nI_add k 1) ⟨by omega, hL⟩ dL_law_283 ?_
  refine x_aload_n (pc := 284) C 3 dL_law_284 rfl ?_
  refine x_iload_n (pc := 285) C 0 dL_law_285 rfl ?_
  refine x_iconst (pc := 286) C (v := (2 : Int32)) dL_law_286 rfl ?_
  refine x_iadd (pc := 287) C dL_law_287 ?_
  refine x_sld (pc := 288) C hX hbl (j := k + 2) (nI_add k 2) ⟨by omega, hL⟩ dL_law_288 ?_
  refine x_callV1 (pc := 289) C (o := 0) [.int (xs (k + 1)), .int (xs (k + 2))] [] (c_X6_tells (xs (k + 1)) (xs (k + 2)) hGu S _ _ h1) cw_L_32 vi_X6_tells ⟨rfl, rfl, Nat.le_of_ble_eq_true rfl, Nat.le_of_ble_eq_true rfl⟩ hR hGu.1 ⟨rfl, rfl, rfl⟩ rfl ⟨rfl, Nat.le_of_ble_eq_true rfl⟩ dL_law_289 (fun _ => ?_)
  refine x_aload_n (pc := 292) C 1 dL_law_292 rfl ?_
  refine x_aload_n (pc := 293) C 3 dL_law_293 rfl ?_
  refine x_iload_n (pc := 294) C 0 dL_law_294 rfl ?_
  refine x_iconst (pc := 295) C (v := (1 : Int32)) dL_law_295 rfl ?_
  refine x_iadd (pc := 296) C dL_law_296 ?_
  refine x_sld (pc := 297) C hX hbl (j := k + 1) (nI_add k 1) ⟨by omega, hL⟩ dL_law_297 ?_
  refine x_aload_n (pc := 298) C 3 dL_law_298 rfl ?_
  refine x_iload_n (pc := 299) C 0 dL_law_299 rfl ?_
  refine x_iconst (pc := 300) C (v := (2 : Int32)) dL_law_300 rfl ?_
  refine x_iadd (pc := 301) C dL_law_301 ?_
  refine x_sld (pc := 302) C hX hbl (j := k + 2) (nI_add k 2) ⟨by omega, hL⟩ dL_law_302 ?_
  refine x_callV1 (pc := 303) C (o := 140) [.int (xs (k + 1)), .int (xs (k + 2))] [.int r2] (c_X7_tells (xs (k + 1)) (xs (k + 2)) hMo S1 _ _ h2) cw_L_35 vi_X7_tells ⟨rfl, rfl, Nat.le_of_ble_eq_true rfl, Nat.le_of_ble_eq_true rfl⟩ hR hMo.1 ⟨rfl, rfl, rfl⟩ rfl ⟨rfl, Nat.le_of_ble_eq_true rfl⟩ dL_law_303 (fun _ => ?_)
  exact x_icmp_eq (pc := 306) C 1076 dL_law_306 rfl (fun _ => kk _ hI2) (fun q => absurd rfl q)
set_option maxHeartbeats 2000000 in
/-- the call changes -/
theorem lc_5 (C : CX p G s m args meth c cL_law ⟨RL, mn, md⟩ 4 ret) (hX : va_X bs Ls xs s s.heap) (hbl : bs < s.heap.size) (hk : k + 5 ≤ Ls) (hL : Ls ≤ 2560) (hGu : isGu L) (hMo : isMo L) (hR : cells ≤ room_1.cells ∧ slots ≤ room_1.slots) (hI : Inv S) (kk : ∀ S', Inv S' → X p l e room_1 s m args below meth c cells slots Q 4 G L s.heap.size S' 1076 [(3, .int (nI k)), (2, .ref (s.heap.size + 140)), (1, .ref (s.heap.size + 0)), (0, .ref bs)] []) : X p l e room_1 s m args below meth c cells slots Q 4 G L s.heap.size S 311 [(3, .int (nI k)), (2, .ref (s.heap.size + 140)), (1, .ref (s.heap.size + 0)), (0, .ref bs)] [] := by
  have hI0 := hI
  obtain ⟨W, ok, hC, hM⟩ := hI
  obtain ⟨⟨r, S1⟩, h1, ⟨r2, S2⟩, h2, e, hI2⟩ := p_changes ok hC hM (xs (k + 1)) (xs (k + 2))
  have e9 : r2 = r := e
  subst e9
  have h2 : f_X7_changes (xs (k + 1)) (xs (k + 2)) S1 = some (r2, S2) := h2
  have hI2 : Inv S2 := hI2
  refine x_aload_n (pc := 311) C 2 dL_law_311 rfl ?_
  refine x_aload_n (pc := 312) C 3 dL_law_312 rfl ?_
  refine x_iload_n (pc := 313) C 0 dL_law_313 rfl ?_
  refine x_iconst (pc := 314) C (v := (1 : Int32)) dL_law_314 rfl ?_
  refine x_iadd (pc := 315) C dL_law_315 ?_
  refine x_sld (pc := 316) C hX hbl (j := k + 1) (nI_add k 1) ⟨by omega, hL⟩ dL_law_316 ?_
  refine x_aload_n (pc := 317) C 3 dL_law_317 rfl ?_
  refine x_iload_n (pc := 318) C 0 dL_law_318 rfl ?_
  refine x_iconst (pc := 319) C (v := (2 : Int32)) dL_law_319 rfl ?_
  refine x_iadd (pc := 320) C dL_law_320 ?_
  refine x_sld (pc := 321) C hX hbl (j := k + 2) (nI_add k 2) ⟨by omega, hL⟩ dL_law_321 ?_
  refine x_callV1 (pc := 322) C (o := 0) [.int (xs (k + 1)), .int (xs (k + 2))] [] (c_X6_changes (xs (k + 1)) (xs (k + 2)) hGu S _ _ h1) cw_L_36 vi_X6_changes ⟨rfl, rfl, Nat.le_of_ble_eq_true rfl, Nat.le_of_ble_eq_true rfl⟩ hR hGu.1 ⟨rfl, rfl, rfl⟩ rfl ⟨rfl, Nat.le_of_ble_eq_true rfl⟩ dL_law_322 (fun _ => ?_)
  refine x_aload_n (pc := 325) C 1 dL_law_325 rfl ?_
  refine x_aload_n (pc := 326) C 3 dL_law_326 rfl ?_
  refine x_iload_n (pc := 327) C 0 dL_law_327 rfl ?_
  refine x_iconst (pc := 328) C (v := (1 : Int32)) dL_law_328 rfl ?_
  refine x_iadd (pc := 329) C dL_law_329 ?_
  refine x_sld (pc := 330) C hX hbl (j := k + 1) (nI_add k 1) ⟨by omega, hL⟩ dL_law_330 ?_
  refine x_aload_n (pc := 331) C 3 dL_law_331 rfl ?_
  refine x_iload_n (pc := 332) C 0 dL_law_332 rfl ?_
  refine x_iconst (pc := 333) C (v := (2 : Int32)) dL_law_333 rfl ?_
  refine x_iadd (pc := 334) C dL_law_334 ?_
  refine x_sld (pc := 335) C hX hbl (j := k + 2) (nI_add k 2) ⟨by omega, hL⟩ dL_law_335 ?_
  refine x_callV1 (pc := 336) C (o := 140) [.int (xs (k + 1)), .int (xs (k + 2))] [.int r2] (c_X7_changes (xs (k + 1)) (xs (k + 2)) hMo S1 _ _ h2) cw_L_39 vi_X7_changes ⟨rfl, rfl, Nat.le_of_ble_eq_true rfl, Nat.le_of_ble_eq_true rfl⟩ hR hMo.1 ⟨rfl, rfl, rfl⟩ rfl ⟨rfl, Nat.le_of_ble_eq_true rfl⟩ dL_law_336 (fun _ => ?_)
  exact x_icmp_eq (pc := 339) C 1076 dL_law_339 rfl (fun _ => kk _ hI2) (fun q => absurd rfl q)
set_option maxHeartbeats 2000000 in
/-- the call bounds -/
theorem lc_6 (C : CX p G s m args meth c cL_law ⟨RL, mn, md⟩ 4 ret) (hX : va_X bs Ls xs s s.heap) (hbl : bs < s.heap.size) (hk : k + 5 ≤ Ls) (hL : Ls ≤ 2560) (hGu : isGu L) (hMo : isMo L) (hR : cells ≤ room_1.cells ∧ slots ≤ room_1.slots) (hI : Inv S) (kk : ∀ S', Inv S' → X p l e room_1 s m args below meth c cells slots Q 4 G L s.heap.size S' 1076 [(3, .int (nI k)), (2, .ref (s.heap.size + 140)), (1, .ref (s.heap.size + 0)), (0, .ref bs)] []) : X p l e room_1 s m args below meth c cells slots Q 4 G L s.heap.size S 344 [(3, .int (nI k)), (2, .ref (s.heap.size + 140)), (1, .ref (s.heap.size + 0)), (0, .ref bs)] [] := by
  have hI0 := hI
  obtain ⟨W, ok, hC, hM⟩ := hI
  obtain ⟨⟨r, S1⟩, h1, ⟨r2, S2⟩, h2, e, hI2⟩ := p_bounds ok hC hM (xs (k + 1)) (xs (k + 2)) (xs (k + 3))
  have e9 : r2 = r := e
  subst e9
  have h2 : f_X7_bounds (xs (k + 1)) (xs (k + 2)) (xs (k + 3)) S1 = some (r2, S2) := h2
  have hI2 : Inv S2 := hI2
  refine x_aload_n (pc := 344) C 2 dL_law_344 rfl ?_
  refine x_aload_n (pc := 345) C 3 dL_law_345 rfl ?_
  refine x_iload_n (pc := 346) C 0 dL_law_346 rfl ?_
  refine x_iconst (pc := 347) C (v := (1 : Int32)) dL_law_347 rfl ?_
  refine x_iadd (pc := 348) C dL_law_348 ?_
  refine x_sld (pc := 349) C hX hbl (j := k + 1) (nI_add k 1) ⟨by omega, hL⟩ dL_law_349 ?_
  refine x_aload_n (pc := 350) C 3 dL_law_350 rfl ?_
  refine x_iload_n (pc := 351) C 0 dL_law_351 rfl ?_
  refine x_iconst (pc := 352) C (v := (2 : Int32)) dL_law_352 rfl ?_
  refine x_iadd (pc := 353) C dL_law_353 ?_
  refine x_sld (pc := 354) C hX hbl (j := k + 2) (nI_add k 2) ⟨by omega, hL⟩ dL_law_354 ?_
  refine x_aload_n (pc := 355) C 3 dL_law_355 rfl ?_
  refine x_iload_n (pc := 356) C 0 dL_law_356 rfl ?_
  refine x_iconst (pc := 357) C (v := (3 : Int32)) dL_law_357 rfl ?_
  refine x_iadd (pc := 358) C dL_law_358 ?_
  refine x_sld (pc := 359) C hX hbl (j := k + 3) (nI_add k 3) ⟨by omega, hL⟩ dL_law_359 ?_
  refine x_callV1 (pc := 360) C (o := 0) [.int (xs (k + 1)), .int (xs (k + 2)), .int (xs (k + 3))] [] (c_X6_bounds (xs (k + 1)) (xs (k + 2)) (xs (k + 3)) hGu S _ _ h1) cw_L_40 vi_X6_bounds ⟨rfl, rfl, Nat.le_of_ble_eq_true rfl, Nat.le_of_ble_eq_true rfl⟩ hR hGu.1 ⟨rfl, rfl, rfl⟩ rfl ⟨rfl, Nat.le_of_ble_eq_true rfl⟩ dL_law_360 (fun _ => ?_)
  refine x_aload_n (pc := 363) C 1 dL_law_363 rfl ?_
  refine x_aload_n (pc := 364) C 3 dL_law_364 rfl ?_
  refine x_iload_n (pc := 365) C 0 dL_law_365 rfl ?_
  refine x_iconst (pc := 366) C (v := (1 : Int32)) dL_law_366 rfl ?_
  refine x_iadd (pc := 367) C dL_law_367 ?_
  refine x_sld (pc := 368) C hX hbl (j := k + 1) (nI_add k 1) ⟨by omega, hL⟩ dL_law_368 ?_
  refine x_aload_n (pc := 369) C 3 dL_law_369 rfl ?_
  refine x_iload_n (pc := 370) C 0 dL_law_370 rfl ?_
  refine x_iconst (pc := 371) C (v := (2 : Int32)) dL_law_371 rfl ?_
  refine x_iadd (pc := 372) C dL_law_372 ?_
  refine x_sld (pc := 373) C hX hbl (j := k + 2) (nI_add k 2) ⟨by omega, hL⟩ dL_law_373 ?_
  refine x_aload_n (pc := 374) C 3 dL_law_374 rfl ?_
  refine x_iload_n (pc := 375) C 0 dL_law_375 rfl ?_
  refine x_iconst (pc := 376) C (v := (3 : Int32)) dL_law_376 rfl ?_
  refine x_iadd (pc := 377) C dL_law_377 ?_
  refine x_sld (pc := 378) C hX hbl (j := k + 3) (nI_add k 3) ⟨by omega, hL⟩ dL_law_378 ?_
  refine x_callV1 (pc := 379) C (o := 140) [.int (xs (k + 1)), .int (xs (k + 2)), .int (xs (k + 3))] [.int r2] (c_X7_bounds (xs (k + 1)) (xs (k + 2)) (xs (k + 3)) hMo S1 _ _ h2) cw_L_44 vi_X7_bounds ⟨rfl, rfl, Nat.le_of_ble_eq_true rfl, Nat.le_of_ble_eq_true rfl⟩ hR hMo.1 ⟨rfl, rfl, rfl⟩ rfl ⟨rfl, Nat.le_of_ble_eq_true rfl⟩ dL_law_379 (fun _ => ?_)
  exact x_icmp_eq (pc := 382) C 1076 dL_law_382 rfl (fun _ => kk _ hI2) (fun q => absurd rfl q)
set_option maxHeartbeats 2000000 in
/-- the call rule -/
theorem lc_7 (C : CX p G s m args meth c cL_law ⟨RL, mn, md⟩ 4 ret) (hX : va_X bs Ls xs s s.heap) (hbl : bs < s.heap.size) (hk : k + 5 ≤ Ls) (hL : Ls ≤ 2560) (hGu : isGu L) (hMo : isMo L) (hR : cells ≤ room_1.cells ∧ slots ≤ room_1.slots) (hI : Inv S) (kk : ∀ S', Inv S' → X p l e room_1 s m args below meth c cells slots Q 4 G L s.heap.size S' 1076 [(3, .int (nI k)), (2, .ref (s.heap.size + 140)), (1, .ref (s.heap.size + 0)), (0, .ref bs)] []) : X p l e room_1 s m args below meth c cells slots Q 4 G L s.heap.size S 387 [(3, .int (nI k)), (2, .ref (s.heap.size + 140)), (1, .ref (s.heap.size + 0)), (0, .ref bs)] [] := by
  have hI0 := hI
  obtain ⟨W, ok, hC, hM⟩ := hI
  obtain ⟨⟨r, S1⟩, h1, ⟨r2, S2⟩, h2, e, hI2⟩ := p_rule ok hC hM (xs (k + 1))
  have e9 : r2 = r := e
  subst e9
  have h2 : f_X7_rule (xs (k + 1)) S1 = some (r2, S2) := h2
  have hI2 : Inv S2 := hI2
  refine x_aload_n (pc := 387) C 2 dL_law_387 rfl ?_
  refine x_aload_n (pc := 388) C 3 dL_law_388 rfl ?_
  refine x_iload_n (pc := 389) C 0 dL_law_389 rfl ?_
  refine x_iconst (pc := 390) C (v := (1 : Int32)) dL_law_390 rfl ?_
  refine x_iadd (pc := 391) C dL_law_391 ?_
  refine x_sld (pc := 392) C hX hbl (j := k + 1) (nI_add k 1) ⟨by omega, hL⟩ dL_law_392 ?_
  refine x_callV1 (pc := 393) C (o := 0) [.int (xs (k + 1))] [] (c_X6_rule (xs (k + 1)) hGu S _ _ h1) cw_L_45 vi_X6_rule ⟨rfl, rfl, Nat.le_of_ble_eq_true rfl, Nat.le_of_ble_eq_true rfl⟩ hR hGu.1 ⟨rfl, rfl, rfl⟩ rfl ⟨rfl, Nat.le_of_ble_eq_true rfl⟩ dL_law_393 (fun _ => ?_)
  refine x_aload_n (pc := 396) C 1 dL_law_396 rfl ?_
  refine x_aload_n (pc := 397) C 3 dL_law_397 rfl ?_
  refine x_iload_n (pc := 398) C 0 dL_law_398 rfl ?_
  refine x_iconst (pc := 399) C (v := (1 : Int32)) dL_law_399 rfl ?_
  refine x_iadd (pc := 400) C dL_law_400 ?_
  refine x_sld (pc := 401) C hX hbl (j := k + 1) (nI_add k 1) ⟨by omega, hL⟩ dL_law_401 ?_
  refine x_callV1 (pc := 402) C (o := 140) [.int (xs (k + 1))] [.int r2] (c_X7_rule (xs (k + 1)) hMo S1 _ _ h2) cw_L_48 vi_X7_rule ⟨rfl, rfl, Nat.le_of_ble_eq_true rfl, Nat.le_of_ble_eq_true rfl⟩ hR hMo.1 ⟨rfl, rfl, rfl⟩ rfl ⟨rfl, Nat.le_of_ble_eq_true rfl⟩ dL_law_402 (fun _ => ?_)
  exact x_icmp_eq (pc := 405) C 1076 dL_law_405 rfl (fun _ => kk _ hI2) (fun q => absurd rfl q)
set_option maxHeartbeats 2000000 in
/-- the call limit -/
theorem lc_8 (C : CX p G s m args meth c cL_law ⟨RL, mn, md⟩ 4 ret) (hX : va_X bs Ls xs s s.heap) (hbl : bs < s.heap.size) (hk : k + 5 ≤ Ls) (hL : Ls ≤ 2560) (hGu : isGu L) (hMo : isMo L) (hR : cells ≤ room_1.cells ∧ slots ≤ room_1.slots) (hI : Inv S) (kk : ∀ S', Inv S' → X p l e room_1 s m args below meth c cells slots Q 4 G L s.heap.size S' 1076 [(3, .int (nI k)), (2, .ref (s.heap.size + 140)), (1, .ref (s.heap.size + 0)), (0, .ref bs)] []) : X p l e room_1 s m args below meth c cells slots Q 4 G L s.heap.size S 410 [(3, .int (nI k)), (2, .ref (s.heap.size + 140)), (1, .ref (s.heap.size + 0)), (0, .ref bs)] [] := by
  have hI0 := hI
  obtain ⟨W, ok, hC, hM⟩ := hI
  obtain ⟨⟨r, S1⟩, h1, ⟨r2, S2⟩, h2, e, hI2⟩ := p_limit ok hC hM (xs (k + 1))
  have e9 : r2 = r := e
  subst e9
  have h2 : f_X7_limit (xs (k + 1)) S1 = some (r2, S2) := h2
  have hI2 : Inv S2 := hI2
  refine x_aload_n (pc := 410) C 2 dL_law_410 rfl ?_
  refine x_aload_n (pc := 411) C 3 dL_law_411 rfl ?_
  refine x_iload_n (pc := 412) C 0 dL_law_412 rfl ?_
  refine x_iconst (pc := 413) C (v := (1 : Int32)) dL_law_413 rfl ?_
  refine x_iadd (pc := 414) C dL_law_414 ?_
  refine x_sld (pc := 415) C hX hbl (j := k + 1) (nI_add k 1) ⟨by omega, hL⟩ dL_law_415 ?_
  refine x_callV1 (pc := 416) C (o := 0) [.int (xs (k + 1))] [] (c_X6_limit (xs (k + 1)) hGu S _ _ h1) cw_L_49 vi_X6_limit ⟨rfl, rfl, Nat.le_of_ble_eq_true rfl, Nat.le_of_ble_eq_true rfl⟩ hR hGu.1 ⟨rfl, rfl, rfl⟩ rfl ⟨rfl, Nat.le_of_ble_eq_true rfl⟩ dL_law_416 (fun _ => ?_)
  refine x_aload_n (pc := 419) C 1 dL_law_419 rfl ?_
  refine x_aload_n (pc := 420) C 3 dL_law_420 rfl ?_
  refine x_iload_n (pc := 421) C 0 dL_law_421 rfl ?_
  refine x_iconst (pc := 422) C (v := (1 : Int32)) dL_law_422 rfl ?_
  refine x_iadd (pc := 423) C dL_law_423 ?_
  refine x_sld (pc := 424) C hX hbl (j := k + 1) (nI_add k 1) ⟨by omega, hL⟩ dL_law_424 ?_
  refine x_callV1 (pc := 425) C (o := 140) [.int (xs (k + 1))] [.int r2] (c_X7_limit (xs (k + 1)) hMo S1 _ _ h2) cw_L_52 vi_X7_limit ⟨rfl, rfl, Nat.le_of_ble_eq_true rfl, Nat.le_of_ble_eq_true rfl⟩ hR hMo.1 ⟨rfl, rfl, rfl⟩ rfl ⟨rfl, Nat.le_of_ble_eq_true rfl⟩ dL_law_425 (fun _ => ?_)
  exact x_icmp_eq (pc := 428) C 1076 dL_law_428 rfl (fun _ => kk _ hI2) (fun q => absurd rfl q)
set_option maxHeartbeats 2000000 in
/-- the call ask -/
theorem lc_9 (C : CX p G s m args meth c cL_law ⟨RL, mn, md⟩ 4 ret) (hX : va_X bs Ls xs s s.heap) (hbl : bs < s.heap.size) (hk : k + 5 ≤ Ls) (hL : Ls ≤ 2560) (hGu : isGu L) (hMo : isMo L) (hR : cells ≤ room_1.cells ∧ slots ≤ room_1.slots) (hI : Inv S) (kk : ∀ S', Inv S' → X p l e room_1 s m args below meth c cells slots Q 4 G L s.heap.size S' 1076 [(3, .int (nI k)), (2, .ref (s.heap.size + 140)), (1, .ref (s.heap.size + 0)), (0, .ref bs)] []) : X p l e room_1 s m args below meth c cells slots Q 4 G L s.heap.size S 433 [(3, .int (nI k)), (2, .ref (s.heap.size + 140)), (1, .ref (s.heap.size + 0)), (0, .ref bs)] [] := by
  have hI0 := hI
  obtain ⟨W, ok, hC, hM⟩ := hI
  obtain ⟨⟨r, S1⟩, h1, ⟨r2, S2⟩, h2, e, hI2⟩ := p_ask ok hC hM (xs (k + 1)) (xs (k + 2)) (xs (k + 3))
  have e9 : r2 = r := e
  subst e9
  have h2 : f_X7_ask (xs (k + 1)) (xs (k + 2)) (xs (k + 3)) S1 = some (r2, S2) := h2
  have hI2 : Inv S2 := hI2
  refine x_aload_n (pc := 433) C 2 dL_law_433 rfl ?_
  refine x_aload_n (pc := 434) C 3 dL_law_434 rfl ?_
  refine x_iload_n (pc := 435) C 0 dL_law_435 rfl ?_
  refine x_iconst (pc := 436) C (v := (1 : Int32)) dL_law_436 rfl ?_
  refine x_iadd (pc := 437) C dL_law_437 ?_
  refine x_sld (pc := 438) C hX hbl (j := k + 1) (nI_add k 1) ⟨by omega, hL⟩ dL_law_438 ?_
  refine x_aload_n (pc := 439) C 3 dL_law_439 rfl ?_
  refine x_iload_n (pc := 440) C 0 dL_law_440 rfl ?_
  refine x_iconst (pc := 441) C (v := (2 : Int32)) dL_law_441 rfl ?_
  refine x_iadd (pc := 442) C dL_law_442 ?_
  refine x_sld (pc := 443) C hX hbl (j := k + 2) (nI_add k 2) ⟨by omega, hL⟩ dL_law_443 ?_
  refine x_aload_n (pc := 444) C 3 dL_law_444 rfl ?_
  refine x_iload_n (pc := 445) C 0 dL_law_445 rfl ?_
  refine x_iconst (pc := 446) C (v := (3 : Int32)) dL_law_446 rfl ?_
  refine x_iadd (pc := 447) C dL_law_447 ?_
  refine x_sld (pc := 448) C hX hbl (j := k + 3) (nI_add k 3) ⟨by omega, hL⟩ dL_law_448 ?_
  refine x_callV1 (pc := 449) C (o := 0) [.int (xs (k + 1)), .int (xs (k + 2)), .int (xs (k + 3))] [] (c_X6_ask (xs (k + 1)) (xs (k + 2)) (xs (k + 3)) hGu S _ _ h1) cw_L_53 vi_X6_ask ⟨rfl, rfl, Nat.le_of_ble_eq_true rfl, Nat.le_of_ble_eq_true rfl⟩ hR hGu.1 ⟨rfl, rfl, rfl⟩ rfl ⟨rfl, Nat.le_of_ble_eq_true rfl⟩ dL_law_449 (fun _ => ?_)
  refine x_aload_n (pc := 452) C 1 dL_law_452 rfl ?_
  refine x_aload_n (pc := 453) C 3 dL_law_453 rfl ?_
  refine x_iload_n (pc := 454) C 0 dL_law_454 rfl ?_
  refine x_iconst (pc := 455) C (v := (1 : Int32)) dL_law_455 rfl ?_
  refine x_iadd (pc := 456) C dL_law_456 ?_
  refine x_sld (pc := 457) C hX hbl (j := k + 1) (nI_add k 1) ⟨by omega, hL⟩ dL_law_457 ?_
  refine x_aload_n (pc := 458) C 3 dL_law_458 rfl ?_
  refine x_iload_n (pc := 459) C 0 dL_law_459 rfl ?_
  refine x_iconst (pc := 460) C (v := (2 : Int32)) dL_law_460 rfl ?_
  refine x_iadd (pc := 461) C dL_law_461 ?_
  refine x_sld (pc := 462) C hX hbl (j := k + 2) (nI_add k 2) ⟨by omega, hL⟩ dL_law_462 ?_
  refine x_aload_n (pc := 463) C 3 dL_law_463 rfl ?_
  refine x_iload_n (pc := 464) C 0 dL_law_464 rfl ?_
  refine x_iconst (pc := 465) C (v := (3 : Int32)) dL_law_465 rfl ?_
  refine x_iadd (pc := 466) C dL_law_466 ?_
  refine x_sld (pc := 467) C hX hbl (j := k + 3) (nI_add k 3) ⟨by omega, hL⟩ dL_law_467 ?_
  refine x_callV1 (pc := 468) C (o := 140) [.int (xs (k + 1)), .int (xs (k + 2)), .int (xs (k + 3))] [.int r2] (c_X7_ask (xs (k + 1)) (xs (k + 2)) (xs (k + 3)) hMo S1 _ _ h2) cw_L_56 vi_X7_ask ⟨rfl, rfl, Nat.le_of_ble_eq_true rfl, Nat.le_of_ble_eq_true rfl⟩ hR hMo.1 ⟨rfl, rfl, rfl⟩ rfl ⟨rfl, Nat.le_of_ble_eq_true rfl⟩ dL_law_468 (fun _ => ?_)
  exact x_icmp_eq (pc := 471) C 1076 dL_law_471 rfl (fun _ => kk _ hI2) (fun q => absurd rfl q)
set_option maxHeartbeats 2000000 in
/-- the call would -/
theorem lc_10 (C : CX p G s m args meth c cL_law ⟨RL, mn, md⟩ 4 ret) (hX : va_X bs Ls xs s s.heap) (hbl : bs < s.heap.size) (hk : k + 5 ≤ Ls) (hL : Ls ≤ 2560) (hGu : isGu L) (hMo : isMo L) (hR : cells ≤ room_1.cells ∧ slots ≤ room_1.slots) (hI : Inv S) (kk : ∀ S', Inv S' → X p l e room_1 s m args below meth c cells slots Q 4 G L s.heap.size S' 1076 [(3, .int (nI k)), (2, .ref (s.heap.size + 140)), (1, .ref (s.heap.size + 0)), (0, .ref bs)] []) : X p l e room_1 s m args below meth c cells slots Q 4 G L s.heap.size S 476 [(3, .int (nI k)), (2, .ref (s.heap.size + 140)), (1, .ref (s.heap.size + 0)), (0, .ref bs)] [] := by
  have hI0 := hI
  obtain ⟨W, ok, hC, hM⟩ := hI
  obtain ⟨⟨r, S1⟩, h1, ⟨r2, S2⟩, h2, e, hI2⟩ := p_would ok hC hM (xs (k + 1)) (xs (k + 2)) (xs (k + 3))
  have e9 : r2 = r := e
  subst e9
  have h2 : f_X7_would (xs (k + 1)) (xs (k + 2)) (xs (k + 3)) S1 = some (r2, S2) := h2
  have hI2 : Inv S2 := hI2
  refine x_aload_n (pc := 476) C 2 dL_law_476 rfl ?_
  refine x_aload_n (pc := 477) C 3 dL_law_477 rfl ?_
  refine x_iload_n (pc := 478) C 0 dL_law_478 rfl ?_
  refine x_iconst (pc := 479) C (v := (1 : Int32)) dL_law_479 rfl ?_
  refine x_iadd (pc := 480) C dL_law_480 ?_
  refine x_sld (pc := 481) C hX hbl (j := k + 1) (nI_add k 1) ⟨by omega, hL⟩ dL_law_481 ?_
  refine x_aload_n (pc := 482) C 3 dL_law_482 rfl ?_
  refine x_iload_n (pc := 483) C 0 dL_law_483 rfl ?_
  refine x_iconst (pc := 484) C (v := (2 : Int32)) dL_law_484 rfl ?_
  refine x_iadd (pc := 485) C dL_law_485 ?_
  refine x_sld (pc := 486) C hX hbl (j := k + 2) (nI_add k 2) ⟨by omega, hL⟩ dL_law_486 ?_
  refine x_aload_n (pc := 487) C 3 dL_law_487 rfl ?_
  refine x_iload_n (pc := 488) C 0 dL_law_488 rfl ?_
  refine x_iconst (pc := 489) C (v := (3 : Int32)) dL_law_489 rfl ?_
  refine x_iadd (pc := 490) C dL_law_490 ?_
  refine x_sld (pc := 491) C hX hbl (j := k + 3) (nI_add k 3) ⟨by omega, hL⟩ dL_law_491 ?_
  refine x_callV1 (pc := 492) C (o := 0) [.int (xs (k + 1)), .int (xs (k + 2)), .int (xs (k + 3))] [] (c_X6_would (xs (k + 1)) (xs (k + 2)) (xs (k + 3)) hGu S _ _ h1) cw_L_57 vi_X6_would ⟨rfl, rfl, Nat.le_of_ble_eq_true rfl, Nat.le_of_ble_eq_true rfl⟩ hR hGu.1 ⟨rfl, rfl, rfl⟩ rfl ⟨rfl, Nat.le_of_ble_eq_true rfl⟩ dL_law_492 (fun _ => ?_)
  refine x_aload_n (pc := 495) C 1 dL_law_495 rfl ?_
  refine x_aload_n (pc := 496) C 3 dL_law_496 rfl ?_
  refine x_iload_n (pc := 497) C 0 dL_law_497 rfl ?_
  refine x_iconst (pc := 498) C (v := (1 : Int32)) dL_law_498 rfl ?_
  refine x_iadd (pc := 499) C dL_law_499 ?_
  refine x_sld (pc := 500) C hX hbl (j := k + 1) (nI_add k 1) ⟨by omega, hL⟩ dL_law_500 ?_
  refine x_aload_n (pc := 501) C 3 dL_law_501 rfl ?_
  refine x_iload_n (pc := 502) C 0 dL_law_502 rfl ?_
  refine x_iconst (pc := 503) C (v := (2 : Int32)) dL_law_503 rfl ?_
  refine x_iadd (pc := 504) C dL_law_504 ?_
  refine x_sld (pc := 505) C hX hbl (j := k + 2) (nI_add k 2) ⟨by omega, hL⟩ dL_law_505 ?_
  refine x_aload_n (pc := 506) C 3 dL_law_506 rfl ?_
  refine x_iload_n (pc := 507) C 0 dL_law_507 rfl ?_
  refine x_iconst (pc := 508) C (v := (3 : Int32)) dL_law_508 rfl ?_
  refine x_iadd (pc := 509) C dL_law_509 ?_
  refine x_sld (pc := 510) C hX hbl (j := k + 3) (nI_add k 3) ⟨by omega, hL⟩ dL_law_510 ?_
  refine x_callV1 (pc := 511) C (o := 140) [.int (xs (k + 1)), .int (xs (k + 2)), .int (xs (k + 3))] [.int r2] (c_X7_would (xs (k + 1)) (xs (k + 2)) (xs (k + 3)) hMo S1 _ _ h2) cw_L_60 vi_X7_would ⟨rfl, rfl, Nat.le_of_ble_eq_true rfl, Nat.le_of_ble_eq_true rfl⟩ hR hMo.1 ⟨rfl, rfl, rfl⟩ rfl ⟨rfl, Nat.le_of_ble_eq_true rfl⟩ dL_law_511 (fun _ => ?_)
  exact x_icmp_eq (pc := 514) C 1076 dL_law_514 rfl (fun _ => kk _ hI2) (fun q => absurd rfl q)
set_option maxHeartbeats 2000000 in
/-- the call sums -/
theorem lc_11 (C : CX p G s m args meth c cL_law ⟨RL, mn, md⟩ 4 ret) (hX : va_X bs Ls xs s s.heap) (hbl : bs < s.heap.size) (hk : k + 5 ≤ Ls) (hL : Ls ≤ 2560) (hGu : isGu L) (hMo : isMo L) (hR : cells ≤ room_1.cells ∧ slots ≤ room_1.slots) (hI : Inv S) (kk : ∀ S', Inv S' → X p l e room_1 s m args below meth c cells slots Q 4 G L s.heap.size S' 1076 [(3, .int (nI k)), (2, .ref (s.heap.size + 140)), (1, .ref (s.heap.size + 0)), (0, .ref bs)] []) : X p l e room_1 s m args below meth c cells slots Q 4 G L s.heap.size S 519 [(3, .int (nI k)), (2, .ref (s.heap.size + 140)), (1, .ref (s.heap.size + 0)), (0, .ref bs)] [] := by
  have hI0 := hI
  obtain ⟨W, ok, hC, hM⟩ := hI
  obtain ⟨⟨r, S1⟩, h1, ⟨r2, S2⟩, h2, e, hI2⟩ := p_sums ok hC hM (xs (k + 1))
  have e9 : r2 = r := e
  subst e9
  have h2 : f_X7_sums (xs (k + 1)) S1 = some (r2, S2) := h2
  have hI2 : Inv S2 := hI2
  refine x_aload_n (pc := 519) C 2 dL_law_519 rfl ?_
  refine x_aload_n (pc := 520) C 3 dL_law_520 rfl ?_
  refine x_iload_n (pc := 521) C 0 dL_law_521 rfl ?_
  refine x_iconst (pc := 522) C (v := (1 : Int32)) dL_law_522 rfl ?_
  refine x_iadd (pc := 523) C dL_law_523 ?_
  refine x_sld (pc := 524) C hX hbl (j := k + 1) (nI_add k 1) ⟨by omega, hL⟩ dL_law_524 ?_
  refine x_callV1 (pc := 525) C (o := 0) [.int (xs (k + 1))] [] (c_X6_sums (xs (k + 1)) hGu S _ _ h1) cw_L_61 vi_X6_sums ⟨rfl, rfl, Nat.le_of_ble_eq_true rfl, Nat.le_of_ble_eq_true rfl⟩ hR hGu.1 ⟨rfl, rfl, rfl⟩ rfl ⟨rfl, Nat.le_of_ble_eq_true rfl⟩ dL_law_525 (fun _ => ?_)
  refine x_aload_n (pc := 528) C 1 dL_law_528 rfl ?_
  refine x_aload_n (pc := 529) C 3 dL_law_529 rfl ?_
  refine x_iload_n (pc := 530) C 0 dL_law_530 rfl ?_
  refine x_iconst (pc := 531) C (v := (1 : Int32)) dL_law_531 rfl ?_
  refine x_iadd (pc := 532) C dL_law_532 ?_
  refine x_sld (pc := 533) C hX hbl (j := k + 1) (nI_add k 1) ⟨by omega, hL⟩ dL_law_533 ?_
  refine x_callV1 (pc := 534) C (o := 140) [.int (xs (k + 1))] [.int r2] (c_X7_sums (xs (k + 1)) hMo S1 _ _ h2) cw_L_64 vi_X7_sums ⟨rfl, rfl, Nat.le_of_ble_eq_true rfl, Nat.le_of_ble_eq_true rfl⟩ hR hMo.1 ⟨rfl, rfl, rfl⟩ rfl ⟨rfl, Nat.le_of_ble_eq_true rfl⟩ dL_law_534 (fun _ => ?_)
  exact x_icmp_eq (pc := 537) C 1076 dL_law_537 rfl (fun _ => kk _ hI2) (fun q => absurd rfl q)
set_option maxHeartbeats 2000000 in
/-- the call ledger -/
theorem lc_12 (C : CX p G s m args meth c cL_law ⟨RL, mn, md⟩ 4 ret) (hX : va_X bs Ls xs s s.heap) (hbl : bs < s.heap.size) (hk : k + 5 ≤ Ls) (hL : Ls ≤ 2560) (hGu : isGu L) (hMo : isMo L) (hR : cells ≤ room_1.cells ∧ slots ≤ room_1.slots) (hI : Inv S) (kk : ∀ S', Inv S' → X p l e room_1 s m args below meth c cells slots Q 4 G L s.heap.size S' 1076 [(3, .int (nI k)), (2, .ref (s.heap.size + 140)), (1, .ref (s.heap.size + 0)), (0, .ref bs)] []) : X p l e room_1 s m args below meth c cells slots Q 4 G L s.heap.size S 542 [(3, .int (nI k)), (2, .ref (s.heap.size + 140)), (1, .ref (s.heap.size + 0)), (0, .ref bs)] [] := by
  have hI0 := hI
  obtain ⟨W, ok, hC, hM⟩ := hI
  obtain ⟨⟨r, S1⟩, h1, ⟨r2, S2⟩, h2, e, hI2⟩ := p_ledger ok hC hM (xs (k + 1)) (xs (k + 2))
  have e9 : r2 = r := e
  subst e9
  have h2 : f_X7_ledger (xs (k + 1)) (xs (k + 2)) S1 = some (r2, S2) := h2
  have hI2 : Inv S2 := hI2
  refine x_aload_n (pc := 542) C 2 dL_law_542 rfl ?_
  refine x_aload_n (pc := 543) C 3 dL_law_543 rfl ?_
  refine x_iload_n (pc := 544) C 0 dL_law_544 rfl ?_
  refine x_iconst (pc := 545) C (v := (1 : Int32)) dL_law_545 rfl ?_
  refine x_iadd (pc := 546) C dL_law_546 ?_
  refine x_sld (pc := 547) C hX hbl (j := k + 1) (nI_add k 1) ⟨by omega, hL⟩ dL_law_547 ?_
  refine x_aload_n (pc := 548) C 3 dL_law_548 rfl ?_
  refine x_iload_n (pc := 549) C 0 dL_law_549 rfl ?_
  refine x_iconst (pc := 550) C (v := (2 : Int32)) dL_law_550 rfl ?_
  refine x_iadd (pc := 551) C dL_law_551 ?_
  refine x_sld (pc := 552) C hX hbl (j := k + 2) (nI_add k 2) ⟨by omega, hL⟩ dL_law_552 ?_
  refine x_callV1 (pc := 553) C (o := 0) [.int (xs (k + 1)), .int (xs (k + 2))] [] (c_X6_ledger (xs (k + 1)) (xs (k + 2)) hGu S _ _ h1) cw_L_65 vi_X6_ledger ⟨rfl, rfl, Nat.le_of_ble_eq_true rfl, Nat.le_of_ble_eq_true rfl⟩ hR hGu.1 ⟨rfl, rfl, rfl⟩ rfl ⟨rfl, Nat.le_of_ble_eq_true rfl⟩ dL_law_553 (fun _ => ?_)
  refine x_aload_n (pc := 556) C 1 dL_law_556 rfl ?_
  refine x_aload_n (pc := 557) C 3 dL_law_557 rfl ?_
  refine x_iload_n (pc := 558) C 0 dL_law_558 rfl ?_
  refine x_iconst (pc := 559) C (v := (1 : Int32)) dL_law_559 rfl ?_
  refine x_iadd (pc := 560) C dL_law_560 ?_
  refine x_sld (pc := 561) C hX hbl (j := k + 1) (nI_add k 1) ⟨by omega, hL⟩ dL_law_561 ?_
  refine x_aload_n (pc := 562) C 3 dL_law_562 rfl ?_
  refine x_iload_n (pc := 563) C 0 dL_law_563 rfl ?_
  refine x_iconst (pc := 564) C (v := (2 : Int32)) dL_law_564 rfl ?_
  refine x_iadd (pc := 565) C dL_law_565 ?_
  refine x_sld (pc := 566) C hX hbl (j := k + 2) (nI_add k 2) ⟨by omega, hL⟩ dL_law_566 ?_
  refine x_callV1 (pc := 567) C (o := 140) [.int (xs (k + 1)), .int (xs (k + 2))] [.int r2] (c_X7_ledger (xs (k + 1)) (xs (k + 2)) hMo S1 _ _ h2) cw_L_68 vi_X7_ledger ⟨rfl, rfl, Nat.le_of_ble_eq_true rfl, Nat.le_of_ble_eq_true rfl⟩ hR hMo.1 ⟨rfl, rfl, rfl⟩ rfl ⟨rfl, Nat.le_of_ble_eq_true rfl⟩ dL_law_567 (fun _ => ?_)
  exact x_icmp_eq (pc := 570) C 1076 dL_law_570 rfl (fun _ => kk _ hI2) (fun q => absurd rfl q)
set_option maxHeartbeats 2000000 in
/-- the call answer -/
theorem lc_13 (C : CX p G s m args meth c cL_law ⟨RL, mn, md⟩ 4 ret) (hX : va_X bs Ls xs s s.heap) (hbl : bs < s.heap.size) (hk : k + 5 ≤ Ls) (hL : Ls ≤ 2560) (hGu : isGu L) (hMo : isMo L) (hR : cells ≤ room_1.cells ∧ slots ≤ room_1.slots) (hI : Inv S) (kk : ∀ S', Inv S' → X p l e room_1 s m args below meth c cells slots Q 4 G L s.heap.size S' 1076 [(3, .int (nI k)), (2, .ref (s.heap.size + 140)), (1, .ref (s.heap.size + 0)), (0, .ref bs)] []) : X p l e room_1 s m args below meth c cells slots Q 4 G L s.heap.size S 575 [(3, .int (nI k)), (2, .ref (s.heap.size + 140)), (1, .ref (s.heap.size + 0)), (0, .ref bs)] [] := by
  have hI0 := hI
  obtain ⟨W, ok, hC, hM⟩ := hI
  obtain ⟨⟨r, S1⟩, h1, ⟨r2, S2⟩, h2, e, hI2⟩ := p_answer ok hC hM (xs (k + 1))
  have e9 : r2 = r := e
  subst e9
  have h2 : f_X7_answer (xs (k + 1)) S1 = some (r2, S2) := h2
  have hI2 : Inv S2 := hI2
  refine x_aload_n (pc := 575) C 2 dL_law_575 rfl ?_
  refine x_aload_n (pc := 576) C 3 dL_law_576 rfl ?_
  refine x_iload_n (pc := 577) C 0 dL_law_577 rfl ?_
  refine x_iconst (pc := 578) C (v := (1 : Int32)) dL_law_578 rfl ?_
  refine x_iadd (pc := 579) C dL_law_579 ?_
  refine x_sld (pc := 580) C hX hbl (j := k + 1) (nI_add k 1) ⟨by omega, hL⟩ dL_law_580 ?_
  refine x_callV1 (pc := 581) C (o := 0) [.int (xs (k + 1))] [] (c_X6_answer (xs (k + 1)) hGu S _ _ h1) cw_L_69 vi_X6_answer ⟨rfl, rfl, Nat.le_of_ble_eq_true rfl, Nat.le_of_ble_eq_true rfl⟩ hR hGu.1 ⟨rfl, rfl, rfl⟩ rfl ⟨rfl, Nat.le_of_ble_eq_true rfl⟩ dL_law_581 (fun _ => ?_)
  refine x_aload_n (pc := 584) C 1 dL_law_584 rfl ?_
  refine x_aload_n (pc := 585) C 3 dL_law_585 rfl ?_
  refine x_iload_n (pc := 586) C 0 dL_law_586 rfl ?_
  refine x_iconst (pc := 587) C (v := (1 : Int32)) dL_law_587 rfl ?_
  refine x_iadd (pc := 588) C dL_law_588 ?_
  refine x_sld (pc := 589) C hX hbl (j := k + 1) (nI_add k 1) ⟨by omega, hL⟩ dL_law_589 ?_
  refine x_callV1 (pc := 590) C (o := 140) [.int (xs (k + 1))] [.long r2] (c_X7_answer (xs (k + 1)) hMo S1 _ _ h2) cw_L_73 vi_X7_answer ⟨rfl, rfl, Nat.le_of_ble_eq_true rfl, Nat.le_of_ble_eq_true rfl⟩ hR hMo.1 ⟨rfl, rfl, rfl⟩ rfl ⟨rfl, Nat.le_of_ble_eq_true rfl⟩ dL_law_590 (fun _ => ?_)
  exact x_lcmp_eq (pc := 593) C 1076 dL_law_593 dL_law_594 rfl (fun _ => kk _ hI2) (fun q => absurd rfl q)
set_option maxHeartbeats 2000000 in
/-- the call reduced -/
theorem lc_14 (C : CX p G s m args meth c cL_law ⟨RL, mn, md⟩ 4 ret) (hX : va_X bs Ls xs s s.heap) (hbl : bs < s.heap.size) (hk : k + 5 ≤ Ls) (hL : Ls ≤ 2560) (hGu : isGu L) (hMo : isMo L) (hR : cells ≤ room_1.cells ∧ slots ≤ room_1.slots) (hI : Inv S) (kk : ∀ S', Inv S' → X p l e room_1 s m args below meth c cells slots Q 4 G L s.heap.size S' 1076 [(3, .int (nI k)), (2, .ref (s.heap.size + 140)), (1, .ref (s.heap.size + 0)), (0, .ref bs)] []) : X p l e room_1 s m args below meth c cells slots Q 4 G L s.heap.size S 599 [(3, .int (nI k)), (2, .ref (s.heap.size + 140)), (1, .ref (s.heap.size + 0)), (0, .ref bs)] [] := by
  have hI0 := hI
  obtain ⟨W, ok, hC, hM⟩ := hI
  obtain ⟨⟨r, S1⟩, h1, ⟨r2, S2⟩, h2, e, hI2⟩ := p_reduced ok hC hM (xs (k + 1)) (xs (k + 2)) (xs (k + 3))
  have e9 : r2 = r := e
  subst e9
  have h2 : f_X7_reduced (xs (k + 1)) (xs (k + 2)) (xs (k + 3)) S1 = some (r2, S2) := h2
  have hI2 : Inv S2 := hI2
  refine x_aload_n (pc := 599) C 2 dL_law_599 rfl ?_
  refine x_aload_n (pc := 600) C 3 dL_law_600 rfl ?_
  refine x_iload_n (pc := 601) C 0 dL_law_601 rfl ?_
  refine x_iconst (pc := 602) C (v := (1 : Int32)) dL_law_602 rfl ?_
  refine x_iadd (pc := 603) C dL_law_603 ?_
  refine x_sld (pc := 604) C hX hbl (j := k + 1) (nI_add k 1) ⟨by omega, hL⟩ dL_law_604 ?_
  refine x_aload_n (pc := 605) C 3 dL_law_605 rfl ?_
  refine x_iload_n (pc := 606) C 0 dL_law_606 rfl ?_
  refine x_iconst (pc := 607) C (v := (2 : Int32)) dL_law_607 rfl ?_
  refine x_iadd (pc := 608) C dL_law_608 ?_
  refine x_sld (pc := 609) C hX hbl (j := k + 2) (nI_add k 2) ⟨by omega, hL⟩ dL_law_609 ?_
  refine x_aload_n (pc := 610) C 3 dL_law_610 rfl ?_
  refine x_iload_n (pc := 611) C 0 dL_law_611 rfl ?_
  refine x_iconst (pc := 612) C (v := (3 : Int32)) dL_law_612 rfl ?_
  refine x_iadd (pc := 613) C dL_law_613 ?_
  refine x_sld (pc := 614) C hX hbl (j := k + 3) (nI_add k 3) ⟨by omega, hL⟩ dL_law_614 ?_
  refine x_callV1 (pc := 615) C (o := 0) [.int (xs (k + 1)), .int (xs (k + 2)), .int (xs (k + 3))] [] (c_X6_reduced (xs (k + 1)) (xs (k + 2)) (xs (k + 3)) hGu S _ _ h1) cw_L_74 vi_X6_reduced ⟨rfl, rfl, Nat.le_of_ble_eq_true rfl, Nat.le_of_ble_eq_true rfl⟩ hR hGu.1 ⟨rfl, rfl, rfl⟩ rfl ⟨rfl, Nat.le_of_ble_eq_true rfl⟩ dL_law_615 (fun _ => ?_)
  refine x_aload_n (pc := 618) C 1 dL_law_618 rfl ?_
  refine x_aload_n (pc := 619) C 3 dL_law_619 rfl ?_
  refine x_iload_n (pc := 620) C 0 dL_law_620 rfl ?_
  refine x_iconst (pc := 621) C (v := (1 : Int32)) dL_law_621 rfl ?_
  refine x_iadd (pc := 622) C dL_law_622 ?_
  refine x_sld (pc := 623) C hX hbl (j := k + 1) (nI_add k 1) ⟨by omega, hL⟩ dL_law_623 ?_
  refine x_aload_n (pc := 624) C 3 dL_law_624 rfl ?_
  refine x_iload_n (pc := 625) C 0 dL_law_625 rfl ?_
  refine x_iconst (pc := 626) C (v := (2 : Int32)) dL_law_626 rfl ?_
  refine x_iadd (pc := 627) C dL_law_627 ?_
  refine x_sld (pc := 628) C hX hbl (j := k + 2) (nI_add k 2) ⟨by omega, hL⟩ dL_law_628 ?_
  refine x_aload_n (pc := 629) C 3 dL_law_629 rfl ?_
  refine x_iload_n (pc := 630) C 0 dL_law_630 rfl ?_
  refine x_iconst (pc := 631) C (v := (3 : Int32)) dL_law_631 rfl ?_
  refine x_iadd (pc := 632) C dL_law_632 ?_
  refine x_sld (pc := 633) C hX hbl (j := k + 3) (nI_add k 3) ⟨by omega, hL⟩ dL_law_633 ?_
  refine x_callV1 (pc := 634) C (o := 140) [.int (xs (k + 1)), .int (xs (k + 2)), .int (xs (k + 3))] [.long r2] (c_X7_reduced (xs (k + 1)) (xs (k + 2)) (xs (k + 3)) hMo S1 _ _ h2) cw_L_78 vi_X7_reduced ⟨rfl, rfl, Nat.le_of_ble_eq_true rfl, Nat.le_of_ble_eq_true rfl⟩ hR hMo.1 ⟨rfl, rfl, rfl⟩ rfl ⟨rfl, Nat.le_of_ble_eq_true rfl⟩ dL_law_634 (fun _ => ?_)
  exact x_lcmp_eq (pc := 637) C 1076 dL_law_637 dL_law_638 rfl (fun _ => kk _ hI2) (fun q => absurd rfl q)
set_option maxHeartbeats 2000000 in
/-- the call pivots -/
theorem lc_15 (C : CX p G s m args meth c cL_law ⟨RL, mn, md⟩ 4 ret) (hX : va_X bs Ls xs s s.heap) (hbl : bs < s.heap.size) (hk : k + 5 ≤ Ls) (hL : Ls ≤ 2560) (hGu : isGu L) (hMo : isMo L) (hR : cells ≤ room_1.cells ∧ slots ≤ room_1.slots) (hI : Inv S) (kk : ∀ S', Inv S' → X p l e room_1 s m args below meth c cells slots Q 4 G L s.heap.size S' 1076 [(3, .int (nI k)), (2, .ref (s.heap.size + 140)), (1, .ref (s.heap.size + 0)), (0, .ref bs)] []) : X p l e room_1 s m args below meth c cells slots Q 4 G L s.heap.size S 643 [(3, .int (nI k)), (2, .ref (s.heap.size + 140)), (1, .ref (s.heap.size + 0)), (0, .ref bs)] [] := by
  have hI0 := hI
  obtain ⟨W, ok, hC, hM⟩ := hI
  obtain ⟨z, h1, ⟨r2, S2⟩, h2, e, hI2⟩ := p_pivots ok hC hM
  have h1 := Option.some.inj h1
  subst h1
  have e9 : r2 = f_X6_pivots S := e
  have h2 : f_X7_pivots S = some (r2, S2) := h2
  subst e9
  have hI2 : Inv S2 := hI2
  refine x_aload_n (pc := 643) C 2 dL_law_643 rfl ?_
  refine x_callV1 (pc := 644) C (o := 0) [] [] (c_X6_pivots hGu S) cw_L_79 vi_X6_pivots ⟨rfl, rfl, Nat.le_of_ble_eq_true rfl, Nat.le_of_ble_eq_true rfl⟩ hR hGu.1 ⟨rfl, rfl, rfl⟩ rfl ⟨rfl, Nat.le_of_ble_eq_true rfl⟩ dL_law_644 (fun _ => ?_)
  refine x_aload_n (pc := 647) C 1 dL_law_647 rfl ?_
  refine x_callV1 (pc := 648) C (o := 140) [] [.int (f_X6_pivots S)] (c_X7_pivots hMo S _ _ h2) cw_L_82 vi_X7_pivots ⟨rfl, rfl, Nat.le_of_ble_eq_true rfl, Nat.le_of_ble_eq_true rfl⟩ hR hMo.1 ⟨rfl, rfl, rfl⟩ rfl ⟨rfl, Nat.le_of_ble_eq_true rfl⟩ dL_law_648 (fun _ => ?_)
  exact x_icmp_eq (pc := 651) C 1076 dL_law_651 rfl (fun _ => kk _ hI2) (fun q => absurd rfl q)
set_option maxHeartbeats 2000000 in
/-- the call attack -/
theorem lc_16 (C : CX p G s m args meth c cL_law ⟨RL, mn, md⟩ 4 ret) (hX : va_X bs Ls xs s s.heap) (hbl : bs < s.heap.size) (hk : k + 5 ≤ Ls) (hL : Ls ≤ 2560) (hGu : isGu L) (hMo : isMo L) (hR : cells ≤ room_1.cells ∧ slots ≤ room_1.slots) (hI : Inv S) (kk : ∀ S', Inv S' → X p l e room_1 s m args below meth c cells slots Q 4 G L s.heap.size S' 1076 [(3, .int (nI k)), (2, .ref (s.heap.size + 140)), (1, .ref (s.heap.size + 0)), (0, .ref bs)] []) : X p l e room_1 s m args below meth c cells slots Q 4 G L s.heap.size S 656 [(3, .int (nI k)), (2, .ref (s.heap.size + 140)), (1, .ref (s.heap.size + 0)), (0, .ref bs)] [] := by
  have hI0 := hI
  obtain ⟨W, ok, hC, hM⟩ := hI
  obtain ⟨⟨r, S1⟩, h1, ⟨r2, S2⟩, h2, e, hI2⟩ := p_attack ok hC hM (xs (k + 1)) (xs (k + 2))
  have e9 : r2 = r := e
  subst e9
  have h2 : f_X7_attack (xs (k + 1)) (xs (k + 2)) S1 = some (r2, S2) := h2
  have hI2 : Inv S2 := hI2
  refine x_aload_n (pc := 656) C 2 dL_law_656 rfl ?_
  refine x_aload_n (pc := 657) C 3 dL_law_657 rfl ?_
  refine x_iload_n (pc := 658) C 0 dL_law_658 rfl ?_
  refine x_iconst (pc := 659) C (v := (1 : Int32)) dL_law_659 rfl ?_
  refine x_iadd (pc := 660) C dL_law_660 ?_
  refine x_sld (pc := 661) C hX hbl (j := k + 1) (nI_add k 1) ⟨by omega, hL⟩ dL_law_661 ?_
  refine x_aload_n (pc := 662) C 3 dL_law_662 rfl ?_
  refine x_iload_n (pc := 663) C 0 dL_law_663 rfl ?_
  refine x_iconst (pc := 664) C (v := (2 : Int32)) dL_law_664 rfl ?_
  refine x_iadd (pc := 665) C dL_law_665 ?_
  refine x_sld (pc := 666) C hX hbl (j := k + 2) (nI_add k 2) ⟨by omega, hL⟩ dL_law_666 ?_
  refine x_callV1 (pc := 667) C (o := 0) [.int (xs (k + 1)), .int (xs (k + 2))] [] (c_X6_attack (xs (k + 1)) (xs (k + 2)) hGu S _ _ h1) cw_L_83 vi_X6_attack ⟨rfl, rfl, Nat.le_of_ble_eq_true rfl, Nat.le_of_ble_eq_true rfl⟩ hR hGu.1 ⟨rfl, rfl, rfl⟩ rfl ⟨rfl, Nat.le_of_ble_eq_true rfl⟩ dL_law_667 (fun _ => ?_)
  refine x_aload_n (pc := 670) C 1 dL_law_670 rfl ?_
  refine x_aload_n (pc := 671) C 3 dL_law_671 rfl ?_
  refine x_iload_n (pc := 672) C 0 dL_law_672 rfl ?_
  refine x_iconst (pc := 673) C (v := (1 : Int32)) dL_law_673 rfl ?_
  refine x_iadd (pc := 674) C dL_law_674 ?_
  refine x_sld (pc := 675) C hX hbl (j := k + 1) (nI_add k 1) ⟨by omega, hL⟩ dL_law_675 ?_
  refine x_aload_n (pc := 676) C 3 dL_law_676 rfl ?_
  refine x_iload_n (pc := 677) C 0 dL_law_677 rfl ?_
  refine x_iconst (pc := 678) C (v := (2 : Int32)) dL_law_678 rfl ?_
  refine x_iadd (pc := 679) C dL_law_679 ?_
  refine x_sld (pc := 680) C hX hbl (j := k + 2) (nI_add k 2) ⟨by omega, hL⟩ dL_law_680 ?_
  refine x_callV1 (pc := 681) C (o := 140) [.int (xs (k + 1)), .int (xs (k + 2))] [.int r2] (c_X7_attack (xs (k + 1)) (xs (k + 2)) hMo S1 _ _ h2) cw_L_86 vi_X7_attack ⟨rfl, rfl, Nat.le_of_ble_eq_true rfl, Nat.le_of_ble_eq_true rfl⟩ hR hMo.1 ⟨rfl, rfl, rfl⟩ rfl ⟨rfl, Nat.le_of_ble_eq_true rfl⟩ dL_law_681 (fun _ => ?_)
  exact x_icmp_eq (pc := 684) C 1076 dL_law_684 rfl (fun _ => kk _ hI2) (fun q => absurd rfl q)
set_option maxHeartbeats 2000000 in
/-- the call known -/
theorem lc_17 (C : CX p G s m args meth c cL_law ⟨RL, mn, md⟩ 4 ret) (hX : va_X bs Ls xs s s.heap) (hbl : bs < s.heap.size) (hk : k + 5 ≤ Ls) (hL : Ls ≤ 2560) (hGu : isGu L) (hMo : isMo L) (hR : cells ≤ room_1.cells ∧ slots ≤ room_1.slots) (hI : Inv S) (kk : ∀ S', Inv S' → X p l e room_1 s m args below meth c cells slots Q 4 G L s.heap.size S' 1076 [(3, .int (nI k)), (2, .ref (s.heap.size + 140)), (1, .ref (s.heap.size + 0)), (0, .ref bs)] []) : X p l e room_1 s m args below meth c cells slots Q 4 G L s.heap.size S 689 [(3, .int (nI k)), (2, .ref (s.heap.size + 140)), (1, .ref (s.heap.size + 0)), (0, .ref bs)] [] := by
  have hI0 := hI
  obtain ⟨W, ok, hC, hM⟩ := hI
  obtain ⟨⟨r, S1⟩, h1, ⟨r2, S2⟩, h2, e, hI2⟩ := p_known ok hC hM
  have e9 : r2 = r := e
  subst e9
  have h2 : f_X7_known S1 = some (r2, S2) := h2
  have hI2 : Inv S2 := hI2
  refine x_aload_n (pc := 689) C 2 dL_law_689 rfl ?_
  refine x_callV1 (pc := 690) C (o := 0) [] [] (c_X6_known hGu S _ _ h1) cw_L_87 vi_X6_known ⟨rfl, rfl, Nat.le_of_ble_eq_true rfl, Nat.le_of_ble_eq_true rfl⟩ hR hGu.1 ⟨rfl, rfl, rfl⟩ rfl ⟨rfl, Nat.le_of_ble_eq_true rfl⟩ dL_law_690 (fun _ => ?_)
  refine x_aload_n (pc := 693) C 1 dL_law_693 rfl ?_
  refine x_callV1 (pc := 694) C (o := 140) [] [.int r2] (c_X7_known hMo S1 _ _ h2) cw_L_90 vi_X7_known ⟨rfl, rfl, Nat.le_of_ble_eq_true rfl, Nat.le_of_ble_eq_true rfl⟩ hR hMo.1 ⟨rfl, rfl, rfl⟩ rfl ⟨rfl, Nat.le_of_ble_eq_true rfl⟩ dL_law_694 (fun _ => ?_)
  exact x_icmp_eq (pc := 697) C 1076 dL_law_697 rfl (fun _ => kk _ hI2) (fun q => absurd rfl q)
set_option maxHeartbeats 2000000 in
/-- the call learns -/
theorem lc_18 (C : CX p G s m args meth c cL_law ⟨RL, mn, md⟩ 4 ret) (hX : va_X bs Ls xs s s.heap) (hbl : bs < s.heap.size) (hk : k + 5 ≤ Ls) (hL : Ls ≤ 2560) (hGu : isGu L) (hMo : isMo L) (hR : cells ≤ room_1.cells ∧ slots ≤ room_1.slots) (hI : Inv S) (kk : ∀ S', Inv S' → X p l e room_1 s m args below meth c cells slots Q 4 G L s.heap.size S' 1076 [(3, .int (nI k)), (2, .ref (s.heap.size + 140)), (1, .ref (s.heap.size + 0)), (0, .ref bs)] []) : X p l e room_1 s m args below meth c cells slots Q 4 G L s.heap.size S 702 [(3, .int (nI k)), (2, .ref (s.heap.size + 140)), (1, .ref (s.heap.size + 0)), (0, .ref bs)] [] := by
  have hI0 := hI
  obtain ⟨W, ok, hC, hM⟩ := hI
  obtain ⟨⟨r, S1⟩, h1, ⟨r2, S2⟩, h2, e, hI2⟩ := p_learns ok hC hM (xs (k + 1)) (xs (k + 2)) (xs (k + 3)) (xs (k + 4))
  have e9 : r2 = r := e
  subst e9
  have h2 : f_X7_learns (xs (k + 1)) (xs (k + 2)) (xs (k + 3)) (xs (k + 4)) S1 = some (r2, S2) := h2
  have hI2 : Inv S2 := hI2
  refine x_aload_n (pc := 702) C 2 dL_law_702 rfl ?_
  refine x_aload_n (pc := 703) C 3 dL_law_703 rfl ?_
  refine x_iload_n (pc := 704) C 0 dL_law_704 rfl ?_
  refine x_iconst (pc := 705) C (v := (1 : Int32)) dL_law_705 rfl ?_
  refine x_iadd (pc := 706) C dL_law_706 ?_
  refine x_sld (pc := 707) C hX hbl (j := k + 1) (nI_add k 1) ⟨by omega, hL⟩ dL_law_707 ?_
  refine x_aload_n (pc := 708) C 3 dL_law_708 rfl ?_
  refine x_iload_n (pc := 709) C 0 dL_law_709 rfl ?_
  refine x_iconst (pc := 710) C (v := (2 : Int32)) dL_law_710 rfl ?_
  refine x_iadd (pc := 711) C dL_law_711 ?_
  refine x_sld (pc := 712) C hX hbl (j := k + 2) (nI_add k 2) ⟨by omega, hL⟩ dL_law_712 ?_
  refine x_aload_n (pc := 713) C 3 dL_law_713 rfl ?_
  refine x_iload_n (pc := 714) C 0 dL_law_714 rfl ?_
  refine x_iconst (pc := 715) C (v := (3 : Int32)) dL_law_715 rfl ?_
  refine x_iadd (pc := 716) C dL_law_716 ?_
  refine x_sld (pc := 717) C hX hbl (j := k + 3) (nI_add k 3) ⟨by omega, hL⟩ dL_law_717 ?_
  refine x_aload_n (pc := 718) C 3 dL_law_718 rfl ?_
  refine x_iload_n (pc := 719) C 0 dL_law_719 rfl ?_
  refine x_iconst (pc := 720) C (v := (4 : Int32)) dL_law_720 rfl ?_
  refine x_iadd (pc := 721) C dL_law_721 ?_
  refine x_sld (pc := 722) C hX hbl (j := k + 4) (nI_add k 4) ⟨by omega, hL⟩ dL_law_722 ?_
  refine x_callV1 (pc := 723) C (o := 0) [.int (xs (k + 1)), .int (xs (k + 2)), .int (xs (k + 3)), .int (xs (k + 4))] [] (c_X6_learns (xs (k + 1)) (xs (k + 2)) (xs (k + 3)) (xs (k + 4)) hGu S _ _ h1) cw_L_91 vi_X6_learns ⟨rfl, rfl, Nat.le_of_ble_eq_true rfl, Nat.le_of_ble_eq_true rfl⟩ hR hGu.1 ⟨rfl, rfl, rfl⟩ rfl ⟨rfl, Nat.le_of_ble_eq_true rfl⟩ dL_law_723 (fun _ => ?_)
  refine x_aload_n (pc := 726) C 1 dL_law_726 rfl ?_
  refine x_aload_n (pc := 727) C 3 dL_law_727 rfl ?_
  refine x_iload_n (pc := 728) C 0 dL_law_728 rfl ?_
  refine x_iconst (pc := 729) C (v := (1 : Int32)) dL_law_729 rfl ?_
  refine x_iadd (pc := 730) C dL_law_730 ?_
  refine x_sld (pc := 731) C hX hbl (j := k + 1) (nI_add k 1) ⟨by omega, hL⟩ dL_law_731 ?_
  refine x_aload_n (pc := 732) C 3 dL_law_732 rfl ?_
  refine x_iload_n (pc := 733) C 0 dL_law_733 rfl ?_
  refine x_iconst (pc := 734) C (v := (2 : Int32)) dL_law_734 rfl ?_
  refine x_iadd (pc := 735) C dL_law_735 ?_
  refine x_sld (pc := 736) C hX hbl (j := k + 2) (nI_add k 2) ⟨by omega, hL⟩ dL_law_736 ?_
  refine x_aload_n (pc := 737) C 3 dL_law_737 rfl ?_
  refine x_iload_n (pc := 738) C 0 dL_law_738 rfl ?_
  refine x_iconst (pc := 739) C (v := (3 : Int32)) dL_law_739 rfl ?_
  refine x_iadd (pc := 740) C dL_law_740 ?_
  refine x_sld (pc := 741) C hX hbl (j := k + 3) (nI_add k 3) ⟨by omega, hL⟩ dL_law_741 ?_
  refine x_aload_n (pc := 742) C 3 dL_law_742 rfl ?_
  refine x_iload_n (pc := 743) C 0 dL_law_743 rfl ?_
  refine x_iconst (pc := 744) C (v := (4 : Int32)) dL_law_744 rfl ?_
  refine x_iadd (pc := 745) C dL_law_745 ?_
  refine x_sld (pc := 746) C hX hbl (j := k + 4) (nI_add k 4) ⟨by omega, hL⟩ dL_law_746 ?_
  refine x_callV1 (pc := 747) C (o := 140) [.int (xs (k + 1)), .int (xs (k + 2)), .int (xs (k + 3)), .int (xs (k + 4))] [.int r2] (c_X7_learns (xs (k + 1)) (xs (k + 2)) (xs (k + 3)) (xs (k + 4)) hMo S1 _ _ h2) cw_L_95 vi_X7_learns ⟨rfl, rfl, Nat.le_of_ble_eq_true rfl, Nat.le_of_ble_eq_true rfl⟩ hR hMo.1 ⟨rfl, rfl, rfl⟩ rfl ⟨rfl, Nat.le_of_ble_eq_true rfl⟩ dL_law_747 (fun _ => ?_)
  exact x_icmp_eq (pc := 750) C 1076 dL_law_750 rfl (fun _ => kk _ hI2) (fun q => absurd rfl q)
set_option maxHeartbeats 2000000 in
/-- the call order -/
theorem lc_19 (C : CX p G s m args meth c cL_law ⟨RL, mn, md⟩ 4 ret) (hX : va_X bs Ls xs s s.heap) (hbl : bs < s.heap.size) (hk : k + 5 ≤ Ls) (hL : Ls ≤ 2560) (hGu : isGu L) (hMo : isMo L) (hR : cells ≤ room_1.cells ∧ slots ≤ room_1.slots) (hI : Inv S) (kk : ∀ S', Inv S' → X p l e room_1 s m args below meth c cells slots Q 4 G L s.heap.size S' 1076 [(3, .int (nI k)), (2, .ref (s.heap.size + 140)), (1, .ref (s.heap.size + 0)), (0, .ref bs)] []) : X p l e room_1 s m args below meth c cells slots Q 4 G L s.heap.size S 755 [(3, .int (nI k)), (2, .ref (s.heap.size + 140)), (1, .ref (s.heap.size + 0)), (0, .ref bs)] [] := by
  have hI0 := hI
  obtain ⟨W, ok, hC, hM⟩ := hI
  obtain ⟨⟨r, S1⟩, h1, ⟨r2, S2⟩, h2, e, hI2⟩ := p_order ok hC hM (xs (k + 1)) (xs (k + 2)) (xs (k + 3)) (xs (k + 4))
  have e9 : r2 = r := e
  subst e9
  have h2 : f_X7_order (xs (k + 1)) (xs (k + 2)) (xs (k + 3)) (xs (k + 4)) S1 = some (r2, S2) := h2
  have hI2 : Inv S2 := hI2
  refine x_aload_n (pc := 755) C 2 dL_law_755 rfl ?_
  refine x_aload_n (pc := 756) C 3 dL_law_756 rfl ?_
  refine x_iload_n (pc := 757) C 0 dL_law_757 rfl ?_
  refine x_iconst (pc := 758) C (v := (1 : Int32)) dL_law_758 rfl ?_
  refine x_iadd (pc := 759) C dL_law_759 ?_
  refine x_sld (pc := 760) C hX hbl (j := k + 1) (nI_add k 1) ⟨by omega, hL⟩ dL_law_760 ?_
  refine x_aload_n (pc := 761) C 3 dL_law_761 rfl ?_
  refine x_iload_n (pc := 762) C 0 dL_law_762 rfl ?_
  refine x_iconst (pc := 763) C (v := (2 : Int32)) dL_law_763 rfl ?_
  refine x_iadd (pc := 764) C dL_law_764 ?_
  refine x_sld (pc := 765) C hX hbl (j := k + 2) (nI_add k 2) ⟨by omega, hL⟩ dL_law_765 ?_
  refine x_aload_n (pc := 766) C 3 dL_law_766 rfl ?_
  refine x_iload_n (pc := 767) C 0 dL_law_767 rfl ?_
  refine x_iconst (pc := 768) C (v := (3 : Int32)) dL_law_768 rfl ?_
  refine x_iadd (pc := 769) C dL_law_769 ?_
  refine x_sld (pc := 770) C hX hbl (j := k + 3) (nI_add k 3) ⟨by omega, hL⟩ dL_law_770 ?_
  refine x_aload_n (pc := 771) C 3 dL_law_771 rfl ?_
  refine x_iload_n (pc := 772) C 0 dL_law_772 rfl ?_
  refine x_iconst (pc := 773) C (v := (4 : Int32)) dL_law_773 rfl ?_
  refine x_iadd (pc := 774) C dL_law_774 ?_
  refine x_sld (pc := 775) C hX hbl (j := k + 4) (nI_add k 4) ⟨by omega, hL⟩ dL_law_775 ?_
  refine x_callV1 (pc := 776) C (o := 0) [.int (xs (k + 1)), .int (xs (k + 2)), .int (xs (k + 3)), .int (xs (k + 4))] [] (c_X6_order (xs (k + 1)) (xs (k + 2)) (xs (k + 3)) (xs (k + 4)) hGu S _ _ h1) cw_L_96 vi_X6_order ⟨rfl, rfl, Nat.le_of_ble_eq_true rfl, Nat.le_of_ble_eq_true rfl⟩ hR hGu.1 ⟨rfl, rfl, rfl⟩ rfl ⟨rfl, Nat.le_of_ble_eq_true rfl⟩ dL_law_776 (fun _ => ?_)
  refine x_aload_n (pc := 779) C 1 dL_law_779 rfl ?_
  refine x_aload_n (pc := 780) C 3 dL_law_780 rfl ?_
  refine x_iload_n (pc := 781) C 0 dL_law_781 rfl ?_
  refine x_iconst (pc := 782) C (v := (1 : Int32)) dL_law_782 rfl ?_
  refine x_iadd (pc := 783) C dL_law_783 ?_
  refine x_sld (pc := 784) C hX hbl (j := k + 1) (nI_add k 1) ⟨by omega, hL⟩ dL_law_784 ?_
  refine x_aload_n (pc := 785) C 3 dL_law_785 rfl ?_
  refine x_iload_n (pc := 786) C 0 dL_law_786 rfl ?_
  refine x_iconst (pc := 787) C (v := (2 : Int32)) dL_law_787 rfl ?_
  refine x_iadd (pc := 788) C dL_law_788 ?_
  refine x_sld (pc := 789) C hX hbl (j := k + 2) (nI_add k 2) ⟨by omega, hL⟩ dL_law_789 ?_
  refine x_aload_n (pc := 790) C 3 dL_law_790 rfl ?_
  refine x_iload_n (pc := 791) C 0 dL_law_791 rfl ?_
  refine x_iconst (pc := 792) C (v := (3 : Int32)) dL_law_792 rfl ?_
  refine x_iadd (pc := 793) C dL_law_793 ?_
  refine x_sld (pc := 794) C hX hbl (j := k + 3) (nI_add k 3) ⟨by omega, hL⟩ dL_law_794 ?_
  refine x_aload_n (pc := 795) C 3 dL_law_795 rfl ?_
  refine x_iload_n (pc := 796) C 0 dL_law_796 rfl ?_
  refine x_iconst (pc := 797) C (v := (4 : Int32)) dL_law_797 rfl ?_
  refine x_iadd (pc := 798) C dL_law_798 ?_
  refine x_sld (pc := 799) C hX hbl (j := k + 4) (nI_add k 4) ⟨by omega, hL⟩ dL_law_799 ?_
  refine x_callV1 (pc := 800) C (o := 140) [.int (xs (k + 1)), .int (xs (k + 2)), .int (xs (k + 3)), .int (xs (k + 4))] [.int r2] (c_X7_order (xs (k + 1)) (xs (k + 2)) (xs (k + 3)) (xs (k + 4)) hMo S1 _ _ h2) cw_L_99 vi_X7_order ⟨rfl, rfl, Nat.le_of_ble_eq_true rfl, Nat.le_of_ble_eq_true rfl⟩ hR hMo.1 ⟨rfl, rfl, rfl⟩ rfl ⟨rfl, Nat.le_of_ble_eq_true rfl⟩ dL_law_800 (fun _ => ?_)
  exact x_icmp_eq (pc := 803) C 1076 dL_law_803 rfl (fun _ => kk _ hI2) (fun q => absurd rfl q)
set_option maxHeartbeats 2000000 in
/-- the call two -/
theorem lc_20 (C : CX p G s m args meth c cL_law ⟨RL, mn, md⟩ 4 ret) (hX : va_X bs Ls xs s s.heap) (hbl : bs < s.heap.size) (hk : k + 5 ≤ Ls) (hL : Ls ≤ 2560) (hGu : isGu L) (hMo : isMo L) (hR : cells ≤ room_1.cells ∧ slots ≤ room_1.slots) (hI : Inv S) (kk : ∀ S', Inv S' → X p l e room_1 s m args below meth c cells slots Q 4 G L s.heap.size S' 1076 [(3, .int (nI k)), (2, .ref (s.heap.size + 140)), (1, .ref (s.heap.size + 0)), (0, .ref bs)] []) : X p l e room_1 s m args below meth c cells slots Q 4 G L s.heap.size S 808 [(3, .int (nI k)), (2, .ref (s.heap.size + 140)), (1, .ref (s.heap.size + 0)), (0, .ref bs)] [] := by
  have hI0 := hI
  obtain ⟨W, ok, hC, hM⟩ := hI
  obtain ⟨⟨r, S1⟩, h1, ⟨r2, S2⟩, h2, e, hI2⟩ := p_two ok hC hM (xs (k + 1)) (xs (k + 2))
  have e9 : r2 = r := e
  subst e9
  have h2 : f_X7_two (xs (k + 1)) (xs (k + 2)) S1 = some (r2, S2) := h2
  have hI2 : Inv S2 := hI2
  refine x_aload_n (pc := 808) C 2 dL_law_808 rfl ?_
  refine x_aload_n (pc := 809) C 3 dL_law_809 rfl ?_
  refine x_iload_n (pc := 810) C 0 dL_law_810 rfl ?_
  refine x_iconst (pc := 811) C (v := (1 : Int32)) dL_law_811 rfl ?_
  refine x_iadd (pc := 812) C dL_law_812 ?_
  refine x_sld (pc := 813) C hX hbl (j := k + 1) (nI_add k 1) ⟨by omega, hL⟩ dL_law_813 ?_
  refine x_aload_n (pc := 814) C 3 dL_law_814 rfl ?_
  refine x_iload_n (pc := 815) C 0 dL_law_815 rfl ?_
  refine x_iconst (pc := 816) C (v := (2 : Int32)) dL_law_816 rfl ?_
  refine x_iadd (pc := 817) C dL_law_817 ?_
  refine x_sld (pc := 818) C hX hbl (j := k + 2) (nI_add k 2) ⟨by omega, hL⟩ dL_law_818 ?_
  refine x_callV1 (pc := 819) C (o := 0) [.int (xs (k + 1)), .int (xs (k + 2))] [] (c_X6_two (xs (k + 1)) (xs (k + 2)) hGu S _ _ h1) cw_L_100 vi_X6_two ⟨rfl, rfl, Nat.le_of_ble_eq_true rfl, Nat.le_of_ble_eq_true rfl⟩ hR hGu.1 ⟨rfl, rfl, rfl⟩ rfl ⟨rfl, Nat.le_of_ble_eq_true rfl⟩ dL_law_819 (fun _ => ?_)
  refine x_aload_n (pc := 822) C 1 dL_law_822 rfl ?_
  refine x_aload_n (pc := 823) C 3 dL_law_823 rfl ?_
  refine x_iload_n (pc := 824) C 0 dL_law_824 rfl ?_
  refine x_iconst (pc := 825) C (v := (1 : Int32)) dL_law_825 rfl ?_
  refine x_iadd (pc := 826) C dL_law_826 ?_
  refine x_sld (pc := 827) C hX hbl (j := k + 1) (nI_add k 1) ⟨by omega, hL⟩ dL_law_827 ?_
  refine x_aload_n (pc := 828) C 3 dL_law_828 rfl ?_
  refine x_iload_n (pc := 829) C 0 dL_law_829 rfl ?_
  refine x_iconst (pc := 830) C (v := (2 : Int32)) dL_law_830 rfl ?_
  refine x_iadd (pc := 831) C dL_law_831 ?_
  refine x_sld (pc := 832) C hX hbl (j := k + 2) (nI_add k 2) ⟨by omega, hL⟩ dL_law_832 ?_
  refine x_callV1 (pc := 833) C (o := 140) [.int (xs (k + 1)), .int (xs (k + 2))] [.int r2] (c_X7_two (xs (k + 1)) (xs (k + 2)) hMo S1 _ _ h2) cw_L_103 vi_X7_two ⟨rfl, rfl, Nat.le_of_ble_eq_true rfl, Nat.le_of_ble_eq_true rfl⟩ hR hMo.1 ⟨rfl, rfl, rfl⟩ rfl ⟨rfl, Nat.le_of_ble_eq_true rfl⟩ dL_law_833 (fun _ => ?_)
  exact x_icmp_eq (pc := 836) C 1076 dL_law_836 rfl (fun _ => kk _ hI2) (fun q => absurd rfl q)
set_option maxHeartbeats 2000000 in
/-- the call cheapest -/
theorem lc_21 (C : CX p G s m args meth c cL_law ⟨RL, mn, md⟩ 4 ret) (hX : va_X bs Ls xs s s.heap) (hbl : bs < s.heap.size) (hk : k + 5 ≤ Ls) (hL : Ls ≤ 2560) (hGu : isGu L) (hMo : isMo L) (hR : cells ≤ room_1.cells ∧ slots ≤ room_1.slots) (hI : Inv S) (kk : ∀ S', Inv S' → X p l e room_1 s m args below meth c cells slots Q 4 G L s.heap.size S' 1076 [(3, .int (nI k)), (2, .ref (s.heap.size + 140)), (1, .ref (s.heap.size + 0)), (0, .ref bs)] []) : X p l e room_1 s m args below meth c cells slots Q 4 G L s.heap.size S 841 [(3, .int (nI k)), (2, .ref (s.heap.size + 140)), (1, .ref (s.heap.size + 0)), (0, .ref bs)] [] := by
  have hI0 := hI
  obtain ⟨W, ok, hC, hM⟩ := hI
  obtain ⟨⟨r, S1⟩, h1, ⟨r2, S2⟩, h2, e, hI2⟩ := p_cheapest ok hC hM (xs (k + 1))
  have e9 : r2 = r := e
  subst e9
  have h2 : f_X7_cheapest (xs (k + 1)) S1 = some (r2, S2) := h2
  have hI2 : Inv S2 := hI2
  refine x_aload_n (pc := 841) C 2 dL_law_841 rfl ?_
  refine x_aload_n (pc := 842) C 3 dL_law_842 rfl ?_
  refine x_iload_n (pc := 843) C 0 dL_law_843 rfl ?_
  refine x_iconst (pc := 844) C (v := (1 : Int32)) dL_law_844 rfl ?_
  refine x_iadd (pc := 845) C dL_law_845 ?_
  refine x_sld (pc := 846) C hX hbl (j := k + 1) (nI_add k 1) ⟨by omega, hL⟩ dL_law_846 ?_
  refine x_callV1 (pc := 847) C (o := 0) [.int (xs (k + 1))] [] (c_X6_cheapest (xs (k + 1)) hGu S _ _ h1) cw_L_104 vi_X6_cheapest ⟨rfl, rfl, Nat.le_of_ble_eq_true rfl, Nat.le_of_ble_eq_true rfl⟩ hR hGu.1 ⟨rfl, rfl, rfl⟩ rfl ⟨rfl, Nat.le_of_ble_eq_true rfl⟩ dL_law_847 (fun _ => ?_)
  refine x_aload_n (pc := 850) C 1 dL_law_850 rfl ?_
  refine x_aload_n (pc := 851) C 3 dL_law_851 rfl ?_
  refine x_iload_n (pc := 852) C 0 dL_law_852 rfl ?_
  refine x_iconst (pc := 853) C (v := (1 : Int32)) dL_law_853 rfl ?_
  refine x_iadd (pc := 854) C dL_law_854 ?_
  refine x_sld (pc := 855) C hX hbl (j := k + 1) (nI_add k 1) ⟨by omega, hL⟩ dL_law_855 ?_
  refine x_callV1 (pc := 856) C (o := 140) [.int (xs (k + 1))] [.int r2] (c_X7_cheapest (xs (k + 1)) hMo S1 _ _ h2) cw_L_107 vi_X7_cheapest ⟨rfl, rfl, Nat.le_of_ble_eq_true rfl, Nat.le_of_ble_eq_true rfl⟩ hR hMo.1 ⟨rfl, rfl, rfl⟩ rfl ⟨rfl, Nat.le_of_ble_eq_true rfl⟩ dL_law_856 (fun _ => ?_)
  exact x_icmp_eq (pc := 859) C 1076 dL_law_859 rfl (fun _ => kk _ hI2) (fun q => absurd rfl q)
set_option maxHeartbeats 2000000 in
/-- the call mean -/
theorem lc_22 (C : CX p G s m args meth c cL_law ⟨RL, mn, md⟩ 4 ret) (hX : va_X bs Ls xs s s.heap) (hbl : bs < s.heap.size) (hk : k + 5 ≤ Ls) (hL : Ls ≤ 2560) (hGu : isGu L) (hMo : isMo L) (hR : cells ≤ room_1.cells ∧ slots ≤ room_1.slots) (hI : Inv S) (kk : ∀ S', Inv S' → X p l e room_1 s m args below meth c cells slots Q 4 G L s.heap.size S' 1076 [(3, .int (nI k)), (2, .ref (s.heap.size + 140)), (1, .ref (s.heap.size + 0)), (0, .ref bs)] []) : X p l e room_1 s m args below meth c cells slots Q 4 G L s.heap.size S 864 [(3, .int (nI k)), (2, .ref (s.heap.size + 140)), (1, .ref (s.heap.size + 0)), (0, .ref bs)] [] := by
  have hI0 := hI
  obtain ⟨W, ok, hC, hM⟩ := hI
  obtain ⟨⟨r, S1⟩, h1, ⟨r2, S2⟩, h2, e, hI2⟩ := p_mean ok hC hM (xs (k + 1))
  have e9 : r2 = r := e
  subst e9
  have h2 : f_X7_mean (xs (k + 1)) S1 = some (r2, S2) := h2
  have hI2 : Inv S2 := hI2
  refine x_aload_n (pc := 864) C 2 dL_law_864 rfl ?_
  refine x_aload_n (pc := 865) C 3 dL_law_865 rfl ?_
  refine x_iload_n (pc := 866) C 0 dL_law_866 rfl ?_
  refine x_iconst (pc := 867) C (v := (1 : Int32)) dL_law_867 rfl ?_
  refine x_iadd (pc := 868) C dL_law_868 ?_
  refine x_sld (pc := 869) C hX hbl (j := k + 1) (nI_add k 1) ⟨by omega, hL⟩ dL_law_869 ?_
  refine x_callV1 (pc := 870) C (o := 0) [.int (xs (k + 1))] [] (c_X6_mean (xs (k + 1)) hGu S _ _ h1) cw_L_108 vi_X6_mean ⟨rfl, rfl, Nat.le_of_ble_eq_true rfl, Nat.le_of_ble_eq_true rfl⟩ hR hGu.1 ⟨rfl, rfl, rfl⟩ rfl ⟨rfl, Nat.le_of_ble_eq_true rfl⟩ dL_law_870 (fun _ => ?_)
  refine x_aload_n (pc := 873) C 1 dL_law_873 rfl ?_
  refine x_aload_n (pc := 874) C 3 dL_law_874 rfl ?_
  refine x_iload_n (pc := 875) C 0 dL_law_875 rfl ?_
  refine x_iconst (pc := 876) C (v := (1 : Int32)) dL_law_876 rfl ?_
  refine x_iadd (pc := 877) C dL_law_877 ?_
  refine x_sld (pc := 878) C hX hbl (j := k + 1) (nI_add k 1) ⟨by omega, hL⟩ dL_law_878 ?_
  refine x_callV1 (pc := 879) C (o := 140) [.int (xs (k + 1))] [.long r2] (c_X7_mean (xs (k + 1)) hMo S1 _ _ h2) cw_L_111 vi_X7_mean ⟨rfl, rfl, Nat.le_of_ble_eq_true rfl, Nat.le_of_ble_eq_true rfl⟩ hR hMo.1 ⟨rfl, rfl, rfl⟩ rfl ⟨rfl, Nat.le_of_ble_eq_true rfl⟩ dL_law_879 (fun _ => ?_)
  exact x_lcmp_eq (pc := 882) C 1076 dL_law_882 dL_law_883 rfl (fun _ => kk _ hI2) (fun q => absurd rfl q)
set_option maxHeartbeats 2000000 in
/-- the call share -/
theorem lc_23 (C : CX p G s m args meth c cL_law ⟨RL, mn, md⟩ 4 ret) (hX : va_X bs Ls xs s s.heap) (hbl : bs < s.heap.size) (hk : k + 5 ≤ Ls) (hL : Ls ≤ 2560) (hGu : isGu L) (hMo : isMo L) (hR : cells ≤ room_1.cells ∧ slots ≤ room_1.slots) (hI : Inv S) (kk : ∀ S', Inv S' → X p l e room_1 s m args below meth c cells slots Q 4 G L s.heap.size S' 1076 [(3, .int (nI k)), (2, .ref (s.heap.size + 140)), (1, .ref (s.heap.size + 0)), (0, .ref bs)] []) : X p l e room_1 s m args below meth c cells slots Q 4 G L s.heap.size S 888 [(3, .int (nI k)), (2, .ref (s.heap.size + 140)), (1, .ref (s.heap.size + 0)), (0, .ref bs)] [] := by
  have hI0 := hI
  obtain ⟨W, ok, hC, hM⟩ := hI
  obtain ⟨⟨r, S1⟩, h1, ⟨r2, S2⟩, h2, e, hI2⟩ := p_share ok hC hM (xs (k + 1))
  have e9 : r2 = r := e
  subst e9
  have h2 : f_X7_share (xs (k + 1)) S1 = some (r2, S2) := h2
  have hI2 : Inv S2 := hI2
  refine x_aload_n (pc := 888) C 2 dL_law_888 rfl ?_
  refine x_aload_n (pc := 889) C 3 dL_law_889 rfl ?_
  refine x_iload_n (pc := 890) C 0 dL_law_890 rfl ?_
  refine x_iconst (pc := 891) C (v := (1 : Int32)) dL_law_891 rfl ?_
  refine x_iadd (pc := 892) C dL_law_892 ?_
  refine x_sld (pc := 893) C hX hbl (j := k + 1) (nI_add k 1) ⟨by omega, hL⟩ dL_law_893 ?_
  refine x_callV1 (pc := 894) C (o := 0) [.int (xs (k + 1))] [] (c_X6_share (xs (k + 1)) hGu S _ _ h1) cw_L_112 vi_X6_share ⟨rfl, rfl, Nat.le_of_ble_eq_true rfl, Nat.le_of_ble_eq_true rfl⟩ hR hGu.1 ⟨rfl, rfl, rfl⟩ rfl ⟨rfl, Nat.le_of_ble_eq_true rfl⟩ dL_law_894 (fun _ => ?_)
  refine x_aload_n (pc := 897) C 1 dL_law_897 rfl ?_
  refine x_aload_n (pc := 898) C 3 dL_law_898 rfl ?_
  refine x_iload_n (pc := 899) C 0 dL_law_899 rfl ?_
  refine x_iconst (pc := 900) C (v := (1 : Int32)) dL_law_900 rfl ?_
  refine x_iadd (pc := 901) C dL_law_901 ?_
  refine x_sld (pc := 902) C hX hbl (j := k + 1) (nI_add k 1) ⟨by omega, hL⟩ dL_law_902 ?_
  refine x_callV1 (pc := 903) C (o := 140) [.int (xs (k + 1))] [.long r2] (c_X7_share (xs (k + 1)) hMo S1 _ _ h2) cw_L_115 vi_X7_share ⟨rfl, rfl, Nat.le_of_ble_eq_true rfl, Nat.le_of_ble_eq_true rfl⟩ hR hMo.1 ⟨rfl, rfl, rfl⟩ rfl ⟨rfl, Nat.le_of_ble_eq_true rfl⟩ dL_law_903 (fun _ => ?_)
  exact x_lcmp_eq (pc := 906) C 1076 dL_law_906 dL_law_907 rfl (fun _ => kk _ hI2) (fun q => absurd rfl q)
set_option maxHeartbeats 2000000 in
/-- the call which -/
theorem lc_24 (C : CX p G s m args meth c cL_law ⟨RL, mn, md⟩ 4 ret) (hX : va_X bs Ls xs s s.heap) (hbl : bs < s.heap.size) (hk : k + 5 ≤ Ls) (hL : Ls ≤ 2560) (hGu : isGu L) (hMo : isMo L) (hR : cells ≤ room_1.cells ∧ slots ≤ room_1.slots) (hI : Inv S) (kk : ∀ S', Inv S' → X p l e room_1 s m args below meth c cells slots Q 4 G L s.heap.size S' 1076 [(3, .int (nI k)), (2, .ref (s.heap.size + 140)), (1, .ref (s.heap.size + 0)), (0, .ref bs)] []) : X p l e room_1 s m args below meth c cells slots Q 4 G L s.heap.size S 912 [(3, .int (nI k)), (2, .ref (s.heap.size + 140)), (1, .ref (s.heap.size + 0)), (0, .ref bs)] [] := by
  have hI0 := hI
  obtain ⟨W, ok, hC, hM⟩ := hI
  obtain ⟨⟨r, S1⟩, h1, ⟨r2, S2⟩, h2, e, hI2⟩ := p_which ok hC hM (xs (k + 1))
  have e9 : r2 = r := e
  subst e9
  have h2 : f_X7_which (xs (k + 1)) S1 = some (r2, S2) := h2
  have hI2 : Inv S2 := hI2
  refine x_aload_n (pc := 912) C 2 dL_law_912 rfl ?_
  refine x_aload_n (pc := 913) C 3 dL_law_913 rfl ?_
  refine x_iload_n (pc := 914) C 0 dL_law_914 rfl ?_
  refine x_iconst (pc := 915) C (v := (1 : Int32)) dL_law_915 rfl ?_
  refine x_iadd (pc := 916) C dL_law_916 ?_
  refine x_sld (pc := 917) C hX hbl (j := k + 1) (nI_add k 1) ⟨by omega, hL⟩ dL_law_917 ?_
  refine x_callV1 (pc := 918) C (o := 0) [.int (xs (k + 1))] [] (c_X6_which (xs (k + 1)) hGu S _ _ h1) cw_L_116 vi_X6_which ⟨rfl, rfl, Nat.le_of_ble_eq_true rfl, Nat.le_of_ble_eq_true rfl⟩ hR hGu.1 ⟨rfl, rfl, rfl⟩ rfl ⟨rfl, Nat.le_of_ble_eq_true rfl⟩ dL_law_918 (fun _ => ?_)
  refine x_aload_n (pc := 921) C 1 dL_law_921 rfl ?_
  refine x_aload_n (pc := 922) C 3 dL_law_922 rfl ?_
  refine x_iload_n (pc := 923) C 0 dL_law_923 rfl ?_
  refine x_iconst (pc := 924) C (v := (1 : Int32)) dL_law_924 rfl ?_
  refine x_iadd (pc := 925) C dL_law_925 ?_
  refine x_sld (pc := 926) C hX hbl (j := k + 1) (nI_add k 1) ⟨by omega, hL⟩ dL_law_926 ?_
  refine x_callV1 (pc := 927) C (o := 140) [.int (xs (k + 1))] [.int r2] (c_X7_which (xs (k + 1)) hMo S1 _ _ h2) cw_L_119 vi_X7_which ⟨rfl, rfl, Nat.le_of_ble_eq_true rfl, Nat.le_of_ble_eq_true rfl⟩ hR hMo.1 ⟨rfl, rfl, rfl⟩ rfl ⟨rfl, Nat.le_of_ble_eq_true rfl⟩ dL_law_927 (fun _ => ?_)
  exact x_icmp_eq (pc := 930) C 1076 dL_law_930 rfl (fun _ => kk _ hI2) (fun q => absurd rfl q)
set_option maxHeartbeats 2000000 in
/-- the call row -/
theorem lc_25 (C : CX p G s m args meth c cL_law ⟨RL, mn, md⟩ 4 ret) (hX : va_X bs Ls xs s s.heap) (hbl : bs < s.heap.size) (hk : k + 5 ≤ Ls) (hL : Ls ≤ 2560) (hGu : isGu L) (hMo : isMo L) (hR : cells ≤ room_1.cells ∧ slots ≤ room_1.slots) (hI : Inv S) (kk : ∀ S', Inv S' → X p l e room_1 s m args below meth c cells slots Q 4 G L s.heap.size S' 1076 [(3, .int (nI k)), (2, .ref (s.heap.size + 140)), (1, .ref (s.heap.size + 0)), (0, .ref bs)] []) : X p l e room_1 s m args below meth c cells slots Q 4 G L s.heap.size S 935 [(3, .int (nI k)), (2, .ref (s.heap.size + 140)), (1, .ref (s.heap.size + 0)), (0, .ref bs)] [] := by
  have hI0 := hI
  obtain ⟨W, ok, hC, hM⟩ := hI
  obtain ⟨⟨r, S1⟩, h1, ⟨r2, S2⟩, h2, e, hI2⟩ := p_row ok hC hM (xs (k + 1))
  have e9 : r2 = r := e
  subst e9
  have h2 : f_X7_row (xs (k + 1)) S1 = some (r2, S2) := h2
  have hI2 : Inv S2 := hI2
  refine x_aload_n (pc := 935) C 2 dL_law_935 rfl ?_
  refine x_aload_n (pc := 936) C 3 dL_law_936 rfl ?_
  refine x_iload_n (pc := 937) C 0 dL_law_937 rfl ?_
  refine x_iconst (pc := 938) C (v := (1 : Int32)) dL_law_938 rfl ?_
  refine x_iadd (pc := 939) C dL_law_939 ?_
  refine x_sld (pc := 940) C hX hbl (j := k + 1) (nI_add k 1) ⟨by omega, hL⟩ dL_law_940 ?_
  refine x_callV1 (pc := 941) C (o := 0) [.int (xs (k + 1))] [] (c_X6_row (xs (k + 1)) hGu S _ _ h1) cw_L_120 vi_X6_row ⟨rfl, rfl, Nat.le_of_ble_eq_true rfl, Nat.le_of_ble_eq_true rfl⟩ hR hGu.1 ⟨rfl, rfl, rfl⟩ rfl ⟨rfl, Nat.le_of_ble_eq_true rfl⟩ dL_law_941 (fun _ => ?_)
  refine x_aload_n (pc := 944) C 1 dL_law_944 rfl ?_
  refine x_aload_n (pc := 945) C 3 dL_law_945 rfl ?_
  refine x_iload_n (pc := 946) C 0 dL_law_946 rfl ?_
  refine x_iconst (pc := 947) C (v := (1 : Int32)) dL_law_947 rfl ?_
  refine x_iadd (pc := 948) C dL_law_948 ?_
  refine x_sld (pc := 949) C hX hbl (j := k + 1) (nI_add k 1) ⟨by omega, hL⟩ dL_law_949 ?_
  refine x_callV1 (pc := 950) C (o := 140) [.int (xs (k + 1))] [.int r2] (c_X7_row (xs (k + 1)) hMo S1 _ _ h2) cw_L_123 vi_X7_row ⟨rfl, rfl, Nat.le_of_ble_eq_true rfl, Nat.le_of_ble_eq_true rfl⟩ hR hMo.1 ⟨rfl, rfl, rfl⟩ rfl ⟨rfl, Nat.le_of_ble_eq_true rfl⟩ dL_law_950 (fun _ => ?_)
  exact x_icmp_eq (pc := 953) C 1076 dL_law_953 rfl (fun _ => kk _ hI2) (fun q => absurd rfl q)
set_option maxHeartbeats 2000000 in
/-- the call judge -/
theorem lc_26 (C : CX p G s m args meth c cL_law ⟨RL, mn, md⟩ 4 ret) (hX : va_X bs Ls xs s s.heap) (hbl : bs < s.heap.size) (hk : k + 5 ≤ Ls) (hL : Ls ≤ 2560) (hGu : isGu L) (hMo : isMo L) (hR : cells ≤ room_1.cells ∧ slots ≤ room_1.slots) (hI : Inv S) (kk : ∀ S', Inv S' → X p l e room_1 s m args below meth c cells slots Q 4 G L s.heap.size S' 1076 [(3, .int (nI k)), (2, .ref (s.heap.size + 140)), (1, .ref (s.heap.size + 0)), (0, .ref bs)] []) : X p l e room_1 s m args below meth c cells slots Q 4 G L s.heap.size S 958 [(3, .int (nI k)), (2, .ref (s.heap.size + 140)), (1, .ref (s.heap.size + 0)), (0, .ref bs)] [] := by
  have hI0 := hI
  obtain ⟨W, ok, hC, hM⟩ := hI
  obtain ⟨⟨r, S1⟩, h1, ⟨r2, S2⟩, h2, e, hI2⟩ := p_judge ok hC hM
  have e9 : r2 = r := e
  subst e9
  have h2 : f_X7_judge S1 = some (r2, S2) := h2
  have hI2 : Inv S2 := hI2
  refine x_aload_n (pc := 958) C 2 dL_law_958 rfl ?_
  refine x_callV1 (pc := 959) C (o := 0) [] [] (c_X6_judge hGu S _ _ h1) cw_L_124 vi_X6_judge ⟨rfl, rfl, Nat.le_of_ble_eq_true rfl, Nat.le_of_ble_eq_true rfl⟩ hR hGu.1 ⟨rfl, rfl, rfl⟩ rfl ⟨rfl, Nat.le_of_ble_eq_true rfl⟩ dL_law_959 (fun _ => ?_)
  refine x_aload_n (pc := 962) C 1 dL_law_962 rfl ?_
  refine x_callV1 (pc := 963) C (o := 140) [] [.int r2] (c_X7_judge hMo S1 _ _ h2) cw_L_127 vi_X7_judge ⟨rfl, rfl, Nat.le_of_ble_eq_true rfl, Nat.le_of_ble_eq_true rfl⟩ hR hMo.1 ⟨rfl, rfl, rfl⟩ rfl ⟨rfl, Nat.le_of_ble_eq_true rfl⟩ dL_law_963 (fun _ => ?_)
  exact x_icmp_eq (pc := 966) C 1076 dL_law_966 rfl (fun _ => kk _ hI2) (fun q => absurd rfl q)
set_option maxHeartbeats 2000000 in
/-- the call clear -/
theorem lc_27 (C : CX p G s m args meth c cL_law ⟨RL, mn, md⟩ 4 ret) (hX : va_X bs Ls xs s s.heap) (hbl : bs < s.heap.size) (hk : k + 5 ≤ Ls) (hL : Ls ≤ 2560) (hGu : isGu L) (hMo : isMo L) (hR : cells ≤ room_1.cells ∧ slots ≤ room_1.slots) (hI : Inv S) (kk : ∀ S', Inv S' → X p l e room_1 s m args below meth c cells slots Q 4 G L s.heap.size S' 1076 [(3, .int (nI k)), (2, .ref (s.heap.size + 140)), (1, .ref (s.heap.size + 0)), (0, .ref bs)] []) : X p l e room_1 s m args below meth c cells slots Q 4 G L s.heap.size S 971 [(3, .int (nI k)), (2, .ref (s.heap.size + 140)), (1, .ref (s.heap.size + 0)), (0, .ref bs)] [] := by
  have hI0 := hI
  obtain ⟨W, ok, hC, hM⟩ := hI
  obtain ⟨⟨r, S1⟩, h1, ⟨r2, S2⟩, h2, e, hI2⟩ := p_clear ok hC hM
  have e9 : r2 = r := e
  subst e9
  have h2 : f_X7_clear S1 = some (r2, S2) := h2
  have hI2 : Inv S2 := hI2
  refine x_aload_n (pc := 971) C 2 dL_law_971 rfl ?_
  refine x_callV1 (pc := 972) C (o := 0) [] [] (c_X6_clear hGu S _ _ h1) cw_L_128 vi_X6_clear ⟨rfl, rfl, Nat.le_of_ble_eq_true rfl, Nat.le_of_ble_eq_true rfl⟩ hR hGu.1 ⟨rfl, rfl, rfl⟩ rfl ⟨rfl, Nat.le_of_ble_eq_true rfl⟩ dL_law_972 (fun _ => ?_)
  refine x_aload_n (pc := 975) C 1 dL_law_975 rfl ?_
  refine x_callV1 (pc := 976) C (o := 140) [] [.int r2] (c_X7_clear hMo S1 _ _ h2) cw_L_131 vi_X7_clear ⟨rfl, rfl, Nat.le_of_ble_eq_true rfl, Nat.le_of_ble_eq_true rfl⟩ hR hMo.1 ⟨rfl, rfl, rfl⟩ rfl ⟨rfl, Nat.le_of_ble_eq_true rfl⟩ dL_law_976 (fun _ => ?_)
  exact x_icmp_eq (pc := 979) C 1076 dL_law_979 rfl (fun _ => kk _ hI2) (fun q => absurd rfl q)
set_option maxHeartbeats 2000000 in
/-- the call lots -/
theorem lc_28 (C : CX p G s m args meth c cL_law ⟨RL, mn, md⟩ 4 ret) (hX : va_X bs Ls xs s s.heap) (hbl : bs < s.heap.size) (hk : k + 5 ≤ Ls) (hL : Ls ≤ 2560) (hGu : isGu L) (hMo : isMo L) (hR : cells ≤ room_1.cells ∧ slots ≤ room_1.slots) (hI : Inv S) (kk : ∀ S', Inv S' → X p l e room_1 s m args below meth c cells slots Q 4 G L s.heap.size S' 1076 [(3, .int (nI k)), (2, .ref (s.heap.size + 140)), (1, .ref (s.heap.size + 0)), (0, .ref bs)] []) : X p l e room_1 s m args below meth c cells slots Q 4 G L s.heap.size S 984 [(3, .int (nI k)), (2, .ref (s.heap.size + 140)), (1, .ref (s.heap.size + 0)), (0, .ref bs)] [] := by
  have hI0 := hI
  obtain ⟨W, ok, hC, hM⟩ := hI
  obtain ⟨⟨r, S1⟩, h1, ⟨r2, S2⟩, h2, e, hI2⟩ := p_lots ok hC hM (xs (k + 1)) (xs (k + 2)) (xs (k + 3))
  have e9 : r2 = r := e
  subst e9
  have h2 : f_X7_lots (xs (k + 1)) (xs (k + 2)) (xs (k + 3)) S1 = some (r2, S2) := h2
  have hI2 : Inv S2 := hI2
  refine x_aload_n (pc := 984) C 2 dL_law_984 rfl ?_
  refine x_aload_n (pc := 985) C 3 dL_law_985 rfl ?_
  refine x_iload_n (pc := 986) C 0 dL_law_986 rfl ?_
  refine x_iconst (pc := 987) C (v := (1 : Int32)) dL_law_987 rfl ?_
  refine x_iadd (pc := 988) C dL_law_988 ?_
  refine x_sld (pc := 989) C hX hbl (j := k + 1) (nI_add k 1) ⟨by omega, hL⟩ dL_law_989 ?_
  refine x_aload_n (pc := 990) C 3 dL_law_990 rfl ?_
  refine x_iload_n (pc := 991) C 0 dL_law_991 rfl ?_
  refine x_iconst (pc := 992) C (v := (2 : Int32)) dL_law_992 rfl ?_
  refine x_iadd (pc := 993) C dL_law_993 ?_
  refine x_sld (pc := 994) C hX hbl (j := k + 2) (nI_add k 2) ⟨by omega, hL⟩ dL_law_994 ?_
  refine x_aload_n (pc := 995) C 3 dL_law_995 rfl ?_
  refine x_iload_n (pc := 996) C 0 dL_law_996 rfl ?_
  refine x_iconst (pc := 997) C (v := (3 : Int32)) dL_law_997 rfl ?_
  refine x_iadd (pc := 998) C dL_law_998 ?_
  refine x_sld (pc := 999) C hX hbl (j := k + 3) (nI_add k 3) ⟨by omega, hL⟩ dL_law_999 ?_
  refine x_callV1 (pc := 1000) C (o := 0) [.int (xs (k + 1)), .int (xs (k + 2)), .int (xs (k + 3))] [] (c_X6_lots (xs (k + 1)) (xs (k + 2)) (xs (k + 3)) hGu S _ _ h1) cw_L_132 vi_X6_lots ⟨rfl, rfl, Nat.le_of_ble_eq_true rfl, Nat.le_of_ble_eq_true rfl⟩ hR hGu.1 ⟨rfl, rfl, rfl⟩ rfl ⟨rfl, Nat.le_of_ble_eq_true rfl⟩ dL_law_1000 (fun _ => ?_)
  refine x_aload_n (pc := 1003) C 1 dL_law_1003 rfl ?_
  refine x_aload_n (pc := 1004) C 3 dL_law_1004 rfl ?_
  refine x_iload_n (pc := 1005) C 0 dL_law_1005 rfl ?_
  refine x_iconst (pc := 1006) C (v := (1 : Int32)) dL_law_1006 rfl ?_
  refine x_iadd (pc := 1007) C dL_law_1007 ?_
  refine x_sld (pc := 1008) C hX hbl (j := k + 1) (nI_add k 1) ⟨by omega, hL⟩ dL_law_1008 ?_
  refine x_aload_n (pc := 1009) C 3 dL_law_1009 rfl ?_
  refine x_iload_n (pc := 1010) C 0 dL_law_1010 rfl ?_
  refine x_iconst (pc := 1011) C (v := (2 : Int32)) dL_law_1011 rfl ?_
  refine x_iadd (pc := 1012) C dL_law_1012 ?_
  refine x_sld (pc := 1013) C hX hbl (j := k + 2) (nI_add k 2) ⟨by omega, hL⟩ dL_law_1013 ?_
  refine x_aload_n (pc := 1014) C 3 dL_law_1014 rfl ?_
  refine x_iload_n (pc := 1015) C 0 dL_law_1015 rfl ?_
  refine x_iconst (pc := 1016) C (v := (3 : Int32)) dL_law_1016 rfl ?_
  refine x_iadd (pc := 1017) C dL_law_1017 ?_
  refine x_sld (pc := 1018) C hX hbl (j := k + 3) (nI_add k 3) ⟨by omega, hL⟩ dL_law_1018 ?_
  refine x_callV1 (pc := 1019) C (o := 140) [.int (xs (k + 1)), .int (xs (k + 2)), .int (xs (k + 3))] [.int r2] (c_X7_lots (xs (k + 1)) (xs (k + 2)) (xs (k + 3)) hMo S1 _ _ h2) cw_L_135 vi_X7_lots ⟨rfl, rfl, Nat.le_of_ble_eq_true rfl, Nat.le_of_ble_eq_true rfl⟩ hR hMo.1 ⟨rfl, rfl, rfl⟩ rfl ⟨rfl, Nat.le_of_ble_eq_true rfl⟩ dL_law_1019 (fun _ => ?_)
  exact x_icmp_eq (pc := 1022) C 1076 dL_law_1022 rfl (fun _ => kk _ hI2) (fun q => absurd rfl q)
set_option maxHeartbeats 2000000 in
/-- the call image -/
theorem lc_29 (C : CX p G s m args meth c cL_law ⟨RL, mn, md⟩ 4 ret) (hX : va_X bs Ls xs s s.heap) (hbl : bs < s.heap.size) (hk : k + 5 ≤ Ls) (hL : Ls ≤ 2560) (hGu : isGu L) (hMo : isMo L) (hR : cells ≤ room_1.cells ∧ slots ≤ room_1.slots) (hI : Inv S) (kk : ∀ S', Inv S' → X p l e room_1 s m args below meth c cells slots Q 4 G L s.heap.size S' 1076 [(3, .int (nI k)), (2, .ref (s.heap.size + 140)), (1, .ref (s.heap.size + 0)), (0, .ref bs)] []) : X p l e room_1 s m args below meth c cells slots Q 4 G L s.heap.size S 1027 [(3, .int (nI k)), (2, .ref (s.heap.size + 140)), (1, .ref (s.heap.size + 0)), (0, .ref bs)] [] := by
  have hI0 := hI
  obtain ⟨W, ok, hC, hM⟩ := hI
  obtain ⟨⟨r, S1⟩, h1, ⟨r2, S2⟩, h2, e, hI2⟩ := p_image ok hC hM
  have e9 : r2 = r := e
  subst e9
  have h2 : f_X7_image S1 = some (r2, S2) := h2
  have hI2 : Inv S2 := hI2
  refine x_aload_n (pc := 1027) C 2 dL_law_1027 rfl ?_
  refine x_callV1 (pc := 1028) C (o := 0) [] [] (c_X6_image hGu S _ _ h1) cw_L_136 vi_X6_image ⟨rfl, rfl, Nat.le_of_ble_eq_true rfl, Nat.le_of_ble_eq_true rfl⟩ hR hGu.1 ⟨rfl, rfl, rfl⟩ rfl ⟨rfl, Nat.le_of_ble_eq_true rfl⟩ dL_law_1028 (fun _ => ?_)
  refine x_aload_n (pc := 1031) C 1 dL_law_1031 rfl ?_
  refine x_callV1 (pc := 1032) C (o := 140) [] [.int r2] (c_X7_image hMo S1 _ _ h2) cw_L_139 vi_X7_image ⟨rfl, rfl, Nat.le_of_ble_eq_true rfl, Nat.le_of_ble_eq_true rfl⟩ hR hMo.1 ⟨rfl, rfl, rfl⟩ rfl ⟨rfl, Nat.le_of_ble_eq_true rfl⟩ dL_law_1032 (fun _ => ?_)
  exact x_icmp_eq (pc := 1035) C 1076 dL_law_1035 rfl (fun _ => kk _ hI2) (fun q => absurd rfl q)
set_option maxHeartbeats 2000000 in
/-- the call on -/
theorem lc_30 (C : CX p G s m args meth c cL_law ⟨RL, mn, md⟩ 4 ret) (hX : va_X bs Ls xs s s.heap) (hbl : bs < s.heap.size) (hk : k + 5 ≤ Ls) (hL : Ls ≤ 2560) (hGu : isGu L) (hMo : isMo L) (hR : cells ≤ room_1.cells ∧ slots ≤ room_1.slots) (hI : Inv S) (kk : ∀ S', Inv S' → X p l e room_1 s m args below meth c cells slots Q 4 G L s.heap.size S' 1076 [(3, .int (nI k)), (2, .ref (s.heap.size + 140)), (1, .ref (s.heap.size + 0)), (0, .ref bs)] []) : X p l e room_1 s m args below meth c cells slots Q 4 G L s.heap.size S 1040 [(3, .int (nI k)), (2, .ref (s.heap.size + 140)), (1, .ref (s.heap.size + 0)), (0, .ref bs)] [] := by
  have hI0 := hI
  obtain ⟨W, ok, hC, hM⟩ := hI
  obtain ⟨⟨r, S1⟩, h1, ⟨r2, S2⟩, h2, e, hI2⟩ := p_on ok hC hM
  have e9 : r2 = r := e
  subst e9
  have h2 : f_X7_on S1 = some (r2, S2) := h2
  have hI2 : Inv S2 := hI2
  refine x_aload_n (pc := 1040) C 2 dL_law_1040 rfl ?_
  refine x_callV1 (pc := 1041) C (o := 0) [] [] (c_X6_on hGu S _ _ h1) cw_L_140 vi_X6_on ⟨rfl, rfl, Nat.le_of_ble_eq_true rfl, Nat.le_of_ble_eq_true rfl⟩ hR hGu.1 ⟨rfl, rfl, rfl⟩ rfl ⟨rfl, Nat.le_of_ble_eq_true rfl⟩ dL_law_1041 (fun _ => ?_)
  refine x_aload_n (pc := 1044) C 1 dL_law_1044 rfl ?_
  refine x_callV1 (pc := 1045) C (o := 140) [] [.int r2] (c_X7_on hMo S1 _ _ h2) cw_L_143 vi_X7_on ⟨rfl, rfl, Nat.le_of_ble_eq_true rfl, Nat.le_of_ble_eq_true rfl⟩ hR hMo.1 ⟨rfl, rfl, rfl⟩ rfl ⟨rfl, Nat.le_of_ble_eq_true rfl⟩ dL_law_1045 (fun _ => ?_)
  exact x_icmp_eq (pc := 1048) C 1076 dL_law_1048 rfl (fun _ => kk _ hI2) (fun q => absurd rfl q)
set_option maxHeartbeats 2000000 in
/-- the call count -/
theorem lc_31 (C : CX p G s m args meth c cL_law ⟨RL, mn, md⟩ 4 ret) (hX : va_X bs Ls xs s s.heap) (hbl : bs < s.heap.size) (hk : k + 5 ≤ Ls) (hL : Ls ≤ 2560) (hGu : isGu L) (hMo : isMo L) (hR : cells ≤ room_1.cells ∧ slots ≤ room_1.slots) (hI : Inv S) (kk : ∀ S', Inv S' → X p l e room_1 s m args below meth c cells slots Q 4 G L s.heap.size S' 1076 [(3, .int (nI k)), (2, .ref (s.heap.size + 140)), (1, .ref (s.heap.size + 0)), (0, .ref bs)] []) : X p l e room_1 s m args below meth c cells slots Q 4 G L s.heap.size S 1053 [(3, .int (nI k)), (2, .ref (s.heap.size + 140)), (1, .ref (s.heap.size + 0)), (0, .ref bs)] [] := by
  have hI0 := hI
  obtain ⟨W, ok, hC, hM⟩ := hI
  obtain ⟨r, h1, h2⟩ := p_count ok hC hM (xs (k + 1))
  have hI2 := hI0
  refine x_aload_n (pc := 1053) C 2 dL_law_1053 rfl ?_
  refine x_aload_n (pc := 1054) C 3 dL_law_1054 rfl ?_
  refine x_iload_n (pc := 1055) C 0 dL_law_1055 rfl ?_
  refine x_iconst (pc := 1056) C (v := (1 : Int32)) dL_law_1056 rfl ?_
  refine x_iadd (pc := 1057) C dL_law_1057 ?_
  refine x_sld (pc := 1058) C hX hbl (j := k + 1) (nI_add k 1) ⟨by omega, hL⟩ dL_law_1058 ?_
  refine x_callV1 (pc := 1059) C (o := 0) [.int (xs (k + 1))] [] (c_X6_count (xs (k + 1)) hGu S _ h1) cw_L_144 vi_X6_count ⟨rfl, rfl, Nat.le_of_ble_eq_true rfl, Nat.le_of_ble_eq_true rfl⟩ hR hGu.1 ⟨rfl, rfl, rfl⟩ rfl ⟨rfl, Nat.le_of_ble_eq_true rfl⟩ dL_law_1059 (fun _ => ?_)
  refine x_aload_n (pc := 1062) C 1 dL_law_1062 rfl ?_
  refine x_aload_n (pc := 1063) C 3 dL_law_1063 rfl ?_
  refine x_iload_n (pc := 1064) C 0 dL_law_1064 rfl ?_
  refine x_iconst (pc := 1065) C (v := (1 : Int32)) dL_law_1065 rfl ?_
  refine x_iadd (pc := 1066) C dL_law_1066 ?_
  refine x_sld (pc := 1067) C hX hbl (j := k + 1) (nI_add k 1) ⟨by omega, hL⟩ dL_law_1067 ?_
  refine x_callV1 (pc := 1068) C (o := 140) [.int (xs (k + 1))] [.int r] (c_X7_count (xs (k + 1)) hMo S _ h2) cw_L_147 vi_X7_count ⟨rfl, rfl, Nat.le_of_ble_eq_true rfl, Nat.le_of_ble_eq_true rfl⟩ hR hMo.1 ⟨rfl, rfl, rfl⟩ rfl ⟨rfl, Nat.le_of_ble_eq_true rfl⟩ dL_law_1068 (fun _ => ?_)
  exact x_icmp_eq (pc := 1071) C 1076 dL_law_1071 rfl (fun _ => kk _ hI2) (fun q => absurd rfl q)
end ZLC
