theorem bi_63 : (Int8.ofInt (63)).toInt32 = 63 := by decide
set_option maxRecDepth 100000 in
set_option maxHeartbeats 4000000 in
theorem law_loop {p : Program} {l : Launch} {e : Env} {s : State} {m : MethodId} {below : List Frame} {meth : Method} {c : Code} {b L : Nat} {xs : Nat → Int32} {D : va_G} {cy : Nat → ClassId} {adC adM : Nat → Nat} (I : Nat → aw_M → aw_M → Prop) (ho : ops I) (hL : L ≤ 3072) (hC : LC p s m meth c b L xs D cy adC adM) :
    ∀ (n t i : Nat) (Mc Mm : aw_M), i = 6 * t → i ≤ L → L + 6 ≤ i + 6 * n → I t Mc Mm → LW p l e s m below meth c b D cy adC adM 18 [(0, .ref b), (1, .ref (adC 0)), (2, .ref (adM 0)), (3, .int (nI i))] [] Mc Mm := by
  obtain ⟨h_set, h_machine, h_cloth, h_ofCloth, h_change, h_become, h_as, h_feed, h_text, h_law, h_sew, h_deed, h_loose, h_after, h_until, h_cure, h_alone, h_canBe, h_tellsMost, h_knobWas, h_row, h_odds, h_seed, h_voice, h_trace, h_sheet, h_put, h_move, h_thicks, h_judge, h_image, h_restore, h_tell, h_check, h_count, h_told, h_skip⟩ := ho
  intro n
  induction n with
  | zero => intro t i Mc Mm h0 h1 h2; exact absurd h2 (by omega)
  | succ n ih =>
    intro t i Mc Mm hit hi hin hI
    refine z_iload_n (pc := 18) 3 hC dL_law_18 rfl rfl ?_
    refine z_aload_n (pc := 19) 0 hC dL_law_19 rfl rfl ?_
    refine z_slen (pc := 20) (w := nI L) hC dL_law_20 rfl ?_
    refine z_bipush (pc := 21) (w := 6) hC dL_law_21 bi_6 ?_
    refine z_isub (pc := 23) hC dL_law_23 ?_
    refine z_gt (pc := 24) 1326 hC dL_law_24 (by decide) (fun c_1 => ?_) (fun c_1 => ?_)
    · refine z_iconst (pc := 1326) (w := 1) hC dL_law_1326 ic_1 ?_
      exact z_ret (pc := 1327) hC dL_law_1327
    have hlt : i + 6 ≤ L := by
      rcases Nat.lt_or_ge L (i + 6) with q | q
      · exact absurd (by
          rw [Int32.lt_iff_toInt_lt, show (6 : Int32) = nI 6 by decide, pk_sub_toInt (by omega) (by omega), nI_toInt (by omega)]
          omega) c_1
      · exact q
    have e_1 : nI i + 1 = nI (i + 1) := by rw [show (1 : Int32) = nI 1 by decide]; exact nI_add i 1
    have v_1 : vp_in (nI i + 1) L := by rw [e_1]; exact vp_in_nI (by omega) (by omega)
    obtain ⟨a1, x_1⟩ : ∃ z, xs (nI i + 1).toNatClampNeg = z := ⟨_, rfl⟩
    have e_2 : nI i + 2 = nI (i + 2) := by rw [show (2 : Int32) = nI 2 by decide]; exact nI_add i 2
    have v_2 : vp_in (nI i + 2) L := by rw [e_2]; exact vp_in_nI (by omega) (by omega)
    obtain ⟨a2, x_2⟩ : ∃ z, xs (nI i + 2).toNatClampNeg = z := ⟨_, rfl⟩
    have e_3 : nI i + 3 = nI (i + 3) := by rw [show (3 : Int32) = nI 3 by decide]; exact nI_add i 3
    have v_3 : vp_in (nI i + 3) L := by rw [e_3]; exact vp_in_nI (by omega) (by omega)
    obtain ⟨a3, x_3⟩ : ∃ z, xs (nI i + 3).toNatClampNeg = z := ⟨_, rfl⟩
    have e_4 : nI i + 4 = nI (i + 4) := by rw [show (4 : Int32) = nI 4 by decide]; exact nI_add i 4
    have v_4 : vp_in (nI i + 4) L := by rw [e_4]; exact vp_in_nI (by omega) (by omega)
    obtain ⟨a4, x_4⟩ : ∃ z, xs (nI i + 4).toNatClampNeg = z := ⟨_, rfl⟩
    have e_5 : nI i + 5 = nI (i + 5) := by rw [show (5 : Int32) = nI 5 by decide]; exact nI_add i 5
    have v_5 : vp_in (nI i + 5) L := by rw [e_5]; exact vp_in_nI (by omega) (by omega)
    obtain ⟨a5, x_5⟩ : ∃ z, xs (nI i + 5).toNatClampNeg = z := ⟨_, rfl⟩
    have v_0 : vp_in (nI i) L := vp_in_nI (by omega) (by omega)
    obtain ⟨a0, x_0⟩ : ∃ z, xs (nI i).toNatClampNeg = z := ⟨_, rfl⟩
    have hnext : ∀ Mc Mm : aw_M, I (t + 1) Mc Mm → LW p l e s m below meth c b D cy adC adM 1320 [(0, .ref b), (1, .ref (adC 0)), (2, .ref (adM 0)), (3, .int (nI i))] [] Mc Mm := by
      intro Mc Mm hI
      refine z_iinc (pc := 1320) (nI (i + 6)) [(3, .int (nI (i + 6))), (0, .ref b), (1, .ref (adC 0)), (2, .ref (adM 0))] hC dL_law_1320 rfl (by rw [show Int32.ofInt 6 = nI 6 by decide]; exact nI_add i 6) (by decide) rfl ?_
      refine z_goto (pc := 1323) 18 hC dL_law_1323 (by decide) ?_
      refine z_lv [1, 2, 3, 0] [(0, .ref b), (1, .ref (adC 0)), (2, .ref (adM 0)), (3, .int (nI (i + 6)))] rfl ?_
      exact ih (t + 1) (i + 6) Mc Mm (by omega) (by omega) (by omega) hI
    refine z_aload_n (pc := 27) 0 hC dL_law_27 rfl rfl ?_
    refine z_iload_n (pc := 28) 3 hC dL_law_28 rfl rfl ?_
    refine z_sld (pc := 29) hC dL_law_29 v_0 x_0 ?_
    refine z_bipush (pc := 30) (w := 63) hC dL_law_30 bi_63 ?_
    refine z_iand (pc := 32) hC dL_law_32 ?_
    by_cases k_0 : a0 &&& 63 = 0
    · refine z_tin (pc := 33) (off := 159) 0 192 hC dL_law_33 k_0 (by decide) (by decide) rfl (by decide) ?_
      obtain ⟨r, C1, D1, e1, e2, hI1⟩ := h_set a1 a2 t Mc Mm (by omega) hI
      refine z_aload_n (pc := 192) 1 hC dL_law_192 rfl rfl ?_
      refine z_aload_n (pc := 193) 0 hC dL_law_193 rfl rfl ?_
      refine z_iload_n (pc := 194) 3 hC dL_law_194 rfl rfl ?_
      refine z_iconst (pc := 195) (w := 1) hC dL_law_195 ic_1 ?_
      refine z_iadd (pc := 196) hC dL_law_196 ?_
      refine z_sld (pc := 197) hC dL_law_197 v_1 x_1 ?_
      refine z_aload_n (pc := 198) 0 hC dL_law_198 rfl rfl ?_
      refine z_iload_n (pc := 199) 3 hC dL_law_199 rfl rfl ?_
      refine z_iconst (pc := 200) (w := 2) hC dL_law_200 ic_2 ?_
      refine z_iadd (pc := 201) hC dL_law_201 ?_
      refine z_sld (pc := 202) hC dL_law_202 v_2 x_2 ?_
      refine z_callC (pc := 203) (As := [.int a1, .int a2]) (rest := []) (r := r) (M2 := C1) hC dL_law_203 cw_L_13 rfl rfl (Nat.le_of_ble_eq_true rfl) (tc_LB_set 1000 (by decide) a1 a2 Mc r C1 e1) ?_
      refine z_aload_n (pc := 206) 2 hC dL_law_206 rfl rfl ?_
      refine z_aload_n (pc := 207) 0 hC dL_law_207 rfl rfl ?_
      refine z_iload_n (pc := 208) 3 hC dL_law_208 rfl rfl ?_
      refine z_iconst (pc := 209) (w := 1) hC dL_law_209 ic_1 ?_
      refine z_iadd (pc := 210) hC dL_law_210 ?_
      refine z_sld (pc := 211) hC dL_law_211 v_1 x_1 ?_
      refine z_aload_n (pc := 212) 0 hC dL_law_212 rfl rfl ?_
      refine z_iload_n (pc := 213) 3 hC dL_law_213 rfl rfl ?_
      refine z_iconst (pc := 214) (w := 2) hC dL_law_214 ic_2 ?_
      refine z_iadd (pc := 215) hC dL_law_215 ?_
      refine z_sld (pc := 216) hC dL_law_216 v_2 x_2 ?_
      refine z_callM (pc := 217) (As := [.int a1, .int a2]) (rest := [.int r]) (r := r) (M2 := D1) hC dL_law_217 cw_L_17 rfl rfl (Nat.le_of_ble_eq_true rfl) (tm_set 1000 (by decide) a1 a2 Mm r D1 e2) ?_
      refine z_eq (pc := 220) 1320 hC dL_law_220 (by decide) ?_
      exact hnext C1 D1 hI1
    by_cases k_1 : a0 &&& 63 = 1
    · refine z_tin (pc := 33) (off := 192) 1 225 hC dL_law_33 k_1 (by decide) (by decide) rfl (by decide) ?_
      obtain ⟨r, C1, D1, e1, e2, hI1⟩ := h_machine a1 t Mc Mm (by omega) hI
      refine z_aload_n (pc := 225) 1 hC dL_law_225 rfl rfl ?_
      refine z_aload_n (pc := 226) 0 hC dL_law_226 rfl rfl ?_
      refine z_iload_n (pc := 227) 3 hC dL_law_227 rfl rfl ?_
      refine z_iconst (pc := 228) (w := 1) hC dL_law_228 ic_1 ?_
      refine z_iadd (pc := 229) hC dL_law_229 ?_
      refine z_sld (pc := 230) hC dL_law_230 v_1 x_1 ?_
      refine z_callC (pc := 231) (As := [.int a1]) (rest := []) (r := r) (M2 := C1) hC dL_law_231 cw_L_18 rfl rfl (Nat.le_of_ble_eq_true rfl) (tc_LB_machine 1000 (by decide) a1 Mc r C1 e1) ?_
      refine z_aload_n (pc := 234) 2 hC dL_law_234 rfl rfl ?_
      refine z_aload_n (pc := 235) 0 hC dL_law_235 rfl rfl ?_
      refine z_iload_n (pc := 236) 3 hC dL_law_236 rfl rfl ?_
      refine z_iconst (pc := 237) (w := 1) hC dL_law_237 ic_1 ?_
      refine z_iadd (pc := 238) hC dL_law_238 ?_
      refine z_sld (pc := 239) hC dL_law_239 v_1 x_1 ?_
      refine z_callM (pc := 240) (As := [.int a1]) (rest := [.int r]) (r := r) (M2 := D1) hC dL_law_240 cw_L_22 rfl rfl (Nat.le_of_ble_eq_true rfl) (tm_machine 1000 (by decide) a1 Mm r D1 e2) ?_
      refine z_eq (pc := 243) 1320 hC dL_law_243 (by decide) ?_
      exact hnext C1 D1 hI1
    by_cases k_2 : a0 &&& 63 = 2
    · refine z_tin (pc := 33) (off := 215) 2 248 hC dL_law_33 k_2 (by decide) (by decide) rfl (by decide) ?_
      obtain ⟨r, C1, D1, e1, e2, hI1⟩ := h_cloth a1 a2 t Mc Mm (by omega) hI
      refine z_aload_n (pc := 248) 1 hC dL_law_248 rfl rfl ?_
      refine z_aload_n (pc := 249) 0 hC dL_law_249 rfl rfl ?_
      refine z_iload_n (pc := 250) 3 hC dL_law_250 rfl rfl ?_
      refine z_iconst (pc := 251) (w := 1) hC dL_law_251 ic_1 ?_
      refine z_iadd (pc := 252) hC dL_law_252 ?_
      refine z_sld (pc := 253) hC dL_law_253 v_1 x_1 ?_
      refine z_aload_n (pc := 254) 0 hC dL_law_254 rfl rfl ?_
      refine z_iload_n (pc := 255) 3 hC dL_law_255 rfl rfl ?_
      refine z_iconst (pc := 256) (w := 2) hC dL_law_256 ic_2 ?_
      refine z_iadd (pc := 257) hC dL_law_257 ?_
      refine z_sld (pc := 258) hC dL_law_258 v_2 x_2 ?_
      refine z_callC (pc := 259) (As := [.int a1, .int a2]) (rest := []) (r := r) (M2 := C1) hC dL_law_259 cw_L_23 rfl rfl (Nat.le_of_ble_eq_true rfl) (tc_LB_cloth 1000 (by decide) a1 a2 Mc r C1 e1) ?_
      refine z_aload_n (pc := 262) 2 hC dL_law_262 rfl rfl ?_
      refine z_aload_n (pc := 263) 0 hC dL_law_263 rfl rfl ?_
      refine z_iload_n (pc := 264) 3 hC dL_law_264 rfl rfl ?_
      refine z_iconst (pc := 265) (w := 1) hC dL_law_265 ic_1 ?_
      refine z_iadd (pc := 266) hC dL_law_266 ?_
      refine z_sld (pc := 267) hC dL_law_267 v_1 x_1 ?_
      refine z_aload_n (pc := 268) 0 hC dL_law_268 rfl rfl ?_
      refine z_iload_n (pc := 269) 3 hC dL_law_269 rfl rfl ?_
      refine z_iconst (pc := 270) (w := 2) hC dL_law_270 ic_2 ?_
      refine z_iadd (pc := 271) hC dL_law_271 ?_
      refine z_sld (pc := 272) hC dL_law_272 v_2 x_2 ?_
      refine z_callM (pc := 273) (As := [.int a1, .int a2]) (rest := [.int r]) (r := r) (M2 := D1) hC dL_law_273 cw_L_26 rfl rfl (Nat.le_of_ble_eq_true rfl) (tm_cloth 1000 (by decide) a1 a2 Mm r D1 e2) ?_
      refine z_eq (pc := 276) 1320 hC dL_law_276 (by decide) ?_
      exact hnext C1 D1 hI1
    by_cases k_3 : a0 &&& 63 = 3
    · refine z_tin (pc := 33) (off := 248) 3 281 hC dL_law_33 k_3 (by decide) (by decide) rfl (by decide) ?_
      obtain ⟨r, C1, D1, e1, e2, hI1⟩ := h_ofCloth a1 a2 t Mc Mm (by omega) hI
      refine z_aload_n (pc := 281) 1 hC dL_law_281 rfl rfl ?_
      refine z_aload_n (pc := 282) 0 hC dL_law_282 rfl rfl ?_
      refine z_iload_n (pc := 283) 3 hC dL_law_283 rfl rfl ?_
      refine z_iconst (pc := 284) (w := 1) hC dL_law_284 ic_1 ?_
      refine z_iadd (pc := 285) hC dL_law_285 ?_
      refine z_sld (pc := 286) hC dL_law_286 v_1 x_1 ?_
      refine z_aload_n (pc := 287) 0 hC dL_law_287 rfl rfl ?_
      refine z_iload_n (pc := 288) 3 hC dL_law_288 rfl rfl ?_
      refine z_iconst (pc := 289) (w := 2) hC dL_law_289 ic_2 ?_
      refine z_iadd (pc := 290) hC dL_law_290 ?_
      refine z_sld (pc := 291) hC dL_law_291 v_2 x_2 ?_
      refine z_callC (pc := 292) (As := [.int a1, .int a2]) (rest := []) (r := r) (M2 := C1) hC dL_law_292 cw_L_27 rfl rfl (Nat.le_of_ble_eq_true rfl) (tc_LB_ofCloth 1000 (by decide) a1 a2 Mc r C1 e1) ?_
      refine z_aload_n (pc := 295) 2 hC dL_law_295 rfl rfl ?_
      refine z_aload_n (pc := 296) 0 hC dL_law_296 rfl rfl ?_
      refine z_iload_n (pc := 297) 3 hC dL_law_297 rfl rfl ?_
      refine z_iconst (pc := 298) (w := 1) hC dL_law_298 ic_1 ?_
      refine z_iadd (pc := 299) hC dL_law_299 ?_
      refine z_sld (pc := 300) hC dL_law_300 v_1 x_1 ?_
      refine z_aload_n (pc := 301) 0 hC dL_law_301 rfl rfl ?_
      refine z_iload_n (pc := 302) 3 hC dL_law_302 rfl rfl ?_
      refine z_iconst (pc := 303) (w := 2) hC dL_law_303 ic_2 ?_
      refine z_iadd (pc := 304) hC dL_law_304 ?_
      refine z_sld (pc := 305) hC dL_law_305 v_2 x_2 ?_
      refine z_callM (pc := 306) (As := [.int a1, .int a2]) (rest := [.int r]) (r := r) (M2 := D1) hC dL_law_306 cw_L_30 rfl rfl (Nat.le_of_ble_eq_true rfl) (tm_ofCloth 1000 (by decide) a1 a2 Mm r D1 e2) ?_
      refine z_eq (pc := 309) 1320 hC dL_law_309 (by decide) ?_
      exact hnext C1 D1 hI1
    by_cases k_4 : a0 &&& 63 = 4
    · refine z_tin (pc := 33) (off := 281) 4 314 hC dL_law_33 k_4 (by decide) (by decide) rfl (by decide) ?_
      obtain ⟨r, C1, D1, e1, e2, hI1⟩ := h_change a1 a2 a3 t Mc Mm (by omega) hI
      refine z_aload_n (pc := 314) 1 hC dL_law_314 rfl rfl ?_
      refine z_aload_n (pc := 315) 0 hC dL_law_315 rfl rfl ?_
      refine z_iload_n (pc := 316) 3 hC dL_law_316 rfl rfl ?_
      refine z_iconst (pc := 317) (w := 1) hC dL_law_317 ic_1 ?_
      refine z_iadd (pc := 318) hC dL_law_318 ?_
      refine z_sld (pc := 319) hC dL_law_319 v_1 x_1 ?_
      refine z_aload_n (pc := 320) 0 hC dL_law_320 rfl rfl ?_
      refine z_iload_n (pc := 321) 3 hC dL_law_321 rfl rfl ?_
      refine z_iconst (pc := 322) (w := 2) hC dL_law_322 ic_2 ?_
      refine z_iadd (pc := 323) hC dL_law_323 ?_
      refine z_sld (pc := 324) hC dL_law_324 v_2 x_2 ?_
      refine z_aload_n (pc := 325) 0 hC dL_law_325 rfl rfl ?_
      refine z_iload_n (pc := 326) 3 hC dL_law_326 rfl rfl ?_
      refine z_iconst (pc := 327) (w := 3) hC dL_law_327 ic_3 ?_
      refine z_iadd (pc := 328) hC dL_law_328 ?_
      refine z_sld (pc := 329) hC dL_law_329 v_3 x_3 ?_
      refine z_callC (pc := 330) (As := [.int a1, .int a2, .int a3]) (rest := []) (r := r) (M2 := C1) hC dL_law_330 cw_L_31 rfl rfl (Nat.le_of_ble_eq_true rfl) (tc_LB_change 1000 (by decide) a1 a2 a3 Mc r C1 e1) ?_
      refine z_aload_n (pc := 333) 2 hC dL_law_333 rfl rfl ?_
      refine z_aload_n (pc := 334) 0 hC dL_law_334 rfl rfl ?_
      refine z_iload_n (pc := 335) 3 hC dL_law_335 rfl rfl ?_
      refine z_iconst (pc := 336) (w := 1) hC dL_law_336 ic_1 ?_
      refine z_iadd (pc := 337) hC dL_law_337 ?_
      refine z_sld (pc := 338) hC dL_law_338 v_1 x_1 ?_
      refine z_aload_n (pc := 339) 0 hC dL_law_339 rfl rfl ?_
      refine z_iload_n (pc := 340) 3 hC dL_law_340 rfl rfl ?_
      refine z_iconst (pc := 341) (w := 2) hC dL_law_341 ic_2 ?_
      refine z_iadd (pc := 342) hC dL_law_342 ?_
      refine z_sld (pc := 343) hC dL_law_343 v_2 x_2 ?_
      refine z_aload_n (pc := 344) 0 hC dL_law_344 rfl rfl ?_
      refine z_iload_n (pc := 345) 3 hC dL_law_345 rfl rfl ?_
      refine z_iconst (pc := 346) (w := 3) hC dL_law_346 ic_3 ?_
      refine z_iadd (pc := 347) hC dL_law_347 ?_
      refine z_sld (pc := 348) hC dL_law_348 v_3 x_3 ?_
      refine z_callM (pc := 349) (As := [.int a1, .int a2, .int a3]) (rest := [.int r]) (r := r) (M2 := D1) hC dL_law_349 cw_L_35 rfl rfl (Nat.le_of_ble_eq_true rfl) (tm_change 1000 (by decide) a1 a2 a3 Mm r D1 e2) ?_
      refine z_eq (pc := 352) 1320 hC dL_law_352 (by decide) ?_
      exact hnext C1 D1 hI1
    by_cases k_5 : a0 &&& 63 = 5
    · refine z_tin (pc := 33) (off := 324) 5 357 hC dL_law_33 k_5 (by decide) (by decide) rfl (by decide) ?_
      obtain ⟨r, C1, D1, e1, e2, hI1⟩ := h_become a1 a2 t Mc Mm (by omega) hI
      refine z_aload_n (pc := 357) 1 hC dL_law_357 rfl rfl ?_
      refine z_aload_n (pc := 358) 0 hC dL_law_358 rfl rfl ?_
      refine z_iload_n (pc := 359) 3 hC dL_law_359 rfl rfl ?_
      refine z_iconst (pc := 360) (w := 1) hC dL_law_360 ic_1 ?_
      refine z_iadd (pc := 361) hC dL_law_361 ?_
      refine z_sld (pc := 362) hC dL_law_362 v_1 x_1 ?_
      refine z_aload_n (pc := 363) 0 hC dL_law_363 rfl rfl ?_
      refine z_iload_n (pc := 364) 3 hC dL_law_364 rfl rfl ?_
      refine z_iconst (pc := 365) (w := 2) hC dL_law_365 ic_2 ?_
      refine z_iadd (pc := 366) hC dL_law_366 ?_
      refine z_sld (pc := 367) hC dL_law_367 v_2 x_2 ?_
      refine z_callC (pc := 368) (As := [.int a1, .int a2]) (rest := []) (r := r) (M2 := C1) hC dL_law_368 cw_L_36 rfl rfl (Nat.le_of_ble_eq_true rfl) (tc_LB_become 1000 (by decide) a1 a2 Mc r C1 e1) ?_
      refine z_aload_n (pc := 371) 2 hC dL_law_371 rfl rfl ?_
      refine z_aload_n (pc := 372) 0 hC dL_law_372 rfl rfl ?_
      refine z_iload_n (pc := 373) 3 hC dL_law_373 rfl rfl ?_
      refine z_iconst (pc := 374) (w := 1) hC dL_law_374 ic_1 ?_
      refine z_iadd (pc := 375) hC dL_law_375 ?_
      refine z_sld (pc := 376) hC dL_law_376 v_1 x_1 ?_
      refine z_aload_n (pc := 377) 0 hC dL_law_377 rfl rfl ?_
      refine z_iload_n (pc := 378) 3 hC dL_law_378 rfl rfl ?_
      refine z_iconst (pc := 379) (w := 2) hC dL_law_379 ic_2 ?_
      refine z_iadd (pc := 380) hC dL_law_380 ?_
      refine z_sld (pc := 381) hC dL_law_381 v_2 x_2 ?_
      refine z_callM (pc := 382) (As := [.int a1, .int a2]) (rest := [.int r]) (r := r) (M2 := D1) hC dL_law_382 cw_L_39 rfl rfl (Nat.le_of_ble_eq_true rfl) (tm_become 1000 (by decide) a1 a2 Mm r D1 e2) ?_
      refine z_eq (pc := 385) 1320 hC dL_law_385 (by decide) ?_
      exact hnext C1 D1 hI1
    by_cases k_6 : a0 &&& 63 = 6
    · refine z_tin (pc := 33) (off := 357) 6 390 hC dL_law_33 k_6 (by decide) (by decide) rfl (by decide) ?_
      obtain ⟨r, C1, D1, e1, e2, hI1⟩ := h_as a1 a2 t Mc Mm (by omega) hI
      refine z_aload_n (pc := 390) 1 hC dL_law_390 rfl rfl ?_
      refine z_aload_n (pc := 391) 0 hC dL_law_391 rfl rfl ?_
      refine z_iload_n (pc := 392) 3 hC dL_law_392 rfl rfl ?_
      refine z_iconst (pc := 393) (w := 1) hC dL_law_393 ic_1 ?_
      refine z_iadd (pc := 394) hC dL_law_394 ?_
      refine z_sld (pc := 395) hC dL_law_395 v_1 x_1 ?_
      refine z_aload_n (pc := 396) 0 hC dL_law_396 rfl rfl ?_
      refine z_iload_n (pc := 397) 3 hC dL_law_397 rfl rfl ?_
      refine z_iconst (pc := 398) (w := 2) hC dL_law_398 ic_2 ?_
      refine z_iadd (pc := 399) hC dL_law_399 ?_
      refine z_sld (pc := 400) hC dL_law_400 v_2 x_2 ?_
      refine z_callC (pc := 401) (As := [.int a1, .int a2]) (rest := []) (r := r) (M2 := C1) hC dL_law_401 cw_L_40 rfl rfl (Nat.le_of_ble_eq_true rfl) (tc_LB_as 1000 (by decide) a1 a2 Mc r C1 e1) ?_
      refine z_aload_n (pc := 404) 2 hC dL_law_404 rfl rfl ?_
      refine z_aload_n (pc := 405) 0 hC dL_law_405 rfl rfl ?_
      refine z_iload_n (pc := 406) 3 hC dL_law_406 rfl rfl ?_
      refine z_iconst (pc := 407) (w := 1) hC dL_law_407 ic_1 ?_
      refine z_iadd (pc := 408) hC dL_law_408 ?_
      refine z_sld (pc := 409) hC dL_law_409 v_1 x_1 ?_
      refine z_aload_n (pc := 410) 0 hC dL_law_410 rfl rfl ?_
      refine z_iload_n (pc := 411) 3 hC dL_law_411 rfl rfl ?_
      refine z_iconst (pc := 412) (w := 2) hC dL_law_412 ic_2 ?_
      refine z_iadd (pc := 413) hC dL_law_413 ?_
      refine z_sld (pc := 414) hC dL_law_414 v_2 x_2 ?_
      refine z_callM (pc := 415) (As := [.int a1, .int a2]) (rest := [.int r]) (r := r) (M2 := D1) hC dL_law_415 cw_L_43 rfl rfl (Nat.le_of_ble_eq_true rfl) (tm_as 1000 (by decide) a1 a2 Mm r D1 e2) ?_
      refine z_eq (pc := 418) 1320 hC dL_law_418 (by decide) ?_
      exact hnext C1 D1 hI1
    by_cases k_7 : a0 &&& 63 = 7
    · refine z_tin (pc := 33) (off := 390) 7 423 hC dL_law_33 k_7 (by decide) (by decide) rfl (by decide) ?_
      obtain ⟨r, C1, D1, e1, e2, hI1⟩ := h_feed ((a1.toInt64 <<< ((32 : Int32).toInt64 &&& 63)) ||| (a2.toInt64 &&& 4294967295)) a3 t Mc Mm (by omega) hI
      refine z_aload_n (pc := 423) 1 hC dL_law_423 rfl rfl ?_
      refine z_aload_n (pc := 424) 0 hC dL_law_424 rfl rfl ?_
      refine z_iload_n (pc := 425) 3 hC dL_law_425 rfl rfl ?_
      refine z_iconst (pc := 426) (w := 1) hC dL_law_426 ic_1 ?_
      refine z_iadd (pc := 427) hC dL_law_427 ?_
      refine z_sld (pc := 428) hC dL_law_428 v_1 x_1 ?_
      refine z_i2l (pc := 429) hC dL_law_429 ?_
      refine z_bipush (pc := 430) (w := 32) hC dL_law_430 bi_32 ?_
      refine z_lshl (pc := 432) hC dL_law_432 ?_
      refine z_aload_n (pc := 433) 0 hC dL_law_433 rfl rfl ?_
      refine z_iload_n (pc := 434) 3 hC dL_law_434 rfl rfl ?_
      refine z_iconst (pc := 435) (w := 2) hC dL_law_435 ic_2 ?_
      refine z_iadd (pc := 436) hC dL_law_436 ?_
      refine z_sld (pc := 437) hC dL_law_437 v_2 x_2 ?_
      refine z_i2l (pc := 438) hC dL_law_438 ?_
      refine z_ldc2 (pc := 439) hC dL_law_439 wk_L_44 ?_
      refine z_land (pc := 442) hC dL_law_442 ?_
      refine z_lor (pc := 443) hC dL_law_443 ?_
      refine z_aload_n (pc := 444) 0 hC dL_law_444 rfl rfl ?_
      refine z_iload_n (pc := 445) 3 hC dL_law_445 rfl rfl ?_
      refine z_iconst (pc := 446) (w := 3) hC dL_law_446 ic_3 ?_
      refine z_iadd (pc := 447) hC dL_law_447 ?_
      refine z_sld (pc := 448) hC dL_law_448 v_3 x_3 ?_
      refine z_callC (pc := 449) (As := [.long ((a1.toInt64 <<< ((32 : Int32).toInt64 &&& 63)) ||| (a2.toInt64 &&& 4294967295)), .int a3]) (rest := []) (r := r) (M2 := C1) hC dL_law_449 cw_L_46 rfl rfl (Nat.le_of_ble_eq_true rfl) (tc_LB_feed 1000 (by decide) ((a1.toInt64 <<< ((32 : Int32).toInt64 &&& 63)) ||| (a2.toInt64 &&& 4294967295)) a3 Mc r C1 e1) ?_
      refine z_aload_n (pc := 452) 2 hC dL_law_452 rfl rfl ?_
      refine z_aload_n (pc := 453) 0 hC dL_law_453 rfl rfl ?_
      refine z_iload_n (pc := 454) 3 hC dL_law_454 rfl rfl ?_
      refine z_iconst (pc := 455) (w := 1) hC dL_law_455 ic_1 ?_
      refine z_iadd (pc := 456) hC dL_law_456 ?_
      refine z_sld (pc := 457) hC dL_law_457 v_1 x_1 ?_
      refine z_i2l (pc := 458) hC dL_law_458 ?_
      refine z_bipush (pc := 459) (w := 32) hC dL_law_459 bi_32 ?_
      refine z_lshl (pc := 461) hC dL_law_461 ?_
      refine z_aload_n (pc := 462) 0 hC dL_law_462 rfl rfl ?_
      refine z_iload_n (pc := 463) 3 hC dL_law_463 rfl rfl ?_
      refine z_iconst (pc := 464) (w := 2) hC dL_law_464 ic_2 ?_
      refine z_iadd (pc := 465) hC dL_law_465 ?_
      refine z_sld (pc := 466) hC dL_law_466 v_2 x_2 ?_
      refine z_i2l (pc := 467) hC dL_law_467 ?_
      refine z_ldc2 (pc := 468) hC dL_law_468 wk_L_44 ?_
      refine z_land (pc := 471) hC dL_law_471 ?_
      refine z_lor (pc := 472) hC dL_law_472 ?_
      refine z_aload_n (pc := 473) 0 hC dL_law_473 rfl rfl ?_
      refine z_iload_n (pc := 474) 3 hC dL_law_474 rfl rfl ?_
      refine z_iconst (pc := 475) (w := 3) hC dL_law_475 ic_3 ?_
      refine z_iadd (pc := 476) hC dL_law_476 ?_
      refine z_sld (pc := 477) hC dL_law_477 v_3 x_3 ?_
      refine z_callM (pc := 478) (As := [.long ((a1.toInt64 <<< ((32 : Int32).toInt64 &&& 63)) ||| (a2.toInt64 &&& 4294967295)), .int a3]) (rest := [.int r]) (r := r) (M2 := D1) hC dL_law_478 cw_L_50 rfl rfl (Nat.le_of_ble_eq_true rfl) (tm_feed 1000 (by decide) ((a1.toInt64 <<< ((32 : Int32).toInt64 &&& 63)) ||| (a2.toInt64 &&& 4294967295)) a3 Mm r D1 e2) ?_
      refine z_eq (pc := 481) 1320 hC dL_law_481 (by decide) ?_
      exact hnext C1 D1 hI1
    by_cases k_8 : a0 &&& 63 = 8
    · refine z_tin (pc := 33) (off := 453) 8 486 hC dL_law_33 k_8 (by decide) (by decide) rfl (by decide) ?_
      obtain ⟨r, C1, D1, e1, e2, hI1⟩ := h_text a1 t Mc Mm (by omega) hI
      refine z_aload_n (pc := 486) 1 hC dL_law_486 rfl rfl ?_
      refine z_aload_n (pc := 487) 0 hC dL_law_487 rfl rfl ?_
      refine z_iload_n (pc := 488) 3 hC dL_law_488 rfl rfl ?_
      refine z_iconst (pc := 489) (w := 1) hC dL_law_489 ic_1 ?_
      refine z_iadd (pc := 490) hC dL_law_490 ?_
      refine z_sld (pc := 491) hC dL_law_491 v_1 x_1 ?_
      refine z_callC (pc := 492) (As := [.int a1]) (rest := []) (r := r) (M2 := C1) hC dL_law_492 cw_L_51 rfl rfl (Nat.le_of_ble_eq_true rfl) (tc_LB_text 1000 (by decide) a1 Mc r C1 e1) ?_
      refine z_aload_n (pc := 495) 2 hC dL_law_495 rfl rfl ?_
      refine z_aload_n (pc := 496) 0 hC dL_law_496 rfl rfl ?_
      refine z_iload_n (pc := 497) 3 hC dL_law_497 rfl rfl ?_
      refine z_iconst (pc := 498) (w := 1) hC dL_law_498 ic_1 ?_
      refine z_iadd (pc := 499) hC dL_law_499 ?_
      refine z_sld (pc := 500) hC dL_law_500 v_1 x_1 ?_
      refine z_callM (pc := 501) (As := [.int a1]) (rest := [.int r]) (r := r) (M2 := D1) hC dL_law_501 cw_L_54 rfl rfl (Nat.le_of_ble_eq_true rfl) (tm_text 1000 (by decide) a1 Mm r D1 e2) ?_
      refine z_eq (pc := 504) 1320 hC dL_law_504 (by decide) ?_
      exact hnext C1 D1 hI1
    by_cases k_9 : a0 &&& 63 = 9
    · refine z_tin (pc := 33) (off := 476) 9 509 hC dL_law_33 k_9 (by decide) (by decide) rfl (by decide) ?_
      obtain ⟨r, C1, D1, e1, e2, hI1⟩ := h_law a1 a2 a3 a4 t Mc Mm (by omega) hI
      refine z_aload_n (pc := 509) 1 hC dL_law_509 rfl rfl ?_
      refine z_aload_n (pc := 510) 0 hC dL_law_510 rfl rfl ?_
      refine z_iload_n (pc := 511) 3 hC dL_law_511 rfl rfl ?_
      refine z_iconst (pc := 512) (w := 1) hC dL_law_512 ic_1 ?_
      refine z_iadd (pc := 513) hC dL_law_513 ?_
      refine z_sld (pc := 514) hC dL_law_514 v_1 x_1 ?_
      refine z_aload_n (pc := 515) 0 hC dL_law_515 rfl rfl ?_
      refine z_iload_n (pc := 516) 3 hC dL_law_516 rfl rfl ?_
      refine z_iconst (pc := 517) (w := 2) hC dL_law_517 ic_2 ?_
      refine z_iadd (pc := 518) hC dL_law_518 ?_
      refine z_sld (pc := 519) hC dL_law_519 v_2 x_2 ?_
      refine z_aload_n (pc := 520) 0 hC dL_law_520 rfl rfl ?_
      refine z_iload_n (pc := 521) 3 hC dL_law_521 rfl rfl ?_
      refine z_iconst (pc := 522) (w := 3) hC dL_law_522 ic_3 ?_
      refine z_iadd (pc := 523) hC dL_law_523 ?_
      refine z_sld (pc := 524) hC dL_law_524 v_3 x_3 ?_
      refine z_aload_n (pc := 525) 0 hC dL_law_525 rfl rfl ?_
      refine z_iload_n (pc := 526) 3 hC dL_law_526 rfl rfl ?_
      refine z_iconst (pc := 527) (w := 4) hC dL_law_527 ic_4 ?_
      refine z_iadd (pc := 528) hC dL_law_528 ?_
      refine z_sld (pc := 529) hC dL_law_529 v_4 x_4 ?_
      refine z_callC (pc := 530) (As := [.int a1, .int a2, .int a3, .int a4]) (rest := []) (r := r) (M2 := C1) hC dL_law_530 cw_L_55 rfl rfl (Nat.le_of_ble_eq_true rfl) (tc_LB_law 1000 (by decide) a1 a2 a3 a4 Mc r C1 e1) ?_
      refine z_aload_n (pc := 533) 2 hC dL_law_533 rfl rfl ?_
      refine z_aload_n (pc := 534) 0 hC dL_law_534 rfl rfl ?_
      refine z_iload_n (pc := 535) 3 hC dL_law_535 rfl rfl ?_
      refine z_iconst (pc := 536) (w := 1) hC dL_law_536 ic_1 ?_
      refine z_iadd (pc := 537) hC dL_law_537 ?_
      refine z_sld (pc := 538) hC dL_law_538 v_1 x_1 ?_
      refine z_aload_n (pc := 539) 0 hC dL_law_539 rfl rfl ?_
      refine z_iload_n (pc := 540) 3 hC dL_law_540 rfl rfl ?_
      refine z_iconst (pc := 541) (w := 2) hC dL_law_541 ic_2 ?_
      refine z_iadd (pc := 542) hC dL_law_542 ?_
      refine z_sld (pc := 543) hC dL_law_543 v_2 x_2 ?_
      refine z_aload_n (pc := 544) 0 hC dL_law_544 rfl rfl ?_
      refine z_iload_n (pc := 545) 3 hC dL_law_545 rfl rfl ?_
      refine z_iconst (pc := 546) (w := 3) hC dL_law_546 ic_3 ?_
      refine z_iadd (pc := 547) hC dL_law_547 ?_
      refine z_sld (pc := 548) hC dL_law_548 v_3 x_3 ?_
      refine z_aload_n (pc := 549) 0 hC dL_law_549 rfl rfl ?_
      refine z_iload_n (pc := 550) 3 hC dL_law_550 rfl rfl ?_
      refine z_iconst (pc := 551) (w := 4) hC dL_law_551 ic_4 ?_
      refine z_iadd (pc := 552) hC dL_law_552 ?_
      refine z_sld (pc := 553) hC dL_law_553 v_4 x_4 ?_
      refine z_callM (pc := 554) (As := [.int a1, .int a2, .int a3, .int a4]) (rest := [.int r]) (r := r) (M2 := D1) hC dL_law_554 cw_L_59 rfl rfl (Nat.le_of_ble_eq_true rfl) (tm_law 1000 (by decide) a1 a2 a3 a4 Mm r D1 e2) ?_
      refine z_eq (pc := 557) 1320 hC dL_law_557 (by decide) ?_
      exact hnext C1 D1 hI1
    by_cases k_10 : a0 &&& 63 = 10
    · refine z_tin (pc := 33) (off := 529) 10 562 hC dL_law_33 k_10 (by decide) (by decide) rfl (by decide) ?_
      obtain ⟨r, C1, D1, e1, e2, hI1⟩ := h_sew a1 a2 t Mc Mm (by omega) hI
      refine z_aload_n (pc := 562) 1 hC dL_law_562 rfl rfl ?_
      refine z_aload_n (pc := 563) 0 hC dL_law_563 rfl rfl ?_
      refine z_iload_n (pc := 564) 3 hC dL_law_564 rfl rfl ?_
      refine z_iconst (pc := 565) (w := 1) hC dL_law_565 ic_1 ?_
      refine z_iadd (pc := 566) hC dL_law_566 ?_
      refine z_sld (pc := 567) hC dL_law_567 v_1 x_1 ?_
      refine z_aload_n (pc := 568) 0 hC dL_law_568 rfl rfl ?_
      refine z_iload_n (pc := 569) 3 hC dL_law_569 rfl rfl ?_
      refine z_iconst (pc := 570) (w := 2) hC dL_law_570 ic_2 ?_
      refine z_iadd (pc := 571) hC dL_law_571 ?_
      refine z_sld (pc := 572) hC dL_law_572 v_2 x_2 ?_
      refine z_callC (pc := 573) (As := [.int a1, .int a2]) (rest := []) (r := r) (M2 := C1) hC dL_law_573 cw_L_60 rfl rfl (Nat.le_of_ble_eq_true rfl) (tc_LB_sew 1000 (by decide) a1 a2 Mc r C1 e1) ?_
      refine z_aload_n (pc := 576) 2 hC dL_law_576 rfl rfl ?_
      refine z_aload_n (pc := 577) 0 hC dL_law_577 rfl rfl ?_
      refine z_iload_n (pc := 578) 3 hC dL_law_578 rfl rfl ?_
      refine z_iconst (pc := 579) (w := 1) hC dL_law_579 ic_1 ?_
      refine z_iadd (pc := 580) hC dL_law_580 ?_
      refine z_sld (pc := 581) hC dL_law_581 v_1 x_1 ?_
      refine z_aload_n (pc := 582) 0 hC dL_law_582 rfl rfl ?_
      refine z_iload_n (pc := 583) 3 hC dL_law_583 rfl rfl ?_
      refine z_iconst (pc := 584) (w := 2) hC dL_law_584 ic_2 ?_
      refine z_iadd (pc := 585) hC dL_law_585 ?_
      refine z_sld (pc := 586) hC dL_law_586 v_2 x_2 ?_
      refine z_callM (pc := 587) (As := [.int a1, .int a2]) (rest := [.int r]) (r := r) (M2 := D1) hC dL_law_587 cw_L_63 rfl rfl (Nat.le_of_ble_eq_true rfl) (tm_sew 1000 (by decide) a1 a2 Mm r D1 e2) ?_
      refine z_eq (pc := 590) 1320 hC dL_law_590 (by decide) ?_
      exact hnext C1 D1 hI1
    by_cases k_11 : a0 &&& 63 = 11
    · refine z_tin (pc := 33) (off := 562) 11 595 hC dL_law_33 k_11 (by decide) (by decide) rfl (by decide) ?_
      obtain ⟨r, C1, D1, e1, e2, hI1⟩ := h_deed a1 t Mc Mm (by omega) hI
      refine z_aload_n (pc := 595) 1 hC dL_law_595 rfl rfl ?_
      refine z_aload_n (pc := 596) 0 hC dL_law_596 rfl rfl ?_
      refine z_iload_n (pc := 597) 3 hC dL_law_597 rfl rfl ?_
      refine z_iconst (pc := 598) (w := 1) hC dL_law_598 ic_1 ?_
      refine z_iadd (pc := 599) hC dL_law_599 ?_
      refine z_sld (pc := 600) hC dL_law_600 v_1 x_1 ?_
      refine z_callC (pc := 601) (As := [.int a1]) (rest := []) (r := r) (M2 := C1) hC dL_law_601 cw_L_64 rfl rfl (Nat.le_of_ble_eq_true rfl) (tc_LB_deed 1000 (by decide) a1 Mc r C1 e1) ?_
      refine z_aload_n (pc := 604) 2 hC dL_law_604 rfl rfl ?_
      refine z_aload_n (pc := 605) 0 hC dL_law_605 rfl rfl ?_
      refine z_iload_n (pc := 606) 3 hC dL_law_606 rfl rfl ?_
      refine z_iconst (pc := 607) (w := 1) hC dL_law_607 ic_1 ?_
      refine z_iadd (pc := 608) hC dL_law_608 ?_
      refine z_sld (pc := 609) hC dL_law_609 v_1 x_1 ?_
      refine z_callM (pc := 610) (As := [.int a1]) (rest := [.int r]) (r := r) (M2 := D1) hC dL_law_610 cw_L_67 rfl rfl (Nat.le_of_ble_eq_true rfl) (tm_deed 1000 (by decide) a1 Mm r D1 e2) ?_
      refine z_eq (pc := 613) 1320 hC dL_law_613 (by decide) ?_
      exact hnext C1 D1 hI1
    by_cases k_12 : a0 &&& 63 = 12
    · refine z_tin (pc := 33) (off := 585) 12 618 hC dL_law_33 k_12 (by decide) (by decide) rfl (by decide) ?_
      obtain ⟨r, C1, D1, e1, e2, hI1⟩ := h_loose a1 t Mc Mm (by omega) hI
      refine z_aload_n (pc := 618) 1 hC dL_law_618 rfl rfl ?_
      refine z_aload_n (pc := 619) 0 hC dL_law_619 rfl rfl ?_
      refine z_iload_n (pc := 620) 3 hC dL_law_620 rfl rfl ?_
      refine z_iconst (pc := 621) (w := 1) hC dL_law_621 ic_1 ?_
      refine z_iadd (pc := 622) hC dL_law_622 ?_
      refine z_sld (pc := 623) hC dL_law_623 v_1 x_1 ?_
      refine z_callC (pc := 624) (As := [.int a1]) (rest := []) (r := r) (M2 := C1) hC dL_law_624 cw_L_68 rfl rfl (Nat.le_of_ble_eq_true rfl) (tc_LB_loose 1000 (by decide) a1 Mc r C1 e1) ?_
      refine z_aload_n (pc := 627) 2 hC dL_law_627 rfl rfl ?_
      refine z_aload_n (pc := 628) 0 hC dL_law_628 rfl rfl ?_
      refine z_iload_n (pc := 629) 3 hC dL_law_629 rfl rfl ?_
      refine z_iconst (pc := 630) (w := 1) hC dL_law_630 ic_1 ?_
      refine z_iadd (pc := 631) hC dL_law_631 ?_
      refine z_sld (pc := 632) hC dL_law_632 v_1 x_1 ?_
      refine z_callM (pc := 633) (As := [.int a1]) (rest := [.int r]) (r := r) (M2 := D1) hC dL_law_633 cw_L_71 rfl rfl (Nat.le_of_ble_eq_true rfl) (tm_loose 1000 (by decide) a1 Mm r D1 e2) ?_
      refine z_eq (pc := 636) 1320 hC dL_law_636 (by decide) ?_
      exact hnext C1 D1 hI1
    by_cases k_13 : a0 &&& 63 = 13
    · refine z_tin (pc := 33) (off := 608) 13 641 hC dL_law_33 k_13 (by decide) (by decide) rfl (by decide) ?_
      obtain ⟨r, C1, D1, e1, e2, hI1⟩ := h_after a1 a2 t Mc Mm (by omega) hI
      refine z_aload_n (pc := 641) 1 hC dL_law_641 rfl rfl ?_
      refine z_aload_n (pc := 642) 0 hC dL_law_642 rfl rfl ?_
      refine z_iload_n (pc := 643) 3 hC dL_law_643 rfl rfl ?_
      refine z_iconst (pc := 644) (w := 1) hC dL_law_644 ic_1 ?_
      refine z_iadd (pc := 645) hC dL_law_645 ?_
      refine z_sld (pc := 646) hC dL_law_646 v_1 x_1 ?_
      refine z_aload_n (pc := 647) 0 hC dL_law_647 rfl rfl ?_
      refine z_iload_n (pc := 648) 3 hC dL_law_648 rfl rfl ?_
      refine z_iconst (pc := 649) (w := 2) hC dL_law_649 ic_2 ?_
      refine z_iadd (pc := 650) hC dL_law_650 ?_
      refine z_sld (pc := 651) hC dL_law_651 v_2 x_2 ?_
      refine z_callC (pc := 652) (As := [.int a1, .int a2]) (rest := []) (r := r) (M2 := C1) hC dL_law_652 cw_L_72 rfl rfl (Nat.le_of_ble_eq_true rfl) (tc_LB_after 1000 (by decide) a1 a2 Mc r C1 e1) ?_
      refine z_aload_n (pc := 655) 2 hC dL_law_655 rfl rfl ?_
      refine z_aload_n (pc := 656) 0 hC dL_law_656 rfl rfl ?_
      refine z_iload_n (pc := 657) 3 hC dL_law_657 rfl rfl ?_
      refine z_iconst (pc := 658) (w := 1) hC dL_law_658 ic_1 ?_
      refine z_iadd (pc := 659) hC dL_law_659 ?_
      refine z_sld (pc := 660) hC dL_law_660 v_1 x_1 ?_
      refine z_aload_n (pc := 661) 0 hC dL_law_661 rfl rfl ?_
      refine z_iload_n (pc := 662) 3 hC dL_law_662 rfl rfl ?_
      refine z_iconst (pc := 663) (w := 2) hC dL_law_663 ic_2 ?_
      refine z_iadd (pc := 664) hC dL_law_664 ?_
      refine z_sld (pc := 665) hC dL_law_665 v_2 x_2 ?_
      refine z_callM (pc := 666) (As := [.int a1, .int a2]) (rest := [.int r]) (r := r) (M2 := D1) hC dL_law_666 cw_L_75 rfl rfl (Nat.le_of_ble_eq_true rfl) (tm_after 1000 (by decide) a1 a2 Mm r D1 e2) ?_
      refine z_eq (pc := 669) 1320 hC dL_law_669 (by decide) ?_
      exact hnext C1 D1 hI1
    by_cases k_14 : a0 &&& 63 = 14
    · refine z_tin (pc := 33) (off := 641) 14 674 hC dL_law_33 k_14 (by decide) (by decide) rfl (by decide) ?_
      obtain ⟨r, C1, D1, e1, e2, hI1⟩ := h_until a1 t Mc Mm (by omega) hI
      refine z_aload_n (pc := 674) 1 hC dL_law_674 rfl rfl ?_
      refine z_aload_n (pc := 675) 0 hC dL_law_675 rfl rfl ?_
      refine z_iload_n (pc := 676) 3 hC dL_law_676 rfl rfl ?_
      refine z_iconst (pc := 677) (w := 1) hC dL_law_677 ic_1 ?_
      refine z_iadd (pc := 678) hC dL_law_678 ?_
      refine z_sld (pc := 679) hC dL_law_679 v_1 x_1 ?_
      refine z_callC (pc := 680) (As := [.int a1]) (rest := []) (r := r) (M2 := C1) hC dL_law_680 cw_L_76 rfl rfl (Nat.le_of_ble_eq_true rfl) (tc_LB_until 1000 (by decide) a1 Mc r C1 e1) ?_
      refine z_aload_n (pc := 683) 2 hC dL_law_683 rfl rfl ?_
      refine z_aload_n (pc := 684) 0 hC dL_law_684 rfl rfl ?_
      refine z_iload_n (pc := 685) 3 hC dL_law_685 rfl rfl ?_
      refine z_iconst (pc := 686) (w := 1) hC dL_law_686 ic_1 ?_
      refine z_iadd (pc := 687) hC dL_law_687 ?_
      refine z_sld (pc := 688) hC dL_law_688 v_1 x_1 ?_
      refine z_callM (pc := 689) (As := [.int a1]) (rest := [.int r]) (r := r) (M2 := D1) hC dL_law_689 cw_L_79 rfl rfl (Nat.le_of_ble_eq_true rfl) (tm_until 1000 (by decide) a1 Mm r D1 e2) ?_
      refine z_eq (pc := 692) 1320 hC dL_law_692 (by decide) ?_
      exact hnext C1 D1 hI1
    by_cases k_15 : a0 &&& 63 = 15
    · refine z_tin (pc := 33) (off := 664) 15 697 hC dL_law_33 k_15 (by decide) (by decide) rfl (by decide) ?_
      obtain ⟨r, C1, D1, e1, e2, hI1⟩ := h_cure a1 a2 t Mc Mm (by omega) hI
      refine z_aload_n (pc := 697) 1 hC dL_law_697 rfl rfl ?_
      refine z_aload_n (pc := 698) 0 hC dL_law_698 rfl rfl ?_
      refine z_iload_n (pc := 699) 3 hC dL_law_699 rfl rfl ?_
      refine z_iconst (pc := 700) (w := 1) hC dL_law_700 ic_1 ?_
      refine z_iadd (pc := 701) hC dL_law_701 ?_
      refine z_sld (pc := 702) hC dL_law_702 v_1 x_1 ?_
      refine z_aload_n (pc := 703) 0 hC dL_law_703 rfl rfl ?_
      refine z_iload_n (pc := 704) 3 hC dL_law_704 rfl rfl ?_
      refine z_iconst (pc := 705) (w := 2) hC dL_law_705 ic_2 ?_
      refine z_iadd (pc := 706) hC dL_law_706 ?_
      refine z_sld (pc := 707) hC dL_law_707 v_2 x_2 ?_
      refine z_callC (pc := 708) (As := [.int a1, .int a2]) (rest := []) (r := r) (M2 := C1) hC dL_law_708 cw_L_80 rfl rfl (Nat.le_of_ble_eq_true rfl) (tc_LB_cure 1000 (by decide) a1 a2 Mc r C1 e1) ?_
      refine z_aload_n (pc := 711) 2 hC dL_law_711 rfl rfl ?_
      refine z_aload_n (pc := 712) 0 hC dL_law_712 rfl rfl ?_
      refine z_iload_n (pc := 713) 3 hC dL_law_713 rfl rfl ?_
      refine z_iconst (pc := 714) (w := 1) hC dL_law_714 ic_1 ?_
      refine z_iadd (pc := 715) hC dL_law_715 ?_
      refine z_sld (pc := 716) hC dL_law_716 v_1 x_1 ?_
      refine z_aload_n (pc := 717) 0 hC dL_law_717 rfl rfl ?_
      refine z_iload_n (pc := 718) 3 hC dL_law_718 rfl rfl ?_
      refine z_iconst (pc := 719) (w := 2) hC dL_law_719 ic_2 ?_
      refine z_iadd (pc := 720) hC dL_law_720 ?_
      refine z_sld (pc := 721) hC dL_law_721 v_2 x_2 ?_
      refine z_callM (pc := 722) (As := [.int a1, .int a2]) (rest := [.int r]) (r := r) (M2 := D1) hC dL_law_722 cw_L_83 rfl rfl (Nat.le_of_ble_eq_true rfl) (tm_cure 1000 (by decide) a1 a2 Mm r D1 e2) ?_
      refine z_eq (pc := 725) 1320 hC dL_law_725 (by decide) ?_
      exact hnext C1 D1 hI1
    by_cases k_16 : a0 &&& 63 = 16
    · refine z_tin (pc := 33) (off := 697) 16 730 hC dL_law_33 k_16 (by decide) (by decide) rfl (by decide) ?_
      obtain ⟨r, C1, D1, e1, e2, hI1⟩ := h_alone a1 t Mc Mm (by omega) hI
      refine z_aload_n (pc := 730) 1 hC dL_law_730 rfl rfl ?_
      refine z_aload_n (pc := 731) 0 hC dL_law_731 rfl rfl ?_
      refine z_iload_n (pc := 732) 3 hC dL_law_732 rfl rfl ?_
      refine z_iconst (pc := 733) (w := 1) hC dL_law_733 ic_1 ?_
      refine z_iadd (pc := 734) hC dL_law_734 ?_
      refine z_sld (pc := 735) hC dL_law_735 v_1 x_1 ?_
      refine z_callC (pc := 736) (As := [.int a1]) (rest := []) (r := r) (M2 := C1) hC dL_law_736 cw_L_84 rfl rfl (Nat.le_of_ble_eq_true rfl) (tc_LB_alone 1000 (by decide) a1 Mc r C1 e1) ?_
      refine z_aload_n (pc := 739) 2 hC dL_law_739 rfl rfl ?_
      refine z_aload_n (pc := 740) 0 hC dL_law_740 rfl rfl ?_
      refine z_iload_n (pc := 741) 3 hC dL_law_741 rfl rfl ?_
      refine z_iconst (pc := 742) (w := 1) hC dL_law_742 ic_1 ?_
      refine z_iadd (pc := 743) hC dL_law_743 ?_
      refine z_sld (pc := 744) hC dL_law_744 v_1 x_1 ?_
      refine z_callM (pc := 745) (As := [.int a1]) (rest := [.int r]) (r := r) (M2 := D1) hC dL_law_745 cw_L_87 rfl rfl (Nat.le_of_ble_eq_true rfl) (tm_alone 1000 (by decide) a1 Mm r D1 e2) ?_
      refine z_eq (pc := 748) 1320 hC dL_law_748 (by decide) ?_
      exact hnext C1 D1 hI1
    by_cases k_17 : a0 &&& 63 = 17
    · refine z_tin (pc := 33) (off := 720) 17 753 hC dL_law_33 k_17 (by decide) (by decide) rfl (by decide) ?_
      obtain ⟨r, C1, D1, e1, e2, hI1⟩ := h_canBe a1 a2 t Mc Mm (by omega) hI
      refine z_aload_n (pc := 753) 1 hC dL_law_753 rfl rfl ?_
      refine z_aload_n (pc := 754) 0 hC dL_law_754 rfl rfl ?_
      refine z_iload_n (pc := 755) 3 hC dL_law_755 rfl rfl ?_
      refine z_iconst (pc := 756) (w := 1) hC dL_law_756 ic_1 ?_
      refine z_iadd (pc := 757) hC dL_law_757 ?_
      refine z_sld (pc := 758) hC dL_law_758 v_1 x_1 ?_
      refine z_aload_n (pc := 759) 0 hC dL_law_759 rfl rfl ?_
      refine z_iload_n (pc := 760) 3 hC dL_law_760 rfl rfl ?_
      refine z_iconst (pc := 761) (w := 2) hC dL_law_761 ic_2 ?_
      refine z_iadd (pc := 762) hC dL_law_762 ?_
      refine z_sld (pc := 763) hC dL_law_763 v_2 x_2 ?_
      refine z_callC (pc := 764) (As := [.int a1, .int a2]) (rest := []) (r := r) (M2 := C1) hC dL_law_764 cw_L_88 rfl rfl (Nat.le_of_ble_eq_true rfl) (tc_LB_canBe 1000 (by decide) a1 a2 Mc r C1 e1) ?_
      refine z_aload_n (pc := 767) 2 hC dL_law_767 rfl rfl ?_
      refine z_aload_n (pc := 768) 0 hC dL_law_768 rfl rfl ?_
      refine z_iload_n (pc := 769) 3 hC dL_law_769 rfl rfl ?_
      refine z_iconst (pc := 770) (w := 1) hC dL_law_770 ic_1 ?_
      refine z_iadd (pc := 771) hC dL_law_771 ?_
      refine z_sld (pc := 772) hC dL_law_772 v_1 x_1 ?_
      refine z_aload_n (pc := 773) 0 hC dL_law_773 rfl rfl ?_
      refine z_iload_n (pc := 774) 3 hC dL_law_774 rfl rfl ?_
      refine z_iconst (pc := 775) (w := 2) hC dL_law_775 ic_2 ?_
      refine z_iadd (pc := 776) hC dL_law_776 ?_
      refine z_sld (pc := 777) hC dL_law_777 v_2 x_2 ?_
      refine z_callM (pc := 778) (As := [.int a1, .int a2]) (rest := [.int r]) (r := r) (M2 := D1) hC dL_law_778 cw_L_91 rfl rfl (Nat.le_of_ble_eq_true rfl) (tm_canBe 1000 (by decide) a1 a2 Mm r D1 e2) ?_
      refine z_eq (pc := 781) 1320 hC dL_law_781 (by decide) ?_
      exact hnext C1 D1 hI1
    by_cases k_18 : a0 &&& 63 = 18
    · refine z_tin (pc := 33) (off := 753) 18 786 hC dL_law_33 k_18 (by decide) (by decide) rfl (by decide) ?_
      obtain ⟨r, C1, D1, e1, e2, hI1⟩ := h_tellsMost a1 t Mc Mm (by omega) hI
      refine z_aload_n (pc := 786) 1 hC dL_law_786 rfl rfl ?_
      refine z_aload_n (pc := 787) 0 hC dL_law_787 rfl rfl ?_
      refine z_iload_n (pc := 788) 3 hC dL_law_788 rfl rfl ?_
      refine z_iconst (pc := 789) (w := 1) hC dL_law_789 ic_1 ?_
      refine z_iadd (pc := 790) hC dL_law_790 ?_
      refine z_sld (pc := 791) hC dL_law_791 v_1 x_1 ?_
      refine z_callC (pc := 792) (As := [.int a1]) (rest := []) (r := r) (M2 := C1) hC dL_law_792 cw_L_92 rfl rfl (Nat.le_of_ble_eq_true rfl) (tc_LB_tellsMost 1000 (by decide) a1 Mc r C1 e1) ?_
      refine z_aload_n (pc := 795) 2 hC dL_law_795 rfl rfl ?_
      refine z_aload_n (pc := 796) 0 hC dL_law_796 rfl rfl ?_
      refine z_iload_n (pc := 797) 3 hC dL_law_797 rfl rfl ?_
      refine z_iconst (pc := 798) (w := 1) hC dL_law_798 ic_1 ?_
      refine z_iadd (pc := 799) hC dL_law_799 ?_
      refine z_sld (pc := 800) hC dL_law_800 v_1 x_1 ?_
      refine z_callM (pc := 801) (As := [.int a1]) (rest := [.int r]) (r := r) (M2 := D1) hC dL_law_801 cw_L_95 rfl rfl (Nat.le_of_ble_eq_true rfl) (tm_tellsMost 1000 (by decide) a1 Mm r D1 e2) ?_
      refine z_eq (pc := 804) 1320 hC dL_law_804 (by decide) ?_
      exact hnext C1 D1 hI1
    by_cases k_19 : a0 &&& 63 = 19
    · refine z_tin (pc := 33) (off := 776) 19 809 hC dL_law_33 k_19 (by decide) (by decide) rfl (by decide) ?_
      obtain ⟨r, C1, D1, e1, e2, hI1⟩ := h_knobWas a1 a2 a3 t Mc Mm (by omega) hI
      refine z_aload_n (pc := 809) 1 hC dL_law_809 rfl rfl ?_
      refine z_aload_n (pc := 810) 0 hC dL_law_810 rfl rfl ?_
      refine z_iload_n (pc := 811) 3 hC dL_law_811 rfl rfl ?_
      refine z_iconst (pc := 812) (w := 1) hC dL_law_812 ic_1 ?_
      refine z_iadd (pc := 813) hC dL_law_813 ?_
      refine z_sld (pc := 814) hC dL_law_814 v_1 x_1 ?_
      refine z_aload_n (pc := 815) 0 hC dL_law_815 rfl rfl ?_
      refine z_iload_n (pc := 816) 3 hC dL_law_816 rfl rfl ?_
      refine z_iconst (pc := 817) (w := 2) hC dL_law_817 ic_2 ?_
      refine z_iadd (pc := 818) hC dL_law_818 ?_
      refine z_sld (pc := 819) hC dL_law_819 v_2 x_2 ?_
      refine z_aload_n (pc := 820) 0 hC dL_law_820 rfl rfl ?_
      refine z_iload_n (pc := 821) 3 hC dL_law_821 rfl rfl ?_
      refine z_iconst (pc := 822) (w := 3) hC dL_law_822 ic_3 ?_
      refine z_iadd (pc := 823) hC dL_law_823 ?_
      refine z_sld (pc := 824) hC dL_law_824 v_3 x_3 ?_
      refine z_callC (pc := 825) (As := [.int a1, .int a2, .int a3]) (rest := []) (r := r) (M2 := C1) hC dL_law_825 cw_L_96 rfl rfl (Nat.le_of_ble_eq_true rfl) (tc_LB_knobWas 1000 (by decide) a1 a2 a3 Mc r C1 e1) ?_
      refine z_aload_n (pc := 828) 2 hC dL_law_828 rfl rfl ?_
      refine z_aload_n (pc := 829) 0 hC dL_law_829 rfl rfl ?_
      refine z_iload_n (pc := 830) 3 hC dL_law_830 rfl rfl ?_
      refine z_iconst (pc := 831) (w := 1) hC dL_law_831 ic_1 ?_
      refine z_iadd (pc := 832) hC dL_law_832 ?_
      refine z_sld (pc := 833) hC dL_law_833 v_1 x_1 ?_
      refine z_aload_n (pc := 834) 0 hC dL_law_834 rfl rfl ?_
      refine z_iload_n (pc := 835) 3 hC dL_law_835 rfl rfl ?_
      refine z_iconst (pc := 836) (w := 2) hC dL_law_836 ic_2 ?_
      refine z_iadd (pc := 837) hC dL_law_837 ?_
      refine z_sld (pc := 838) hC dL_law_838 v_2 x_2 ?_
      refine z_aload_n (pc := 839) 0 hC dL_law_839 rfl rfl ?_
      refine z_iload_n (pc := 840) 3 hC dL_law_840 rfl rfl ?_
      refine z_iconst (pc := 841) (w := 3) hC dL_law_841 ic_3 ?_
      refine z_iadd (pc := 842) hC dL_law_842 ?_
      refine z_sld (pc := 843) hC dL_law_843 v_3 x_3 ?_
      refine z_callM (pc := 844) (As := [.int a1, .int a2, .int a3]) (rest := [.int r]) (r := r) (M2 := D1) hC dL_law_844 cw_L_99 rfl rfl (Nat.le_of_ble_eq_true rfl) (tm_knobWas 1000 (by decide) a1 a2 a3 Mm r D1 e2) ?_
      refine z_eq (pc := 847) 1320 hC dL_law_847 (by decide) ?_
      exact hnext C1 D1 hI1
    by_cases k_20 : a0 &&& 63 = 20
    · refine z_tin (pc := 33) (off := 819) 20 852 hC dL_law_33 k_20 (by decide) (by decide) rfl (by decide) ?_
      obtain ⟨r, C1, D1, e1, e2, hI1⟩ := h_row a1 a2 a3 t Mc Mm (by omega) hI
      refine z_aload_n (pc := 852) 1 hC dL_law_852 rfl rfl ?_
      refine z_aload_n (pc := 853) 0 hC dL_law_853 rfl rfl ?_
      refine z_iload_n (pc := 854) 3 hC dL_law_854 rfl rfl ?_
      refine z_iconst (pc := 855) (w := 1) hC dL_law_855 ic_1 ?_
      refine z_iadd (pc := 856) hC dL_law_856 ?_
      refine z_sld (pc := 857) hC dL_law_857 v_1 x_1 ?_
      refine z_aload_n (pc := 858) 0 hC dL_law_858 rfl rfl ?_
      refine z_iload_n (pc := 859) 3 hC dL_law_859 rfl rfl ?_
      refine z_iconst (pc := 860) (w := 2) hC dL_law_860 ic_2 ?_
      refine z_iadd (pc := 861) hC dL_law_861 ?_
      refine z_sld (pc := 862) hC dL_law_862 v_2 x_2 ?_
      refine z_aload_n (pc := 863) 0 hC dL_law_863 rfl rfl ?_
      refine z_iload_n (pc := 864) 3 hC dL_law_864 rfl rfl ?_
      refine z_iconst (pc := 865) (w := 3) hC dL_law_865 ic_3 ?_
      refine z_iadd (pc := 866) hC dL_law_866 ?_
      refine z_sld (pc := 867) hC dL_law_867 v_3 x_3 ?_
      refine z_callC (pc := 868) (As := [.int a1, .int a2, .int a3]) (rest := []) (r := r) (M2 := C1) hC dL_law_868 cw_L_100 rfl rfl (Nat.le_of_ble_eq_true rfl) (tc_LB_row 1000 (by decide) a1 a2 a3 Mc r C1 e1) ?_
      refine z_aload_n (pc := 871) 2 hC dL_law_871 rfl rfl ?_
      refine z_aload_n (pc := 872) 0 hC dL_law_872 rfl rfl ?_
      refine z_iload_n (pc := 873) 3 hC dL_law_873 rfl rfl ?_
      refine z_iconst (pc := 874) (w := 1) hC dL_law_874 ic_1 ?_
      refine z_iadd (pc := 875) hC dL_law_875 ?_
      refine z_sld (pc := 876) hC dL_law_876 v_1 x_1 ?_
      refine z_aload_n (pc := 877) 0 hC dL_law_877 rfl rfl ?_
      refine z_iload_n (pc := 878) 3 hC dL_law_878 rfl rfl ?_
      refine z_iconst (pc := 879) (w := 2) hC dL_law_879 ic_2 ?_
      refine z_iadd (pc := 880) hC dL_law_880 ?_
      refine z_sld (pc := 881) hC dL_law_881 v_2 x_2 ?_
      refine z_aload_n (pc := 882) 0 hC dL_law_882 rfl rfl ?_
      refine z_iload_n (pc := 883) 3 hC dL_law_883 rfl rfl ?_
      refine z_iconst (pc := 884) (w := 3) hC dL_law_884 ic_3 ?_
      refine z_iadd (pc := 885) hC dL_law_885 ?_
      refine z_sld (pc := 886) hC dL_law_886 v_3 x_3 ?_
      refine z_callM (pc := 887) (As := [.int a1, .int a2, .int a3]) (rest := [.int r]) (r := r) (M2 := D1) hC dL_law_887 cw_L_103 rfl rfl (Nat.le_of_ble_eq_true rfl) (tm_row 1000 (by decide) a1 a2 a3 Mm r D1 e2) ?_
      refine z_eq (pc := 890) 1320 hC dL_law_890 (by decide) ?_
      exact hnext C1 D1 hI1
    by_cases k_21 : a0 &&& 63 = 21
    · refine z_tin (pc := 33) (off := 862) 21 895 hC dL_law_33 k_21 (by decide) (by decide) rfl (by decide) ?_
      obtain ⟨r, C1, D1, e1, e2, hI1⟩ := h_odds a1 a2 t Mc Mm (by omega) hI
      refine z_aload_n (pc := 895) 1 hC dL_law_895 rfl rfl ?_
      refine z_aload_n (pc := 896) 0 hC dL_law_896 rfl rfl ?_
      refine z_iload_n (pc := 897) 3 hC dL_law_897 rfl rfl ?_
      refine z_iconst (pc := 898) (w := 1) hC dL_law_898 ic_1 ?_
      refine z_iadd (pc := 899) hC dL_law_899 ?_
      refine z_sld (pc := 900) hC dL_law_900 v_1 x_1 ?_
      refine z_aload_n (pc := 901) 0 hC dL_law_901 rfl rfl ?_
      refine z_iload_n (pc := 902) 3 hC dL_law_902 rfl rfl ?_
      refine z_iconst (pc := 903) (w := 2) hC dL_law_903 ic_2 ?_
      refine z_iadd (pc := 904) hC dL_law_904 ?_
      refine z_sld (pc := 905) hC dL_law_905 v_2 x_2 ?_
      refine z_callC (pc := 906) (As := [.int a1, .int a2]) (rest := []) (r := r) (M2 := C1) hC dL_law_906 cw_L_104 rfl rfl (Nat.le_of_ble_eq_true rfl) (tc_LB_odds 1000 (by decide) a1 a2 Mc r C1 e1) ?_
      refine z_aload_n (pc := 909) 2 hC dL_law_909 rfl rfl ?_
      refine z_aload_n (pc := 910) 0 hC dL_law_910 rfl rfl ?_
      refine z_iload_n (pc := 911) 3 hC dL_law_911 rfl rfl ?_
      refine z_iconst (pc := 912) (w := 1) hC dL_law_912 ic_1 ?_
      refine z_iadd (pc := 913) hC dL_law_913 ?_
      refine z_sld (pc := 914) hC dL_law_914 v_1 x_1 ?_
      refine z_aload_n (pc := 915) 0 hC dL_law_915 rfl rfl ?_
      refine z_iload_n (pc := 916) 3 hC dL_law_916 rfl rfl ?_
      refine z_iconst (pc := 917) (w := 2) hC dL_law_917 ic_2 ?_
      refine z_iadd (pc := 918) hC dL_law_918 ?_
      refine z_sld (pc := 919) hC dL_law_919 v_2 x_2 ?_
      refine z_callM (pc := 920) (As := [.int a1, .int a2]) (rest := [.int r]) (r := r) (M2 := D1) hC dL_law_920 cw_L_107 rfl rfl (Nat.le_of_ble_eq_true rfl) (tm_odds 1000 (by decide) a1 a2 Mm r D1 e2) ?_
      refine z_eq (pc := 923) 1320 hC dL_law_923 (by decide) ?_
      exact hnext C1 D1 hI1
    by_cases k_22 : a0 &&& 63 = 22
    · refine z_tin (pc := 33) (off := 895) 22 928 hC dL_law_33 k_22 (by decide) (by decide) rfl (by decide) ?_
      obtain ⟨r, C1, D1, e1, e2, hI1⟩ := h_seed a1 t Mc Mm (by omega) hI
      refine z_aload_n (pc := 928) 1 hC dL_law_928 rfl rfl ?_
      refine z_aload_n (pc := 929) 0 hC dL_law_929 rfl rfl ?_
      refine z_iload_n (pc := 930) 3 hC dL_law_930 rfl rfl ?_
      refine z_iconst (pc := 931) (w := 1) hC dL_law_931 ic_1 ?_
      refine z_iadd (pc := 932) hC dL_law_932 ?_
      refine z_sld (pc := 933) hC dL_law_933 v_1 x_1 ?_
      refine z_callC (pc := 934) (As := [.int a1]) (rest := []) (r := r) (M2 := C1) hC dL_law_934 cw_L_108 rfl rfl (Nat.le_of_ble_eq_true rfl) (tc_LB_seed 1000 (by decide) a1 Mc r C1 e1) ?_
      refine z_aload_n (pc := 937) 2 hC dL_law_937 rfl rfl ?_
      refine z_aload_n (pc := 938) 0 hC dL_law_938 rfl rfl ?_
      refine z_iload_n (pc := 939) 3 hC dL_law_939 rfl rfl ?_
      refine z_iconst (pc := 940) (w := 1) hC dL_law_940 ic_1 ?_
      refine z_iadd (pc := 941) hC dL_law_941 ?_
      refine z_sld (pc := 942) hC dL_law_942 v_1 x_1 ?_
      refine z_callM (pc := 943) (As := [.int a1]) (rest := [.int r]) (r := r) (M2 := D1) hC dL_law_943 cw_L_111 rfl rfl (Nat.le_of_ble_eq_true rfl) (tm_seed 1000 (by decide) a1 Mm r D1 e2) ?_
      refine z_eq (pc := 946) 1320 hC dL_law_946 (by decide) ?_
      exact hnext C1 D1 hI1
    by_cases k_23 : a0 &&& 63 = 23
    · refine z_tin (pc := 33) (off := 918) 23 951 hC dL_law_33 k_23 (by decide) (by decide) rfl (by decide) ?_
      obtain ⟨r, C1, D1, e1, e2, hI1⟩ := h_voice a1 a2 a3 t Mc Mm (by omega) hI
      refine z_aload_n (pc := 951) 1 hC dL_law_951 rfl rfl ?_
      refine z_aload_n (pc := 952) 0 hC dL_law_952 rfl rfl ?_
      refine z_iload_n (pc := 953) 3 hC dL_law_953 rfl rfl ?_
      refine z_iconst (pc := 954) (w := 1) hC dL_law_954 ic_1 ?_
      refine z_iadd (pc := 955) hC dL_law_955 ?_
      refine z_sld (pc := 956) hC dL_law_956 v_1 x_1 ?_
      refine z_aload_n (pc := 957) 0 hC dL_law_957 rfl rfl ?_
      refine z_iload_n (pc := 958) 3 hC dL_law_958 rfl rfl ?_
      refine z_iconst (pc := 959) (w := 2) hC dL_law_959 ic_2 ?_
      refine z_iadd (pc := 960) hC dL_law_960 ?_
      refine z_sld (pc := 961) hC dL_law_961 v_2 x_2 ?_
      refine z_aload_n (pc := 962) 0 hC dL_law_962 rfl rfl ?_
      refine z_iload_n (pc := 963) 3 hC dL_law_963 rfl rfl ?_
      refine z_iconst (pc := 964) (w := 3) hC dL_law_964 ic_3 ?_
      refine z_iadd (pc := 965) hC dL_law_965 ?_
      refine z_sld (pc := 966) hC dL_law_966 v_3 x_3 ?_
      refine z_callC (pc := 967) (As := [.int a1, .int a2, .int a3]) (rest := []) (r := r) (M2 := C1) hC dL_law_967 cw_L_112 rfl rfl (Nat.le_of_ble_eq_true rfl) (tc_LB_voice 1000 (by decide) a1 a2 a3 Mc r C1 e1) ?_
      refine z_aload_n (pc := 970) 2 hC dL_law_970 rfl rfl ?_
      refine z_aload_n (pc := 971) 0 hC dL_law_971 rfl rfl ?_
      refine z_iload_n (pc := 972) 3 hC dL_law_972 rfl rfl ?_
      refine z_iconst (pc := 973) (w := 1) hC dL_law_973 ic_1 ?_
      refine z_iadd (pc := 974) hC dL_law_974 ?_
      refine z_sld (pc := 975) hC dL_law_975 v_1 x_1 ?_
      refine z_aload_n (pc := 976) 0 hC dL_law_976 rfl rfl ?_
      refine z_iload_n (pc := 977) 3 hC dL_law_977 rfl rfl ?_
      refine z_iconst (pc := 978) (w := 2) hC dL_law_978 ic_2 ?_
      refine z_iadd (pc := 979) hC dL_law_979 ?_
      refine z_sld (pc := 980) hC dL_law_980 v_2 x_2 ?_
      refine z_aload_n (pc := 981) 0 hC dL_law_981 rfl rfl ?_
      refine z_iload_n (pc := 982) 3 hC dL_law_982 rfl rfl ?_
      refine z_iconst (pc := 983) (w := 3) hC dL_law_983 ic_3 ?_
      refine z_iadd (pc := 984) hC dL_law_984 ?_
      refine z_sld (pc := 985) hC dL_law_985 v_3 x_3 ?_
      refine z_callM (pc := 986) (As := [.int a1, .int a2, .int a3]) (rest := [.int r]) (r := r) (M2 := D1) hC dL_law_986 cw_L_115 rfl rfl (Nat.le_of_ble_eq_true rfl) (tm_voice 1000 (by decide) a1 a2 a3 Mm r D1 e2) ?_
      refine z_eq (pc := 989) 1320 hC dL_law_989 (by decide) ?_
      exact hnext C1 D1 hI1
    by_cases k_24 : a0 &&& 63 = 24
    · refine z_tin (pc := 33) (off := 961) 24 994 hC dL_law_33 k_24 (by decide) (by decide) rfl (by decide) ?_
      obtain ⟨r, C1, D1, e1, e2, hI1⟩ := h_trace a1 t Mc Mm (by omega) hI
      refine z_aload_n (pc := 994) 1 hC dL_law_994 rfl rfl ?_
      refine z_aload_n (pc := 995) 0 hC dL_law_995 rfl rfl ?_
      refine z_iload_n (pc := 996) 3 hC dL_law_996 rfl rfl ?_
      refine z_iconst (pc := 997) (w := 1) hC dL_law_997 ic_1 ?_
      refine z_iadd (pc := 998) hC dL_law_998 ?_
      refine z_sld (pc := 999) hC dL_law_999 v_1 x_1 ?_
      refine z_callC (pc := 1000) (As := [.int a1]) (rest := []) (r := r) (M2 := C1) hC dL_law_1000 cw_L_116 rfl rfl (Nat.le_of_ble_eq_true rfl) (tc_LB_trace 1000 (by decide) a1 Mc r C1 e1) ?_
      refine z_aload_n (pc := 1003) 2 hC dL_law_1003 rfl rfl ?_
      refine z_aload_n (pc := 1004) 0 hC dL_law_1004 rfl rfl ?_
      refine z_iload_n (pc := 1005) 3 hC dL_law_1005 rfl rfl ?_
      refine z_iconst (pc := 1006) (w := 1) hC dL_law_1006 ic_1 ?_
      refine z_iadd (pc := 1007) hC dL_law_1007 ?_
      refine z_sld (pc := 1008) hC dL_law_1008 v_1 x_1 ?_
      refine z_callM (pc := 1009) (As := [.int a1]) (rest := [.int r]) (r := r) (M2 := D1) hC dL_law_1009 cw_L_119 rfl rfl (Nat.le_of_ble_eq_true rfl) (tm_trace 1000 (by decide) a1 Mm r D1 e2) ?_
      refine z_eq (pc := 1012) 1320 hC dL_law_1012 (by decide) ?_
      exact hnext C1 D1 hI1
    by_cases k_25 : a0 &&& 63 = 25
    · refine z_tin (pc := 33) (off := 984) 25 1017 hC dL_law_33 k_25 (by decide) (by decide) rfl (by decide) ?_
      obtain ⟨r, C1, D1, e1, e2, hI1⟩ := h_sheet a1 a2 a3 t Mc Mm (by omega) hI
      refine z_aload_n (pc := 1017) 1 hC dL_law_1017 rfl rfl ?_
      refine z_aload_n (pc := 1018) 0 hC dL_law_1018 rfl rfl ?_
      refine z_iload_n (pc := 1019) 3 hC dL_law_1019 rfl rfl ?_
      refine z_iconst (pc := 1020) (w := 1) hC dL_law_1020 ic_1 ?_
      refine z_iadd (pc := 1021) hC dL_law_1021 ?_
      refine z_sld (pc := 1022) hC dL_law_1022 v_1 x_1 ?_
      refine z_aload_n (pc := 1023) 0 hC dL_law_1023 rfl rfl ?_
      refine z_iload_n (pc := 1024) 3 hC dL_law_1024 rfl rfl ?_
      refine z_iconst (pc := 1025) (w := 2) hC dL_law_1025 ic_2 ?_
      refine z_iadd (pc := 1026) hC dL_law_1026 ?_
      refine z_sld (pc := 1027) hC dL_law_1027 v_2 x_2 ?_
      refine z_aload_n (pc := 1028) 0 hC dL_law_1028 rfl rfl ?_
      refine z_iload_n (pc := 1029) 3 hC dL_law_1029 rfl rfl ?_
      refine z_iconst (pc := 1030) (w := 3) hC dL_law_1030 ic_3 ?_
      refine z_iadd (pc := 1031) hC dL_law_1031 ?_
      refine z_sld (pc := 1032) hC dL_law_1032 v_3 x_3 ?_
      refine z_callC (pc := 1033) (As := [.int a1, .int a2, .int a3]) (rest := []) (r := r) (M2 := C1) hC dL_law_1033 cw_L_120 rfl rfl (Nat.le_of_ble_eq_true rfl) (tc_LB_sheet 1000 (by decide) a1 a2 a3 Mc r C1 e1) ?_
      refine z_aload_n (pc := 1036) 2 hC dL_law_1036 rfl rfl ?_
      refine z_aload_n (pc := 1037) 0 hC dL_law_1037 rfl rfl ?_
      refine z_iload_n (pc := 1038) 3 hC dL_law_1038 rfl rfl ?_
      refine z_iconst (pc := 1039) (w := 1) hC dL_law_1039 ic_1 ?_
      refine z_iadd (pc := 1040) hC dL_law_1040 ?_
      refine z_sld (pc := 1041) hC dL_law_1041 v_1 x_1 ?_
      refine z_aload_n (pc := 1042) 0 hC dL_law_1042 rfl rfl ?_
      refine z_iload_n (pc := 1043) 3 hC dL_law_1043 rfl rfl ?_
      refine z_iconst (pc := 1044) (w := 2) hC dL_law_1044 ic_2 ?_
      refine z_iadd (pc := 1045) hC dL_law_1045 ?_
      refine z_sld (pc := 1046) hC dL_law_1046 v_2 x_2 ?_
      refine z_aload_n (pc := 1047) 0 hC dL_law_1047 rfl rfl ?_
      refine z_iload_n (pc := 1048) 3 hC dL_law_1048 rfl rfl ?_
      refine z_iconst (pc := 1049) (w := 3) hC dL_law_1049 ic_3 ?_
      refine z_iadd (pc := 1050) hC dL_law_1050 ?_
      refine z_sld (pc := 1051) hC dL_law_1051 v_3 x_3 ?_
      refine z_callM (pc := 1052) (As := [.int a1, .int a2, .int a3]) (rest := [.int r]) (r := r) (M2 := D1) hC dL_law_1052 cw_L_123 rfl rfl (Nat.le_of_ble_eq_true rfl) (tm_sheet 1000 (by decide) a1 a2 a3 Mm r D1 e2) ?_
      refine z_eq (pc := 1055) 1320 hC dL_law_1055 (by decide) ?_
      exact hnext C1 D1 hI1
    by_cases k_26 : a0 &&& 63 = 26
    · refine z_tin (pc := 33) (off := 1027) 26 1060 hC dL_law_33 k_26 (by decide) (by decide) rfl (by decide) ?_
      obtain ⟨r, C1, D1, e1, e2, hI1⟩ := h_put a1 a2 a3 t Mc Mm (by omega) hI
      refine z_aload_n (pc := 1060) 1 hC dL_law_1060 rfl rfl ?_
      refine z_aload_n (pc := 1061) 0 hC dL_law_1061 rfl rfl ?_
      refine z_iload_n (pc := 1062) 3 hC dL_law_1062 rfl rfl ?_
      refine z_iconst (pc := 1063) (w := 1) hC dL_law_1063 ic_1 ?_
      refine z_iadd (pc := 1064) hC dL_law_1064 ?_
      refine z_sld (pc := 1065) hC dL_law_1065 v_1 x_1 ?_
      refine z_aload_n (pc := 1066) 0 hC dL_law_1066 rfl rfl ?_
      refine z_iload_n (pc := 1067) 3 hC dL_law_1067 rfl rfl ?_
      refine z_iconst (pc := 1068) (w := 2) hC dL_law_1068 ic_2 ?_
      refine z_iadd (pc := 1069) hC dL_law_1069 ?_
      refine z_sld (pc := 1070) hC dL_law_1070 v_2 x_2 ?_
      refine z_aload_n (pc := 1071) 0 hC dL_law_1071 rfl rfl ?_
      refine z_iload_n (pc := 1072) 3 hC dL_law_1072 rfl rfl ?_
      refine z_iconst (pc := 1073) (w := 3) hC dL_law_1073 ic_3 ?_
      refine z_iadd (pc := 1074) hC dL_law_1074 ?_
      refine z_sld (pc := 1075) hC dL_law_1075 v_3 x_3 ?_
      refine z_callC (pc := 1076) (As := [.int a1, .int a2, .int a3]) (rest := []) (r := r) (M2 := C1) hC dL_law_1076 cw_L_124 rfl rfl (Nat.le_of_ble_eq_true rfl) (tc_LB_put 1000 (by decide) a1 a2 a3 Mc r C1 e1) ?_
      refine z_aload_n (pc := 1079) 2 hC dL_law_1079 rfl rfl ?_
      refine z_aload_n (pc := 1080) 0 hC dL_law_1080 rfl rfl ?_
      refine z_iload_n (pc := 1081) 3 hC dL_law_1081 rfl rfl ?_
      refine z_iconst (pc := 1082) (w := 1) hC dL_law_1082 ic_1 ?_
      refine z_iadd (pc := 1083) hC dL_law_1083 ?_
      refine z_sld (pc := 1084) hC dL_law_1084 v_1 x_1 ?_
      refine z_aload_n (pc := 1085) 0 hC dL_law_1085 rfl rfl ?_
      refine z_iload_n (pc := 1086) 3 hC dL_law_1086 rfl rfl ?_
      refine z_iconst (pc := 1087) (w := 2) hC dL_law_1087 ic_2 ?_
      refine z_iadd (pc := 1088) hC dL_law_1088 ?_
      refine z_sld (pc := 1089) hC dL_law_1089 v_2 x_2 ?_
      refine z_aload_n (pc := 1090) 0 hC dL_law_1090 rfl rfl ?_
      refine z_iload_n (pc := 1091) 3 hC dL_law_1091 rfl rfl ?_
      refine z_iconst (pc := 1092) (w := 3) hC dL_law_1092 ic_3 ?_
      refine z_iadd (pc := 1093) hC dL_law_1093 ?_
      refine z_sld (pc := 1094) hC dL_law_1094 v_3 x_3 ?_
      refine z_callM (pc := 1095) (As := [.int a1, .int a2, .int a3]) (rest := [.int r]) (r := r) (M2 := D1) hC dL_law_1095 cw_L_127 rfl rfl (Nat.le_of_ble_eq_true rfl) (tm_put 1000 (by decide) a1 a2 a3 Mm r D1 e2) ?_
      refine z_eq (pc := 1098) 1320 hC dL_law_1098 (by decide) ?_
      exact hnext C1 D1 hI1
    by_cases k_27 : a0 &&& 63 = 27
    · refine z_tin (pc := 33) (off := 1070) 27 1103 hC dL_law_33 k_27 (by decide) (by decide) rfl (by decide) ?_
      obtain ⟨r, C1, D1, e1, e2, hI1⟩ := h_move a1 a2 a3 a4 a5 t Mc Mm (by omega) hI
      refine z_aload_n (pc := 1103) 1 hC dL_law_1103 rfl rfl ?_
      refine z_aload_n (pc := 1104) 0 hC dL_law_1104 rfl rfl ?_
      refine z_iload_n (pc := 1105) 3 hC dL_law_1105 rfl rfl ?_
      refine z_iconst (pc := 1106) (w := 1) hC dL_law_1106 ic_1 ?_
      refine z_iadd (pc := 1107) hC dL_law_1107 ?_
      refine z_sld (pc := 1108) hC dL_law_1108 v_1 x_1 ?_
      refine z_aload_n (pc := 1109) 0 hC dL_law_1109 rfl rfl ?_
      refine z_iload_n (pc := 1110) 3 hC dL_law_1110 rfl rfl ?_
      refine z_iconst (pc := 1111) (w := 2) hC dL_law_1111 ic_2 ?_
      refine z_iadd (pc := 1112) hC dL_law_1112 ?_
      refine z_sld (pc := 1113) hC dL_law_1113 v_2 x_2 ?_
      refine z_aload_n (pc := 1114) 0 hC dL_law_1114 rfl rfl ?_
      refine z_iload_n (pc := 1115) 3 hC dL_law_1115 rfl rfl ?_
      refine z_iconst (pc := 1116) (w := 3) hC dL_law_1116 ic_3 ?_
      refine z_iadd (pc := 1117) hC dL_law_1117 ?_
      refine z_sld (pc := 1118) hC dL_law_1118 v_3 x_3 ?_
      refine z_aload_n (pc := 1119) 0 hC dL_law_1119 rfl rfl ?_
      refine z_iload_n (pc := 1120) 3 hC dL_law_1120 rfl rfl ?_
      refine z_iconst (pc := 1121) (w := 4) hC dL_law_1121 ic_4 ?_
      refine z_iadd (pc := 1122) hC dL_law_1122 ?_
      refine z_sld (pc := 1123) hC dL_law_1123 v_4 x_4 ?_
      refine z_aload_n (pc := 1124) 0 hC dL_law_1124 rfl rfl ?_
      refine z_iload_n (pc := 1125) 3 hC dL_law_1125 rfl rfl ?_
      refine z_iconst (pc := 1126) (w := 5) hC dL_law_1126 ic_5 ?_
      refine z_iadd (pc := 1127) hC dL_law_1127 ?_
      refine z_sld (pc := 1128) hC dL_law_1128 v_5 x_5 ?_
      refine z_callC (pc := 1129) (As := [.int a1, .int a2, .int a3, .int a4, .int a5]) (rest := []) (r := r) (M2 := C1) hC dL_law_1129 cw_L_128 rfl rfl (Nat.le_of_ble_eq_true rfl) (tc_LB_move 1000 (by decide) a1 a2 a3 a4 a5 Mc r C1 e1) ?_
      refine z_aload_n (pc := 1132) 2 hC dL_law_1132 rfl rfl ?_
      refine z_aload_n (pc := 1133) 0 hC dL_law_1133 rfl rfl ?_
      refine z_iload_n (pc := 1134) 3 hC dL_law_1134 rfl rfl ?_
      refine z_iconst (pc := 1135) (w := 1) hC dL_law_1135 ic_1 ?_
      refine z_iadd (pc := 1136) hC dL_law_1136 ?_
      refine z_sld (pc := 1137) hC dL_law_1137 v_1 x_1 ?_
      refine z_aload_n (pc := 1138) 0 hC dL_law_1138 rfl rfl ?_
      refine z_iload_n (pc := 1139) 3 hC dL_law_1139 rfl rfl ?_
      refine z_iconst (pc := 1140) (w := 2) hC dL_law_1140 ic_2 ?_
      refine z_iadd (pc := 1141) hC dL_law_1141 ?_
      refine z_sld (pc := 1142) hC dL_law_1142 v_2 x_2 ?_
      refine z_aload_n (pc := 1143) 0 hC dL_law_1143 rfl rfl ?_
      refine z_iload_n (pc := 1144) 3 hC dL_law_1144 rfl rfl ?_
      refine z_iconst (pc := 1145) (w := 3) hC dL_law_1145 ic_3 ?_
      refine z_iadd (pc := 1146) hC dL_law_1146 ?_
      refine z_sld (pc := 1147) hC dL_law_1147 v_3 x_3 ?_
      refine z_aload_n (pc := 1148) 0 hC dL_law_1148 rfl rfl ?_
      refine z_iload_n (pc := 1149) 3 hC dL_law_1149 rfl rfl ?_
      refine z_iconst (pc := 1150) (w := 4) hC dL_law_1150 ic_4 ?_
      refine z_iadd (pc := 1151) hC dL_law_1151 ?_
      refine z_sld (pc := 1152) hC dL_law_1152 v_4 x_4 ?_
      refine z_aload_n (pc := 1153) 0 hC dL_law_1153 rfl rfl ?_
      refine z_iload_n (pc := 1154) 3 hC dL_law_1154 rfl rfl ?_
      refine z_iconst (pc := 1155) (w := 5) hC dL_law_1155 ic_5 ?_
      refine z_iadd (pc := 1156) hC dL_law_1156 ?_
      refine z_sld (pc := 1157) hC dL_law_1157 v_5 x_5 ?_
      refine z_callM (pc := 1158) (As := [.int a1, .int a2, .int a3, .int a4, .int a5]) (rest := [.int r]) (r := r) (M2 := D1) hC dL_law_1158 cw_L_132 rfl rfl (Nat.le_of_ble_eq_true rfl) (tm_move 1000 (by decide) a1 a2 a3 a4 a5 Mm r D1 e2) ?_
      refine z_eq (pc := 1161) 1320 hC dL_law_1161 (by decide) ?_
      exact hnext C1 D1 hI1
    by_cases k_28 : a0 &&& 63 = 28
    · refine z_tin (pc := 33) (off := 1133) 28 1166 hC dL_law_33 k_28 (by decide) (by decide) rfl (by decide) ?_
      obtain ⟨r, C1, D1, e1, e2, hI1⟩ := h_thicks a1 t Mc Mm (by omega) hI
      refine z_aload_n (pc := 1166) 1 hC dL_law_1166 rfl rfl ?_
      refine z_aload_n (pc := 1167) 0 hC dL_law_1167 rfl rfl ?_
      refine z_iload_n (pc := 1168) 3 hC dL_law_1168 rfl rfl ?_
      refine z_iconst (pc := 1169) (w := 1) hC dL_law_1169 ic_1 ?_
      refine z_iadd (pc := 1170) hC dL_law_1170 ?_
      refine z_sld (pc := 1171) hC dL_law_1171 v_1 x_1 ?_
      refine z_callC (pc := 1172) (As := [.int a1]) (rest := []) (r := r) (M2 := C1) hC dL_law_1172 cw_L_133 rfl rfl (Nat.le_of_ble_eq_true rfl) (tc_LB_thicks 1000 (by decide) a1 Mc r C1 e1) ?_
      refine z_aload_n (pc := 1175) 2 hC dL_law_1175 rfl rfl ?_
      refine z_aload_n (pc := 1176) 0 hC dL_law_1176 rfl rfl ?_
      refine z_iload_n (pc := 1177) 3 hC dL_law_1177 rfl rfl ?_
      refine z_iconst (pc := 1178) (w := 1) hC dL_law_1178 ic_1 ?_
      refine z_iadd (pc := 1179) hC dL_law_1179 ?_
      refine z_sld (pc := 1180) hC dL_law_1180 v_1 x_1 ?_
      refine z_callM (pc := 1181) (As := [.int a1]) (rest := [.int r]) (r := r) (M2 := D1) hC dL_law_1181 cw_L_136 rfl rfl (Nat.le_of_ble_eq_true rfl) (tm_thicks 1000 (by decide) a1 Mm r D1 e2) ?_
      refine z_eq (pc := 1184) 1320 hC dL_law_1184 (by decide) ?_
      exact hnext C1 D1 hI1
    by_cases k_29 : a0 &&& 63 = 29
    · refine z_tin (pc := 33) (off := 1156) 29 1189 hC dL_law_33 k_29 (by decide) (by decide) rfl (by decide) ?_
      obtain ⟨r, C1, D1, e1, e2, hI1⟩ := h_judge a1 t Mc Mm (by omega) hI
      refine z_aload_n (pc := 1189) 1 hC dL_law_1189 rfl rfl ?_
      refine z_aload_n (pc := 1190) 0 hC dL_law_1190 rfl rfl ?_
      refine z_iload_n (pc := 1191) 3 hC dL_law_1191 rfl rfl ?_
      refine z_iconst (pc := 1192) (w := 1) hC dL_law_1192 ic_1 ?_
      refine z_iadd (pc := 1193) hC dL_law_1193 ?_
      refine z_sld (pc := 1194) hC dL_law_1194 v_1 x_1 ?_
      refine z_callC (pc := 1195) (As := [.int a1]) (rest := []) (r := r) (M2 := C1) hC dL_law_1195 cw_L_137 rfl rfl (Nat.le_of_ble_eq_true rfl) (tc_LB_judge 1000 (by decide) a1 Mc r C1 e1) ?_
      refine z_aload_n (pc := 1198) 2 hC dL_law_1198 rfl rfl ?_
      refine z_aload_n (pc := 1199) 0 hC dL_law_1199 rfl rfl ?_
      refine z_iload_n (pc := 1200) 3 hC dL_law_1200 rfl rfl ?_
      refine z_iconst (pc := 1201) (w := 1) hC dL_law_1201 ic_1 ?_
      refine z_iadd (pc := 1202) hC dL_law_1202 ?_
      refine z_sld (pc := 1203) hC dL_law_1203 v_1 x_1 ?_
      refine z_callM (pc := 1204) (As := [.int a1]) (rest := [.int r]) (r := r) (M2 := D1) hC dL_law_1204 cw_L_140 rfl rfl (Nat.le_of_ble_eq_true rfl) (tm_judge 1000 (by decide) a1 Mm r D1 e2) ?_
      refine z_eq (pc := 1207) 1320 hC dL_law_1207 (by decide) ?_
      exact hnext C1 D1 hI1
    by_cases k_30 : a0 &&& 63 = 30
    · refine z_tin (pc := 33) (off := 1179) 30 1212 hC dL_law_33 k_30 (by decide) (by decide) rfl (by decide) ?_
      obtain ⟨r, C1, D1, e1, e2, hI1⟩ := h_image  t Mc Mm (by omega) hI
      refine z_aload_n (pc := 1212) 1 hC dL_law_1212 rfl rfl ?_
      refine z_callC (pc := 1213) (As := []) (rest := []) (r := r) (M2 := C1) hC dL_law_1213 cw_L_141 rfl rfl (Nat.le_of_ble_eq_true rfl) (tc_LB_image 1000 (by decide)  Mc r C1 e1) ?_
      refine z_aload_n (pc := 1216) 2 hC dL_law_1216 rfl rfl ?_
      refine z_callM (pc := 1217) (As := []) (rest := [.int r]) (r := r) (M2 := D1) hC dL_law_1217 cw_L_145 rfl rfl (Nat.le_of_ble_eq_true rfl) (tm_image 1000 (by decide)  Mm r D1 e2) ?_
      refine z_eq (pc := 1220) 1320 hC dL_law_1220 (by decide) ?_
      exact hnext C1 D1 hI1
    by_cases k_31 : a0 &&& 63 = 31
    · refine z_tin (pc := 33) (off := 1192) 31 1225 hC dL_law_33 k_31 (by decide) (by decide) rfl (by decide) ?_
      obtain ⟨r, C1, D1, e1, e2, hI1⟩ := h_restore  t Mc Mm (by omega) hI
      refine z_aload_n (pc := 1225) 1 hC dL_law_1225 rfl rfl ?_
      refine z_callC (pc := 1226) (As := []) (rest := []) (r := r) (M2 := C1) hC dL_law_1226 cw_L_146 rfl rfl (Nat.le_of_ble_eq_true rfl) (tc_LB_restore 1000 (by decide)  Mc r C1 e1) ?_
      refine z_aload_n (pc := 1229) 2 hC dL_law_1229 rfl rfl ?_
      refine z_callM (pc := 1230) (As := []) (rest := [.int r]) (r := r) (M2 := D1) hC dL_law_1230 cw_L_149 rfl rfl (Nat.le_of_ble_eq_true rfl) (tm_restore 1000 (by decide)  Mm r D1 e2) ?_
      refine z_eq (pc := 1233) 1320 hC dL_law_1233 (by decide) ?_
      exact hnext C1 D1 hI1
    by_cases k_32 : a0 &&& 63 = 32
    · refine z_tin (pc := 33) (off := 1205) 32 1238 hC dL_law_33 k_32 (by decide) (by decide) rfl (by decide) ?_
      obtain ⟨r, C1, D1, e1, e2, hI1⟩ := h_tell a1 t Mc Mm (by omega) hI
      refine z_aload_n (pc := 1238) 1 hC dL_law_1238 rfl rfl ?_
      refine z_aload_n (pc := 1239) 0 hC dL_law_1239 rfl rfl ?_
      refine z_iload_n (pc := 1240) 3 hC dL_law_1240 rfl rfl ?_
      refine z_iconst (pc := 1241) (w := 1) hC dL_law_1241 ic_1 ?_
      refine z_iadd (pc := 1242) hC dL_law_1242 ?_
      refine z_sld (pc := 1243) hC dL_law_1243 v_1 x_1 ?_
      refine z_callC (pc := 1244) (As := [.int a1]) (rest := []) (r := r) (M2 := C1) hC dL_law_1244 cw_L_150 rfl rfl (Nat.le_of_ble_eq_true rfl) (tc_LB_tell 1000 (by decide) a1 Mc r C1 e1) ?_
      refine z_aload_n (pc := 1247) 2 hC dL_law_1247 rfl rfl ?_
      refine z_aload_n (pc := 1248) 0 hC dL_law_1248 rfl rfl ?_
      refine z_iload_n (pc := 1249) 3 hC dL_law_1249 rfl rfl ?_
      refine z_iconst (pc := 1250) (w := 1) hC dL_law_1250 ic_1 ?_
      refine z_iadd (pc := 1251) hC dL_law_1251 ?_
      refine z_sld (pc := 1252) hC dL_law_1252 v_1 x_1 ?_
      refine z_callM (pc := 1253) (As := [.int a1]) (rest := [.int r]) (r := r) (M2 := D1) hC dL_law_1253 cw_L_153 rfl rfl (Nat.le_of_ble_eq_true rfl) (tm_tell 1000 (by decide) a1 Mm r D1 e2) ?_
      refine z_eq (pc := 1256) 1320 hC dL_law_1256 (by decide) ?_
      exact hnext C1 D1 hI1
    by_cases k_33 : a0 &&& 63 = 33
    · refine z_tin (pc := 33) (off := 1228) 33 1261 hC dL_law_33 k_33 (by decide) (by decide) rfl (by decide) ?_
      obtain ⟨r, C1, D1, e1, e2, hI1⟩ := h_check  t Mc Mm (by omega) hI
      refine z_aload_n (pc := 1261) 1 hC dL_law_1261 rfl rfl ?_
      refine z_callC (pc := 1262) (As := []) (rest := []) (r := r) (M2 := C1) hC dL_law_1262 cw_L_154 rfl rfl (Nat.le_of_ble_eq_true rfl) (tc_LB_check 1000 (by decide)  Mc r C1 e1) ?_
      refine z_aload_n (pc := 1265) 2 hC dL_law_1265 rfl rfl ?_
      refine z_callM (pc := 1266) (As := []) (rest := [.int r]) (r := r) (M2 := D1) hC dL_law_1266 cw_L_157 rfl rfl (Nat.le_of_ble_eq_true rfl) (tm_check 1000 (by decide)  Mm r D1 e2) ?_
      refine z_eq (pc := 1269) 1320 hC dL_law_1269 (by decide) ?_
      exact hnext C1 D1 hI1
    by_cases k_34 : a0 &&& 63 = 34
    · refine z_tin (pc := 33) (off := 1241) 34 1274 hC dL_law_33 k_34 (by decide) (by decide) rfl (by decide) ?_
      obtain ⟨r, C1, D1, e1, e2, hI1⟩ := h_count a1 t Mc Mm (by omega) hI
      refine z_aload_n (pc := 1274) 1 hC dL_law_1274 rfl rfl ?_
      refine z_aload_n (pc := 1275) 0 hC dL_law_1275 rfl rfl ?_
      refine z_iload_n (pc := 1276) 3 hC dL_law_1276 rfl rfl ?_
      refine z_iconst (pc := 1277) (w := 1) hC dL_law_1277 ic_1 ?_
      refine z_iadd (pc := 1278) hC dL_law_1278 ?_
      refine z_sld (pc := 1279) hC dL_law_1279 v_1 x_1 ?_
      refine z_callC (pc := 1280) (As := [.int a1]) (rest := []) (r := r) (M2 := C1) hC dL_law_1280 cw_L_158 rfl rfl (Nat.le_of_ble_eq_true rfl) (tc_LB_count 1000 (by decide) a1 Mc r C1 e1) ?_
      refine z_aload_n (pc := 1283) 2 hC dL_law_1283 rfl rfl ?_
      refine z_aload_n (pc := 1284) 0 hC dL_law_1284 rfl rfl ?_
      refine z_iload_n (pc := 1285) 3 hC dL_law_1285 rfl rfl ?_
      refine z_iconst (pc := 1286) (w := 1) hC dL_law_1286 ic_1 ?_
      refine z_iadd (pc := 1287) hC dL_law_1287 ?_
      refine z_sld (pc := 1288) hC dL_law_1288 v_1 x_1 ?_
      refine z_callM (pc := 1289) (As := [.int a1]) (rest := [.int r]) (r := r) (M2 := D1) hC dL_law_1289 cw_L_161 rfl rfl (Nat.le_of_ble_eq_true rfl) (tm_count 1000 (by decide) a1 Mm r D1 e2) ?_
      refine z_eq (pc := 1292) 1320 hC dL_law_1292 (by decide) ?_
      exact hnext C1 D1 hI1
    by_cases k_35 : a0 &&& 63 = 35
    · refine z_tin (pc := 33) (off := 1264) 35 1297 hC dL_law_33 k_35 (by decide) (by decide) rfl (by decide) ?_
      obtain ⟨r, C1, D1, e1, e2, hI1⟩ := h_told a1 t Mc Mm (by omega) hI
      refine z_aload_n (pc := 1297) 1 hC dL_law_1297 rfl rfl ?_
      refine z_aload_n (pc := 1298) 0 hC dL_law_1298 rfl rfl ?_
      refine z_iload_n (pc := 1299) 3 hC dL_law_1299 rfl rfl ?_
      refine z_iconst (pc := 1300) (w := 1) hC dL_law_1300 ic_1 ?_
      refine z_iadd (pc := 1301) hC dL_law_1301 ?_
      refine z_sld (pc := 1302) hC dL_law_1302 v_1 x_1 ?_
      refine z_callC (pc := 1303) (As := [.int a1]) (rest := []) (r := r) (M2 := C1) hC dL_law_1303 cw_L_162 rfl rfl (Nat.le_of_ble_eq_true rfl) (tc_LB_told 1000 (by decide) a1 Mc r C1 e1) ?_
      refine z_aload_n (pc := 1306) 2 hC dL_law_1306 rfl rfl ?_
      refine z_aload_n (pc := 1307) 0 hC dL_law_1307 rfl rfl ?_
      refine z_iload_n (pc := 1308) 3 hC dL_law_1308 rfl rfl ?_
      refine z_iconst (pc := 1309) (w := 1) hC dL_law_1309 ic_1 ?_
      refine z_iadd (pc := 1310) hC dL_law_1310 ?_
      refine z_sld (pc := 1311) hC dL_law_1311 v_1 x_1 ?_
      refine z_callM (pc := 1312) (As := [.int a1]) (rest := [.int r]) (r := r) (M2 := D1) hC dL_law_1312 cw_L_165 rfl rfl (Nat.le_of_ble_eq_true rfl) (tm_told 1000 (by decide) a1 Mm r D1 e2) ?_
      refine z_eq (pc := 1315) 1320 hC dL_law_1315 (by decide) ?_
      exact hnext C1 D1 hI1
    refine z_tout (pc := 33) 1320 hC dL_law_33 (by have z0 := lv_neT k_0 (a := 0) rfl; have z1 := lv_neT k_1 (a := 1) rfl; have z2 := lv_neT k_2 (a := 2) rfl; have z3 := lv_neT k_3 (a := 3) rfl; have z4 := lv_neT k_4 (a := 4) rfl; have z5 := lv_neT k_5 (a := 5) rfl; have z6 := lv_neT k_6 (a := 6) rfl; have z7 := lv_neT k_7 (a := 7) rfl; have z8 := lv_neT k_8 (a := 8) rfl; have z9 := lv_neT k_9 (a := 9) rfl; have z10 := lv_neT k_10 (a := 10) rfl; have z11 := lv_neT k_11 (a := 11) rfl; have z12 := lv_neT k_12 (a := 12) rfl; have z13 := lv_neT k_13 (a := 13) rfl; have z14 := lv_neT k_14 (a := 14) rfl; have z15 := lv_neT k_15 (a := 15) rfl; have z16 := lv_neT k_16 (a := 16) rfl; have z17 := lv_neT k_17 (a := 17) rfl; have z18 := lv_neT k_18 (a := 18) rfl; have z19 := lv_neT k_19 (a := 19) rfl; have z20 := lv_neT k_20 (a := 20) rfl; have z21 := lv_neT k_21 (a := 21) rfl; have z22 := lv_neT k_22 (a := 22) rfl; have z23 := lv_neT k_23 (a := 23) rfl; have z24 := lv_neT k_24 (a := 24) rfl; have z25 := lv_neT k_25 (a := 25) rfl; have z26 := lv_neT k_26 (a := 26) rfl; have z27 := lv_neT k_27 (a := 27) rfl; have z28 := lv_neT k_28 (a := 28) rfl; have z29 := lv_neT k_29 (a := 29) rfl; have z30 := lv_neT k_30 (a := 30) rfl; have z31 := lv_neT k_31 (a := 31) rfl; have z32 := lv_neT k_32 (a := 32) rfl; have z33 := lv_neT k_33 (a := 33) rfl; have z34 := lv_neT k_34 (a := 34) rfl; have z35 := lv_neT k_35 (a := 35) rfl; omega) (by decide) ?_
    exact hnext Mc Mm (h_skip t Mc Mm hI)
