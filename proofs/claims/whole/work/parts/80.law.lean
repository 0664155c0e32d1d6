theorem ixin {j L : Nat} (hj : 6 * j + 6 ≤ L ∧ L ≤ 3072) (k : Nat) {c : Int32} (hk : c = nI k ∧ k < 6) : vp_in (nI (6 * j) + c) L := by
  rw [hk.1, nI_add]
  exact vp_in_nI (by have := hk.2; omega) (by omega)
theorem ixat {j L : Nat} {xs : Nat → Int32} (hj : 6 * j + 6 ≤ L ∧ L ≤ 3072) (k : Nat) {c : Int32} (hk : c = nI k ∧ k < 6) : xs (nI (6 * j) + c).toNatClampNeg = xs (6 * j + k) := by
  rw [hk.1, nI_add, nI_clamp (by have := hk.2; omega)]
theorem ixin0 {j L : Nat} (hj : 6 * j + 6 ≤ L ∧ L ≤ 3072) : vp_in (nI (6 * j)) L := vp_in_nI (by omega) (by omega)
theorem ixat0 {j L : Nat} {xs : Nat → Int32} (hj : 6 * j + 6 ≤ L ∧ L ≤ 3072) : xs (nI (6 * j)).toNatClampNeg = xs (6 * j) := by rw [nI_clamp (by omega)]
theorem fa_lt' (a b : Int32) : a < b ↔ a.toInt < b.toInt := Int32.lt_iff_toInt_lt
set_option maxRecDepth 20000 in
theorem lc_feed {E : EE} {b L : Nat} {xs : Nat → Int32} {V U : VV} {Z : State → Prop} {σ τ : Sg} {j : Nat} (h : Rel σ τ) (hL : L ≤ 3072) (hj : 6 * j + 6 ≤ L ∧ L ≤ 3072) (hk : ∀ σ2 τ2 : Sg, Rel σ2 τ2 → TW E b L xs V U Z σ2 τ2 (100 + 10 * j) (4000 + 140 * j) 1363 [(3, .int (nI (6 * j))), (0, .ref b), (1, .ref (V.1 0)), (2, .ref (U.1 0))] []) : TW E b L xs V U Z σ τ (100 + 10 * j) (4000 + 140 * j) 204 [(3, .int (nI (6 * j))), (0, .ref b), (1, .ref (V.1 0)), (2, .ref (U.1 0))] [] := by
  obtain ⟨r, σ2, τ2, hx, hm, hr⟩ := sim_feed h (((Int32.toInt64 (xs (6 * j + 1))) <<< (Int32.toInt64 32 &&& 63)) ||| ((Int32.toInt64 (xs (6 * j + 2))) &&& 4294967295)) (xs (6 * j + 3))
  refine B_aload_n (pc := 204) 2 dL_law_204 rfl ?_
  refine B_aload_n (pc := 205) 1 dL_law_205 rfl ?_
  refine B_iload_n (pc := 206) 0 dL_law_206 rfl ?_
  refine B_iconst (pc := 207) (v := 1) dL_law_207 (by decide) ?_
  refine B_iadd (pc := 208) dL_law_208 ?_
  refine B_sld (pc := 209) dL_law_209 (ixin hj 1 ⟨rfl, by decide⟩) (ixat hj 1 ⟨rfl, by decide⟩) ?_
  refine B_i2l (pc := 210) dL_law_210 ?_
  refine B_bipush (pc := 211) (v := 32) dL_law_211 (by decide) ?_
  refine B_lshl (pc := 213) dL_law_213 ?_
  refine B_aload_n (pc := 214) 1 dL_law_214 rfl ?_
  refine B_iload_n (pc := 215) 0 dL_law_215 rfl ?_
  refine B_iconst (pc := 216) (v := 2) dL_law_216 (by decide) ?_
  refine B_iadd (pc := 217) dL_law_217 ?_
  refine B_sld (pc := 218) dL_law_218 (ixin hj 2 ⟨rfl, by decide⟩) (ixat hj 2 ⟨rfl, by decide⟩) ?_
  refine B_i2l (pc := 219) dL_law_219 ?_
  refine B_ldc2_w (pc := 220) dL_law_220 wd_L_13 ?_
  refine B_land (pc := 223) dL_law_223 ?_
  refine B_lor (pc := 224) dL_law_224 ?_
  refine B_aload_n (pc := 225) 1 dL_law_225 rfl ?_
  refine B_iload_n (pc := 226) 0 dL_law_226 rfl ?_
  refine B_iconst (pc := 227) (v := 3) dL_law_227 (by decide) ?_
  refine B_iadd (pc := 228) dL_law_228 ?_
  refine B_sld (pc := 229) dL_law_229 (ixin hj 3 ⟨rfl, by decide⟩) (ixat hj 3 ⟨rfl, by decide⟩) ?_
  refine B_xI (pc := 230) [.long (((Int32.toInt64 (xs (6 * j + 1))) <<< (Int32.toInt64 32 &&& 63)) ||| ((Int32.toInt64 (xs (6 * j + 2))) &&& 4294967295)), .int (xs (6 * j + 3))] dL_law_230 (kX9_feed V (((Int32.toInt64 (xs (6 * j + 1))) <<< (Int32.toInt64 32 &&& 63)) ||| ((Int32.toInt64 (xs (6 * j + 2))) &&& 4294967295)) (xs (6 * j + 3)) σ) hx cr_X9_feed wl_L_15 (by decide) (by omega) (by omega) rfl rfl (Nat.le_of_ble_eq_true rfl) ?_
  refine B_aload_n (pc := 233) 3 dL_law_233 rfl ?_
  refine B_aload_n (pc := 234) 1 dL_law_234 rfl ?_
  refine B_iload_n (pc := 235) 0 dL_law_235 rfl ?_
  refine B_iconst (pc := 236) (v := 1) dL_law_236 (by decide) ?_
  refine B_iadd (pc := 237) dL_law_237 ?_
  refine B_sld (pc := 238) dL_law_238 (ixin hj 1 ⟨rfl, by decide⟩) (ixat hj 1 ⟨rfl, by decide⟩) ?_
  refine B_i2l (pc := 239) dL_law_239 ?_
  refine B_bipush (pc := 240) (v := 32) dL_law_240 (by decide) ?_
  refine B_lshl (pc := 242) dL_law_242 ?_
  refine B_aload_n (pc := 243) 1 dL_law_243 rfl ?_
  refine B_iload_n (pc := 244) 0 dL_law_244 rfl ?_
  refine B_iconst (pc := 245) (v := 2) dL_law_245 (by decide) ?_
  refine B_iadd (pc := 246) dL_law_246 ?_
  refine B_sld (pc := 247) dL_law_247 (ixin hj 2 ⟨rfl, by decide⟩) (ixat hj 2 ⟨rfl, by decide⟩) ?_
  refine B_i2l (pc := 248) dL_law_248 ?_
  refine B_ldc2_w (pc := 249) dL_law_249 wd_L_13 ?_
  refine B_land (pc := 252) dL_law_252 ?_
  refine B_lor (pc := 253) dL_law_253 ?_
  refine B_aload_n (pc := 254) 1 dL_law_254 rfl ?_
  refine B_iload_n (pc := 255) 0 dL_law_255 rfl ?_
  refine B_iconst (pc := 256) (v := 3) dL_law_256 (by decide) ?_
  refine B_iadd (pc := 257) dL_law_257 ?_
  refine B_sld (pc := 258) dL_law_258 (ixin hj 3 ⟨rfl, by decide⟩) (ixat hj 3 ⟨rfl, by decide⟩) ?_
  refine B_mI (pc := 259) [.long (((Int32.toInt64 (xs (6 * j + 1))) <<< (Int32.toInt64 32 &&& 63)) ||| ((Int32.toInt64 (xs (6 * j + 2))) &&& 4294967295)), .int (xs (6 * j + 3))] dL_law_259 (kX10_feed U (((Int32.toInt64 (xs (6 * j + 1))) <<< (Int32.toInt64 32 &&& 63)) ||| ((Int32.toInt64 (xs (6 * j + 2))) &&& 4294967295)) (xs (6 * j + 3)) τ) hm cr_X10_feed wl_L_19 (by decide) (by omega) (by omega) rfl rfl (Nat.le_of_ble_eq_true rfl) ?_
  refine B_same (pc := 262) 1363 dL_law_262 (by decide) ?_
  exact hk σ2 τ2 hr 
set_option maxRecDepth 20000 in
theorem lc_name {E : EE} {b L : Nat} {xs : Nat → Int32} {V U : VV} {Z : State → Prop} {σ τ : Sg} {j : Nat} (h : Rel σ τ) (hL : L ≤ 3072) (hj : 6 * j + 6 ≤ L ∧ L ≤ 3072) (hk : ∀ σ2 τ2 : Sg, Rel σ2 τ2 → TW E b L xs V U Z σ2 τ2 (100 + 10 * j) (4000 + 140 * j) 1363 [(3, .int (nI (6 * j))), (0, .ref b), (1, .ref (V.1 0)), (2, .ref (U.1 0))] []) : TW E b L xs V U Z σ τ (100 + 10 * j) (4000 + 140 * j) 267 [(3, .int (nI (6 * j))), (0, .ref b), (1, .ref (V.1 0)), (2, .ref (U.1 0))] [] := by
  obtain ⟨r, σ2, τ2, hx, hm, hr⟩ := sim_name h (xs (6 * j + 1))
  refine B_aload_n (pc := 267) 2 dL_law_267 rfl ?_
  refine B_aload_n (pc := 268) 1 dL_law_268 rfl ?_
  refine B_iload_n (pc := 269) 0 dL_law_269 rfl ?_
  refine B_iconst (pc := 270) (v := 1) dL_law_270 (by decide) ?_
  refine B_iadd (pc := 271) dL_law_271 ?_
  refine B_sld (pc := 272) dL_law_272 (ixin hj 1 ⟨rfl, by decide⟩) (ixat hj 1 ⟨rfl, by decide⟩) ?_
  refine B_xI (pc := 273) [.int (xs (6 * j + 1))] dL_law_273 (kX9_name V (xs (6 * j + 1)) σ) hx cr_X9_name wl_L_20 (by decide) (by omega) (by omega) rfl rfl (Nat.le_of_ble_eq_true rfl) ?_
  refine B_aload_n (pc := 276) 3 dL_law_276 rfl ?_
  refine B_aload_n (pc := 277) 1 dL_law_277 rfl ?_
  refine B_iload_n (pc := 278) 0 dL_law_278 rfl ?_
  refine B_iconst (pc := 279) (v := 1) dL_law_279 (by decide) ?_
  refine B_iadd (pc := 280) dL_law_280 ?_
  refine B_sld (pc := 281) dL_law_281 (ixin hj 1 ⟨rfl, by decide⟩) (ixat hj 1 ⟨rfl, by decide⟩) ?_
  refine B_mI (pc := 282) [.int (xs (6 * j + 1))] dL_law_282 (kX10_name U (xs (6 * j + 1)) τ) hm cr_X10_name wl_L_24 (by decide) (by omega) (by omega) rfl rfl (Nat.le_of_ble_eq_true rfl) ?_
  refine B_same (pc := 285) 1363 dL_law_285 (by decide) ?_
  exact hk σ2 τ2 hr 
set_option maxRecDepth 20000 in
theorem lc_ofName {E : EE} {b L : Nat} {xs : Nat → Int32} {V U : VV} {Z : State → Prop} {σ τ : Sg} {j : Nat} (h : Rel σ τ) (hL : L ≤ 3072) (hj : 6 * j + 6 ≤ L ∧ L ≤ 3072) (hk : ∀ σ2 τ2 : Sg, Rel σ2 τ2 → TW E b L xs V U Z σ2 τ2 (100 + 10 * j) (4000 + 140 * j) 1363 [(3, .int (nI (6 * j))), (0, .ref b), (1, .ref (V.1 0)), (2, .ref (U.1 0))] []) : TW E b L xs V U Z σ τ (100 + 10 * j) (4000 + 140 * j) 290 [(3, .int (nI (6 * j))), (0, .ref b), (1, .ref (V.1 0)), (2, .ref (U.1 0))] [] := by
  obtain ⟨r, σ2, τ2, hx, hm, hr⟩ := sim_ofName h (xs (6 * j + 1)) (xs (6 * j + 2))
  refine B_aload_n (pc := 290) 2 dL_law_290 rfl ?_
  refine B_aload_n (pc := 291) 1 dL_law_291 rfl ?_
  refine B_iload_n (pc := 292) 0 dL_law_292 rfl ?_
  refine B_iconst (pc := 293) (v := 1) dL_law_293 (by decide) ?_
  refine B_iadd (pc := 294) dL_law_294 ?_
  refine B_sld (pc := 295) dL_law_295 (ixin hj 1 ⟨rfl, by decide⟩) (ixat hj 1 ⟨rfl, by decide⟩) ?_
  refine B_aload_n (pc := 296) 1 dL_law_296 rfl ?_
  refine B_iload_n (pc := 297) 0 dL_law_297 rfl ?_
  refine B_iconst (pc := 298) (v := 2) dL_law_298 (by decide) ?_
  refine B_iadd (pc := 299) dL_law_299 ?_
  refine B_sld (pc := 300) dL_law_300 (ixin hj 2 ⟨rfl, by decide⟩) (ixat hj 2 ⟨rfl, by decide⟩) ?_
  refine B_xI (pc := 301) [.int (xs (6 * j + 1)), .int (xs (6 * j + 2))] dL_law_301 (kX9_ofName V (xs (6 * j + 1)) (xs (6 * j + 2)) σ) hx cr_X9_ofName wl_L_25 (by decide) (by omega) (by omega) rfl rfl (Nat.le_of_ble_eq_true rfl) ?_
  refine B_aload_n (pc := 304) 3 dL_law_304 rfl ?_
  refine B_aload_n (pc := 305) 1 dL_law_305 rfl ?_
  refine B_iload_n (pc := 306) 0 dL_law_306 rfl ?_
  refine B_iconst (pc := 307) (v := 1) dL_law_307 (by decide) ?_
  refine B_iadd (pc := 308) dL_law_308 ?_
  refine B_sld (pc := 309) dL_law_309 (ixin hj 1 ⟨rfl, by decide⟩) (ixat hj 1 ⟨rfl, by decide⟩) ?_
  refine B_aload_n (pc := 310) 1 dL_law_310 rfl ?_
  refine B_iload_n (pc := 311) 0 dL_law_311 rfl ?_
  refine B_iconst (pc := 312) (v := 2) dL_law_312 (by decide) ?_
  refine B_iadd (pc := 313) dL_law_313 ?_
  refine B_sld (pc := 314) dL_law_314 (ixin hj 2 ⟨rfl, by decide⟩) (ixat hj 2 ⟨rfl, by decide⟩) ?_
  refine B_mI (pc := 315) [.int (xs (6 * j + 1)), .int (xs (6 * j + 2))] dL_law_315 (kX10_ofName U (xs (6 * j + 1)) (xs (6 * j + 2)) τ) hm cr_X10_ofName wl_L_29 (by decide) (by omega) (by omega) rfl rfl (Nat.le_of_ble_eq_true rfl) ?_
  refine B_same (pc := 318) 1363 dL_law_318 (by decide) ?_
  exact hk σ2 τ2 hr 
set_option maxRecDepth 20000 in
theorem lc_sound {E : EE} {b L : Nat} {xs : Nat → Int32} {V U : VV} {Z : State → Prop} {σ τ : Sg} {j : Nat} (h : Rel σ τ) (hL : L ≤ 3072) (hj : 6 * j + 6 ≤ L ∧ L ≤ 3072) (hk : ∀ σ2 τ2 : Sg, Rel σ2 τ2 → TW E b L xs V U Z σ2 τ2 (100 + 10 * j) (4000 + 140 * j) 1363 [(3, .int (nI (6 * j))), (0, .ref b), (1, .ref (V.1 0)), (2, .ref (U.1 0))] []) : TW E b L xs V U Z σ τ (100 + 10 * j) (4000 + 140 * j) 323 [(3, .int (nI (6 * j))), (0, .ref b), (1, .ref (V.1 0)), (2, .ref (U.1 0))] [] := by
  obtain ⟨r, σ2, τ2, hx, hm, hr⟩ := sim_sound h (xs (6 * j + 1)) (xs (6 * j + 2))
  refine B_aload_n (pc := 323) 2 dL_law_323 rfl ?_
  refine B_aload_n (pc := 324) 1 dL_law_324 rfl ?_
  refine B_iload_n (pc := 325) 0 dL_law_325 rfl ?_
  refine B_iconst (pc := 326) (v := 1) dL_law_326 (by decide) ?_
  refine B_iadd (pc := 327) dL_law_327 ?_
  refine B_sld (pc := 328) dL_law_328 (ixin hj 1 ⟨rfl, by decide⟩) (ixat hj 1 ⟨rfl, by decide⟩) ?_
  refine B_aload_n (pc := 329) 1 dL_law_329 rfl ?_
  refine B_iload_n (pc := 330) 0 dL_law_330 rfl ?_
  refine B_iconst (pc := 331) (v := 2) dL_law_331 (by decide) ?_
  refine B_iadd (pc := 332) dL_law_332 ?_
  refine B_sld (pc := 333) dL_law_333 (ixin hj 2 ⟨rfl, by decide⟩) (ixat hj 2 ⟨rfl, by decide⟩) ?_
  refine B_xI (pc := 334) [.int (xs (6 * j + 1)), .int (xs (6 * j + 2))] dL_law_334 (kX9_sound V (xs (6 * j + 1)) (xs (6 * j + 2)) σ) hx cr_X9_sound wl_L_30 (by decide) (by omega) (by omega) rfl rfl (Nat.le_of_ble_eq_true rfl) ?_
  refine B_aload_n (pc := 337) 3 dL_law_337 rfl ?_
  refine B_aload_n (pc := 338) 1 dL_law_338 rfl ?_
  refine B_iload_n (pc := 339) 0 dL_law_339 rfl ?_
  refine B_iconst (pc := 340) (v := 1) dL_law_340 (by decide) ?_
  refine B_iadd (pc := 341) dL_law_341 ?_
  refine B_sld (pc := 342) dL_law_342 (ixin hj 1 ⟨rfl, by decide⟩) (ixat hj 1 ⟨rfl, by decide⟩) ?_
  refine B_aload_n (pc := 343) 1 dL_law_343 rfl ?_
  refine B_iload_n (pc := 344) 0 dL_law_344 rfl ?_
  refine B_iconst (pc := 345) (v := 2) dL_law_345 (by decide) ?_
  refine B_iadd (pc := 346) dL_law_346 ?_
  refine B_sld (pc := 347) dL_law_347 (ixin hj 2 ⟨rfl, by decide⟩) (ixat hj 2 ⟨rfl, by decide⟩) ?_
  refine B_mI (pc := 348) [.int (xs (6 * j + 1)), .int (xs (6 * j + 2))] dL_law_348 (kX10_sound U (xs (6 * j + 1)) (xs (6 * j + 2)) τ) hm cr_X10_sound wl_L_33 (by decide) (by omega) (by omega) rfl rfl (Nat.le_of_ble_eq_true rfl) ?_
  refine B_same (pc := 351) 1363 dL_law_351 (by decide) ?_
  exact hk σ2 τ2 hr 
set_option maxRecDepth 20000 in
theorem lc_clash {E : EE} {b L : Nat} {xs : Nat → Int32} {V U : VV} {Z : State → Prop} {σ τ : Sg} {j : Nat} (h : Rel σ τ) (hL : L ≤ 3072) (hj : 6 * j + 6 ≤ L ∧ L ≤ 3072) (hk : ∀ σ2 τ2 : Sg, Rel σ2 τ2 → TW E b L xs V U Z σ2 τ2 (100 + 10 * j) (4000 + 140 * j) 1363 [(3, .int (nI (6 * j))), (0, .ref b), (1, .ref (V.1 0)), (2, .ref (U.1 0))] []) : TW E b L xs V U Z σ τ (100 + 10 * j) (4000 + 140 * j) 356 [(3, .int (nI (6 * j))), (0, .ref b), (1, .ref (V.1 0)), (2, .ref (U.1 0))] [] := by
  obtain ⟨r, σ2, τ2, hx, hm, hr⟩ := sim_clash h (xs (6 * j + 1)) (xs (6 * j + 2))
  refine B_aload_n (pc := 356) 2 dL_law_356 rfl ?_
  refine B_aload_n (pc := 357) 1 dL_law_357 rfl ?_
  refine B_iload_n (pc := 358) 0 dL_law_358 rfl ?_
  refine B_iconst (pc := 359) (v := 1) dL_law_359 (by decide) ?_
  refine B_iadd (pc := 360) dL_law_360 ?_
  refine B_sld (pc := 361) dL_law_361 (ixin hj 1 ⟨rfl, by decide⟩) (ixat hj 1 ⟨rfl, by decide⟩) ?_
  refine B_aload_n (pc := 362) 1 dL_law_362 rfl ?_
  refine B_iload_n (pc := 363) 0 dL_law_363 rfl ?_
  refine B_iconst (pc := 364) (v := 2) dL_law_364 (by decide) ?_
  refine B_iadd (pc := 365) dL_law_365 ?_
  refine B_sld (pc := 366) dL_law_366 (ixin hj 2 ⟨rfl, by decide⟩) (ixat hj 2 ⟨rfl, by decide⟩) ?_
  refine B_xI (pc := 367) [.int (xs (6 * j + 1)), .int (xs (6 * j + 2))] dL_law_367 (kX9_clash V (xs (6 * j + 1)) (xs (6 * j + 2)) σ) hx cr_X9_clash wl_L_34 (by decide) (by omega) (by omega) rfl rfl (Nat.le_of_ble_eq_true rfl) ?_
  refine B_aload_n (pc := 370) 3 dL_law_370 rfl ?_
  refine B_aload_n (pc := 371) 1 dL_law_371 rfl ?_
  refine B_iload_n (pc := 372) 0 dL_law_372 rfl ?_
  refine B_iconst (pc := 373) (v := 1) dL_law_373 (by decide) ?_
  refine B_iadd (pc := 374) dL_law_374 ?_
  refine B_sld (pc := 375) dL_law_375 (ixin hj 1 ⟨rfl, by decide⟩) (ixat hj 1 ⟨rfl, by decide⟩) ?_
  refine B_aload_n (pc := 376) 1 dL_law_376 rfl ?_
  refine B_iload_n (pc := 377) 0 dL_law_377 rfl ?_
  refine B_iconst (pc := 378) (v := 2) dL_law_378 (by decide) ?_
  refine B_iadd (pc := 379) dL_law_379 ?_
  refine B_sld (pc := 380) dL_law_380 (ixin hj 2 ⟨rfl, by decide⟩) (ixat hj 2 ⟨rfl, by decide⟩) ?_
  refine B_mI (pc := 381) [.int (xs (6 * j + 1)), .int (xs (6 * j + 2))] dL_law_381 (kX10_clash U (xs (6 * j + 1)) (xs (6 * j + 2)) τ) hm cr_X10_clash wl_L_37 (by decide) (by omega) (by omega) rfl rfl (Nat.le_of_ble_eq_true rfl) ?_
  refine B_same (pc := 384) 1363 dL_law_384 (by decide) ?_
  exact hk σ2 τ2 hr 
set_option maxRecDepth 20000 in
theorem lc_strike {E : EE} {b L : Nat} {xs : Nat → Int32} {V U : VV} {Z : State → Prop} {σ τ : Sg} {j : Nat} (h : Rel σ τ) (hL : L ≤ 3072) (hj : 6 * j + 6 ≤ L ∧ L ≤ 3072) (hk : ∀ σ2 τ2 : Sg, Rel σ2 τ2 → TW E b L xs V U Z σ2 τ2 (100 + 10 * j) (4000 + 140 * j) 1363 [(3, .int (nI (6 * j))), (0, .ref b), (1, .ref (V.1 0)), (2, .ref (U.1 0))] []) : TW E b L xs V U Z σ τ (100 + 10 * j) (4000 + 140 * j) 389 [(3, .int (nI (6 * j))), (0, .ref b), (1, .ref (V.1 0)), (2, .ref (U.1 0))] [] := by
  obtain ⟨r, σ2, τ2, hx, hm, hr⟩ := sim_strike h (xs (6 * j + 1)) (xs (6 * j + 2))
  refine B_aload_n (pc := 389) 2 dL_law_389 rfl ?_
  refine B_aload_n (pc := 390) 1 dL_law_390 rfl ?_
  refine B_iload_n (pc := 391) 0 dL_law_391 rfl ?_
  refine B_iconst (pc := 392) (v := 1) dL_law_392 (by decide) ?_
  refine B_iadd (pc := 393) dL_law_393 ?_
  refine B_sld (pc := 394) dL_law_394 (ixin hj 1 ⟨rfl, by decide⟩) (ixat hj 1 ⟨rfl, by decide⟩) ?_
  refine B_aload_n (pc := 395) 1 dL_law_395 rfl ?_
  refine B_iload_n (pc := 396) 0 dL_law_396 rfl ?_
  refine B_iconst (pc := 397) (v := 2) dL_law_397 (by decide) ?_
  refine B_iadd (pc := 398) dL_law_398 ?_
  refine B_sld (pc := 399) dL_law_399 (ixin hj 2 ⟨rfl, by decide⟩) (ixat hj 2 ⟨rfl, by decide⟩) ?_
  refine B_xI (pc := 400) [.int (xs (6 * j + 1)), .int (xs (6 * j + 2))] dL_law_400 (kX9_strike V (xs (6 * j + 1)) (xs (6 * j + 2)) σ) hx cr_X9_strike wl_L_38 (by decide) (by omega) (by omega) rfl rfl (Nat.le_of_ble_eq_true rfl) ?_
  refine B_aload_n (pc := 403) 3 dL_law_403 rfl ?_
  refine B_aload_n (pc := 404) 1 dL_law_404 rfl ?_
  refine B_iload_n (pc := 405) 0 dL_law_405 rfl ?_
  refine B_iconst (pc := 406) (v := 1) dL_law_406 (by decide) ?_
  refine B_iadd (pc := 407) dL_law_407 ?_
  refine B_sld (pc := 408) dL_law_408 (ixin hj 1 ⟨rfl, by decide⟩) (ixat hj 1 ⟨rfl, by decide⟩) ?_
  refine B_aload_n (pc := 409) 1 dL_law_409 rfl ?_
  refine B_iload_n (pc := 410) 0 dL_law_410 rfl ?_
  refine B_iconst (pc := 411) (v := 2) dL_law_411 (by decide) ?_
  refine B_iadd (pc := 412) dL_law_412 ?_
  refine B_sld (pc := 413) dL_law_413 (ixin hj 2 ⟨rfl, by decide⟩) (ixat hj 2 ⟨rfl, by decide⟩) ?_
  refine B_mI (pc := 414) [.int (xs (6 * j + 1)), .int (xs (6 * j + 2))] dL_law_414 (kX10_strike U (xs (6 * j + 1)) (xs (6 * j + 2)) τ) hm cr_X10_strike wl_L_41 (by decide) (by omega) (by omega) rfl rfl (Nat.le_of_ble_eq_true rfl) ?_
  refine B_same (pc := 417) 1363 dL_law_417 (by decide) ?_
  exact hk σ2 τ2 hr 
set_option maxRecDepth 20000 in
theorem lc_person {E : EE} {b L : Nat} {xs : Nat → Int32} {V U : VV} {Z : State → Prop} {σ τ : Sg} {j : Nat} (h : Rel σ τ) (hL : L ≤ 3072) (hj : 6 * j + 6 ≤ L ∧ L ≤ 3072) (hk : ∀ σ2 τ2 : Sg, Rel σ2 τ2 → TW E b L xs V U Z σ2 τ2 (100 + 10 * j) (4000 + 140 * j) 1363 [(3, .int (nI (6 * j))), (0, .ref b), (1, .ref (V.1 0)), (2, .ref (U.1 0))] []) : TW E b L xs V U Z σ τ (100 + 10 * j) (4000 + 140 * j) 422 [(3, .int (nI (6 * j))), (0, .ref b), (1, .ref (V.1 0)), (2, .ref (U.1 0))] [] := by
  obtain ⟨r, σ2, τ2, hx, hm, hr⟩ := sim_person h (xs (6 * j + 1)) (xs (6 * j + 2))
  refine B_aload_n (pc := 422) 2 dL_law_422 rfl ?_
  refine B_aload_n (pc := 423) 1 dL_law_423 rfl ?_
  refine B_iload_n (pc := 424) 0 dL_law_424 rfl ?_
  refine B_iconst (pc := 425) (v := 1) dL_law_425 (by decide) ?_
  refine B_iadd (pc := 426) dL_law_426 ?_
  refine B_sld (pc := 427) dL_law_427 (ixin hj 1 ⟨rfl, by decide⟩) (ixat hj 1 ⟨rfl, by decide⟩) ?_
  refine B_aload_n (pc := 428) 1 dL_law_428 rfl ?_
  refine B_iload_n (pc := 429) 0 dL_law_429 rfl ?_
  refine B_iconst (pc := 430) (v := 2) dL_law_430 (by decide) ?_
  refine B_iadd (pc := 431) dL_law_431 ?_
  refine B_sld (pc := 432) dL_law_432 (ixin hj 2 ⟨rfl, by decide⟩) (ixat hj 2 ⟨rfl, by decide⟩) ?_
  refine B_xI (pc := 433) [.int (xs (6 * j + 1)), .int (xs (6 * j + 2))] dL_law_433 (kX9_person V (xs (6 * j + 1)) (xs (6 * j + 2)) σ) hx cr_X9_person wl_L_42 (by decide) (by omega) (by omega) rfl rfl (Nat.le_of_ble_eq_true rfl) ?_
  refine B_aload_n (pc := 436) 3 dL_law_436 rfl ?_
  refine B_aload_n (pc := 437) 1 dL_law_437 rfl ?_
  refine B_iload_n (pc := 438) 0 dL_law_438 rfl ?_
  refine B_iconst (pc := 439) (v := 1) dL_law_439 (by decide) ?_
  refine B_iadd (pc := 440) dL_law_440 ?_
  refine B_sld (pc := 441) dL_law_441 (ixin hj 1 ⟨rfl, by decide⟩) (ixat hj 1 ⟨rfl, by decide⟩) ?_
  refine B_aload_n (pc := 442) 1 dL_law_442 rfl ?_
  refine B_iload_n (pc := 443) 0 dL_law_443 rfl ?_
  refine B_iconst (pc := 444) (v := 2) dL_law_444 (by decide) ?_
  refine B_iadd (pc := 445) dL_law_445 ?_
  refine B_sld (pc := 446) dL_law_446 (ixin hj 2 ⟨rfl, by decide⟩) (ixat hj 2 ⟨rfl, by decide⟩) ?_
  refine B_mI (pc := 447) [.int (xs (6 * j + 1)), .int (xs (6 * j + 2))] dL_law_447 (kX10_person U (xs (6 * j + 1)) (xs (6 * j + 2)) τ) hm cr_X10_person wl_L_45 (by decide) (by omega) (by omega) rfl rfl (Nat.le_of_ble_eq_true rfl) ?_
  refine B_same (pc := 450) 1363 dL_law_450 (by decide) ?_
  exact hk σ2 τ2 hr 
set_option maxRecDepth 20000 in
theorem lc_ofPerson {E : EE} {b L : Nat} {xs : Nat → Int32} {V U : VV} {Z : State → Prop} {σ τ : Sg} {j : Nat} (h : Rel σ τ) (hL : L ≤ 3072) (hj : 6 * j + 6 ≤ L ∧ L ≤ 3072) (hk : ∀ σ2 τ2 : Sg, Rel σ2 τ2 → TW E b L xs V U Z σ2 τ2 (100 + 10 * j) (4000 + 140 * j) 1363 [(3, .int (nI (6 * j))), (0, .ref b), (1, .ref (V.1 0)), (2, .ref (U.1 0))] []) : TW E b L xs V U Z σ τ (100 + 10 * j) (4000 + 140 * j) 455 [(3, .int (nI (6 * j))), (0, .ref b), (1, .ref (V.1 0)), (2, .ref (U.1 0))] [] := by
  obtain ⟨r, σ2, τ2, hx, hm, hr⟩ := sim_ofPerson h (xs (6 * j + 1)) (xs (6 * j + 2))
  refine B_aload_n (pc := 455) 2 dL_law_455 rfl ?_
  refine B_aload_n (pc := 456) 1 dL_law_456 rfl ?_
  refine B_iload_n (pc := 457) 0 dL_law_457 rfl ?_
  refine B_iconst (pc := 458) (v := 1) dL_law_458 (by decide) ?_
  refine B_iadd (pc := 459) dL_law_459 ?_
  refine B_sld (pc := 460) dL_law_460 (ixin hj 1 ⟨rfl, by decide⟩) (ixat hj 1 ⟨rfl, by decide⟩) ?_
  refine B_aload_n (pc := 461) 1 dL_law_461 rfl ?_
  refine B_iload_n (pc := 462) 0 dL_law_462 rfl ?_
  refine B_iconst (pc := 463) (v := 2) dL_law_463 (by decide) ?_
  refine B_iadd (pc := 464) dL_law_464 ?_
  refine B_sld (pc := 465) dL_law_465 (ixin hj 2 ⟨rfl, by decide⟩) (ixat hj 2 ⟨rfl, by decide⟩) ?_
  refine B_xI (pc := 466) [.int (xs (6 * j + 1)), .int (xs (6 * j + 2))] dL_law_466 (kX9_ofPerson V (xs (6 * j + 1)) (xs (6 * j + 2)) σ) hx cr_X9_ofPerson wl_L_46 (by decide) (by omega) (by omega) rfl rfl (Nat.le_of_ble_eq_true rfl) ?_
  refine B_aload_n (pc := 469) 3 dL_law_469 rfl ?_
  refine B_aload_n (pc := 470) 1 dL_law_470 rfl ?_
  refine B_iload_n (pc := 471) 0 dL_law_471 rfl ?_
  refine B_iconst (pc := 472) (v := 1) dL_law_472 (by decide) ?_
  refine B_iadd (pc := 473) dL_law_473 ?_
  refine B_sld (pc := 474) dL_law_474 (ixin hj 1 ⟨rfl, by decide⟩) (ixat hj 1 ⟨rfl, by decide⟩) ?_
  refine B_aload_n (pc := 475) 1 dL_law_475 rfl ?_
  refine B_iload_n (pc := 476) 0 dL_law_476 rfl ?_
  refine B_iconst (pc := 477) (v := 2) dL_law_477 (by decide) ?_
  refine B_iadd (pc := 478) dL_law_478 ?_
  refine B_sld (pc := 479) dL_law_479 (ixin hj 2 ⟨rfl, by decide⟩) (ixat hj 2 ⟨rfl, by decide⟩) ?_
  refine B_mI (pc := 480) [.int (xs (6 * j + 1)), .int (xs (6 * j + 2))] dL_law_480 (kX10_ofPerson U (xs (6 * j + 1)) (xs (6 * j + 2)) τ) hm cr_X10_ofPerson wl_L_49 (by decide) (by omega) (by omega) rfl rfl (Nat.le_of_ble_eq_true rfl) ?_
  refine B_same (pc := 483) 1363 dL_law_483 (by decide) ?_
  exact hk σ2 τ2 hr 
set_option maxRecDepth 20000 in
theorem lc_as {E : EE} {b L : Nat} {xs : Nat → Int32} {V U : VV} {Z : State → Prop} {σ τ : Sg} {j : Nat} (h : Rel σ τ) (hL : L ≤ 3072) (hj : 6 * j + 6 ≤ L ∧ L ≤ 3072) (hk : ∀ σ2 τ2 : Sg, Rel σ2 τ2 → TW E b L xs V U Z σ2 τ2 (100 + 10 * j) (4000 + 140 * j) 1363 [(3, .int (nI (6 * j))), (0, .ref b), (1, .ref (V.1 0)), (2, .ref (U.1 0))] []) : TW E b L xs V U Z σ τ (100 + 10 * j) (4000 + 140 * j) 488 [(3, .int (nI (6 * j))), (0, .ref b), (1, .ref (V.1 0)), (2, .ref (U.1 0))] [] := by
  obtain ⟨r, σ2, τ2, hx, hm, hr⟩ := sim_as h (xs (6 * j + 1)) (xs (6 * j + 2))
  refine B_aload_n (pc := 488) 2 dL_law_488 rfl ?_
  refine B_aload_n (pc := 489) 1 dL_law_489 rfl ?_
  refine B_iload_n (pc := 490) 0 dL_law_490 rfl ?_
  refine B_iconst (pc := 491) (v := 1) dL_law_491 (by decide) ?_
  refine B_iadd (pc := 492) dL_law_492 ?_
  refine B_sld (pc := 493) dL_law_493 (ixin hj 1 ⟨rfl, by decide⟩) (ixat hj 1 ⟨rfl, by decide⟩) ?_
  refine B_aload_n (pc := 494) 1 dL_law_494 rfl ?_
  refine B_iload_n (pc := 495) 0 dL_law_495 rfl ?_
  refine B_iconst (pc := 496) (v := 2) dL_law_496 (by decide) ?_
  refine B_iadd (pc := 497) dL_law_497 ?_
  refine B_sld (pc := 498) dL_law_498 (ixin hj 2 ⟨rfl, by decide⟩) (ixat hj 2 ⟨rfl, by decide⟩) ?_
  refine B_xI (pc := 499) [.int (xs (6 * j + 1)), .int (xs (6 * j + 2))] dL_law_499 (kX9_as V (xs (6 * j + 1)) (xs (6 * j + 2)) σ) hx cr_X9_as wl_L_50 (by decide) (by omega) (by omega) rfl rfl (Nat.le_of_ble_eq_true rfl) ?_
  refine B_aload_n (pc := 502) 3 dL_law_502 rfl ?_
  refine B_aload_n (pc := 503) 1 dL_law_503 rfl ?_
  refine B_iload_n (pc := 504) 0 dL_law_504 rfl ?_
  refine B_iconst (pc := 505) (v := 1) dL_law_505 (by decide) ?_
  refine B_iadd (pc := 506) dL_law_506 ?_
  refine B_sld (pc := 507) dL_law_507 (ixin hj 1 ⟨rfl, by decide⟩) (ixat hj 1 ⟨rfl, by decide⟩) ?_
  refine B_aload_n (pc := 508) 1 dL_law_508 rfl ?_
  refine B_iload_n (pc := 509) 0 dL_law_509 rfl ?_
  refine B_iconst (pc := 510) (v := 2) dL_law_510 (by decide) ?_
  refine B_iadd (pc := 511) dL_law_511 ?_
  refine B_sld (pc := 512) dL_law_512 (ixin hj 2 ⟨rfl, by decide⟩) (ixat hj 2 ⟨rfl, by decide⟩) ?_
  refine B_mI (pc := 513) [.int (xs (6 * j + 1)), .int (xs (6 * j + 2))] dL_law_513 (kX10_as U (xs (6 * j + 1)) (xs (6 * j + 2)) τ) hm cr_X10_as wl_L_53 (by decide) (by omega) (by omega) rfl rfl (Nat.le_of_ble_eq_true rfl) ?_
  refine B_same (pc := 516) 1363 dL_law_516 (by decide) ?_
  exact hk σ2 τ2 hr 
set_option maxRecDepth 20000 in
theorem lc_call {E : EE} {b L : Nat} {xs : Nat → Int32} {V U : VV} {Z : State → Prop} {σ τ : Sg} {j : Nat} (h : Rel σ τ) (hL : L ≤ 3072) (hj : 6 * j + 6 ≤ L ∧ L ≤ 3072) (hk : ∀ σ2 τ2 : Sg, Rel σ2 τ2 → TW E b L xs V U Z σ2 τ2 (100 + 10 * j) (4000 + 140 * j) 1363 [(3, .int (nI (6 * j))), (0, .ref b), (1, .ref (V.1 0)), (2, .ref (U.1 0))] []) : TW E b L xs V U Z σ τ (100 + 10 * j) (4000 + 140 * j) 521 [(3, .int (nI (6 * j))), (0, .ref b), (1, .ref (V.1 0)), (2, .ref (U.1 0))] [] := by
  obtain ⟨r, σ2, τ2, hx, hm, hr⟩ := sim_call h (xs (6 * j + 1)) (xs (6 * j + 2))
  refine B_aload_n (pc := 521) 2 dL_law_521 rfl ?_
  refine B_aload_n (pc := 522) 1 dL_law_522 rfl ?_
  refine B_iload_n (pc := 523) 0 dL_law_523 rfl ?_
  refine B_iconst (pc := 524) (v := 1) dL_law_524 (by decide) ?_
  refine B_iadd (pc := 525) dL_law_525 ?_
  refine B_sld (pc := 526) dL_law_526 (ixin hj 1 ⟨rfl, by decide⟩) (ixat hj 1 ⟨rfl, by decide⟩) ?_
  refine B_aload_n (pc := 527) 1 dL_law_527 rfl ?_
  refine B_iload_n (pc := 528) 0 dL_law_528 rfl ?_
  refine B_iconst (pc := 529) (v := 2) dL_law_529 (by decide) ?_
  refine B_iadd (pc := 530) dL_law_530 ?_
  refine B_sld (pc := 531) dL_law_531 (ixin hj 2 ⟨rfl, by decide⟩) (ixat hj 2 ⟨rfl, by decide⟩) ?_
  refine B_xI (pc := 532) [.int (xs (6 * j + 1)), .int (xs (6 * j + 2))] dL_law_532 (kX9_call V (xs (6 * j + 1)) (xs (6 * j + 2)) σ) hx cr_X9_call wl_L_54 (by decide) (by omega) (by omega) rfl rfl (Nat.le_of_ble_eq_true rfl) ?_
  refine B_aload_n (pc := 535) 3 dL_law_535 rfl ?_
  refine B_aload_n (pc := 536) 1 dL_law_536 rfl ?_
  refine B_iload_n (pc := 537) 0 dL_law_537 rfl ?_
  refine B_iconst (pc := 538) (v := 1) dL_law_538 (by decide) ?_
  refine B_iadd (pc := 539) dL_law_539 ?_
  refine B_sld (pc := 540) dL_law_540 (ixin hj 1 ⟨rfl, by decide⟩) (ixat hj 1 ⟨rfl, by decide⟩) ?_
  refine B_aload_n (pc := 541) 1 dL_law_541 rfl ?_
  refine B_iload_n (pc := 542) 0 dL_law_542 rfl ?_
  refine B_iconst (pc := 543) (v := 2) dL_law_543 (by decide) ?_
  refine B_iadd (pc := 544) dL_law_544 ?_
  refine B_sld (pc := 545) dL_law_545 (ixin hj 2 ⟨rfl, by decide⟩) (ixat hj 2 ⟨rfl, by decide⟩) ?_
  refine B_mI (pc := 546) [.int (xs (6 * j + 1)), .int (xs (6 * j + 2))] dL_law_546 (kX10_call U (xs (6 * j + 1)) (xs (6 * j + 2)) τ) hm cr_X10_call wl_L_57 (by decide) (by omega) (by omega) rfl rfl (Nat.le_of_ble_eq_true rfl) ?_
  refine B_same (pc := 549) 1363 dL_law_549 (by decide) ?_
  exact hk σ2 τ2 hr 
set_option maxRecDepth 20000 in
theorem lc_near {E : EE} {b L : Nat} {xs : Nat → Int32} {V U : VV} {Z : State → Prop} {σ τ : Sg} {j : Nat} (h : Rel σ τ) (hL : L ≤ 3072) (hj : 6 * j + 6 ≤ L ∧ L ≤ 3072) (hk : ∀ σ2 τ2 : Sg, Rel σ2 τ2 → TW E b L xs V U Z σ2 τ2 (100 + 10 * j) (4000 + 140 * j) 1363 [(3, .int (nI (6 * j))), (0, .ref b), (1, .ref (V.1 0)), (2, .ref (U.1 0))] []) : TW E b L xs V U Z σ τ (100 + 10 * j) (4000 + 140 * j) 554 [(3, .int (nI (6 * j))), (0, .ref b), (1, .ref (V.1 0)), (2, .ref (U.1 0))] [] := by
  obtain ⟨r, σ2, τ2, hx, hm, hr⟩ := sim_near h (xs (6 * j + 1)) (xs (6 * j + 2)) (xs (6 * j + 3))
  refine B_aload_n (pc := 554) 2 dL_law_554 rfl ?_
  refine B_aload_n (pc := 555) 1 dL_law_555 rfl ?_
  refine B_iload_n (pc := 556) 0 dL_law_556 rfl ?_
  refine B_iconst (pc := 557) (v := 1) dL_law_557 (by decide) ?_
  refine B_iadd (pc := 558) dL_law_558 ?_
  refine B_sld (pc := 559) dL_law_559 (ixin hj 1 ⟨rfl, by decide⟩) (ixat hj 1 ⟨rfl, by decide⟩) ?_
  refine B_aload_n (pc := 560) 1 dL_law_560 rfl ?_
  refine B_iload_n (pc := 561) 0 dL_law_561 rfl ?_
  refine B_iconst (pc := 562) (v := 2) dL_law_562 (by decide) ?_
  refine B_iadd (pc := 563) dL_law_563 ?_
  refine B_sld (pc := 564) dL_law_564 (ixin hj 2 ⟨rfl, by decide⟩) (ixat hj 2 ⟨rfl, by decide⟩) ?_
  refine B_aload_n (pc := 565) 1 dL_law_565 rfl ?_
  refine B_iload_n (pc := 566) 0 dL_law_566 rfl ?_
  refine B_iconst (pc := 567) (v := 3) dL_law_567 (by decide) ?_
  refine B_iadd (pc := 568) dL_law_568 ?_
  refine B_sld (pc := 569) dL_law_569 (ixin hj 3 ⟨rfl, by decide⟩) (ixat hj 3 ⟨rfl, by decide⟩) ?_
  refine B_xI (pc := 570) [.int (xs (6 * j + 1)), .int (xs (6 * j + 2)), .int (xs (6 * j + 3))] dL_law_570 (kX9_near V (xs (6 * j + 1)) (xs (6 * j + 2)) (xs (6 * j + 3)) σ) hx cr_X9_near wl_L_58 (by decide) (by omega) (by omega) rfl rfl (Nat.le_of_ble_eq_true rfl) ?_
  refine B_aload_n (pc := 573) 3 dL_law_573 rfl ?_
  refine B_aload_n (pc := 574) 1 dL_law_574 rfl ?_
  refine B_iload_n (pc := 575) 0 dL_law_575 rfl ?_
  refine B_iconst (pc := 576) (v := 1) dL_law_576 (by decide) ?_
  refine B_iadd (pc := 577) dL_law_577 ?_
  refine B_sld (pc := 578) dL_law_578 (ixin hj 1 ⟨rfl, by decide⟩) (ixat hj 1 ⟨rfl, by decide⟩) ?_
  refine B_aload_n (pc := 579) 1 dL_law_579 rfl ?_
  refine B_iload_n (pc := 580) 0 dL_law_580 rfl ?_
  refine B_iconst (pc := 581) (v := 2) dL_law_581 (by decide) ?_
  refine B_iadd (pc := 582) dL_law_582 ?_
  refine B_sld (pc := 583) dL_law_583 (ixin hj 2 ⟨rfl, by decide⟩) (ixat hj 2 ⟨rfl, by decide⟩) ?_
  refine B_aload_n (pc := 584) 1 dL_law_584 rfl ?_
  refine B_iload_n (pc := 585) 0 dL_law_585 rfl ?_
  refine B_iconst (pc := 586) (v := 3) dL_law_586 (by decide) ?_
  refine B_iadd (pc := 587) dL_law_587 ?_
  refine B_sld (pc := 588) dL_law_588 (ixin hj 3 ⟨rfl, by decide⟩) (ixat hj 3 ⟨rfl, by decide⟩) ?_
  refine B_mI (pc := 589) [.int (xs (6 * j + 1)), .int (xs (6 * j + 2)), .int (xs (6 * j + 3))] dL_law_589 (kX10_near U (xs (6 * j + 1)) (xs (6 * j + 2)) (xs (6 * j + 3)) τ) hm cr_X10_near wl_L_62 (by decide) (by omega) (by omega) rfl rfl (Nat.le_of_ble_eq_true rfl) ?_
  refine B_same (pc := 592) 1363 dL_law_592 (by decide) ?_
  exact hk σ2 τ2 hr 
set_option maxRecDepth 20000 in
theorem lc_nears {E : EE} {b L : Nat} {xs : Nat → Int32} {V U : VV} {Z : State → Prop} {σ τ : Sg} {j : Nat} (h : Rel σ τ) (hL : L ≤ 3072) (hj : 6 * j + 6 ≤ L ∧ L ≤ 3072) (hk : ∀ σ2 τ2 : Sg, Rel σ2 τ2 → TW E b L xs V U Z σ2 τ2 (100 + 10 * j) (4000 + 140 * j) 1363 [(3, .int (nI (6 * j))), (0, .ref b), (1, .ref (V.1 0)), (2, .ref (U.1 0))] []) : TW E b L xs V U Z σ τ (100 + 10 * j) (4000 + 140 * j) 597 [(3, .int (nI (6 * j))), (0, .ref b), (1, .ref (V.1 0)), (2, .ref (U.1 0))] [] := by
  obtain ⟨r, σ2, τ2, hx, hm, hr⟩ := sim_nears h (xs (6 * j + 1))
  refine B_aload_n (pc := 597) 2 dL_law_597 rfl ?_
  refine B_aload_n (pc := 598) 1 dL_law_598 rfl ?_
  refine B_iload_n (pc := 599) 0 dL_law_599 rfl ?_
  refine B_iconst (pc := 600) (v := 1) dL_law_600 (by decide) ?_
  refine B_iadd (pc := 601) dL_law_601 ?_
  refine B_sld (pc := 602) dL_law_602 (ixin hj 1 ⟨rfl, by decide⟩) (ixat hj 1 ⟨rfl, by decide⟩) ?_
  refine B_xI (pc := 603) [.int (xs (6 * j + 1))] dL_law_603 (kX9_nears V (xs (6 * j + 1)) σ) hx cr_X9_nears wl_L_63 (by decide) (by omega) (by omega) rfl rfl (Nat.le_of_ble_eq_true rfl) ?_
  refine B_aload_n (pc := 606) 3 dL_law_606 rfl ?_
  refine B_aload_n (pc := 607) 1 dL_law_607 rfl ?_
  refine B_iload_n (pc := 608) 0 dL_law_608 rfl ?_
  refine B_iconst (pc := 609) (v := 1) dL_law_609 (by decide) ?_
  refine B_iadd (pc := 610) dL_law_610 ?_
  refine B_sld (pc := 611) dL_law_611 (ixin hj 1 ⟨rfl, by decide⟩) (ixat hj 1 ⟨rfl, by decide⟩) ?_
  refine B_mI (pc := 612) [.int (xs (6 * j + 1))] dL_law_612 (kX10_nears U (xs (6 * j + 1)) τ) hm cr_X10_nears wl_L_66 (by decide) (by omega) (by omega) rfl rfl (Nat.le_of_ble_eq_true rfl) ?_
  refine B_same (pc := 615) 1363 dL_law_615 (by decide) ?_
  exact hk σ2 τ2 hr 
set_option maxRecDepth 20000 in
theorem lc_worth {E : EE} {b L : Nat} {xs : Nat → Int32} {V U : VV} {Z : State → Prop} {σ τ : Sg} {j : Nat} (h : Rel σ τ) (hL : L ≤ 3072) (hj : 6 * j + 6 ≤ L ∧ L ≤ 3072) (hk : ∀ σ2 τ2 : Sg, Rel σ2 τ2 → TW E b L xs V U Z σ2 τ2 (100 + 10 * j) (4000 + 140 * j) 1363 [(3, .int (nI (6 * j))), (0, .ref b), (1, .ref (V.1 0)), (2, .ref (U.1 0))] []) : TW E b L xs V U Z σ τ (100 + 10 * j) (4000 + 140 * j) 620 [(3, .int (nI (6 * j))), (0, .ref b), (1, .ref (V.1 0)), (2, .ref (U.1 0))] [] := by
  obtain ⟨r, σ2, τ2, hx, hm, hr⟩ := sim_worth h (xs (6 * j + 1)) (xs (6 * j + 2))
  refine B_aload_n (pc := 620) 2 dL_law_620 rfl ?_
  refine B_aload_n (pc := 621) 1 dL_law_621 rfl ?_
  refine B_iload_n (pc := 622) 0 dL_law_622 rfl ?_
  refine B_iconst (pc := 623) (v := 1) dL_law_623 (by decide) ?_
  refine B_iadd (pc := 624) dL_law_624 ?_
  refine B_sld (pc := 625) dL_law_625 (ixin hj 1 ⟨rfl, by decide⟩) (ixat hj 1 ⟨rfl, by decide⟩) ?_
  refine B_aload_n (pc := 626) 1 dL_law_626 rfl ?_
  refine B_iload_n (pc := 627) 0 dL_law_627 rfl ?_
  refine B_iconst (pc := 628) (v := 2) dL_law_628 (by decide) ?_
  refine B_iadd (pc := 629) dL_law_629 ?_
  refine B_sld (pc := 630) dL_law_630 (ixin hj 2 ⟨rfl, by decide⟩) (ixat hj 2 ⟨rfl, by decide⟩) ?_
  refine B_xI (pc := 631) [.int (xs (6 * j + 1)), .int (xs (6 * j + 2))] dL_law_631 (kX9_worth V (xs (6 * j + 1)) (xs (6 * j + 2)) σ) hx cr_X9_worth wl_L_67 (by decide) (by omega) (by omega) rfl rfl (Nat.le_of_ble_eq_true rfl) ?_
  refine B_aload_n (pc := 634) 3 dL_law_634 rfl ?_
  refine B_aload_n (pc := 635) 1 dL_law_635 rfl ?_
  refine B_iload_n (pc := 636) 0 dL_law_636 rfl ?_
  refine B_iconst (pc := 637) (v := 1) dL_law_637 (by decide) ?_
  refine B_iadd (pc := 638) dL_law_638 ?_
  refine B_sld (pc := 639) dL_law_639 (ixin hj 1 ⟨rfl, by decide⟩) (ixat hj 1 ⟨rfl, by decide⟩) ?_
  refine B_aload_n (pc := 640) 1 dL_law_640 rfl ?_
  refine B_iload_n (pc := 641) 0 dL_law_641 rfl ?_
  refine B_iconst (pc := 642) (v := 2) dL_law_642 (by decide) ?_
  refine B_iadd (pc := 643) dL_law_643 ?_
  refine B_sld (pc := 644) dL_law_644 (ixin hj 2 ⟨rfl, by decide⟩) (ixat hj 2 ⟨rfl, by decide⟩) ?_
  refine B_mI (pc := 645) [.int (xs (6 * j + 1)), .int (xs (6 * j + 2))] dL_law_645 (kX10_worth U (xs (6 * j + 1)) (xs (6 * j + 2)) τ) hm cr_X10_worth wl_L_70 (by decide) (by omega) (by omega) rfl rfl (Nat.le_of_ble_eq_true rfl) ?_
  refine B_same (pc := 648) 1363 dL_law_648 (by decide) ?_
  exact hk σ2 τ2 hr 
set_option maxRecDepth 20000 in
theorem lc_lawful {E : EE} {b L : Nat} {xs : Nat → Int32} {V U : VV} {Z : State → Prop} {σ τ : Sg} {j : Nat} (h : Rel σ τ) (hL : L ≤ 3072) (hj : 6 * j + 6 ≤ L ∧ L ≤ 3072) (hk : ∀ σ2 τ2 : Sg, Rel σ2 τ2 → TW E b L xs V U Z σ2 τ2 (100 + 10 * j) (4000 + 140 * j) 1363 [(3, .int (nI (6 * j))), (0, .ref b), (1, .ref (V.1 0)), (2, .ref (U.1 0))] []) : TW E b L xs V U Z σ τ (100 + 10 * j) (4000 + 140 * j) 653 [(3, .int (nI (6 * j))), (0, .ref b), (1, .ref (V.1 0)), (2, .ref (U.1 0))] [] := by
  obtain ⟨r, hx, hm, hr⟩ := sim_lawful h
  refine B_aload_n (pc := 653) 2 dL_law_653 rfl ?_
  refine B_xO (pc := 654) [] dL_law_654 (kX9_lawful V σ) hx cr_X9_lawful wl_L_71 (by decide) (by omega) (by omega) rfl rfl (Nat.le_of_ble_eq_true rfl) ?_
  refine B_aload_n (pc := 657) 3 dL_law_657 rfl ?_
  refine B_mO (pc := 658) [] dL_law_658 (kX10_lawful U τ) hm cr_X10_lawful wl_L_75 (by decide) (by omega) (by omega) rfl rfl (Nat.le_of_ble_eq_true rfl) ?_
  refine B_same (pc := 661) 1363 dL_law_661 (by decide) ?_
  exact hk σ τ hr 
set_option maxRecDepth 20000 in
theorem lc_text {E : EE} {b L : Nat} {xs : Nat → Int32} {V U : VV} {Z : State → Prop} {σ τ : Sg} {j : Nat} (h : Rel σ τ) (hL : L ≤ 3072) (hj : 6 * j + 6 ≤ L ∧ L ≤ 3072) (hk : ∀ σ2 τ2 : Sg, Rel σ2 τ2 → TW E b L xs V U Z σ2 τ2 (100 + 10 * j) (4000 + 140 * j) 1363 [(3, .int (nI (6 * j))), (0, .ref b), (1, .ref (V.1 0)), (2, .ref (U.1 0))] []) : TW E b L xs V U Z σ τ (100 + 10 * j) (4000 + 140 * j) 666 [(3, .int (nI (6 * j))), (0, .ref b), (1, .ref (V.1 0)), (2, .ref (U.1 0))] [] := by
  obtain ⟨r, σ2, τ2, hx, hm, hr⟩ := sim_text h (xs (6 * j + 1))
  refine B_aload_n (pc := 666) 2 dL_law_666 rfl ?_
  refine B_aload_n (pc := 667) 1 dL_law_667 rfl ?_
  refine B_iload_n (pc := 668) 0 dL_law_668 rfl ?_
  refine B_iconst (pc := 669) (v := 1) dL_law_669 (by decide) ?_
  refine B_iadd (pc := 670) dL_law_670 ?_
  refine B_sld (pc := 671) dL_law_671 (ixin hj 1 ⟨rfl, by decide⟩) (ixat hj 1 ⟨rfl, by decide⟩) ?_
  refine B_xI (pc := 672) [.int (xs (6 * j + 1))] dL_law_672 (kX9_text V (xs (6 * j + 1)) σ) hx cr_X9_text wl_L_76 (by decide) (by omega) (by omega) rfl rfl (Nat.le_of_ble_eq_true rfl) ?_
  refine B_aload_n (pc := 675) 3 dL_law_675 rfl ?_
  refine B_aload_n (pc := 676) 1 dL_law_676 rfl ?_
  refine B_iload_n (pc := 677) 0 dL_law_677 rfl ?_
  refine B_iconst (pc := 678) (v := 1) dL_law_678 (by decide) ?_
  refine B_iadd (pc := 679) dL_law_679 ?_
  refine B_sld (pc := 680) dL_law_680 (ixin hj 1 ⟨rfl, by decide⟩) (ixat hj 1 ⟨rfl, by decide⟩) ?_
  refine B_mI (pc := 681) [.int (xs (6 * j + 1))] dL_law_681 (kX10_text U (xs (6 * j + 1)) τ) hm cr_X10_text wl_L_79 (by decide) (by omega) (by omega) rfl rfl (Nat.le_of_ble_eq_true rfl) ?_
  refine B_same (pc := 684) 1363 dL_law_684 (by decide) ?_
  exact hk σ2 τ2 hr 
set_option maxRecDepth 20000 in
theorem lc_law {E : EE} {b L : Nat} {xs : Nat → Int32} {V U : VV} {Z : State → Prop} {σ τ : Sg} {j : Nat} (h : Rel σ τ) (hL : L ≤ 3072) (hj : 6 * j + 6 ≤ L ∧ L ≤ 3072) (hk : ∀ σ2 τ2 : Sg, Rel σ2 τ2 → TW E b L xs V U Z σ2 τ2 (100 + 10 * j) (4000 + 140 * j) 1363 [(3, .int (nI (6 * j))), (0, .ref b), (1, .ref (V.1 0)), (2, .ref (U.1 0))] []) : TW E b L xs V U Z σ τ (100 + 10 * j) (4000 + 140 * j) 689 [(3, .int (nI (6 * j))), (0, .ref b), (1, .ref (V.1 0)), (2, .ref (U.1 0))] [] := by
  obtain ⟨r, σ2, τ2, hx, hm, hr⟩ := sim_law h (xs (6 * j + 1)) (xs (6 * j + 2)) (xs (6 * j + 3)) (xs (6 * j + 4))
  refine B_aload_n (pc := 689) 2 dL_law_689 rfl ?_
  refine B_aload_n (pc := 690) 1 dL_law_690 rfl ?_
  refine B_iload_n (pc := 691) 0 dL_law_691 rfl ?_
  refine B_iconst (pc := 692) (v := 1) dL_law_692 (by decide) ?_
  refine B_iadd (pc := 693) dL_law_693 ?_
  refine B_sld (pc := 694) dL_law_694 (ixin hj 1 ⟨rfl, by decide⟩) (ixat hj 1 ⟨rfl, by decide⟩) ?_
  refine B_aload_n (pc := 695) 1 dL_law_695 rfl ?_
  refine B_iload_n (pc := 696) 0 dL_law_696 rfl ?_
  refine B_iconst (pc := 697) (v := 2) dL_law_697 (by decide) ?_
  refine B_iadd (pc := 698) dL_law_698 ?_
  refine B_sld (pc := 699) dL_law_699 (ixin hj 2 ⟨rfl, by decide⟩) (ixat hj 2 ⟨rfl, by decide⟩) ?_
  refine B_aload_n (pc := 700) 1 dL_law_700 rfl ?_
  refine B_iload_n (pc := 701) 0 dL_law_701 rfl ?_
  refine B_iconst (pc := 702) (v := 3) dL_law_702 (by decide) ?_
  refine B_iadd (pc := 703) dL_law_703 ?_
  refine B_sld (pc := 704) dL_law_704 (ixin hj 3 ⟨rfl, by decide⟩) (ixat hj 3 ⟨rfl, by decide⟩) ?_
  refine B_aload_n (pc := 705) 1 dL_law_705 rfl ?_
  refine B_iload_n (pc := 706) 0 dL_law_706 rfl ?_
  refine B_iconst (pc := 707) (v := 4) dL_law_707 (by decide) ?_
  refine B_iadd (pc := 708) dL_law_708 ?_
  refine B_sld (pc := 709) dL_law_709 (ixin hj 4 ⟨rfl, by decide⟩) (ixat hj 4 ⟨rfl, by decide⟩) ?_
  refine B_xI (pc := 710) [.int (xs (6 * j + 1)), .int (xs (6 * j + 2)), .int (xs (6 * j + 3)), .int (xs (6 * j + 4))] dL_law_710 (kX9_law V (xs (6 * j + 1)) (xs (6 * j + 2)) (xs (6 * j + 3)) (xs (6 * j + 4)) σ) hx cr_X9_law wl_L_80 (by decide) (by omega) (by omega) rfl rfl (Nat.le_of_ble_eq_true rfl) ?_
  refine B_aload_n (pc := 713) 3 dL_law_713 rfl ?_
  refine B_aload_n (pc := 714) 1 dL_law_714 rfl ?_
  refine B_iload_n (pc := 715) 0 dL_law_715 rfl ?_
  refine B_iconst (pc := 716) (v := 1) dL_law_716 (by decide) ?_
  refine B_iadd (pc := 717) dL_law_717 ?_
  refine B_sld (pc := 718) dL_law_718 (ixin hj 1 ⟨rfl, by decide⟩) (ixat hj 1 ⟨rfl, by decide⟩) ?_
  refine B_aload_n (pc := 719) 1 dL_law_719 rfl ?_
  refine B_iload_n (pc := 720) 0 dL_law_720 rfl ?_
  refine B_iconst (pc := 721) (v := 2) dL_law_721 (by decide) ?_
  refine B_iadd (pc := 722) dL_law_722 ?_
  refine B_sld (pc := 723) dL_law_723 (ixin hj 2 ⟨rfl, by decide⟩) (ixat hj 2 ⟨rfl, by decide⟩) ?_
  refine B_aload_n (pc := 724) 1 dL_law_724 rfl ?_
  refine B_iload_n (pc := 725) 0 dL_law_725 rfl ?_
  refine B_iconst (pc := 726) (v := 3) dL_law_726 (by decide) ?_
  refine B_iadd (pc := 727) dL_law_727 ?_
  refine B_sld (pc := 728) dL_law_728 (ixin hj 3 ⟨rfl, by decide⟩) (ixat hj 3 ⟨rfl, by decide⟩) ?_
  refine B_aload_n (pc := 729) 1 dL_law_729 rfl ?_
  refine B_iload_n (pc := 730) 0 dL_law_730 rfl ?_
  refine B_iconst (pc := 731) (v := 4) dL_law_731 (by decide) ?_
  refine B_iadd (pc := 732) dL_law_732 ?_
  refine B_sld (pc := 733) dL_law_733 (ixin hj 4 ⟨rfl, by decide⟩) (ixat hj 4 ⟨rfl, by decide⟩) ?_
  refine B_mI (pc := 734) [.int (xs (6 * j + 1)), .int (xs (6 * j + 2)), .int (xs (6 * j + 3)), .int (xs (6 * j + 4))] dL_law_734 (kX10_law U (xs (6 * j + 1)) (xs (6 * j + 2)) (xs (6 * j + 3)) (xs (6 * j + 4)) τ) hm cr_X10_law wl_L_84 (by decide) (by omega) (by omega) rfl rfl (Nat.le_of_ble_eq_true rfl) ?_
  refine B_same (pc := 737) 1363 dL_law_737 (by decide) ?_
  exact hk σ2 τ2 hr 
set_option maxRecDepth 20000 in
theorem lc_first {E : EE} {b L : Nat} {xs : Nat → Int32} {V U : VV} {Z : State → Prop} {σ τ : Sg} {j : Nat} (h : Rel σ τ) (hL : L ≤ 3072) (hj : 6 * j + 6 ≤ L ∧ L ≤ 3072) (hk : ∀ σ2 τ2 : Sg, Rel σ2 τ2 → TW E b L xs V U Z σ2 τ2 (100 + 10 * j) (4000 + 140 * j) 1363 [(3, .int (nI (6 * j))), (0, .ref b), (1, .ref (V.1 0)), (2, .ref (U.1 0))] []) : TW E b L xs V U Z σ τ (100 + 10 * j) (4000 + 140 * j) 742 [(3, .int (nI (6 * j))), (0, .ref b), (1, .ref (V.1 0)), (2, .ref (U.1 0))] [] := by
  obtain ⟨r, σ2, τ2, hx, hm, hr⟩ := sim_first h (xs (6 * j + 1))
  refine B_aload_n (pc := 742) 2 dL_law_742 rfl ?_
  refine B_aload_n (pc := 743) 1 dL_law_743 rfl ?_
  refine B_iload_n (pc := 744) 0 dL_law_744 rfl ?_
  refine B_iconst (pc := 745) (v := 1) dL_law_745 (by decide) ?_
  refine B_iadd (pc := 746) dL_law_746 ?_
  refine B_sld (pc := 747) dL_law_747 (ixin hj 1 ⟨rfl, by decide⟩) (ixat hj 1 ⟨rfl, by decide⟩) ?_
  refine B_xI (pc := 748) [.int (xs (6 * j + 1))] dL_law_748 (kX9_first V (xs (6 * j + 1)) σ) hx cr_X9_first wl_L_85 (by decide) (by omega) (by omega) rfl rfl (Nat.le_of_ble_eq_true rfl) ?_
  refine B_aload_n (pc := 751) 3 dL_law_751 rfl ?_
  refine B_aload_n (pc := 752) 1 dL_law_752 rfl ?_
  refine B_iload_n (pc := 753) 0 dL_law_753 rfl ?_
  refine B_iconst (pc := 754) (v := 1) dL_law_754 (by decide) ?_
  refine B_iadd (pc := 755) dL_law_755 ?_
  refine B_sld (pc := 756) dL_law_756 (ixin hj 1 ⟨rfl, by decide⟩) (ixat hj 1 ⟨rfl, by decide⟩) ?_
  refine B_mI (pc := 757) [.int (xs (6 * j + 1))] dL_law_757 (kX10_first U (xs (6 * j + 1)) τ) hm cr_X10_first wl_L_88 (by decide) (by omega) (by omega) rfl rfl (Nat.le_of_ble_eq_true rfl) ?_
  refine B_same (pc := 760) 1363 dL_law_760 (by decide) ?_
  exact hk σ2 τ2 hr 
set_option maxRecDepth 20000 in
theorem lc_all {E : EE} {b L : Nat} {xs : Nat → Int32} {V U : VV} {Z : State → Prop} {σ τ : Sg} {j : Nat} (h : Rel σ τ) (hL : L ≤ 3072) (hj : 6 * j + 6 ≤ L ∧ L ≤ 3072) (hk : ∀ σ2 τ2 : Sg, Rel σ2 τ2 → TW E b L xs V U Z σ2 τ2 (100 + 10 * j) (4000 + 140 * j) 1363 [(3, .int (nI (6 * j))), (0, .ref b), (1, .ref (V.1 0)), (2, .ref (U.1 0))] []) : TW E b L xs V U Z σ τ (100 + 10 * j) (4000 + 140 * j) 765 [(3, .int (nI (6 * j))), (0, .ref b), (1, .ref (V.1 0)), (2, .ref (U.1 0))] [] := by
  obtain ⟨r, σ2, τ2, hx, hm, hr⟩ := sim_all h
  refine B_aload_n (pc := 765) 2 dL_law_765 rfl ?_
  refine B_xI (pc := 766) [] dL_law_766 (kX9_all V σ) hx cr_X9_all wl_L_89 (by decide) (by omega) (by omega) rfl rfl (Nat.le_of_ble_eq_true rfl) ?_
  refine B_aload_n (pc := 769) 3 dL_law_769 rfl ?_
  refine B_mI (pc := 770) [] dL_law_770 (kX10_all U τ) hm cr_X10_all wl_L_92 (by decide) (by omega) (by omega) rfl rfl (Nat.le_of_ble_eq_true rfl) ?_
  refine B_same (pc := 773) 1363 dL_law_773 (by decide) ?_
  exact hk σ2 τ2 hr 
set_option maxRecDepth 20000 in
theorem lc_best {E : EE} {b L : Nat} {xs : Nat → Int32} {V U : VV} {Z : State → Prop} {σ τ : Sg} {j : Nat} (h : Rel σ τ) (hL : L ≤ 3072) (hj : 6 * j + 6 ≤ L ∧ L ≤ 3072) (hk : ∀ σ2 τ2 : Sg, Rel σ2 τ2 → TW E b L xs V U Z σ2 τ2 (100 + 10 * j) (4000 + 140 * j) 1363 [(3, .int (nI (6 * j))), (0, .ref b), (1, .ref (V.1 0)), (2, .ref (U.1 0))] []) : TW E b L xs V U Z σ τ (100 + 10 * j) (4000 + 140 * j) 778 [(3, .int (nI (6 * j))), (0, .ref b), (1, .ref (V.1 0)), (2, .ref (U.1 0))] [] := by
  obtain ⟨r, σ2, τ2, hx, hm, hr⟩ := sim_best h (xs (6 * j + 1))
  refine B_aload_n (pc := 778) 2 dL_law_778 rfl ?_
  refine B_aload_n (pc := 779) 1 dL_law_779 rfl ?_
  refine B_iload_n (pc := 780) 0 dL_law_780 rfl ?_
  refine B_iconst (pc := 781) (v := 1) dL_law_781 (by decide) ?_
  refine B_iadd (pc := 782) dL_law_782 ?_
  refine B_sld (pc := 783) dL_law_783 (ixin hj 1 ⟨rfl, by decide⟩) (ixat hj 1 ⟨rfl, by decide⟩) ?_
  refine B_xI (pc := 784) [.int (xs (6 * j + 1))] dL_law_784 (kX9_best V (xs (6 * j + 1)) σ) hx cr_X9_best wl_L_93 (by decide) (by omega) (by omega) rfl rfl (Nat.le_of_ble_eq_true rfl) ?_
  refine B_aload_n (pc := 787) 3 dL_law_787 rfl ?_
  refine B_aload_n (pc := 788) 1 dL_law_788 rfl ?_
  refine B_iload_n (pc := 789) 0 dL_law_789 rfl ?_
  refine B_iconst (pc := 790) (v := 1) dL_law_790 (by decide) ?_
  refine B_iadd (pc := 791) dL_law_791 ?_
  refine B_sld (pc := 792) dL_law_792 (ixin hj 1 ⟨rfl, by decide⟩) (ixat hj 1 ⟨rfl, by decide⟩) ?_
  refine B_mI (pc := 793) [.int (xs (6 * j + 1))] dL_law_793 (kX10_best U (xs (6 * j + 1)) τ) hm cr_X10_best wl_L_96 (by decide) (by omega) (by omega) rfl rfl (Nat.le_of_ble_eq_true rfl) ?_
  refine B_same (pc := 796) 1363 dL_law_796 (by decide) ?_
  exact hk σ2 τ2 hr 
set_option maxRecDepth 20000 in
theorem lc_fewest {E : EE} {b L : Nat} {xs : Nat → Int32} {V U : VV} {Z : State → Prop} {σ τ : Sg} {j : Nat} (h : Rel σ τ) (hL : L ≤ 3072) (hj : 6 * j + 6 ≤ L ∧ L ≤ 3072) (hk : ∀ σ2 τ2 : Sg, Rel σ2 τ2 → TW E b L xs V U Z σ2 τ2 (100 + 10 * j) (4000 + 140 * j) 1363 [(3, .int (nI (6 * j))), (0, .ref b), (1, .ref (V.1 0)), (2, .ref (U.1 0))] []) : TW E b L xs V U Z σ τ (100 + 10 * j) (4000 + 140 * j) 801 [(3, .int (nI (6 * j))), (0, .ref b), (1, .ref (V.1 0)), (2, .ref (U.1 0))] [] := by
  obtain ⟨r, σ2, τ2, hx, hm, hr⟩ := sim_fewest h (xs (6 * j + 1))
  refine B_aload_n (pc := 801) 2 dL_law_801 rfl ?_
  refine B_aload_n (pc := 802) 1 dL_law_802 rfl ?_
  refine B_iload_n (pc := 803) 0 dL_law_803 rfl ?_
  refine B_iconst (pc := 804) (v := 1) dL_law_804 (by decide) ?_
  refine B_iadd (pc := 805) dL_law_805 ?_
  refine B_sld (pc := 806) dL_law_806 (ixin hj 1 ⟨rfl, by decide⟩) (ixat hj 1 ⟨rfl, by decide⟩) ?_
  refine B_xI (pc := 807) [.int (xs (6 * j + 1))] dL_law_807 (kX9_fewest V (xs (6 * j + 1)) σ) hx cr_X9_fewest wl_L_97 (by decide) (by omega) (by omega) rfl rfl (Nat.le_of_ble_eq_true rfl) ?_
  refine B_aload_n (pc := 810) 3 dL_law_810 rfl ?_
  refine B_aload_n (pc := 811) 1 dL_law_811 rfl ?_
  refine B_iload_n (pc := 812) 0 dL_law_812 rfl ?_
  refine B_iconst (pc := 813) (v := 1) dL_law_813 (by decide) ?_
  refine B_iadd (pc := 814) dL_law_814 ?_
  refine B_sld (pc := 815) dL_law_815 (ixin hj 1 ⟨rfl, by decide⟩) (ixat hj 1 ⟨rfl, by decide⟩) ?_
  refine B_mI (pc := 816) [.int (xs (6 * j + 1))] dL_law_816 (kX10_fewest U (xs (6 * j + 1)) τ) hm cr_X10_fewest wl_L_100 (by decide) (by omega) (by omega) rfl rfl (Nat.le_of_ble_eq_true rfl) ?_
  refine B_same (pc := 819) 1363 dL_law_819 (by decide) ?_
  exact hk σ2 τ2 hr 
set_option maxRecDepth 20000 in
theorem lc_give {E : EE} {b L : Nat} {xs : Nat → Int32} {V U : VV} {Z : State → Prop} {σ τ : Sg} {j : Nat} (h : Rel σ τ) (hL : L ≤ 3072) (hj : 6 * j + 6 ≤ L ∧ L ≤ 3072) (hk : ∀ σ2 τ2 : Sg, Rel σ2 τ2 → TW E b L xs V U Z σ2 τ2 (100 + 10 * j) (4000 + 140 * j) 1363 [(3, .int (nI (6 * j))), (0, .ref b), (1, .ref (V.1 0)), (2, .ref (U.1 0))] []) : TW E b L xs V U Z σ τ (100 + 10 * j) (4000 + 140 * j) 824 [(3, .int (nI (6 * j))), (0, .ref b), (1, .ref (V.1 0)), (2, .ref (U.1 0))] [] := by
  obtain ⟨r, σ2, τ2, hx, hm, hr⟩ := sim_give h (xs (6 * j + 1))
  refine B_aload_n (pc := 824) 2 dL_law_824 rfl ?_
  refine B_aload_n (pc := 825) 1 dL_law_825 rfl ?_
  refine B_iload_n (pc := 826) 0 dL_law_826 rfl ?_
  refine B_iconst (pc := 827) (v := 1) dL_law_827 (by decide) ?_
  refine B_iadd (pc := 828) dL_law_828 ?_
  refine B_sld (pc := 829) dL_law_829 (ixin hj 1 ⟨rfl, by decide⟩) (ixat hj 1 ⟨rfl, by decide⟩) ?_
  refine B_xI (pc := 830) [.int (xs (6 * j + 1))] dL_law_830 (kX9_give V (xs (6 * j + 1)) σ) hx cr_X9_give wl_L_101 (by decide) (by omega) (by omega) rfl rfl (Nat.le_of_ble_eq_true rfl) ?_
  refine B_aload_n (pc := 833) 3 dL_law_833 rfl ?_
  refine B_aload_n (pc := 834) 1 dL_law_834 rfl ?_
  refine B_iload_n (pc := 835) 0 dL_law_835 rfl ?_
  refine B_iconst (pc := 836) (v := 1) dL_law_836 (by decide) ?_
  refine B_iadd (pc := 837) dL_law_837 ?_
  refine B_sld (pc := 838) dL_law_838 (ixin hj 1 ⟨rfl, by decide⟩) (ixat hj 1 ⟨rfl, by decide⟩) ?_
  refine B_mI (pc := 839) [.int (xs (6 * j + 1))] dL_law_839 (kX10_give U (xs (6 * j + 1)) τ) hm cr_X10_give wl_L_104 (by decide) (by omega) (by omega) rfl rfl (Nat.le_of_ble_eq_true rfl) ?_
  refine B_same (pc := 842) 1363 dL_law_842 (by decide) ?_
  exact hk σ2 τ2 hr 
set_option maxRecDepth 20000 in
theorem lc_changes {E : EE} {b L : Nat} {xs : Nat → Int32} {V U : VV} {Z : State → Prop} {σ τ : Sg} {j : Nat} (h : Rel σ τ) (hL : L ≤ 3072) (hj : 6 * j + 6 ≤ L ∧ L ≤ 3072) (hk : ∀ σ2 τ2 : Sg, Rel σ2 τ2 → TW E b L xs V U Z σ2 τ2 (100 + 10 * j) (4000 + 140 * j) 1363 [(3, .int (nI (6 * j))), (0, .ref b), (1, .ref (V.1 0)), (2, .ref (U.1 0))] []) : TW E b L xs V U Z σ τ (100 + 10 * j) (4000 + 140 * j) 847 [(3, .int (nI (6 * j))), (0, .ref b), (1, .ref (V.1 0)), (2, .ref (U.1 0))] [] := by
  obtain ⟨r, σ2, τ2, hx, hm, hr⟩ := sim_changes h (xs (6 * j + 1)) (xs (6 * j + 2))
  refine B_aload_n (pc := 847) 2 dL_law_847 rfl ?_
  refine B_aload_n (pc := 848) 1 dL_law_848 rfl ?_
  refine B_iload_n (pc := 849) 0 dL_law_849 rfl ?_
  refine B_iconst (pc := 850) (v := 1) dL_law_850 (by decide) ?_
  refine B_iadd (pc := 851) dL_law_851 ?_
  refine B_sld (pc := 852) dL_law_852 (ixin hj 1 ⟨rfl, by decide⟩) (ixat hj 1 ⟨rfl, by decide⟩) ?_
  refine B_aload_n (pc := 853) 1 dL_law_853 rfl ?_
  refine B_iload_n (pc := 854) 0 dL_law_854 rfl ?_
  refine B_iconst (pc := 855) (v := 2) dL_law_855 (by decide) ?_
  refine B_iadd (pc := 856) dL_law_856 ?_
  refine B_sld (pc := 857) dL_law_857 (ixin hj 2 ⟨rfl, by decide⟩) (ixat hj 2 ⟨rfl, by decide⟩) ?_
  refine B_xI (pc := 858) [.int (xs (6 * j + 1)), .int (xs (6 * j + 2))] dL_law_858 (kX9_changes V (xs (6 * j + 1)) (xs (6 * j + 2)) σ) hx cr_X9_changes wl_L_105 (by decide) (by omega) (by omega) rfl rfl (Nat.le_of_ble_eq_true rfl) ?_
  refine B_aload_n (pc := 861) 3 dL_law_861 rfl ?_
  refine B_aload_n (pc := 862) 1 dL_law_862 rfl ?_
  refine B_iload_n (pc := 863) 0 dL_law_863 rfl ?_
  refine B_iconst (pc := 864) (v := 1) dL_law_864 (by decide) ?_
  refine B_iadd (pc := 865) dL_law_865 ?_
  refine B_sld (pc := 866) dL_law_866 (ixin hj 1 ⟨rfl, by decide⟩) (ixat hj 1 ⟨rfl, by decide⟩) ?_
  refine B_aload_n (pc := 867) 1 dL_law_867 rfl ?_
  refine B_iload_n (pc := 868) 0 dL_law_868 rfl ?_
  refine B_iconst (pc := 869) (v := 2) dL_law_869 (by decide) ?_
  refine B_iadd (pc := 870) dL_law_870 ?_
  refine B_sld (pc := 871) dL_law_871 (ixin hj 2 ⟨rfl, by decide⟩) (ixat hj 2 ⟨rfl, by decide⟩) ?_
  refine B_mI (pc := 872) [.int (xs (6 * j + 1)), .int (xs (6 * j + 2))] dL_law_872 (kX10_changes U (xs (6 * j + 1)) (xs (6 * j + 2)) τ) hm cr_X10_changes wl_L_108 (by decide) (by omega) (by omega) rfl rfl (Nat.le_of_ble_eq_true rfl) ?_
  refine B_same (pc := 875) 1363 dL_law_875 (by decide) ?_
  exact hk σ2 τ2 hr 
set_option maxRecDepth 20000 in
theorem lc_side {E : EE} {b L : Nat} {xs : Nat → Int32} {V U : VV} {Z : State → Prop} {σ τ : Sg} {j : Nat} (h : Rel σ τ) (hL : L ≤ 3072) (hj : 6 * j + 6 ≤ L ∧ L ≤ 3072) (hk : ∀ σ2 τ2 : Sg, Rel σ2 τ2 → TW E b L xs V U Z σ2 τ2 (100 + 10 * j) (4000 + 140 * j) 1363 [(3, .int (nI (6 * j))), (0, .ref b), (1, .ref (V.1 0)), (2, .ref (U.1 0))] []) : TW E b L xs V U Z σ τ (100 + 10 * j) (4000 + 140 * j) 880 [(3, .int (nI (6 * j))), (0, .ref b), (1, .ref (V.1 0)), (2, .ref (U.1 0))] [] := by
  obtain ⟨r, σ2, τ2, hx, hm, hr⟩ := sim_side h (xs (6 * j + 1))
  refine B_aload_n (pc := 880) 2 dL_law_880 rfl ?_
  refine B_aload_n (pc := 881) 1 dL_law_881 rfl ?_
  refine B_iload_n (pc := 882) 0 dL_law_882 rfl ?_
  refine B_iconst (pc := 883) (v := 1) dL_law_883 (by decide) ?_
  refine B_iadd (pc := 884) dL_law_884 ?_
  refine B_sld (pc := 885) dL_law_885 (ixin hj 1 ⟨rfl, by decide⟩) (ixat hj 1 ⟨rfl, by decide⟩) ?_
  refine B_xI (pc := 886) [.int (xs (6 * j + 1))] dL_law_886 (kX9_side V (xs (6 * j + 1)) σ) hx cr_X9_side wl_L_109 (by decide) (by omega) (by omega) rfl rfl (Nat.le_of_ble_eq_true rfl) ?_
  refine B_aload_n (pc := 889) 3 dL_law_889 rfl ?_
  refine B_aload_n (pc := 890) 1 dL_law_890 rfl ?_
  refine B_iload_n (pc := 891) 0 dL_law_891 rfl ?_
  refine B_iconst (pc := 892) (v := 1) dL_law_892 (by decide) ?_
  refine B_iadd (pc := 893) dL_law_893 ?_
  refine B_sld (pc := 894) dL_law_894 (ixin hj 1 ⟨rfl, by decide⟩) (ixat hj 1 ⟨rfl, by decide⟩) ?_
  refine B_mI (pc := 895) [.int (xs (6 * j + 1))] dL_law_895 (kX10_side U (xs (6 * j + 1)) τ) hm cr_X10_side wl_L_112 (by decide) (by omega) (by omega) rfl rfl (Nat.le_of_ble_eq_true rfl) ?_
  refine B_same (pc := 898) 1363 dL_law_898 (by decide) ?_
  exact hk σ2 τ2 hr 
set_option maxRecDepth 20000 in
theorem lc_rows {E : EE} {b L : Nat} {xs : Nat → Int32} {V U : VV} {Z : State → Prop} {σ τ : Sg} {j : Nat} (h : Rel σ τ) (hL : L ≤ 3072) (hj : 6 * j + 6 ≤ L ∧ L ≤ 3072) (hk2 : ∀ σ2 τ2 : Sg, Rel σ2 τ2 → TW E b L xs V U Z σ2 τ2 (100 + 10 * j + 10) (4000 + 140 * j + 140) 1363 [(3, .int (nI (6 * j))), (0, .ref b), (1, .ref (V.1 0)), (2, .ref (U.1 0))] []) : TW E b L xs V U Z σ τ (100 + 10 * j) (4000 + 140 * j) 903 [(3, .int (nI (6 * j))), (0, .ref b), (1, .ref (V.1 0)), (2, .ref (U.1 0))] [] := by
  obtain ⟨r, σ2, τ2, hx, hm, hr⟩ := sim_rows h (xs (6 * j + 1))
  refine B_aload_n (pc := 903) 2 dL_law_903 rfl ?_
  refine B_aload_n (pc := 904) 1 dL_law_904 rfl ?_
  refine B_iload_n (pc := 905) 0 dL_law_905 rfl ?_
  refine B_iconst (pc := 906) (v := 1) dL_law_906 (by decide) ?_
  refine B_iadd (pc := 907) dL_law_907 ?_
  refine B_sld (pc := 908) dL_law_908 (ixin hj 1 ⟨rfl, by decide⟩) (ixat hj 1 ⟨rfl, by decide⟩) ?_
  refine B_xL (pc := 909) [.int (xs (6 * j + 1))] dL_law_909 (kX9_rows V (xs (6 * j + 1)) σ) hx cr_X9_rows wl_L_113 (by decide) (by omega) (by omega) rfl rfl (Nat.le_of_ble_eq_true rfl) ?_
  refine B_aload_n (pc := 912) 3 dL_law_912 rfl ?_
  refine B_aload_n (pc := 913) 1 dL_law_913 rfl ?_
  refine B_iload_n (pc := 914) 0 dL_law_914 rfl ?_
  refine B_iconst (pc := 915) (v := 1) dL_law_915 (by decide) ?_
  refine B_iadd (pc := 916) dL_law_916 ?_
  refine B_sld (pc := 917) dL_law_917 (ixin hj 1 ⟨rfl, by decide⟩) (ixat hj 1 ⟨rfl, by decide⟩) ?_
  refine B_mRows (pc := 918) dL_law_918 hm (by omega) (by omega) (Nat.le_of_ble_eq_true rfl) ?_
  refine B_lcmp (pc := 921) dL_law_921 ?_
  refine B_ifeq0 (pc := 922) 1363 dL_law_922 (by decide) ?_
  exact hk2 σ2 τ2 hr
set_option maxRecDepth 20000 in
theorem lc_made {E : EE} {b L : Nat} {xs : Nat → Int32} {V U : VV} {Z : State → Prop} {σ τ : Sg} {j : Nat} (h : Rel σ τ) (hL : L ≤ 3072) (hj : 6 * j + 6 ≤ L ∧ L ≤ 3072) (hk : ∀ σ2 τ2 : Sg, Rel σ2 τ2 → TW E b L xs V U Z σ2 τ2 (100 + 10 * j) (4000 + 140 * j) 1363 [(3, .int (nI (6 * j))), (0, .ref b), (1, .ref (V.1 0)), (2, .ref (U.1 0))] []) : TW E b L xs V U Z σ τ (100 + 10 * j) (4000 + 140 * j) 927 [(3, .int (nI (6 * j))), (0, .ref b), (1, .ref (V.1 0)), (2, .ref (U.1 0))] [] := by
  obtain ⟨r, σ2, τ2, hx, hm, hr⟩ := sim_made h (xs (6 * j + 1)) (xs (6 * j + 2)) (xs (6 * j + 3))
  refine B_aload_n (pc := 927) 2 dL_law_927 rfl ?_
  refine B_aload_n (pc := 928) 1 dL_law_928 rfl ?_
  refine B_iload_n (pc := 929) 0 dL_law_929 rfl ?_
  refine B_iconst (pc := 930) (v := 1) dL_law_930 (by decide) ?_
  refine B_iadd (pc := 931) dL_law_931 ?_
  refine B_sld (pc := 932) dL_law_932 (ixin hj 1 ⟨rfl, by decide⟩) (ixat hj 1 ⟨rfl, by decide⟩) ?_
  refine B_aload_n (pc := 933) 1 dL_law_933 rfl ?_
  refine B_iload_n (pc := 934) 0 dL_law_934 rfl ?_
  refine B_iconst (pc := 935) (v := 2) dL_law_935 (by decide) ?_
  refine B_iadd (pc := 936) dL_law_936 ?_
  refine B_sld (pc := 937) dL_law_937 (ixin hj 2 ⟨rfl, by decide⟩) (ixat hj 2 ⟨rfl, by decide⟩) ?_
  refine B_aload_n (pc := 938) 1 dL_law_938 rfl ?_
  refine B_iload_n (pc := 939) 0 dL_law_939 rfl ?_
  refine B_iconst (pc := 940) (v := 3) dL_law_940 (by decide) ?_
  refine B_iadd (pc := 941) dL_law_941 ?_
  refine B_sld (pc := 942) dL_law_942 (ixin hj 3 ⟨rfl, by decide⟩) (ixat hj 3 ⟨rfl, by decide⟩) ?_
  refine B_xL (pc := 943) [.int (xs (6 * j + 1)), .int (xs (6 * j + 2)), .int (xs (6 * j + 3))] dL_law_943 (kX9_made V (xs (6 * j + 1)) (xs (6 * j + 2)) (xs (6 * j + 3)) σ) hx cr_X9_made wl_L_118 (by decide) (by omega) (by omega) rfl rfl (Nat.le_of_ble_eq_true rfl) ?_
  refine B_aload_n (pc := 946) 3 dL_law_946 rfl ?_
  refine B_aload_n (pc := 947) 1 dL_law_947 rfl ?_
  refine B_iload_n (pc := 948) 0 dL_law_948 rfl ?_
  refine B_iconst (pc := 949) (v := 1) dL_law_949 (by decide) ?_
  refine B_iadd (pc := 950) dL_law_950 ?_
  refine B_sld (pc := 951) dL_law_951 (ixin hj 1 ⟨rfl, by decide⟩) (ixat hj 1 ⟨rfl, by decide⟩) ?_
  refine B_aload_n (pc := 952) 1 dL_law_952 rfl ?_
  refine B_iload_n (pc := 953) 0 dL_law_953 rfl ?_
  refine B_iconst (pc := 954) (v := 2) dL_law_954 (by decide) ?_
  refine B_iadd (pc := 955) dL_law_955 ?_
  refine B_sld (pc := 956) dL_law_956 (ixin hj 2 ⟨rfl, by decide⟩) (ixat hj 2 ⟨rfl, by decide⟩) ?_
  refine B_aload_n (pc := 957) 1 dL_law_957 rfl ?_
  refine B_iload_n (pc := 958) 0 dL_law_958 rfl ?_
  refine B_iconst (pc := 959) (v := 3) dL_law_959 (by decide) ?_
  refine B_iadd (pc := 960) dL_law_960 ?_
  refine B_sld (pc := 961) dL_law_961 (ixin hj 3 ⟨rfl, by decide⟩) (ixat hj 3 ⟨rfl, by decide⟩) ?_
  refine B_mL (pc := 962) [.int (xs (6 * j + 1)), .int (xs (6 * j + 2)), .int (xs (6 * j + 3))] dL_law_962 (kX10_made U (xs (6 * j + 1)) (xs (6 * j + 2)) (xs (6 * j + 3)) τ) hm cr_X10_made wl_L_122 (by decide) (by omega) (by omega) rfl rfl (Nat.le_of_ble_eq_true rfl) ?_
  refine B_lcmp (pc := 965) dL_law_965 ?_
  refine B_ifeq0 (pc := 966) 1363 dL_law_966 (by decide) ?_
  exact hk σ2 τ2 hr 
set_option maxRecDepth 20000 in
theorem lc_strikes {E : EE} {b L : Nat} {xs : Nat → Int32} {V U : VV} {Z : State → Prop} {σ τ : Sg} {j : Nat} (h : Rel σ τ) (hL : L ≤ 3072) (hj : 6 * j + 6 ≤ L ∧ L ≤ 3072) (hk : ∀ σ2 τ2 : Sg, Rel σ2 τ2 → TW E b L xs V U Z σ2 τ2 (100 + 10 * j) (4000 + 140 * j) 1363 [(3, .int (nI (6 * j))), (0, .ref b), (1, .ref (V.1 0)), (2, .ref (U.1 0))] []) : TW E b L xs V U Z σ τ (100 + 10 * j) (4000 + 140 * j) 971 [(3, .int (nI (6 * j))), (0, .ref b), (1, .ref (V.1 0)), (2, .ref (U.1 0))] [] := by
  obtain ⟨r, σ2, τ2, hx, hm, hr⟩ := sim_strikes h (xs (6 * j + 1))
  refine B_aload_n (pc := 971) 2 dL_law_971 rfl ?_
  refine B_aload_n (pc := 972) 1 dL_law_972 rfl ?_
  refine B_iload_n (pc := 973) 0 dL_law_973 rfl ?_
  refine B_iconst (pc := 974) (v := 1) dL_law_974 (by decide) ?_
  refine B_iadd (pc := 975) dL_law_975 ?_
  refine B_sld (pc := 976) dL_law_976 (ixin hj 1 ⟨rfl, by decide⟩) (ixat hj 1 ⟨rfl, by decide⟩) ?_
  refine B_xI (pc := 977) [.int (xs (6 * j + 1))] dL_law_977 (kX9_strikes V (xs (6 * j + 1)) σ) hx cr_X9_strikes wl_L_123 (by decide) (by omega) (by omega) rfl rfl (Nat.le_of_ble_eq_true rfl) ?_
  refine B_aload_n (pc := 980) 3 dL_law_980 rfl ?_
  refine B_aload_n (pc := 981) 1 dL_law_981 rfl ?_
  refine B_iload_n (pc := 982) 0 dL_law_982 rfl ?_
  refine B_iconst (pc := 983) (v := 1) dL_law_983 (by decide) ?_
  refine B_iadd (pc := 984) dL_law_984 ?_
  refine B_sld (pc := 985) dL_law_985 (ixin hj 1 ⟨rfl, by decide⟩) (ixat hj 1 ⟨rfl, by decide⟩) ?_
  refine B_mI (pc := 986) [.int (xs (6 * j + 1))] dL_law_986 (kX10_strikes U (xs (6 * j + 1)) τ) hm cr_X10_strikes wl_L_126 (by decide) (by omega) (by omega) rfl rfl (Nat.le_of_ble_eq_true rfl) ?_
  refine B_same (pc := 989) 1363 dL_law_989 (by decide) ?_
  exact hk σ2 τ2 hr 
set_option maxRecDepth 20000 in
theorem lc_births {E : EE} {b L : Nat} {xs : Nat → Int32} {V U : VV} {Z : State → Prop} {σ τ : Sg} {j : Nat} (h : Rel σ τ) (hL : L ≤ 3072) (hj : 6 * j + 6 ≤ L ∧ L ≤ 3072) (hk : ∀ σ2 τ2 : Sg, Rel σ2 τ2 → TW E b L xs V U Z σ2 τ2 (100 + 10 * j) (4000 + 140 * j) 1363 [(3, .int (nI (6 * j))), (0, .ref b), (1, .ref (V.1 0)), (2, .ref (U.1 0))] []) : TW E b L xs V U Z σ τ (100 + 10 * j) (4000 + 140 * j) 994 [(3, .int (nI (6 * j))), (0, .ref b), (1, .ref (V.1 0)), (2, .ref (U.1 0))] [] := by
  obtain ⟨r, σ2, τ2, hx, hm, hr⟩ := sim_births h (xs (6 * j + 1))
  refine B_aload_n (pc := 994) 2 dL_law_994 rfl ?_
  refine B_aload_n (pc := 995) 1 dL_law_995 rfl ?_
  refine B_iload_n (pc := 996) 0 dL_law_996 rfl ?_
  refine B_iconst (pc := 997) (v := 1) dL_law_997 (by decide) ?_
  refine B_iadd (pc := 998) dL_law_998 ?_
  refine B_sld (pc := 999) dL_law_999 (ixin hj 1 ⟨rfl, by decide⟩) (ixat hj 1 ⟨rfl, by decide⟩) ?_
  refine B_xI (pc := 1000) [.int (xs (6 * j + 1))] dL_law_1000 (kX9_births V (xs (6 * j + 1)) σ) hx cr_X9_births wl_L_127 (by decide) (by omega) (by omega) rfl rfl (Nat.le_of_ble_eq_true rfl) ?_
  refine B_aload_n (pc := 1003) 3 dL_law_1003 rfl ?_
  refine B_aload_n (pc := 1004) 1 dL_law_1004 rfl ?_
  refine B_iload_n (pc := 1005) 0 dL_law_1005 rfl ?_
  refine B_iconst (pc := 1006) (v := 1) dL_law_1006 (by decide) ?_
  refine B_iadd (pc := 1007) dL_law_1007 ?_
  refine B_sld (pc := 1008) dL_law_1008 (ixin hj 1 ⟨rfl, by decide⟩) (ixat hj 1 ⟨rfl, by decide⟩) ?_
  refine B_mI (pc := 1009) [.int (xs (6 * j + 1))] dL_law_1009 (kX10_births U (xs (6 * j + 1)) τ) hm cr_X10_births wl_L_130 (by decide) (by omega) (by omega) rfl rfl (Nat.le_of_ble_eq_true rfl) ?_
  refine B_same (pc := 1012) 1363 dL_law_1012 (by decide) ?_
  exact hk σ2 τ2 hr 
set_option maxRecDepth 20000 in
theorem lc_seed {E : EE} {b L : Nat} {xs : Nat → Int32} {V U : VV} {Z : State → Prop} {σ τ : Sg} {j : Nat} (h : Rel σ τ) (hL : L ≤ 3072) (hj : 6 * j + 6 ≤ L ∧ L ≤ 3072) (hk : ∀ σ2 τ2 : Sg, Rel σ2 τ2 → TW E b L xs V U Z σ2 τ2 (100 + 10 * j) (4000 + 140 * j) 1363 [(3, .int (nI (6 * j))), (0, .ref b), (1, .ref (V.1 0)), (2, .ref (U.1 0))] []) : TW E b L xs V U Z σ τ (100 + 10 * j) (4000 + 140 * j) 1017 [(3, .int (nI (6 * j))), (0, .ref b), (1, .ref (V.1 0)), (2, .ref (U.1 0))] [] := by
  obtain ⟨r, σ2, τ2, hx, hm, hr⟩ := sim_seed h (xs (6 * j + 1))
  refine B_aload_n (pc := 1017) 2 dL_law_1017 rfl ?_
  refine B_aload_n (pc := 1018) 1 dL_law_1018 rfl ?_
  refine B_iload_n (pc := 1019) 0 dL_law_1019 rfl ?_
  refine B_iconst (pc := 1020) (v := 1) dL_law_1020 (by decide) ?_
  refine B_iadd (pc := 1021) dL_law_1021 ?_
  refine B_sld (pc := 1022) dL_law_1022 (ixin hj 1 ⟨rfl, by decide⟩) (ixat hj 1 ⟨rfl, by decide⟩) ?_
  refine B_xI (pc := 1023) [.int (xs (6 * j + 1))] dL_law_1023 (kX9_seed V (xs (6 * j + 1)) σ) hx cr_X9_seed wl_L_131 (by decide) (by omega) (by omega) rfl rfl (Nat.le_of_ble_eq_true rfl) ?_
  refine B_aload_n (pc := 1026) 3 dL_law_1026 rfl ?_
  refine B_aload_n (pc := 1027) 1 dL_law_1027 rfl ?_
  refine B_iload_n (pc := 1028) 0 dL_law_1028 rfl ?_
  refine B_iconst (pc := 1029) (v := 1) dL_law_1029 (by decide) ?_
  refine B_iadd (pc := 1030) dL_law_1030 ?_
  refine B_sld (pc := 1031) dL_law_1031 (ixin hj 1 ⟨rfl, by decide⟩) (ixat hj 1 ⟨rfl, by decide⟩) ?_
  refine B_mI (pc := 1032) [.int (xs (6 * j + 1))] dL_law_1032 (kX10_seed U (xs (6 * j + 1)) τ) hm cr_X10_seed wl_L_134 (by decide) (by omega) (by omega) rfl rfl (Nat.le_of_ble_eq_true rfl) ?_
  refine B_same (pc := 1035) 1363 dL_law_1035 (by decide) ?_
  exact hk σ2 τ2 hr 
set_option maxRecDepth 20000 in
theorem lc_voice {E : EE} {b L : Nat} {xs : Nat → Int32} {V U : VV} {Z : State → Prop} {σ τ : Sg} {j : Nat} (h : Rel σ τ) (hL : L ≤ 3072) (hj : 6 * j + 6 ≤ L ∧ L ≤ 3072) (hk : ∀ σ2 τ2 : Sg, Rel σ2 τ2 → TW E b L xs V U Z σ2 τ2 (100 + 10 * j) (4000 + 140 * j) 1363 [(3, .int (nI (6 * j))), (0, .ref b), (1, .ref (V.1 0)), (2, .ref (U.1 0))] []) : TW E b L xs V U Z σ τ (100 + 10 * j) (4000 + 140 * j) 1040 [(3, .int (nI (6 * j))), (0, .ref b), (1, .ref (V.1 0)), (2, .ref (U.1 0))] [] := by
  obtain ⟨r, σ2, τ2, hx, hm, hr⟩ := sim_voice h (xs (6 * j + 1)) (xs (6 * j + 2)) (xs (6 * j + 3))
  refine B_aload_n (pc := 1040) 2 dL_law_1040 rfl ?_
  refine B_aload_n (pc := 1041) 1 dL_law_1041 rfl ?_
  refine B_iload_n (pc := 1042) 0 dL_law_1042 rfl ?_
  refine B_iconst (pc := 1043) (v := 1) dL_law_1043 (by decide) ?_
  refine B_iadd (pc := 1044) dL_law_1044 ?_
  refine B_sld (pc := 1045) dL_law_1045 (ixin hj 1 ⟨rfl, by decide⟩) (ixat hj 1 ⟨rfl, by decide⟩) ?_
  refine B_aload_n (pc := 1046) 1 dL_law_1046 rfl ?_
  refine B_iload_n (pc := 1047) 0 dL_law_1047 rfl ?_
  refine B_iconst (pc := 1048) (v := 2) dL_law_1048 (by decide) ?_
  refine B_iadd (pc := 1049) dL_law_1049 ?_
  refine B_sld (pc := 1050) dL_law_1050 (ixin hj 2 ⟨rfl, by decide⟩) (ixat hj 2 ⟨rfl, by decide⟩) ?_
  refine B_aload_n (pc := 1051) 1 dL_law_1051 rfl ?_
  refine B_iload_n (pc := 1052) 0 dL_law_1052 rfl ?_
  refine B_iconst (pc := 1053) (v := 3) dL_law_1053 (by decide) ?_
  refine B_iadd (pc := 1054) dL_law_1054 ?_
  refine B_sld (pc := 1055) dL_law_1055 (ixin hj 3 ⟨rfl, by decide⟩) (ixat hj 3 ⟨rfl, by decide⟩) ?_
  refine B_xI (pc := 1056) [.int (xs (6 * j + 1)), .int (xs (6 * j + 2)), .int (xs (6 * j + 3))] dL_law_1056 (kX9_voice V (xs (6 * j + 1)) (xs (6 * j + 2)) (xs (6 * j + 3)) σ) hx cr_X9_voice wl_L_135 (by decide) (by omega) (by omega) rfl rfl (Nat.le_of_ble_eq_true rfl) ?_
  refine B_aload_n (pc := 1059) 3 dL_law_1059 rfl ?_
  refine B_aload_n (pc := 1060) 1 dL_law_1060 rfl ?_
  refine B_iload_n (pc := 1061) 0 dL_law_1061 rfl ?_
  refine B_iconst (pc := 1062) (v := 1) dL_law_1062 (by decide) ?_
  refine B_iadd (pc := 1063) dL_law_1063 ?_
  refine B_sld (pc := 1064) dL_law_1064 (ixin hj 1 ⟨rfl, by decide⟩) (ixat hj 1 ⟨rfl, by decide⟩) ?_
  refine B_aload_n (pc := 1065) 1 dL_law_1065 rfl ?_
  refine B_iload_n (pc := 1066) 0 dL_law_1066 rfl ?_
  refine B_iconst (pc := 1067) (v := 2) dL_law_1067 (by decide) ?_
  refine B_iadd (pc := 1068) dL_law_1068 ?_
  refine B_sld (pc := 1069) dL_law_1069 (ixin hj 2 ⟨rfl, by decide⟩) (ixat hj 2 ⟨rfl, by decide⟩) ?_
  refine B_aload_n (pc := 1070) 1 dL_law_1070 rfl ?_
  refine B_iload_n (pc := 1071) 0 dL_law_1071 rfl ?_
  refine B_iconst (pc := 1072) (v := 3) dL_law_1072 (by decide) ?_
  refine B_iadd (pc := 1073) dL_law_1073 ?_
  refine B_sld (pc := 1074) dL_law_1074 (ixin hj 3 ⟨rfl, by decide⟩) (ixat hj 3 ⟨rfl, by decide⟩) ?_
  refine B_mI (pc := 1075) [.int (xs (6 * j + 1)), .int (xs (6 * j + 2)), .int (xs (6 * j + 3))] dL_law_1075 (kX10_voice U (xs (6 * j + 1)) (xs (6 * j + 2)) (xs (6 * j + 3)) τ) hm cr_X10_voice wl_L_138 (by decide) (by omega) (by omega) rfl rfl (Nat.le_of_ble_eq_true rfl) ?_
  refine B_same (pc := 1078) 1363 dL_law_1078 (by decide) ?_
  exact hk σ2 τ2 hr 
set_option maxRecDepth 20000 in
theorem lc_trace {E : EE} {b L : Nat} {xs : Nat → Int32} {V U : VV} {Z : State → Prop} {σ τ : Sg} {j : Nat} (h : Rel σ τ) (hL : L ≤ 3072) (hj : 6 * j + 6 ≤ L ∧ L ≤ 3072) (hk : ∀ σ2 τ2 : Sg, Rel σ2 τ2 → TW E b L xs V U Z σ2 τ2 (100 + 10 * j) (4000 + 140 * j) 1363 [(3, .int (nI (6 * j))), (0, .ref b), (1, .ref (V.1 0)), (2, .ref (U.1 0))] []) : TW E b L xs V U Z σ τ (100 + 10 * j) (4000 + 140 * j) 1083 [(3, .int (nI (6 * j))), (0, .ref b), (1, .ref (V.1 0)), (2, .ref (U.1 0))] [] := by
  obtain ⟨r, σ2, τ2, hx, hm, hr⟩ := sim_trace h (xs (6 * j + 1))
  refine B_aload_n (pc := 1083) 2 dL_law_1083 rfl ?_
  refine B_aload_n (pc := 1084) 1 dL_law_1084 rfl ?_
  refine B_iload_n (pc := 1085) 0 dL_law_1085 rfl ?_
  refine B_iconst (pc := 1086) (v := 1) dL_law_1086 (by decide) ?_
  refine B_iadd (pc := 1087) dL_law_1087 ?_
  refine B_sld (pc := 1088) dL_law_1088 (ixin hj 1 ⟨rfl, by decide⟩) (ixat hj 1 ⟨rfl, by decide⟩) ?_
  refine B_xI (pc := 1089) [.int (xs (6 * j + 1))] dL_law_1089 (kX9_trace V (xs (6 * j + 1)) σ) hx cr_X9_trace wl_L_139 (by decide) (by omega) (by omega) rfl rfl (Nat.le_of_ble_eq_true rfl) ?_
  refine B_aload_n (pc := 1092) 3 dL_law_1092 rfl ?_
  refine B_aload_n (pc := 1093) 1 dL_law_1093 rfl ?_
  refine B_iload_n (pc := 1094) 0 dL_law_1094 rfl ?_
  refine B_iconst (pc := 1095) (v := 1) dL_law_1095 (by decide) ?_
  refine B_iadd (pc := 1096) dL_law_1096 ?_
  refine B_sld (pc := 1097) dL_law_1097 (ixin hj 1 ⟨rfl, by decide⟩) (ixat hj 1 ⟨rfl, by decide⟩) ?_
  refine B_mI (pc := 1098) [.int (xs (6 * j + 1))] dL_law_1098 (kX10_trace U (xs (6 * j + 1)) τ) hm cr_X10_trace wl_L_142 (by decide) (by omega) (by omega) rfl rfl (Nat.le_of_ble_eq_true rfl) ?_
  refine B_same (pc := 1101) 1363 dL_law_1101 (by decide) ?_
  exact hk σ2 τ2 hr 
set_option maxRecDepth 20000 in
theorem lc_sheet {E : EE} {b L : Nat} {xs : Nat → Int32} {V U : VV} {Z : State → Prop} {σ τ : Sg} {j : Nat} (h : Rel σ τ) (hL : L ≤ 3072) (hj : 6 * j + 6 ≤ L ∧ L ≤ 3072) (hk : ∀ σ2 τ2 : Sg, Rel σ2 τ2 → TW E b L xs V U Z σ2 τ2 (100 + 10 * j) (4000 + 140 * j) 1363 [(3, .int (nI (6 * j))), (0, .ref b), (1, .ref (V.1 0)), (2, .ref (U.1 0))] []) : TW E b L xs V U Z σ τ (100 + 10 * j) (4000 + 140 * j) 1106 [(3, .int (nI (6 * j))), (0, .ref b), (1, .ref (V.1 0)), (2, .ref (U.1 0))] [] := by
  obtain ⟨r, σ2, τ2, hx, hm, hr⟩ := sim_sheet h (xs (6 * j + 1)) (xs (6 * j + 2)) (xs (6 * j + 3))
  refine B_aload_n (pc := 1106) 2 dL_law_1106 rfl ?_
  refine B_aload_n (pc := 1107) 1 dL_law_1107 rfl ?_
  refine B_iload_n (pc := 1108) 0 dL_law_1108 rfl ?_
  refine B_iconst (pc := 1109) (v := 1) dL_law_1109 (by decide) ?_
  refine B_iadd (pc := 1110) dL_law_1110 ?_
  refine B_sld (pc := 1111) dL_law_1111 (ixin hj 1 ⟨rfl, by decide⟩) (ixat hj 1 ⟨rfl, by decide⟩) ?_
  refine B_aload_n (pc := 1112) 1 dL_law_1112 rfl ?_
  refine B_iload_n (pc := 1113) 0 dL_law_1113 rfl ?_
  refine B_iconst (pc := 1114) (v := 2) dL_law_1114 (by decide) ?_
  refine B_iadd (pc := 1115) dL_law_1115 ?_
  refine B_sld (pc := 1116) dL_law_1116 (ixin hj 2 ⟨rfl, by decide⟩) (ixat hj 2 ⟨rfl, by decide⟩) ?_
  refine B_aload_n (pc := 1117) 1 dL_law_1117 rfl ?_
  refine B_iload_n (pc := 1118) 0 dL_law_1118 rfl ?_
  refine B_iconst (pc := 1119) (v := 3) dL_law_1119 (by decide) ?_
  refine B_iadd (pc := 1120) dL_law_1120 ?_
  refine B_sld (pc := 1121) dL_law_1121 (ixin hj 3 ⟨rfl, by decide⟩) (ixat hj 3 ⟨rfl, by decide⟩) ?_
  refine B_xI (pc := 1122) [.int (xs (6 * j + 1)), .int (xs (6 * j + 2)), .int (xs (6 * j + 3))] dL_law_1122 (kX9_sheet V (xs (6 * j + 1)) (xs (6 * j + 2)) (xs (6 * j + 3)) σ) hx cr_X9_sheet wl_L_143 (by decide) (by omega) (by omega) rfl rfl (Nat.le_of_ble_eq_true rfl) ?_
  refine B_aload_n (pc := 1125) 3 dL_law_1125 rfl ?_
  refine B_aload_n (pc := 1126) 1 dL_law_1126 rfl ?_
  refine B_iload_n (pc := 1127) 0 dL_law_1127 rfl ?_
  refine B_iconst (pc := 1128) (v := 1) dL_law_1128 (by decide) ?_
  refine B_iadd (pc := 1129) dL_law_1129 ?_
  refine B_sld (pc := 1130) dL_law_1130 (ixin hj 1 ⟨rfl, by decide⟩) (ixat hj 1 ⟨rfl, by decide⟩) ?_
  refine B_aload_n (pc := 1131) 1 dL_law_1131 rfl ?_
  refine B_iload_n (pc := 1132) 0 dL_law_1132 rfl ?_
  refine B_iconst (pc := 1133) (v := 2) dL_law_1133 (by decide) ?_
  refine B_iadd (pc := 1134) dL_law_1134 ?_
  refine B_sld (pc := 1135) dL_law_1135 (ixin hj 2 ⟨rfl, by decide⟩) (ixat hj 2 ⟨rfl, by decide⟩) ?_
  refine B_aload_n (pc := 1136) 1 dL_law_1136 rfl ?_
  refine B_iload_n (pc := 1137) 0 dL_law_1137 rfl ?_
  refine B_iconst (pc := 1138) (v := 3) dL_law_1138 (by decide) ?_
  refine B_iadd (pc := 1139) dL_law_1139 ?_
  refine B_sld (pc := 1140) dL_law_1140 (ixin hj 3 ⟨rfl, by decide⟩) (ixat hj 3 ⟨rfl, by decide⟩) ?_
  refine B_mI (pc := 1141) [.int (xs (6 * j + 1)), .int (xs (6 * j + 2)), .int (xs (6 * j + 3))] dL_law_1141 (kX10_sheet U (xs (6 * j + 1)) (xs (6 * j + 2)) (xs (6 * j + 3)) τ) hm cr_X10_sheet wl_L_146 (by decide) (by omega) (by omega) rfl rfl (Nat.le_of_ble_eq_true rfl) ?_
  refine B_same (pc := 1144) 1363 dL_law_1144 (by decide) ?_
  exact hk σ2 τ2 hr 
set_option maxRecDepth 20000 in
theorem lc_put {E : EE} {b L : Nat} {xs : Nat → Int32} {V U : VV} {Z : State → Prop} {σ τ : Sg} {j : Nat} (h : Rel σ τ) (hL : L ≤ 3072) (hj : 6 * j + 6 ≤ L ∧ L ≤ 3072) (hk : ∀ σ2 τ2 : Sg, Rel σ2 τ2 → TW E b L xs V U Z σ2 τ2 (100 + 10 * j) (4000 + 140 * j) 1363 [(3, .int (nI (6 * j))), (0, .ref b), (1, .ref (V.1 0)), (2, .ref (U.1 0))] []) : TW E b L xs V U Z σ τ (100 + 10 * j) (4000 + 140 * j) 1149 [(3, .int (nI (6 * j))), (0, .ref b), (1, .ref (V.1 0)), (2, .ref (U.1 0))] [] := by
  obtain ⟨r, σ2, τ2, hx, hm, hr⟩ := sim_put h (xs (6 * j + 1)) (xs (6 * j + 2)) (xs (6 * j + 3))
  refine B_aload_n (pc := 1149) 2 dL_law_1149 rfl ?_
  refine B_aload_n (pc := 1150) 1 dL_law_1150 rfl ?_
  refine B_iload_n (pc := 1151) 0 dL_law_1151 rfl ?_
  refine B_iconst (pc := 1152) (v := 1) dL_law_1152 (by decide) ?_
  refine B_iadd (pc := 1153) dL_law_1153 ?_
  refine B_sld (pc := 1154) dL_law_1154 (ixin hj 1 ⟨rfl, by decide⟩) (ixat hj 1 ⟨rfl, by decide⟩) ?_
  refine B_aload_n (pc := 1155) 1 dL_law_1155 rfl ?_
  refine B_iload_n (pc := 1156) 0 dL_law_1156 rfl ?_
  refine B_iconst (pc := 1157) (v := 2) dL_law_1157 (by decide) ?_
  refine B_iadd (pc := 1158) dL_law_1158 ?_
  refine B_sld (pc := 1159) dL_law_1159 (ixin hj 2 ⟨rfl, by decide⟩) (ixat hj 2 ⟨rfl, by decide⟩) ?_
  refine B_aload_n (pc := 1160) 1 dL_law_1160 rfl ?_
  refine B_iload_n (pc := 1161) 0 dL_law_1161 rfl ?_
  refine B_iconst (pc := 1162) (v := 3) dL_law_1162 (by decide) ?_
  refine B_iadd (pc := 1163) dL_law_1163 ?_
  refine B_sld (pc := 1164) dL_law_1164 (ixin hj 3 ⟨rfl, by decide⟩) (ixat hj 3 ⟨rfl, by decide⟩) ?_
  refine B_xI (pc := 1165) [.int (xs (6 * j + 1)), .int (xs (6 * j + 2)), .int (xs (6 * j + 3))] dL_law_1165 (kX9_put V (xs (6 * j + 1)) (xs (6 * j + 2)) (xs (6 * j + 3)) σ) hx cr_X9_put wl_L_147 (by decide) (by omega) (by omega) rfl rfl (Nat.le_of_ble_eq_true rfl) ?_
  refine B_aload_n (pc := 1168) 3 dL_law_1168 rfl ?_
  refine B_aload_n (pc := 1169) 1 dL_law_1169 rfl ?_
  refine B_iload_n (pc := 1170) 0 dL_law_1170 rfl ?_
  refine B_iconst (pc := 1171) (v := 1) dL_law_1171 (by decide) ?_
  refine B_iadd (pc := 1172) dL_law_1172 ?_
  refine B_sld (pc := 1173) dL_law_1173 (ixin hj 1 ⟨rfl, by decide⟩) (ixat hj 1 ⟨rfl, by decide⟩) ?_
  refine B_aload_n (pc := 1174) 1 dL_law_1174 rfl ?_
  refine B_iload_n (pc := 1175) 0 dL_law_1175 rfl ?_
  refine B_iconst (pc := 1176) (v := 2) dL_law_1176 (by decide) ?_
  refine B_iadd (pc := 1177) dL_law_1177 ?_
  refine B_sld (pc := 1178) dL_law_1178 (ixin hj 2 ⟨rfl, by decide⟩) (ixat hj 2 ⟨rfl, by decide⟩) ?_
  refine B_aload_n (pc := 1179) 1 dL_law_1179 rfl ?_
  refine B_iload_n (pc := 1180) 0 dL_law_1180 rfl ?_
  refine B_iconst (pc := 1181) (v := 3) dL_law_1181 (by decide) ?_
  refine B_iadd (pc := 1182) dL_law_1182 ?_
  refine B_sld (pc := 1183) dL_law_1183 (ixin hj 3 ⟨rfl, by decide⟩) (ixat hj 3 ⟨rfl, by decide⟩) ?_
  refine B_mI (pc := 1184) [.int (xs (6 * j + 1)), .int (xs (6 * j + 2)), .int (xs (6 * j + 3))] dL_law_1184 (kX10_put U (xs (6 * j + 1)) (xs (6 * j + 2)) (xs (6 * j + 3)) τ) hm cr_X10_put wl_L_150 (by decide) (by omega) (by omega) rfl rfl (Nat.le_of_ble_eq_true rfl) ?_
  refine B_same (pc := 1187) 1363 dL_law_1187 (by decide) ?_
  exact hk σ2 τ2 hr 
set_option maxRecDepth 20000 in
theorem lc_move {E : EE} {b L : Nat} {xs : Nat → Int32} {V U : VV} {Z : State → Prop} {σ τ : Sg} {j : Nat} (h : Rel σ τ) (hL : L ≤ 3072) (hj : 6 * j + 6 ≤ L ∧ L ≤ 3072) (hk : ∀ σ2 τ2 : Sg, Rel σ2 τ2 → TW E b L xs V U Z σ2 τ2 (100 + 10 * j) (4000 + 140 * j) 1363 [(3, .int (nI (6 * j))), (0, .ref b), (1, .ref (V.1 0)), (2, .ref (U.1 0))] []) : TW E b L xs V U Z σ τ (100 + 10 * j) (4000 + 140 * j) 1192 [(3, .int (nI (6 * j))), (0, .ref b), (1, .ref (V.1 0)), (2, .ref (U.1 0))] [] := by
  obtain ⟨r, σ2, τ2, hx, hm, hr⟩ := sim_move h (xs (6 * j + 1)) (xs (6 * j + 2)) (xs (6 * j + 3)) (xs (6 * j + 4)) (xs (6 * j + 5))
  refine B_aload_n (pc := 1192) 2 dL_law_1192 rfl ?_
  refine B_aload_n (pc := 1193) 1 dL_law_1193 rfl ?_
  refine B_iload_n (pc := 1194) 0 dL_law_1194 rfl ?_
  refine B_iconst (pc := 1195) (v := 1) dL_law_1195 (by decide) ?_
  refine B_iadd (pc := 1196) dL_law_1196 ?_
  refine B_sld (pc := 1197) dL_law_1197 (ixin hj 1 ⟨rfl, by decide⟩) (ixat hj 1 ⟨rfl, by decide⟩) ?_
  refine B_aload_n (pc := 1198) 1 dL_law_1198 rfl ?_
  refine B_iload_n (pc := 1199) 0 dL_law_1199 rfl ?_
  refine B_iconst (pc := 1200) (v := 2) dL_law_1200 (by decide) ?_
  refine B_iadd (pc := 1201) dL_law_1201 ?_
  refine B_sld (pc := 1202) dL_law_1202 (ixin hj 2 ⟨rfl, by decide⟩) (ixat hj 2 ⟨rfl, by decide⟩) ?_
  refine B_aload_n (pc := 1203) 1 dL_law_1203 rfl ?_
  refine B_iload_n (pc := 1204) 0 dL_law_1204 rfl ?_
  refine B_iconst (pc := 1205) (v := 3) dL_law_1205 (by decide) ?_
  refine B_iadd (pc := 1206) dL_law_1206 ?_
  refine B_sld (pc := 1207) dL_law_1207 (ixin hj 3 ⟨rfl, by decide⟩) (ixat hj 3 ⟨rfl, by decide⟩) ?_
  refine B_aload_n (pc := 1208) 1 dL_law_1208 rfl ?_
  refine B_iload_n (pc := 1209) 0 dL_law_1209 rfl ?_
  refine B_iconst (pc := 1210) (v := 4) dL_law_1210 (by decide) ?_
  refine B_iadd (pc := 1211) dL_law_1211 ?_
  refine B_sld (pc := 1212) dL_law_1212 (ixin hj 4 ⟨rfl, by decide⟩) (ixat hj 4 ⟨rfl, by decide⟩) ?_
  refine B_aload_n (pc := 1213) 1 dL_law_1213 rfl ?_
  refine B_iload_n (pc := 1214) 0 dL_law_1214 rfl ?_
  refine B_iconst (pc := 1215) (v := 5) dL_law_1215 (by decide) ?_
  refine B_iadd (pc := 1216) dL_law_1216 ?_
  refine B_sld (pc := 1217) dL_law_1217 (ixin hj 5 ⟨rfl, by decide⟩) (ixat hj 5 ⟨rfl, by decide⟩) ?_
  refine B_xI (pc := 1218) [.int (xs (6 * j + 1)), .int (xs (6 * j + 2)), .int (xs (6 * j + 3)), .int (xs (6 * j + 4)), .int (xs (6 * j + 5))] dL_law_1218 (kX9_move V (xs (6 * j + 1)) (xs (6 * j + 2)) (xs (6 * j + 3)) (xs (6 * j + 4)) (xs (6 * j + 5)) σ) hx cr_X9_move wl_L_151 (by decide) (by omega) (by omega) rfl rfl (Nat.le_of_ble_eq_true rfl) ?_
  refine B_aload_n (pc := 1221) 3 dL_law_1221 rfl ?_
  refine B_aload_n (pc := 1222) 1 dL_law_1222 rfl ?_
  refine B_iload_n (pc := 1223) 0 dL_law_1223 rfl ?_
  refine B_iconst (pc := 1224) (v := 1) dL_law_1224 (by decide) ?_
  refine B_iadd (pc := 1225) dL_law_1225 ?_
  refine B_sld (pc := 1226) dL_law_1226 (ixin hj 1 ⟨rfl, by decide⟩) (ixat hj 1 ⟨rfl, by decide⟩) ?_
  refine B_aload_n (pc := 1227) 1 dL_law_1227 rfl ?_
  refine B_iload_n (pc := 1228) 0 dL_law_1228 rfl ?_
  refine B_iconst (pc := 1229) (v := 2) dL_law_1229 (by decide) ?_
  refine B_iadd (pc := 1230) dL_law_1230 ?_
  refine B_sld (pc := 1231) dL_law_1231 (ixin hj 2 ⟨rfl, by decide⟩) (ixat hj 2 ⟨rfl, by decide⟩) ?_
  refine B_aload_n (pc := 1232) 1 dL_law_1232 rfl ?_
  refine B_iload_n (pc := 1233) 0 dL_law_1233 rfl ?_
  refine B_iconst (pc := 1234) (v := 3) dL_law_1234 (by decide) ?_
  refine B_iadd (pc := 1235) dL_law_1235 ?_
  refine B_sld (pc := 1236) dL_law_1236 (ixin hj 3 ⟨rfl, by decide⟩) (ixat hj 3 ⟨rfl, by decide⟩) ?_
  refine B_aload_n (pc := 1237) 1 dL_law_1237 rfl ?_
  refine B_iload_n (pc := 1238) 0 dL_law_1238 rfl ?_
  refine B_iconst (pc := 1239) (v := 4) dL_law_1239 (by decide) ?_
  refine B_iadd (pc := 1240) dL_law_1240 ?_
  refine B_sld (pc := 1241) dL_law_1241 (ixin hj 4 ⟨rfl, by decide⟩) (ixat hj 4 ⟨rfl, by decide⟩) ?_
  refine B_aload_n (pc := 1242) 1 dL_law_1242 rfl ?_
  refine B_iload_n (pc := 1243) 0 dL_law_1243 rfl ?_
  refine B_iconst (pc := 1244) (v := 5) dL_law_1244 (by decide) ?_
  refine B_iadd (pc := 1245) dL_law_1245 ?_
  refine B_sld (pc := 1246) dL_law_1246 (ixin hj 5 ⟨rfl, by decide⟩) (ixat hj 5 ⟨rfl, by decide⟩) ?_
  refine B_mI (pc := 1247) [.int (xs (6 * j + 1)), .int (xs (6 * j + 2)), .int (xs (6 * j + 3)), .int (xs (6 * j + 4)), .int (xs (6 * j + 5))] dL_law_1247 (kX10_move U (xs (6 * j + 1)) (xs (6 * j + 2)) (xs (6 * j + 3)) (xs (6 * j + 4)) (xs (6 * j + 5)) τ) hm cr_X10_move wl_L_155 (by decide) (by omega) (by omega) rfl rfl (Nat.le_of_ble_eq_true rfl) ?_
  refine B_same (pc := 1250) 1363 dL_law_1250 (by decide) ?_
  exact hk σ2 τ2 hr 
set_option maxRecDepth 20000 in
theorem lc_image {E : EE} {b L : Nat} {xs : Nat → Int32} {V U : VV} {Z : State → Prop} {σ τ : Sg} {j : Nat} (h : Rel σ τ) (hL : L ≤ 3072) (hj : 6 * j + 6 ≤ L ∧ L ≤ 3072) (hk : ∀ σ2 τ2 : Sg, Rel σ2 τ2 → TW E b L xs V U Z σ2 τ2 (100 + 10 * j) (4000 + 140 * j) 1363 [(3, .int (nI (6 * j))), (0, .ref b), (1, .ref (V.1 0)), (2, .ref (U.1 0))] []) : TW E b L xs V U Z σ τ (100 + 10 * j) (4000 + 140 * j) 1255 [(3, .int (nI (6 * j))), (0, .ref b), (1, .ref (V.1 0)), (2, .ref (U.1 0))] [] := by
  obtain ⟨r, σ2, τ2, hx, hm, hr⟩ := sim_image h
  refine B_aload_n (pc := 1255) 2 dL_law_1255 rfl ?_
  refine B_xI (pc := 1256) [] dL_law_1256 (kX9_image V σ) hx cr_X9_image wl_L_156 (by decide) (by omega) (by omega) rfl rfl (Nat.le_of_ble_eq_true rfl) ?_
  refine B_aload_n (pc := 1259) 3 dL_law_1259 rfl ?_
  refine B_mI (pc := 1260) [] dL_law_1260 (kX10_image U τ) hm cr_X10_image wl_L_159 (by decide) (by omega) (by omega) rfl rfl (Nat.le_of_ble_eq_true rfl) ?_
  refine B_same (pc := 1263) 1363 dL_law_1263 (by decide) ?_
  exact hk σ2 τ2 hr 
set_option maxRecDepth 20000 in
theorem lc_restore {E : EE} {b L : Nat} {xs : Nat → Int32} {V U : VV} {Z : State → Prop} {σ τ : Sg} {j : Nat} (h : Rel σ τ) (hL : L ≤ 3072) (hj : 6 * j + 6 ≤ L ∧ L ≤ 3072) (hk : ∀ σ2 τ2 : Sg, Rel σ2 τ2 → TW E b L xs V U Z σ2 τ2 (100 + 10 * j) (4000 + 140 * j) 1363 [(3, .int (nI (6 * j))), (0, .ref b), (1, .ref (V.1 0)), (2, .ref (U.1 0))] []) : TW E b L xs V U Z σ τ (100 + 10 * j) (4000 + 140 * j) 1268 [(3, .int (nI (6 * j))), (0, .ref b), (1, .ref (V.1 0)), (2, .ref (U.1 0))] [] := by
  obtain ⟨r, σ2, τ2, hx, hm, hr⟩ := sim_restore h
  refine B_aload_n (pc := 1268) 2 dL_law_1268 rfl ?_
  refine B_xI (pc := 1269) [] dL_law_1269 (kX9_restore V σ) hx cr_X9_restore wl_L_160 (by decide) (by omega) (by omega) rfl rfl (Nat.le_of_ble_eq_true rfl) ?_
  refine B_aload_n (pc := 1272) 3 dL_law_1272 rfl ?_
  refine B_mI (pc := 1273) [] dL_law_1273 (kX10_restore U τ) hm cr_X10_restore wl_L_163 (by decide) (by omega) (by omega) rfl rfl (Nat.le_of_ble_eq_true rfl) ?_
  refine B_same (pc := 1276) 1363 dL_law_1276 (by decide) ?_
  exact hk σ2 τ2 hr 
set_option maxRecDepth 20000 in
theorem lc_tell {E : EE} {b L : Nat} {xs : Nat → Int32} {V U : VV} {Z : State → Prop} {σ τ : Sg} {j : Nat} (h : Rel σ τ) (hL : L ≤ 3072) (hj : 6 * j + 6 ≤ L ∧ L ≤ 3072) (hk : ∀ σ2 τ2 : Sg, Rel σ2 τ2 → TW E b L xs V U Z σ2 τ2 (100 + 10 * j) (4000 + 140 * j) 1363 [(3, .int (nI (6 * j))), (0, .ref b), (1, .ref (V.1 0)), (2, .ref (U.1 0))] []) : TW E b L xs V U Z σ τ (100 + 10 * j) (4000 + 140 * j) 1281 [(3, .int (nI (6 * j))), (0, .ref b), (1, .ref (V.1 0)), (2, .ref (U.1 0))] [] := by
  obtain ⟨r, σ2, τ2, hx, hm, hr⟩ := sim_tell h (xs (6 * j + 1))
  refine B_aload_n (pc := 1281) 2 dL_law_1281 rfl ?_
  refine B_aload_n (pc := 1282) 1 dL_law_1282 rfl ?_
  refine B_iload_n (pc := 1283) 0 dL_law_1283 rfl ?_
  refine B_iconst (pc := 1284) (v := 1) dL_law_1284 (by decide) ?_
  refine B_iadd (pc := 1285) dL_law_1285 ?_
  refine B_sld (pc := 1286) dL_law_1286 (ixin hj 1 ⟨rfl, by decide⟩) (ixat hj 1 ⟨rfl, by decide⟩) ?_
  refine B_xI (pc := 1287) [.int (xs (6 * j + 1))] dL_law_1287 (kX9_tell V (xs (6 * j + 1)) σ) hx cr_X9_tell wl_L_164 (by decide) (by omega) (by omega) rfl rfl (Nat.le_of_ble_eq_true rfl) ?_
  refine B_aload_n (pc := 1290) 3 dL_law_1290 rfl ?_
  refine B_aload_n (pc := 1291) 1 dL_law_1291 rfl ?_
  refine B_iload_n (pc := 1292) 0 dL_law_1292 rfl ?_
  refine B_iconst (pc := 1293) (v := 1) dL_law_1293 (by decide) ?_
  refine B_iadd (pc := 1294) dL_law_1294 ?_
  refine B_sld (pc := 1295) dL_law_1295 (ixin hj 1 ⟨rfl, by decide⟩) (ixat hj 1 ⟨rfl, by decide⟩) ?_
  refine B_mI (pc := 1296) [.int (xs (6 * j + 1))] dL_law_1296 (kX10_tell U (xs (6 * j + 1)) τ) hm cr_X10_tell wl_L_167 (by decide) (by omega) (by omega) rfl rfl (Nat.le_of_ble_eq_true rfl) ?_
  refine B_same (pc := 1299) 1363 dL_law_1299 (by decide) ?_
  exact hk σ2 τ2 hr 
set_option maxRecDepth 20000 in
theorem lc_check {E : EE} {b L : Nat} {xs : Nat → Int32} {V U : VV} {Z : State → Prop} {σ τ : Sg} {j : Nat} (h : Rel σ τ) (hL : L ≤ 3072) (hj : 6 * j + 6 ≤ L ∧ L ≤ 3072) (hk : ∀ σ2 τ2 : Sg, Rel σ2 τ2 → TW E b L xs V U Z σ2 τ2 (100 + 10 * j) (4000 + 140 * j) 1363 [(3, .int (nI (6 * j))), (0, .ref b), (1, .ref (V.1 0)), (2, .ref (U.1 0))] []) : TW E b L xs V U Z σ τ (100 + 10 * j) (4000 + 140 * j) 1304 [(3, .int (nI (6 * j))), (0, .ref b), (1, .ref (V.1 0)), (2, .ref (U.1 0))] [] := by
  obtain ⟨r, σ2, τ2, hx, hm, hr⟩ := sim_check h
  refine B_aload_n (pc := 1304) 2 dL_law_1304 rfl ?_
  refine B_xI (pc := 1305) [] dL_law_1305 (kX9_check V σ) hx cr_X9_check wl_L_168 (by decide) (by omega) (by omega) rfl rfl (Nat.le_of_ble_eq_true rfl) ?_
  refine B_aload_n (pc := 1308) 3 dL_law_1308 rfl ?_
  refine B_mI (pc := 1309) [] dL_law_1309 (kX10_check U τ) hm cr_X10_check wl_L_171 (by decide) (by omega) (by omega) rfl rfl (Nat.le_of_ble_eq_true rfl) ?_
  refine B_same (pc := 1312) 1363 dL_law_1312 (by decide) ?_
  exact hk σ2 τ2 hr 
set_option maxRecDepth 20000 in
theorem lc_count {E : EE} {b L : Nat} {xs : Nat → Int32} {V U : VV} {Z : State → Prop} {σ τ : Sg} {j : Nat} (h : Rel σ τ) (hL : L ≤ 3072) (hj : 6 * j + 6 ≤ L ∧ L ≤ 3072) (hk : ∀ σ2 τ2 : Sg, Rel σ2 τ2 → TW E b L xs V U Z σ2 τ2 (100 + 10 * j) (4000 + 140 * j) 1363 [(3, .int (nI (6 * j))), (0, .ref b), (1, .ref (V.1 0)), (2, .ref (U.1 0))] []) : TW E b L xs V U Z σ τ (100 + 10 * j) (4000 + 140 * j) 1317 [(3, .int (nI (6 * j))), (0, .ref b), (1, .ref (V.1 0)), (2, .ref (U.1 0))] [] := by
  obtain ⟨r, σ2, τ2, hx, hm, hr⟩ := sim_count h (xs (6 * j + 1))
  refine B_aload_n (pc := 1317) 2 dL_law_1317 rfl ?_
  refine B_aload_n (pc := 1318) 1 dL_law_1318 rfl ?_
  refine B_iload_n (pc := 1319) 0 dL_law_1319 rfl ?_
  refine B_iconst (pc := 1320) (v := 1) dL_law_1320 (by decide) ?_
  refine B_iadd (pc := 1321) dL_law_1321 ?_
  refine B_sld (pc := 1322) dL_law_1322 (ixin hj 1 ⟨rfl, by decide⟩) (ixat hj 1 ⟨rfl, by decide⟩) ?_
  refine B_xI (pc := 1323) [.int (xs (6 * j + 1))] dL_law_1323 (kX9_count V (xs (6 * j + 1)) σ) hx cr_X9_count wl_L_172 (by decide) (by omega) (by omega) rfl rfl (Nat.le_of_ble_eq_true rfl) ?_
  refine B_aload_n (pc := 1326) 3 dL_law_1326 rfl ?_
  refine B_aload_n (pc := 1327) 1 dL_law_1327 rfl ?_
  refine B_iload_n (pc := 1328) 0 dL_law_1328 rfl ?_
  refine B_iconst (pc := 1329) (v := 1) dL_law_1329 (by decide) ?_
  refine B_iadd (pc := 1330) dL_law_1330 ?_
  refine B_sld (pc := 1331) dL_law_1331 (ixin hj 1 ⟨rfl, by decide⟩) (ixat hj 1 ⟨rfl, by decide⟩) ?_
  refine B_mI (pc := 1332) [.int (xs (6 * j + 1))] dL_law_1332 (kX10_count U (xs (6 * j + 1)) τ) hm cr_X10_count wl_L_175 (by decide) (by omega) (by omega) rfl rfl (Nat.le_of_ble_eq_true rfl) ?_
  refine B_same (pc := 1335) 1363 dL_law_1335 (by decide) ?_
  exact hk σ2 τ2 hr 
set_option maxRecDepth 20000 in
theorem lc_told {E : EE} {b L : Nat} {xs : Nat → Int32} {V U : VV} {Z : State → Prop} {σ τ : Sg} {j : Nat} (h : Rel σ τ) (hL : L ≤ 3072) (hj : 6 * j + 6 ≤ L ∧ L ≤ 3072) (hk : ∀ σ2 τ2 : Sg, Rel σ2 τ2 → TW E b L xs V U Z σ2 τ2 (100 + 10 * j) (4000 + 140 * j) 1363 [(3, .int (nI (6 * j))), (0, .ref b), (1, .ref (V.1 0)), (2, .ref (U.1 0))] []) : TW E b L xs V U Z σ τ (100 + 10 * j) (4000 + 140 * j) 1340 [(3, .int (nI (6 * j))), (0, .ref b), (1, .ref (V.1 0)), (2, .ref (U.1 0))] [] := by
  obtain ⟨r, σ2, τ2, hx, hm, hr⟩ := sim_told h (xs (6 * j + 1))
  refine B_aload_n (pc := 1340) 2 dL_law_1340 rfl ?_
  refine B_aload_n (pc := 1341) 1 dL_law_1341 rfl ?_
  refine B_iload_n (pc := 1342) 0 dL_law_1342 rfl ?_
  refine B_iconst (pc := 1343) (v := 1) dL_law_1343 (by decide) ?_
  refine B_iadd (pc := 1344) dL_law_1344 ?_
  refine B_sld (pc := 1345) dL_law_1345 (ixin hj 1 ⟨rfl, by decide⟩) (ixat hj 1 ⟨rfl, by decide⟩) ?_
  refine B_xI (pc := 1346) [.int (xs (6 * j + 1))] dL_law_1346 (kX9_told V (xs (6 * j + 1)) σ) hx cr_X9_told wl_L_176 (by decide) (by omega) (by omega) rfl rfl (Nat.le_of_ble_eq_true rfl) ?_
  refine B_aload_n (pc := 1349) 3 dL_law_1349 rfl ?_
  refine B_aload_n (pc := 1350) 1 dL_law_1350 rfl ?_
  refine B_iload_n (pc := 1351) 0 dL_law_1351 rfl ?_
  refine B_iconst (pc := 1352) (v := 1) dL_law_1352 (by decide) ?_
  refine B_iadd (pc := 1353) dL_law_1353 ?_
  refine B_sld (pc := 1354) dL_law_1354 (ixin hj 1 ⟨rfl, by decide⟩) (ixat hj 1 ⟨rfl, by decide⟩) ?_
  refine B_mI (pc := 1355) [.int (xs (6 * j + 1))] dL_law_1355 (kX10_told U (xs (6 * j + 1)) τ) hm cr_X10_told wl_L_179 (by decide) (by omega) (by omega) rfl rfl (Nat.le_of_ble_eq_true rfl) ?_
  refine B_same (pc := 1358) 1363 dL_law_1358 (by decide) ?_
  exact hk σ2 τ2 hr 
/-! THE CLAIM OUT OF ONE WALK OF THE LAW'S BODY. Your part is whole_start (and what it stands on); all else here is the same for every law, but numbers. -/
def R_law : String := "NamesApartLaw"
def lw_P (b : Addr) (xs : List Int32) (args : Array Value) (s : State) : Prop := args = #[.ref b] ∧ s.IntsAt b xs ∧ xs.length ≤ 3072 ∧ (Jvm.Cond.and given_1 narrow_1).before args s = true
def lw_Q (_ : Array Value) (s : State) (o : Outcome) (t : State) : Prop := o = .returned (some (.int 1)) ∧ Framed s o t [] 600000 7302250
def lw_Z (below : List Frame) (a : Array Value) (s : State) : State → Prop := fun t => ∃ o, t.status = .running ∧ Ended t below o ∧ lw_Q a s o t
/-- the law's own end, with 1 on the stack, nothing written that was there before, its room as the claim has it -/
theorem lw_ret {p : Program} {l : Launch} {e : Env} {s : State} {m : MethodId} {below : List Frame} {meth : Method} {c : Code} {b : Nat} (hx : p.tables.exec = Jvm.exec) (hb : c.code = code) (hr : meth.sig.returnType = ret) (hlocks : meth.locks = false) {pc : Nat} {H : Heap} {ls : Array Slot} (hdg : decode code pc = .ok (.ireturn, 1)) : W p l e room_1 s m #[Value.ref b] below meth c H [] 600000 7302250 (lw_Z below #[Value.ref b] s) (F0 m pc ls [.int 1]) := by
  intro T hT X
  obtain ⟨fs, hret, hrun, hended, hW, hframe⟩ := X.leave (v := some (.int 1)) (hlocks := hlocks) (fun h => by rw [hr] at h; cases h)
  have hmeth' : T.vm.method? m = some meth := X.method'
  refine ⟨T.setFrames fs, ?_, .returned (some (.int 1)), hrun, hended, rfl, ⟨_, rfl⟩, hW, hframe⟩
  jvm_step X.here [X.here.top, hx, hb, hdg, hmeth', hr, ret, narrow_b1]
  (try refine ⟨rfl, ?_⟩); (try refine ⟨rfl, ?_⟩)
  first | (intro acts; rw [hret _ acts rfl rfl rfl]) | rw [hret _ _ rfl rfl rfl]
  exact Steps.refl _
/-- what holds at the law's entry: the machine, the code, the tables' words (any of lw_tbl by 'hts w (by decide +kernel)'), the script of L ints xs at the cell b, what the Statement gives of the start (any of its parts by flat_of_before) -/
def lw_At (p : Program) (s : State) (m : MethodId) (meth : Method) (c : Code) (b L : Nat) (xs : Nat → Int32) : Prop :=
  p.tables.exec = Jvm.exec ∧ c.code = code ∧ meth.sig.returnType = ret ∧ c.maxLocals = 4 ∧ s.vm.findClass R_law = some m.cls ∧ (∀ w ∈ lw_tbl, w.before #[Value.ref b] s = true) ∧ va_X b L xs s s.heap ∧ b < s.heap.size ∧ meth.locks = false ∧ (Jvm.Cond.and given_1 narrow_1).before #[Value.ref b] s = true
set_option maxRecDepth 20000 in
theorem law_loop {E : EE} {b L : Nat} {xs : Nat → Int32} {V U : VV} (hL : L ≤ 3072) (n : Nat) : ∀ (j : Nat) (σ τ : Sg), Rel σ τ → 6 * j ≤ L → L < 6 * (n + j) → TW E b L xs V U (lw_Z E.2.2.2.2.2.2.2.1 #[Value.ref b] E.2.2.2.2.1) σ τ (100 + 10 * j) (4000 + 140 * j) 18 [(3, .int (nI (6 * j))), (0, .ref b), (1, .ref (V.1 0)), (2, .ref (U.1 0))] [] := by
  induction n with
  | zero => intro j σ τ _ h1 h2; omega
  | succ n ih =>
    intro j σ τ h h1 h2
    refine B_iload_n (pc := 18) 0 dL_law_18 rfl ?_
    refine B_aload_n (pc := 19) 1 dL_law_19 rfl ?_
    refine B_slen (pc := 20) dL_law_20 ?_
    refine B_bipush (pc := 21) (v := 6) dL_law_21 (by decide) ?_
    refine B_isub (pc := 23) dL_law_23 ?_
    have e6 : Int32.ofNat L - 6 = nI L - nI 6 := rfl
    refine B_icmp_gt (pc := 24) 1369 dL_law_24 (by decide) (fun hc => ?_) (fun hc => ?_)
    · refine B_iconst (pc := 1369) (v := 1) dL_law_1369 (by decide) ?_
      intro O H locs ls hP hQ hS hl
      obtain ⟨p, l, e, R, s, m, args, below, meth, c⟩ := E
      obtain ⟨hx, hb, -, -, -, -, -, -, hR, -, -, hr, hlk, hargs⟩ := O
      dsimp only at *
      subst hR
      subst hargs
      refine va_forget (fun q hq => hS.2.2 q hq) ?_
      refine W.widen (k := 600000) (n := 7302250) (by omega) (by omega) ?_
      exact lw_ret hx hb hr hlk dL_law_1370
    · have hj : 6 * j + 6 ≤ L ∧ L ≤ 3072 := by
        refine ⟨?_, hL⟩
        rcases Nat.lt_or_ge L (6 * j + 6) with hlt | hge
        · refine absurd ?_ hc
          rw [e6, fa_lt', pk_sub_toInt (by omega) (by omega), nI_toInt (by omega)]
          omega
        · exact hge
      refine B_aload_n (pc := 27) 1 dL_law_27 rfl ?_
      refine B_iload_n (pc := 28) 0 dL_law_28 rfl ?_
      refine B_sld (pc := 29) dL_law_29 (ixin0 hj) (ixat0 hj) ?_
      refine B_bipush (pc := 30) (v := 63) dL_law_30 (by decide) ?_
      refine B_iand (pc := 32) dL_law_32 ?_
      have hk2 : ∀ σ2 τ2 : Sg, Rel σ2 τ2 → TW E b L xs V U (lw_Z E.2.2.2.2.2.2.2.1 #[Value.ref b] E.2.2.2.2.1) σ2 τ2 (100 + 10 * j + 10) (4000 + 140 * j + 140) 1363 [(3, .int (nI (6 * j))), (0, .ref b), (1, .ref (V.1 0)), (2, .ref (U.1 0))] [] := by
        intro σ2 τ2 h2'
        refine B_iinc (pc := 1363) (v := nI (6 * (j + 1))) (lv' := [(3, .int (nI (6 * (j + 1)))), (0, .ref b), (1, .ref (V.1 0)), (2, .ref (U.1 0))]) 0 dL_law_1363 rfl ?_ (by decide) rfl ?_
        · rw [show Int32.ofInt 6 = nI 6 from rfl, nI_add]; rfl
        · refine B_goto (pc := 1366) 18 dL_law_1366 (by decide) ?_
          exact ih (j + 1) σ2 τ2 h2' (by omega) (by omega)
      have hk : ∀ σ2 τ2 : Sg, Rel σ2 τ2 → TW E b L xs V U (lw_Z E.2.2.2.2.2.2.2.1 #[Value.ref b] E.2.2.2.2.1) σ2 τ2 (100 + 10 * j) (4000 + 140 * j) 1363 [(3, .int (nI (6 * j))), (0, .ref b), (1, .ref (V.1 0)), (2, .ref (U.1 0))] [] := fun σ2 τ2 h3 => B_widen (by omega) (by omega) (hk2 σ2 τ2 h3)
      generalize hop : xs (6 * j) &&& 63 = op
      by_cases c0 : op = 0
      · subst c0
        refine B_tableIn (pc := 33) (off := 171) 204 dL_law_33 (by decide) (by decide) rfl (by decide) ?_
        exact lc_feed h hL hj hk
      have e0 := ne_toInt c0 (show (0 : Int32).toInt = 0 from rfl)
      by_cases c1 : op = 1
      · subst c1
        refine B_tableIn (pc := 33) (off := 234) 267 dL_law_33 (by decide) (by decide) rfl (by decide) ?_
        exact lc_name h hL hj hk
      have e1 := ne_toInt c1 (show (1 : Int32).toInt = 1 from rfl)
      by_cases c2 : op = 2
      · subst c2
        refine B_tableIn (pc := 33) (off := 257) 290 dL_law_33 (by decide) (by decide) rfl (by decide) ?_
        exact lc_ofName h hL hj hk
      have e2 := ne_toInt c2 (show (2 : Int32).toInt = 2 from rfl)
      by_cases c3 : op = 3
      · subst c3
        refine B_tableIn (pc := 33) (off := 290) 323 dL_law_33 (by decide) (by decide) rfl (by decide) ?_
        exact lc_sound h hL hj hk
      have e3 := ne_toInt c3 (show (3 : Int32).toInt = 3 from rfl)
      by_cases c4 : op = 4
      · subst c4
        refine B_tableIn (pc := 33) (off := 323) 356 dL_law_33 (by decide) (by decide) rfl (by decide) ?_
        exact lc_clash h hL hj hk
      have e4 := ne_toInt c4 (show (4 : Int32).toInt = 4 from rfl)
      by_cases c5 : op = 5
      · subst c5
        refine B_tableIn (pc := 33) (off := 356) 389 dL_law_33 (by decide) (by decide) rfl (by decide) ?_
        exact lc_strike h hL hj hk
      have e5 := ne_toInt c5 (show (5 : Int32).toInt = 5 from rfl)
      by_cases c6 : op = 6
      · subst c6
        refine B_tableIn (pc := 33) (off := 389) 422 dL_law_33 (by decide) (by decide) rfl (by decide) ?_
        exact lc_person h hL hj hk
      have e6 := ne_toInt c6 (show (6 : Int32).toInt = 6 from rfl)
      by_cases c7 : op = 7
      · subst c7
        refine B_tableIn (pc := 33) (off := 422) 455 dL_law_33 (by decide) (by decide) rfl (by decide) ?_
        exact lc_ofPerson h hL hj hk
      have e7 := ne_toInt c7 (show (7 : Int32).toInt = 7 from rfl)
      by_cases c8 : op = 8
      · subst c8
        refine B_tableIn (pc := 33) (off := 455) 488 dL_law_33 (by decide) (by decide) rfl (by decide) ?_
        exact lc_as h hL hj hk
      have e8 := ne_toInt c8 (show (8 : Int32).toInt = 8 from rfl)
      by_cases c9 : op = 9
      · subst c9
        refine B_tableIn (pc := 33) (off := 488) 521 dL_law_33 (by decide) (by decide) rfl (by decide) ?_
        exact lc_call h hL hj hk
      have e9 := ne_toInt c9 (show (9 : Int32).toInt = 9 from rfl)
      by_cases c10 : op = 10
      · subst c10
        refine B_tableIn (pc := 33) (off := 521) 554 dL_law_33 (by decide) (by decide) rfl (by decide) ?_
        exact lc_near h hL hj hk
      have e10 := ne_toInt c10 (show (10 : Int32).toInt = 10 from rfl)
      by_cases c11 : op = 11
      · subst c11
        refine B_tableIn (pc := 33) (off := 564) 597 dL_law_33 (by decide) (by decide) rfl (by decide) ?_
        exact lc_nears h hL hj hk
      have e11 := ne_toInt c11 (show (11 : Int32).toInt = 11 from rfl)
      by_cases c12 : op = 12
      · subst c12
        refine B_tableIn (pc := 33) (off := 587) 620 dL_law_33 (by decide) (by decide) rfl (by decide) ?_
        exact lc_worth h hL hj hk
      have e12 := ne_toInt c12 (show (12 : Int32).toInt = 12 from rfl)
      by_cases c13 : op = 13
      · subst c13
        refine B_tableIn (pc := 33) (off := 620) 653 dL_law_33 (by decide) (by decide) rfl (by decide) ?_
        exact lc_lawful h hL hj hk
      have e13 := ne_toInt c13 (show (13 : Int32).toInt = 13 from rfl)
      by_cases c14 : op = 14
      · subst c14
        refine B_tableIn (pc := 33) (off := 633) 666 dL_law_33 (by decide) (by decide) rfl (by decide) ?_
        exact lc_text h hL hj hk
      have e14 := ne_toInt c14 (show (14 : Int32).toInt = 14 from rfl)
      by_cases c15 : op = 15
      · subst c15
        refine B_tableIn (pc := 33) (off := 656) 689 dL_law_33 (by decide) (by decide) rfl (by decide) ?_
        exact lc_law h hL hj hk
      have e15 := ne_toInt c15 (show (15 : Int32).toInt = 15 from rfl)
      by_cases c16 : op = 16
      · subst c16
        refine B_tableIn (pc := 33) (off := 709) 742 dL_law_33 (by decide) (by decide) rfl (by decide) ?_
        exact lc_first h hL hj hk
      have e16 := ne_toInt c16 (show (16 : Int32).toInt = 16 from rfl)
      by_cases c17 : op = 17
      · subst c17
        refine B_tableIn (pc := 33) (off := 732) 765 dL_law_33 (by decide) (by decide) rfl (by decide) ?_
        exact lc_all h hL hj hk
      have e17 := ne_toInt c17 (show (17 : Int32).toInt = 17 from rfl)
      by_cases c18 : op = 18
      · subst c18
        refine B_tableIn (pc := 33) (off := 745) 778 dL_law_33 (by decide) (by decide) rfl (by decide) ?_
        exact lc_best h hL hj hk
      have e18 := ne_toInt c18 (show (18 : Int32).toInt = 18 from rfl)
      by_cases c19 : op = 19
      · subst c19
        refine B_tableIn (pc := 33) (off := 768) 801 dL_law_33 (by decide) (by decide) rfl (by decide) ?_
        exact lc_fewest h hL hj hk
      have e19 := ne_toInt c19 (show (19 : Int32).toInt = 19 from rfl)
      by_cases c20 : op = 20
      · subst c20
        refine B_tableIn (pc := 33) (off := 791) 824 dL_law_33 (by decide) (by decide) rfl (by decide) ?_
        exact lc_give h hL hj hk
      have e20 := ne_toInt c20 (show (20 : Int32).toInt = 20 from rfl)
      by_cases c21 : op = 21
      · subst c21
        refine B_tableIn (pc := 33) (off := 814) 847 dL_law_33 (by decide) (by decide) rfl (by decide) ?_
        exact lc_changes h hL hj hk
      have e21 := ne_toInt c21 (show (21 : Int32).toInt = 21 from rfl)
      by_cases c22 : op = 22
      · subst c22
        refine B_tableIn (pc := 33) (off := 847) 880 dL_law_33 (by decide) (by decide) rfl (by decide) ?_
        exact lc_side h hL hj hk
      have e22 := ne_toInt c22 (show (22 : Int32).toInt = 22 from rfl)
      by_cases c23 : op = 23
      · subst c23
        refine B_tableIn (pc := 33) (off := 870) 903 dL_law_33 (by decide) (by decide) rfl (by decide) ?_
        exact lc_rows h hL hj hk2
      have e23 := ne_toInt c23 (show (23 : Int32).toInt = 23 from rfl)
      by_cases c24 : op = 24
      · subst c24
        refine B_tableIn (pc := 33) (off := 894) 927 dL_law_33 (by decide) (by decide) rfl (by decide) ?_
        exact lc_made h hL hj hk
      have e24 := ne_toInt c24 (show (24 : Int32).toInt = 24 from rfl)
      by_cases c25 : op = 25
      · subst c25
        refine B_tableIn (pc := 33) (off := 938) 971 dL_law_33 (by decide) (by decide) rfl (by decide) ?_
        exact lc_strikes h hL hj hk
      have e25 := ne_toInt c25 (show (25 : Int32).toInt = 25 from rfl)
      by_cases c26 : op = 26
      · subst c26
        refine B_tableIn (pc := 33) (off := 961) 994 dL_law_33 (by decide) (by decide) rfl (by decide) ?_
        exact lc_births h hL hj hk
      have e26 := ne_toInt c26 (show (26 : Int32).toInt = 26 from rfl)
      by_cases c27 : op = 27
      · subst c27
        refine B_tableIn (pc := 33) (off := 984) 1017 dL_law_33 (by decide) (by decide) rfl (by decide) ?_
        exact lc_seed h hL hj hk
      have e27 := ne_toInt c27 (show (27 : Int32).toInt = 27 from rfl)
      by_cases c28 : op = 28
      · subst c28
        refine B_tableIn (pc := 33) (off := 1007) 1040 dL_law_33 (by decide) (by decide) rfl (by decide) ?_
        exact lc_voice h hL hj hk
      have e28 := ne_toInt c28 (show (28 : Int32).toInt = 28 from rfl)
      by_cases c29 : op = 29
      · subst c29
        refine B_tableIn (pc := 33) (off := 1050) 1083 dL_law_33 (by decide) (by decide) rfl (by decide) ?_
        exact lc_trace h hL hj hk
      have e29 := ne_toInt c29 (show (29 : Int32).toInt = 29 from rfl)
      by_cases c30 : op = 30
      · subst c30
        refine B_tableIn (pc := 33) (off := 1073) 1106 dL_law_33 (by decide) (by decide) rfl (by decide) ?_
        exact lc_sheet h hL hj hk
      have e30 := ne_toInt c30 (show (30 : Int32).toInt = 30 from rfl)
      by_cases c31 : op = 31
      · subst c31
        refine B_tableIn (pc := 33) (off := 1116) 1149 dL_law_33 (by decide) (by decide) rfl (by decide) ?_
        exact lc_put h hL hj hk
      have e31 := ne_toInt c31 (show (31 : Int32).toInt = 31 from rfl)
      by_cases c32 : op = 32
      · subst c32
        refine B_tableIn (pc := 33) (off := 1159) 1192 dL_law_33 (by decide) (by decide) rfl (by decide) ?_
        exact lc_move h hL hj hk
      have e32 := ne_toInt c32 (show (32 : Int32).toInt = 32 from rfl)
      by_cases c33 : op = 33
      · subst c33
        refine B_tableIn (pc := 33) (off := 1222) 1255 dL_law_33 (by decide) (by decide) rfl (by decide) ?_
        exact lc_image h hL hj hk
      have e33 := ne_toInt c33 (show (33 : Int32).toInt = 33 from rfl)
      by_cases c34 : op = 34
      · subst c34
        refine B_tableIn (pc := 33) (off := 1235) 1268 dL_law_33 (by decide) (by decide) rfl (by decide) ?_
        exact lc_restore h hL hj hk
      have e34 := ne_toInt c34 (show (34 : Int32).toInt = 34 from rfl)
      by_cases c35 : op = 35
      · subst c35
        refine B_tableIn (pc := 33) (off := 1248) 1281 dL_law_33 (by decide) (by decide) rfl (by decide) ?_
        exact lc_tell h hL hj hk
      have e35 := ne_toInt c35 (show (35 : Int32).toInt = 35 from rfl)
      by_cases c36 : op = 36
      · subst c36
        refine B_tableIn (pc := 33) (off := 1271) 1304 dL_law_33 (by decide) (by decide) rfl (by decide) ?_
        exact lc_check h hL hj hk
      have e36 := ne_toInt c36 (show (36 : Int32).toInt = 36 from rfl)
      by_cases c37 : op = 37
      · subst c37
        refine B_tableIn (pc := 33) (off := 1284) 1317 dL_law_33 (by decide) (by decide) rfl (by decide) ?_
        exact lc_count h hL hj hk
      have e37 := ne_toInt c37 (show (37 : Int32).toInt = 37 from rfl)
      by_cases c38 : op = 38
      · subst c38
        refine B_tableIn (pc := 33) (off := 1307) 1340 dL_law_33 (by decide) (by decide) rfl (by decide) ?_
        exact lc_told h hL hj hk
      have e38 := ne_toInt c38 (show (38 : Int32).toInt = 38 from rfl)
      refine B_tableOut (pc := 33) 1363 dL_law_33 (by omega) (by decide) ?_
      exact hk σ τ h
