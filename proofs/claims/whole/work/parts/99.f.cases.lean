section LC
variable {K : Kt} {X : Cx} {Qg : State → Prop} {cl sl b L i : Nat} {xs : Nat → Int32} {M : Mem}
theorem la_0 (C : KL K X cl sl b L xs) (hL : L ≤ 3584) (hi : i + 7 ≤ L) (hI : IV M) (kk : ∀ M2, IV M2 → WL K X Qg cl sl M2 1319 (lvL X b i) []) : WL K X Qg cl sl M 184 (lvL X b i) [] := by
  obtain ⟨P, hw, hP⟩ := o_row (xs (i + 1)) (xs (i + 2)) (xs (i + 3)) M hI
  refine l_aload (pc := 184) (x := ad X 0) C 2 dL_law_184 rfl ?_
  refine l_arg (pc := 185) (k := 1) C hL hi (by decide) rfl dL_law_185 dL_law_186 dL_law_187 dL_law_188 dL_law_189 ?_
  refine l_arg (pc := 190) (k := 2) C hL hi (by decide) rfl dL_law_190 dL_law_191 dL_law_192 dL_law_193 dL_law_194 ?_
  refine l_arg (pc := 195) (k := 3) C hL hi (by decide) rfl dL_law_195 dL_law_196 dL_law_197 dL_law_198 dL_law_199 ?_
  refine l_callI (pc := 200) (As := [.int (xs (i + 1)), .int (xs (i + 2)), .int (xs (i + 3))]) (st := []) (k := 0) C 3 (by decide) (ce0 _) rfl aw112 aw113 (c_X8_row X M _ _ _ _ hw) aw111 aw114 aw2 yd_X8_row ⟨rfl, rfl⟩ ⟨(Nat.le_of_ble_eq_true rfl), (Nat.le_of_ble_eq_true rfl)⟩ rfl (Nat.le_of_ble_eq_true rfl) dL_law_200 (fun r M1 h1 => ?_)
  refine l_aload (pc := 203) (x := ad X 85) C 3 dL_law_203 rfl ?_
  refine l_arg (pc := 204) (k := 1) C hL hi (by decide) rfl dL_law_204 dL_law_205 dL_law_206 dL_law_207 dL_law_208 ?_
  refine l_arg (pc := 209) (k := 2) C hL hi (by decide) rfl dL_law_209 dL_law_210 dL_law_211 dL_law_212 dL_law_213 ?_
  refine l_arg (pc := 214) (k := 3) C hL hi (by decide) rfl dL_law_214 dL_law_215 dL_law_216 dL_law_217 dL_law_218 ?_
  refine l_callI (pc := 219) (As := [.int (xs (i + 1)), .int (xs (i + 2)), .int (xs (i + 3))]) (st := [.int r]) (k := 85) C 3 (by decide) (ce85 _) rfl aw138 aw139 (c_X9_row X M1 _ _ _ _ h1) aw137 aw140 aw5 yd_X9_row ⟨rfl, rfl⟩ ⟨(Nat.le_of_ble_eq_true rfl), (Nat.le_of_ble_eq_true rfl)⟩ rfl (Nat.le_of_ble_eq_true rfl) dL_law_219 (fun r2 M2 h2 => ?_)
  obtain ⟨e, hI2⟩ := hP r r2 M2 h2
  exact l_eq (pc := 222) (tgt := 1319) C e dL_law_222 (by decide) (kk M2 hI2)
theorem la_1 (C : KL K X cl sl b L xs) (hL : L ≤ 3584) (hi : i + 7 ≤ L) (hI : IV M) (kk : ∀ M2, IV M2 → WL K X Qg cl sl M2 1319 (lvL X b i) []) : WL K X Qg cl sl M 227 (lvL X b i) [] := by
  obtain ⟨P, hw, hP⟩ := o_set (xs (i + 1)) (xs (i + 2)) (xs (i + 3)) M hI
  refine l_aload (pc := 227) (x := ad X 0) C 2 dL_law_227 rfl ?_
  refine l_arg (pc := 228) (k := 1) C hL hi (by decide) rfl dL_law_228 dL_law_229 dL_law_230 dL_law_231 dL_law_232 ?_
  refine l_arg (pc := 233) (k := 2) C hL hi (by decide) rfl dL_law_233 dL_law_234 dL_law_235 dL_law_236 dL_law_237 ?_
  refine l_arg (pc := 238) (k := 3) C hL hi (by decide) rfl dL_law_238 dL_law_239 dL_law_240 dL_law_241 dL_law_242 ?_
  refine l_callI (pc := 243) (As := [.int (xs (i + 1)), .int (xs (i + 2)), .int (xs (i + 3))]) (st := []) (k := 0) C 3 (by decide) (ce0 _) rfl aw161 aw162 (c_X8_set X M _ _ _ _ hw) aw160 aw163 aw2 yd_X8_set ⟨rfl, rfl⟩ ⟨(Nat.le_of_ble_eq_true rfl), (Nat.le_of_ble_eq_true rfl)⟩ rfl (Nat.le_of_ble_eq_true rfl) dL_law_243 (fun r M1 h1 => ?_)
  refine l_aload (pc := 246) (x := ad X 85) C 3 dL_law_246 rfl ?_
  refine l_arg (pc := 247) (k := 1) C hL hi (by decide) rfl dL_law_247 dL_law_248 dL_law_249 dL_law_250 dL_law_251 ?_
  refine l_arg (pc := 252) (k := 2) C hL hi (by decide) rfl dL_law_252 dL_law_253 dL_law_254 dL_law_255 dL_law_256 ?_
  refine l_arg (pc := 257) (k := 3) C hL hi (by decide) rfl dL_law_257 dL_law_258 dL_law_259 dL_law_260 dL_law_261 ?_
  refine l_callI (pc := 262) (As := [.int (xs (i + 1)), .int (xs (i + 2)), .int (xs (i + 3))]) (st := [.int r]) (k := 85) C 3 (by decide) (ce85 _) rfl aw175 aw176 (c_X9_set X M1 _ _ _ _ h1) aw174 aw177 aw5 yd_X9_set ⟨rfl, rfl⟩ ⟨(Nat.le_of_ble_eq_true rfl), (Nat.le_of_ble_eq_true rfl)⟩ rfl (Nat.le_of_ble_eq_true rfl) dL_law_262 (fun r2 M2 h2 => ?_)
  obtain ⟨e, hI2⟩ := hP r r2 M2 h2
  exact l_eq (pc := 265) (tgt := 1319) C e dL_law_265 (by decide) (kk M2 hI2)
theorem la_2 (C : KL K X cl sl b L xs) (hL : L ≤ 3584) (hi : i + 7 ≤ L) (hI : IV M) (kk : ∀ M2, IV M2 → WL K X Qg cl sl M2 1319 (lvL X b i) []) : WL K X Qg cl sl M 270 (lvL X b i) [] := by
  obtain ⟨P, hw, hP⟩ := o_copy (xs (i + 1)) (xs (i + 2)) (xs (i + 3)) (xs (i + 4)) (xs (i + 5)) M hI
  refine l_aload (pc := 270) (x := ad X 0) C 2 dL_law_270 rfl ?_
  refine l_arg (pc := 271) (k := 1) C hL hi (by decide) rfl dL_law_271 dL_law_272 dL_law_273 dL_law_274 dL_law_275 ?_
  refine l_arg (pc := 276) (k := 2) C hL hi (by decide) rfl dL_law_276 dL_law_277 dL_law_278 dL_law_279 dL_law_280 ?_
  refine l_arg (pc := 281) (k := 3) C hL hi (by decide) rfl dL_law_281 dL_law_282 dL_law_283 dL_law_284 dL_law_285 ?_
  refine l_arg (pc := 286) (k := 4) C hL hi (by decide) rfl dL_law_286 dL_law_287 dL_law_288 dL_law_289 dL_law_290 ?_
  refine l_arg (pc := 291) (k := 5) C hL hi (by decide) rfl dL_law_291 dL_law_292 dL_law_293 dL_law_294 dL_law_295 ?_
  refine l_callI (pc := 296) (As := [.int (xs (i + 1)), .int (xs (i + 2)), .int (xs (i + 3)), .int (xs (i + 4)), .int (xs (i + 5))]) (st := []) (k := 0) C 5 (by decide) (ce0 _) rfl aw182 aw183 (c_X8_copy X M _ _ _ _ _ _ hw) aw181 aw184 aw2 yd_X8_copy ⟨rfl, rfl⟩ ⟨(Nat.le_of_ble_eq_true rfl), (Nat.le_of_ble_eq_true rfl)⟩ rfl (Nat.le_of_ble_eq_true rfl) dL_law_296 (fun r M1 h1 => ?_)
  refine l_aload (pc := 299) (x := ad X 85) C 3 dL_law_299 rfl ?_
  refine l_arg (pc := 300) (k := 1) C hL hi (by decide) rfl dL_law_300 dL_law_301 dL_law_302 dL_law_303 dL_law_304 ?_
  refine l_arg (pc := 305) (k := 2) C hL hi (by decide) rfl dL_law_305 dL_law_306 dL_law_307 dL_law_308 dL_law_309 ?_
  refine l_arg (pc := 310) (k := 3) C hL hi (by decide) rfl dL_law_310 dL_law_311 dL_law_312 dL_law_313 dL_law_314 ?_
  refine l_arg (pc := 315) (k := 4) C hL hi (by decide) rfl dL_law_315 dL_law_316 dL_law_317 dL_law_318 dL_law_319 ?_
  refine l_arg (pc := 320) (k := 5) C hL hi (by decide) rfl dL_law_320 dL_law_321 dL_law_322 dL_law_323 dL_law_324 ?_
  refine l_callI (pc := 325) (As := [.int (xs (i + 1)), .int (xs (i + 2)), .int (xs (i + 3)), .int (xs (i + 4)), .int (xs (i + 5))]) (st := [.int r]) (k := 85) C 5 (by decide) (ce85 _) rfl aw190 aw191 (c_X9_copy X M1 _ _ _ _ _ _ h1) aw189 aw192 aw5 yd_X9_copy ⟨rfl, rfl⟩ ⟨(Nat.le_of_ble_eq_true rfl), (Nat.le_of_ble_eq_true rfl)⟩ rfl (Nat.le_of_ble_eq_true rfl) dL_law_325 (fun r2 M2 h2 => ?_)
  obtain ⟨e, hI2⟩ := hP r r2 M2 h2
  exact l_eq (pc := 328) (tgt := 1319) C e dL_law_328 (by decide) (kk M2 hI2)
theorem la_3 (C : KL K X cl sl b L xs) (hL : L ≤ 3584) (hi : i + 7 ≤ L) (hI : IV M) (kk : ∀ M2, IV M2 → WL K X Qg cl sl M2 1319 (lvL X b i) []) : WL K X Qg cl sl M 333 (lvL X b i) [] := by
  obtain ⟨P, hw, hP⟩ := o_drop (xs (i + 1)) M hI
  refine l_aload (pc := 333) (x := ad X 0) C 2 dL_law_333 rfl ?_
  refine l_arg (pc := 334) (k := 1) C hL hi (by decide) rfl dL_law_334 dL_law_335 dL_law_336 dL_law_337 dL_law_338 ?_
  refine l_callI (pc := 339) (As := [.int (xs (i + 1))]) (st := []) (k := 0) C 1 (by decide) (ce0 _) rfl aw198 aw199 (c_X8_drop X M _ _ hw) aw197 aw200 aw2 yd_X8_drop ⟨rfl, rfl⟩ ⟨(Nat.le_of_ble_eq_true rfl), (Nat.le_of_ble_eq_true rfl)⟩ rfl (Nat.le_of_ble_eq_true rfl) dL_law_339 (fun r M1 h1 => ?_)
  refine l_aload (pc := 342) (x := ad X 85) C 3 dL_law_342 rfl ?_
  refine l_arg (pc := 343) (k := 1) C hL hi (by decide) rfl dL_law_343 dL_law_344 dL_law_345 dL_law_346 dL_law_347 ?_
  refine l_callI (pc := 348) (As := [.int (xs (i + 1))]) (st := [.int r]) (k := 85) C 1 (by decide) (ce85 _) rfl aw205 aw206 (c_X9_drop X M1 _ _ h1) aw204 aw207 aw5 yd_X9_drop ⟨rfl, rfl⟩ ⟨(Nat.le_of_ble_eq_true rfl), (Nat.le_of_ble_eq_true rfl)⟩ rfl (Nat.le_of_ble_eq_true rfl) dL_law_348 (fun r2 M2 h2 => ?_)
  obtain ⟨e, hI2⟩ := hP r r2 M2 h2
  exact l_eq (pc := 351) (tgt := 1319) C e dL_law_351 (by decide) (kk M2 hI2)
theorem la_4 (C : KL K X cl sl b L xs) (hL : L ≤ 3584) (hi : i + 7 ≤ L) (hI : IV M) (kk : ∀ M2, IV M2 → WL K X Qg cl sl M2 1319 (lvL X b i) []) : WL K X Qg cl sl M 356 (lvL X b i) [] := by
  obtain ⟨P, hw, hP⟩ := o_feed (xs (i + 1)) M hI
  refine l_aload (pc := 356) (x := ad X 0) C 2 dL_law_356 rfl ?_
  refine l_arg (pc := 357) (k := 1) C hL hi (by decide) rfl dL_law_357 dL_law_358 dL_law_359 dL_law_360 dL_law_361 ?_
  refine l_callI (pc := 362) (As := [.int (xs (i + 1))]) (st := []) (k := 0) C 1 (by decide) (ce0 _) rfl aw209 aw210 (c_X8_feed X M _ _ hw) aw208 aw211 aw2 yd_X8_feed ⟨rfl, rfl⟩ ⟨(Nat.le_of_ble_eq_true rfl), (Nat.le_of_ble_eq_true rfl)⟩ rfl (Nat.le_of_ble_eq_true rfl) dL_law_362 (fun r M1 h1 => ?_)
  refine l_aload (pc := 365) (x := ad X 85) C 3 dL_law_365 rfl ?_
  refine l_arg (pc := 366) (k := 1) C hL hi (by decide) rfl dL_law_366 dL_law_367 dL_law_368 dL_law_369 dL_law_370 ?_
  refine l_callI (pc := 371) (As := [.int (xs (i + 1))]) (st := [.int r]) (k := 85) C 1 (by decide) (ce85 _) rfl aw218 aw219 (c_X9_feed X M1 _ _ h1) aw217 aw220 aw5 yd_X9_feed ⟨rfl, rfl⟩ ⟨(Nat.le_of_ble_eq_true rfl), (Nat.le_of_ble_eq_true rfl)⟩ rfl (Nat.le_of_ble_eq_true rfl) dL_law_371 (fun r2 M2 h2 => ?_)
  obtain ⟨e, hI2⟩ := hP r r2 M2 h2
  exact l_eq (pc := 374) (tgt := 1319) C e dL_law_374 (by decide) (kk M2 hI2)
theorem la_5 (C : KL K X cl sl b L xs) (hL : L ≤ 3584) (hi : i + 7 ≤ L) (hI : IV M) (kk : ∀ M2, IV M2 → WL K X Qg cl sl M2 1319 (lvL X b i) []) : WL K X Qg cl sl M 379 (lvL X b i) [] := by
  obtain ⟨P, hw, hP⟩ := o_town  M hI
  refine l_aload (pc := 379) (x := ad X 0) C 2 dL_law_379 rfl ?_
  refine l_callI (pc := 380) (As := []) (st := []) (k := 0) C 0 (by decide) (ce0 _) rfl aw225 aw226 (c_X8_town X M  _ hw) aw224 aw227 aw2 yd_X8_town ⟨rfl, rfl⟩ ⟨(Nat.le_of_ble_eq_true rfl), (Nat.le_of_ble_eq_true rfl)⟩ rfl (Nat.le_of_ble_eq_true rfl) dL_law_380 (fun r M1 h1 => ?_)
  refine l_aload (pc := 383) (x := ad X 85) C 3 dL_law_383 rfl ?_
  refine l_callI (pc := 384) (As := []) (st := [.int r]) (k := 85) C 0 (by decide) (ce85 _) rfl aw318 aw319 (c_X9_town X M1  _ h1) aw317 aw320 aw5 yd_X9_town ⟨rfl, rfl⟩ ⟨(Nat.le_of_ble_eq_true rfl), (Nat.le_of_ble_eq_true rfl)⟩ rfl (Nat.le_of_ble_eq_true rfl) dL_law_384 (fun r2 M2 h2 => ?_)
  obtain ⟨e, hI2⟩ := hP r r2 M2 h2
  exact l_eq (pc := 387) (tgt := 1319) C e dL_law_387 (by decide) (kk M2 hI2)
theorem la_6 (C : KL K X cl sl b L xs) (hL : L ≤ 3584) (hi : i + 7 ≤ L) (hI : IV M) (kk : ∀ M2, IV M2 → WL K X Qg cl sl M2 1319 (lvL X b i) []) : WL K X Qg cl sl M 392 (lvL X b i) [] := by
  obtain ⟨P, hw, hP⟩ := o_fault  M hI
  refine l_aload (pc := 392) (x := ad X 0) C 2 dL_law_392 rfl ?_
  refine l_callI (pc := 393) (As := []) (st := []) (k := 0) C 0 (by decide) (ce0 _) rfl aw381 aw382 (c_X8_fault X M  _ hw) aw380 aw383 aw2 yd_X8_fault ⟨rfl, rfl⟩ ⟨(Nat.le_of_ble_eq_true rfl), (Nat.le_of_ble_eq_true rfl)⟩ rfl (Nat.le_of_ble_eq_true rfl) dL_law_393 (fun r M1 h1 => ?_)
  refine l_aload (pc := 396) (x := ad X 85) C 3 dL_law_396 rfl ?_
  refine l_callI (pc := 397) (As := []) (st := [.int r]) (k := 85) C 0 (by decide) (ce85 _) rfl aw385 aw386 (c_X9_fault X M1  _ h1) aw384 aw387 aw5 yd_X9_fault ⟨rfl, rfl⟩ ⟨(Nat.le_of_ble_eq_true rfl), (Nat.le_of_ble_eq_true rfl)⟩ rfl (Nat.le_of_ble_eq_true rfl) dL_law_397 (fun r2 M2 h2 => ?_)
  obtain ⟨e, hI2⟩ := hP r r2 M2 h2
  exact l_eq (pc := 400) (tgt := 1319) C e dL_law_400 (by decide) (kk M2 hI2)
theorem la_7 (C : KL K X cl sl b L xs) (hL : L ≤ 3584) (hi : i + 7 ≤ L) (hI : IV M) (kk : ∀ M2, IV M2 → WL K X Qg cl sl M2 1319 (lvL X b i) []) : WL K X Qg cl sl M 405 (lvL X b i) [] := by
  obtain ⟨P, hw, hP⟩ := o_undo  M hI
  refine l_aload (pc := 405) (x := ad X 0) C 2 dL_law_405 rfl ?_
  refine l_callI (pc := 406) (As := []) (st := []) (k := 0) C 0 (by decide) (ce0 _) rfl aw389 aw390 (c_X8_undo X M  _ hw) aw388 aw391 aw2 yd_X8_undo ⟨rfl, rfl⟩ ⟨(Nat.le_of_ble_eq_true rfl), (Nat.le_of_ble_eq_true rfl)⟩ rfl (Nat.le_of_ble_eq_true rfl) dL_law_406 (fun r M1 h1 => ?_)
  refine l_aload (pc := 409) (x := ad X 85) C 3 dL_law_409 rfl ?_
  refine l_callI (pc := 410) (As := []) (st := [.int r]) (k := 85) C 0 (by decide) (ce85 _) rfl aw405 aw406 (c_X9_undo X M1  _ h1) aw404 aw407 aw5 yd_X9_undo ⟨rfl, rfl⟩ ⟨(Nat.le_of_ble_eq_true rfl), (Nat.le_of_ble_eq_true rfl)⟩ rfl (Nat.le_of_ble_eq_true rfl) dL_law_410 (fun r2 M2 h2 => ?_)
  obtain ⟨e, hI2⟩ := hP r r2 M2 h2
  exact l_eq (pc := 413) (tgt := 1319) C e dL_law_413 (by decide) (kk M2 hI2)
theorem la_8 (C : KL K X cl sl b L xs) (hL : L ≤ 3584) (hi : i + 7 ≤ L) (hI : IV M) (kk : ∀ M2, IV M2 → WL K X Qg cl sl M2 1319 (lvL X b i) []) : WL K X Qg cl sl M 418 (lvL X b i) [] := by
  obtain ⟨P, hw, hP⟩ := o_knock (xs (i + 1)) (xs (i + 2)) M hI
  refine l_aload (pc := 418) (x := ad X 0) C 2 dL_law_418 rfl ?_
  refine l_arg (pc := 419) (k := 1) C hL hi (by decide) rfl dL_law_419 dL_law_420 dL_law_421 dL_law_422 dL_law_423 ?_
  refine l_arg (pc := 424) (k := 2) C hL hi (by decide) rfl dL_law_424 dL_law_425 dL_law_426 dL_law_427 dL_law_428 ?_
  refine l_callI (pc := 429) (As := [.int (xs (i + 1)), .int (xs (i + 2))]) (st := []) (k := 0) C 2 (by decide) (ce0 _) rfl aw410 aw411 (c_X8_knock X M _ _ _ hw) aw409 aw412 aw2 yd_X8_knock ⟨rfl, rfl⟩ ⟨(Nat.le_of_ble_eq_true rfl), (Nat.le_of_ble_eq_true rfl)⟩ rfl (Nat.le_of_ble_eq_true rfl) dL_law_429 (fun r M1 h1 => ?_)
  refine l_aload (pc := 432) (x := ad X 85) C 3 dL_law_432 rfl ?_
  refine l_arg (pc := 433) (k := 1) C hL hi (by decide) rfl dL_law_433 dL_law_434 dL_law_435 dL_law_436 dL_law_437 ?_
  refine l_arg (pc := 438) (k := 2) C hL hi (by decide) rfl dL_law_438 dL_law_439 dL_law_440 dL_law_441 dL_law_442 ?_
  refine l_callI (pc := 443) (As := [.int (xs (i + 1)), .int (xs (i + 2))]) (st := [.int r]) (k := 85) C 2 (by decide) (ce85 _) rfl aw480 aw481 (c_X9_knock X M1 _ _ _ h1) aw479 aw482 aw5 yd_X9_knock ⟨rfl, rfl⟩ ⟨(Nat.le_of_ble_eq_true rfl), (Nat.le_of_ble_eq_true rfl)⟩ rfl (Nat.le_of_ble_eq_true rfl) dL_law_443 (fun r2 M2 h2 => ?_)
  obtain ⟨e, hI2⟩ := hP r r2 M2 h2
  exact l_eq (pc := 446) (tgt := 1319) C e dL_law_446 (by decide) (kk M2 hI2)
theorem la_9 (C : KL K X cl sl b L xs) (hL : L ≤ 3584) (hi : i + 7 ≤ L) (hI : IV M) (kk : ∀ M2, IV M2 → WL K X Qg cl sl M2 1319 (lvL X b i) []) : WL K X Qg cl sl M 451 (lvL X b i) [] := by
  obtain ⟨P, hw, hP⟩ := o_days (xs (i + 1)) M hI
  refine l_aload (pc := 451) (x := ad X 0) C 2 dL_law_451 rfl ?_
  refine l_arg (pc := 452) (k := 1) C hL hi (by decide) rfl dL_law_452 dL_law_453 dL_law_454 dL_law_455 dL_law_456 ?_
  refine l_callI (pc := 457) (As := [.int (xs (i + 1))]) (st := []) (k := 0) C 1 (by decide) (ce0 _) rfl aw541 aw542 (c_X8_days X M _ _ hw) aw540 aw543 aw2 yd_X8_days ⟨rfl, rfl⟩ ⟨(Nat.le_of_ble_eq_true rfl), (Nat.le_of_ble_eq_true rfl)⟩ rfl (Nat.le_of_ble_eq_true rfl) dL_law_457 (fun r M1 h1 => ?_)
  refine l_aload (pc := 460) (x := ad X 85) C 3 dL_law_460 rfl ?_
  refine l_arg (pc := 461) (k := 1) C hL hi (by decide) rfl dL_law_461 dL_law_462 dL_law_463 dL_law_464 dL_law_465 ?_
  refine l_callI (pc := 466) (As := [.int (xs (i + 1))]) (st := [.int r]) (k := 85) C 1 (by decide) (ce85 _) rfl aw549 aw550 (c_X9_days X M1 _ _ h1) aw548 aw551 aw5 yd_X9_days ⟨rfl, rfl⟩ ⟨(Nat.le_of_ble_eq_true rfl), (Nat.le_of_ble_eq_true rfl)⟩ rfl (Nat.le_of_ble_eq_true rfl) dL_law_466 (fun r2 M2 h2 => ?_)
  obtain ⟨e, hI2⟩ := hP r r2 M2 h2
  exact l_eq (pc := 469) (tgt := 1319) C e dL_law_469 (by decide) (kk M2 hI2)
theorem la_10 (C : KL K X cl sl b L xs) (hL : L ≤ 3584) (hi : i + 7 ≤ L) (hI : IV M) (kk : ∀ M2, IV M2 → WL K X Qg cl sl M2 1319 (lvL X b i) []) : WL K X Qg cl sl M 474 (lvL X b i) [] := by
  obtain ⟨P, hw, hP⟩ := o_gift (xs (i + 1)) (xs (i + 2)) M hI
  refine l_aload (pc := 474) (x := ad X 0) C 2 dL_law_474 rfl ?_
  refine l_arg (pc := 475) (k := 1) C hL hi (by decide) rfl dL_law_475 dL_law_476 dL_law_477 dL_law_478 dL_law_479 ?_
  refine l_arg (pc := 480) (k := 2) C hL hi (by decide) rfl dL_law_480 dL_law_481 dL_law_482 dL_law_483 dL_law_484 ?_
  refine l_callI (pc := 485) (As := [.int (xs (i + 1)), .int (xs (i + 2))]) (st := []) (k := 0) C 2 (by decide) (ce0 _) rfl aw554 aw555 (c_X8_gift X M _ _ _ hw) aw553 aw556 aw2 yd_X8_gift ⟨rfl, rfl⟩ ⟨(Nat.le_of_ble_eq_true rfl), (Nat.le_of_ble_eq_true rfl)⟩ rfl (Nat.le_of_ble_eq_true rfl) dL_law_485 (fun r M1 h1 => ?_)
  refine l_aload (pc := 488) (x := ad X 85) C 3 dL_law_488 rfl ?_
  refine l_arg (pc := 489) (k := 1) C hL hi (by decide) rfl dL_law_489 dL_law_490 dL_law_491 dL_law_492 dL_law_493 ?_
  refine l_arg (pc := 494) (k := 2) C hL hi (by decide) rfl dL_law_494 dL_law_495 dL_law_496 dL_law_497 dL_law_498 ?_
  refine l_callI (pc := 499) (As := [.int (xs (i + 1)), .int (xs (i + 2))]) (st := [.int r]) (k := 85) C 2 (by decide) (ce85 _) rfl aw558 aw559 (c_X9_gift X M1 _ _ _ h1) aw557 aw560 aw5 yd_X9_gift ⟨rfl, rfl⟩ ⟨(Nat.le_of_ble_eq_true rfl), (Nat.le_of_ble_eq_true rfl)⟩ rfl (Nat.le_of_ble_eq_true rfl) dL_law_499 (fun r2 M2 h2 => ?_)
  obtain ⟨e, hI2⟩ := hP r r2 M2 h2
  exact l_eq (pc := 502) (tgt := 1319) C e dL_law_502 (by decide) (kk M2 hI2)
theorem la_11 (C : KL K X cl sl b L xs) (hL : L ≤ 3584) (hi : i + 7 ≤ L) (hI : IV M) (kk : ∀ M2, IV M2 → WL K X Qg cl sl M2 1319 (lvL X b i) []) : WL K X Qg cl sl M 507 (lvL X b i) [] := by
  obtain ⟨P, hw, hP⟩ := o_build (xs (i + 1)) (xs (i + 2)) M hI
  refine l_aload (pc := 507) (x := ad X 0) C 2 dL_law_507 rfl ?_
  refine l_arg (pc := 508) (k := 1) C hL hi (by decide) rfl dL_law_508 dL_law_509 dL_law_510 dL_law_511 dL_law_512 ?_
  refine l_arg (pc := 513) (k := 2) C hL hi (by decide) rfl dL_law_513 dL_law_514 dL_law_515 dL_law_516 dL_law_517 ?_
  refine l_callI (pc := 518) (As := [.int (xs (i + 1)), .int (xs (i + 2))]) (st := []) (k := 0) C 2 (by decide) (ce0 _) rfl aw564 aw565 (c_X8_build X M _ _ _ hw) aw563 aw566 aw2 yd_X8_build ⟨rfl, rfl⟩ ⟨(Nat.le_of_ble_eq_true rfl), (Nat.le_of_ble_eq_true rfl)⟩ rfl (Nat.le_of_ble_eq_true rfl) dL_law_518 (fun r M1 h1 => ?_)
  refine l_aload (pc := 521) (x := ad X 85) C 3 dL_law_521 rfl ?_
  refine l_arg (pc := 522) (k := 1) C hL hi (by decide) rfl dL_law_522 dL_law_523 dL_law_524 dL_law_525 dL_law_526 ?_
  refine l_arg (pc := 527) (k := 2) C hL hi (by decide) rfl dL_law_527 dL_law_528 dL_law_529 dL_law_530 dL_law_531 ?_
  refine l_callI (pc := 532) (As := [.int (xs (i + 1)), .int (xs (i + 2))]) (st := [.int r]) (k := 85) C 2 (by decide) (ce85 _) rfl aw572 aw573 (c_X9_build X M1 _ _ _ h1) aw571 aw574 aw5 yd_X9_build ⟨rfl, rfl⟩ ⟨(Nat.le_of_ble_eq_true rfl), (Nat.le_of_ble_eq_true rfl)⟩ rfl (Nat.le_of_ble_eq_true rfl) dL_law_532 (fun r2 M2 h2 => ?_)
  obtain ⟨e, hI2⟩ := hP r r2 M2 h2
  exact l_eq (pc := 535) (tgt := 1319) C e dL_law_535 (by decide) (kk M2 hI2)
theorem la_12 (C : KL K X cl sl b L xs) (hL : L ≤ 3584) (hi : i + 7 ≤ L) (hI : IV M) (kk : ∀ M2, IV M2 → WL K X Qg cl sl M2 1319 (lvL X b i) []) : WL K X Qg cl sl M 540 (lvL X b i) [] := by
  obtain ⟨P, hw, hP⟩ := o_person (xs (i + 1)) (xs (i + 2)) M hI
  refine l_aload (pc := 540) (x := ad X 0) C 2 dL_law_540 rfl ?_
  refine l_arg (pc := 541) (k := 1) C hL hi (by decide) rfl dL_law_541 dL_law_542 dL_law_543 dL_law_544 dL_law_545 ?_
  refine l_arg (pc := 546) (k := 2) C hL hi (by decide) rfl dL_law_546 dL_law_547 dL_law_548 dL_law_549 dL_law_550 ?_
  refine l_callI (pc := 551) (As := [.int (xs (i + 1)), .int (xs (i + 2))]) (st := []) (k := 0) C 2 (by decide) (ce0 _) rfl aw580 aw581 (c_X8_person X M _ _ _ hw) aw579 aw582 aw2 yd_X8_person ⟨rfl, rfl⟩ ⟨(Nat.le_of_ble_eq_true rfl), (Nat.le_of_ble_eq_true rfl)⟩ rfl (Nat.le_of_ble_eq_true rfl) dL_law_551 (fun r M1 h1 => ?_)
  refine l_aload (pc := 554) (x := ad X 85) C 3 dL_law_554 rfl ?_
  refine l_arg (pc := 555) (k := 1) C hL hi (by decide) rfl dL_law_555 dL_law_556 dL_law_557 dL_law_558 dL_law_559 ?_
  refine l_arg (pc := 560) (k := 2) C hL hi (by decide) rfl dL_law_560 dL_law_561 dL_law_562 dL_law_563 dL_law_564 ?_
  refine l_callI (pc := 565) (As := [.int (xs (i + 1)), .int (xs (i + 2))]) (st := [.int r]) (k := 85) C 2 (by decide) (ce85 _) rfl aw587 aw588 (c_X9_person X M1 _ _ _ h1) aw586 aw589 aw5 yd_X9_person ⟨rfl, rfl⟩ ⟨(Nat.le_of_ble_eq_true rfl), (Nat.le_of_ble_eq_true rfl)⟩ rfl (Nat.le_of_ble_eq_true rfl) dL_law_565 (fun r2 M2 h2 => ?_)
  obtain ⟨e, hI2⟩ := hP r r2 M2 h2
  exact l_eq (pc := 568) (tgt := 1319) C e dL_law_568 (by decide) (kk M2 hI2)
theorem la_13 (C : KL K X cl sl b L xs) (hL : L ≤ 3584) (hi : i + 7 ≤ L) (hI : IV M) (kk : ∀ M2, IV M2 → WL K X Qg cl sl M2 1319 (lvL X b i) []) : WL K X Qg cl sl M 573 (lvL X b i) [] := by
  obtain ⟨P, hw, hP⟩ := o_door (xs (i + 1)) (xs (i + 2)) M hI
  refine l_aload (pc := 573) (x := ad X 0) C 2 dL_law_573 rfl ?_
  refine l_arg (pc := 574) (k := 1) C hL hi (by decide) rfl dL_law_574 dL_law_575 dL_law_576 dL_law_577 dL_law_578 ?_
  refine l_arg (pc := 579) (k := 2) C hL hi (by decide) rfl dL_law_579 dL_law_580 dL_law_581 dL_law_582 dL_law_583 ?_
  refine l_callI (pc := 584) (As := [.int (xs (i + 1)), .int (xs (i + 2))]) (st := []) (k := 0) C 2 (by decide) (ce0 _) rfl aw595 aw596 (c_X8_door X M _ _ _ hw) aw594 aw597 aw2 yd_X8_door ⟨rfl, rfl⟩ ⟨(Nat.le_of_ble_eq_true rfl), (Nat.le_of_ble_eq_true rfl)⟩ rfl (Nat.le_of_ble_eq_true rfl) dL_law_584 (fun r M1 h1 => ?_)
  refine l_aload (pc := 587) (x := ad X 85) C 3 dL_law_587 rfl ?_
  refine l_arg (pc := 588) (k := 1) C hL hi (by decide) rfl dL_law_588 dL_law_589 dL_law_590 dL_law_591 dL_law_592 ?_
  refine l_arg (pc := 593) (k := 2) C hL hi (by decide) rfl dL_law_593 dL_law_594 dL_law_595 dL_law_596 dL_law_597 ?_
  refine l_callI (pc := 598) (As := [.int (xs (i + 1)), .int (xs (i + 2))]) (st := [.int r]) (k := 85) C 2 (by decide) (ce85 _) rfl aw602 aw603 (c_X9_door X M1 _ _ _ h1) aw601 aw604 aw5 yd_X9_door ⟨rfl, rfl⟩ ⟨(Nat.le_of_ble_eq_true rfl), (Nat.le_of_ble_eq_true rfl)⟩ rfl (Nat.le_of_ble_eq_true rfl) dL_law_598 (fun r2 M2 h2 => ?_)
  obtain ⟨e, hI2⟩ := hP r r2 M2 h2
  exact l_eq (pc := 601) (tgt := 1319) C e dL_law_601 (by decide) (kk M2 hI2)
theorem la_14 (C : KL K X cl sl b L xs) (hL : L ≤ 3584) (hi : i + 7 ≤ L) (hI : IV M) (kk : ∀ M2, IV M2 → WL K X Qg cl sl M2 1319 (lvL X b i) []) : WL K X Qg cl sl M 606 (lvL X b i) [] := by
  obtain ⟨P, hw, hP⟩ := o_at (xs (i + 1)) (xs (i + 2)) (xs (i + 3)) M hI
  refine l_aload (pc := 606) (x := ad X 0) C 2 dL_law_606 rfl ?_
  refine l_arg (pc := 607) (k := 1) C hL hi (by decide) rfl dL_law_607 dL_law_608 dL_law_609 dL_law_610 dL_law_611 ?_
  refine l_arg (pc := 612) (k := 2) C hL hi (by decide) rfl dL_law_612 dL_law_613 dL_law_614 dL_law_615 dL_law_616 ?_
  refine l_arg (pc := 617) (k := 3) C hL hi (by decide) rfl dL_law_617 dL_law_618 dL_law_619 dL_law_620 dL_law_621 ?_
  refine l_callI (pc := 622) (As := [.int (xs (i + 1)), .int (xs (i + 2)), .int (xs (i + 3))]) (st := []) (k := 0) C 3 (by decide) (ce0 _) rfl aw610 aw611 (c_X8_at X M _ _ _ _ hw) aw609 aw612 aw2 yd_X8_at ⟨rfl, rfl⟩ ⟨(Nat.le_of_ble_eq_true rfl), (Nat.le_of_ble_eq_true rfl)⟩ rfl (Nat.le_of_ble_eq_true rfl) dL_law_622 (fun r M1 h1 => ?_)
  refine l_aload (pc := 625) (x := ad X 85) C 3 dL_law_625 rfl ?_
  refine l_arg (pc := 626) (k := 1) C hL hi (by decide) rfl dL_law_626 dL_law_627 dL_law_628 dL_law_629 dL_law_630 ?_
  refine l_arg (pc := 631) (k := 2) C hL hi (by decide) rfl dL_law_631 dL_law_632 dL_law_633 dL_law_634 dL_law_635 ?_
  refine l_arg (pc := 636) (k := 3) C hL hi (by decide) rfl dL_law_636 dL_law_637 dL_law_638 dL_law_639 dL_law_640 ?_
  refine l_callI (pc := 641) (As := [.int (xs (i + 1)), .int (xs (i + 2)), .int (xs (i + 3))]) (st := [.int r]) (k := 85) C 3 (by decide) (ce85 _) rfl aw621 aw622 (c_X9_at X M1 _ _ _ _ h1) aw620 aw623 aw5 yd_X9_at ⟨rfl, rfl⟩ ⟨(Nat.le_of_ble_eq_true rfl), (Nat.le_of_ble_eq_true rfl)⟩ rfl (Nat.le_of_ble_eq_true rfl) dL_law_641 (fun r2 M2 h2 => ?_)
  obtain ⟨e, hI2⟩ := hP r r2 M2 h2
  exact l_eq (pc := 644) (tgt := 1319) C e dL_law_644 (by decide) (kk M2 hI2)
theorem la_15 (C : KL K X cl sl b L xs) (hL : L ≤ 3584) (hi : i + 7 ≤ L) (hI : IV M) (kk : ∀ M2, IV M2 → WL K X Qg cl sl M2 1319 (lvL X b i) []) : WL K X Qg cl sl M 649 (lvL X b i) [] := by
  obtain ⟨P, hw, hP⟩ := o_favour (xs (i + 1)) (xs (i + 2)) M hI
  refine l_aload (pc := 649) (x := ad X 0) C 2 dL_law_649 rfl ?_
  refine l_arg (pc := 650) (k := 1) C hL hi (by decide) rfl dL_law_650 dL_law_651 dL_law_652 dL_law_653 dL_law_654 ?_
  refine l_arg (pc := 655) (k := 2) C hL hi (by decide) rfl dL_law_655 dL_law_656 dL_law_657 dL_law_658 dL_law_659 ?_
  refine l_callI (pc := 660) (As := [.int (xs (i + 1)), .int (xs (i + 2))]) (st := []) (k := 0) C 2 (by decide) (ce0 _) rfl aw625 aw626 (c_X8_favour X M _ _ _ hw) aw624 aw627 aw2 yd_X8_favour ⟨rfl, rfl⟩ ⟨(Nat.le_of_ble_eq_true rfl), (Nat.le_of_ble_eq_true rfl)⟩ rfl (Nat.le_of_ble_eq_true rfl) dL_law_660 (fun r M1 h1 => ?_)
  refine l_aload (pc := 663) (x := ad X 85) C 3 dL_law_663 rfl ?_
  refine l_arg (pc := 664) (k := 1) C hL hi (by decide) rfl dL_law_664 dL_law_665 dL_law_666 dL_law_667 dL_law_668 ?_
  refine l_arg (pc := 669) (k := 2) C hL hi (by decide) rfl dL_law_669 dL_law_670 dL_law_671 dL_law_672 dL_law_673 ?_
  refine l_callI (pc := 674) (As := [.int (xs (i + 1)), .int (xs (i + 2))]) (st := [.int r]) (k := 85) C 2 (by decide) (ce85 _) rfl aw629 aw630 (c_X9_favour X M1 _ _ _ h1) aw628 aw631 aw5 yd_X9_favour ⟨rfl, rfl⟩ ⟨(Nat.le_of_ble_eq_true rfl), (Nat.le_of_ble_eq_true rfl)⟩ rfl (Nat.le_of_ble_eq_true rfl) dL_law_674 (fun r2 M2 h2 => ?_)
  obtain ⟨e, hI2⟩ := hP r r2 M2 h2
  exact l_eq (pc := 677) (tgt := 1319) C e dL_law_677 (by decide) (kk M2 hI2)
theorem la_16 (C : KL K X cl sl b L xs) (hL : L ≤ 3584) (hi : i + 7 ≤ L) (hI : IV M) (kk : ∀ M2, IV M2 → WL K X Qg cl sl M2 1319 (lvL X b i) []) : WL K X Qg cl sl M 682 (lvL X b i) [] := by
  obtain ⟨P, hw, hP⟩ := o_way (xs (i + 1)) (xs (i + 2)) (xs (i + 3)) M hI
  refine l_aload (pc := 682) (x := ad X 0) C 2 dL_law_682 rfl ?_
  refine l_arg (pc := 683) (k := 1) C hL hi (by decide) rfl dL_law_683 dL_law_684 dL_law_685 dL_law_686 dL_law_687 ?_
  refine l_arg (pc := 688) (k := 2) C hL hi (by decide) rfl dL_law_688 dL_law_689 dL_law_690 dL_law_691 dL_law_692 ?_
  refine l_arg (pc := 693) (k := 3) C hL hi (by decide) rfl dL_law_693 dL_law_694 dL_law_695 dL_law_696 dL_law_697 ?_
  refine l_callI (pc := 698) (As := [.int (xs (i + 1)), .int (xs (i + 2)), .int (xs (i + 3))]) (st := []) (k := 0) C 3 (by decide) (ce0 _) rfl aw633 aw634 (c_X8_way X M _ _ _ _ hw) aw632 aw635 aw2 yd_X8_way ⟨rfl, rfl⟩ ⟨(Nat.le_of_ble_eq_true rfl), (Nat.le_of_ble_eq_true rfl)⟩ rfl (Nat.le_of_ble_eq_true rfl) dL_law_698 (fun r M1 h1 => ?_)
  refine l_aload (pc := 701) (x := ad X 85) C 3 dL_law_701 rfl ?_
  refine l_arg (pc := 702) (k := 1) C hL hi (by decide) rfl dL_law_702 dL_law_703 dL_law_704 dL_law_705 dL_law_706 ?_
  refine l_arg (pc := 707) (k := 2) C hL hi (by decide) rfl dL_law_707 dL_law_708 dL_law_709 dL_law_710 dL_law_711 ?_
  refine l_arg (pc := 712) (k := 3) C hL hi (by decide) rfl dL_law_712 dL_law_713 dL_law_714 dL_law_715 dL_law_716 ?_
  refine l_callI (pc := 717) (As := [.int (xs (i + 1)), .int (xs (i + 2)), .int (xs (i + 3))]) (st := [.int r]) (k := 85) C 3 (by decide) (ce85 _) rfl aw657 aw658 (c_X9_way X M1 _ _ _ _ h1) aw656 aw659 aw5 yd_X9_way ⟨rfl, rfl⟩ ⟨(Nat.le_of_ble_eq_true rfl), (Nat.le_of_ble_eq_true rfl)⟩ rfl (Nat.le_of_ble_eq_true rfl) dL_law_717 (fun r2 M2 h2 => ?_)
  obtain ⟨e, hI2⟩ := hP r r2 M2 h2
  exact l_eq (pc := 720) (tgt := 1319) C e dL_law_720 (by decide) (kk M2 hI2)
theorem la_17 (C : KL K X cl sl b L xs) (hL : L ≤ 3584) (hi : i + 7 ≤ L) (hI : IV M) (kk : ∀ M2, IV M2 → WL K X Qg cl sl M2 1319 (lvL X b i) []) : WL K X Qg cl sl M 725 (lvL X b i) [] := by
  obtain ⟨P, hw, hP⟩ := o_reach (xs (i + 1)) M hI
  refine l_aload (pc := 725) (x := ad X 0) C 2 dL_law_725 rfl ?_
  refine l_arg (pc := 726) (k := 1) C hL hi (by decide) rfl dL_law_726 dL_law_727 dL_law_728 dL_law_729 dL_law_730 ?_
  refine l_callI (pc := 731) (As := [.int (xs (i + 1))]) (st := []) (k := 0) C 1 (by decide) (ce0 _) rfl aw676 aw677 (c_X8_reach X M _ _ hw) aw675 aw678 aw2 yd_X8_reach ⟨rfl, rfl⟩ ⟨(Nat.le_of_ble_eq_true rfl), (Nat.le_of_ble_eq_true rfl)⟩ rfl (Nat.le_of_ble_eq_true rfl) dL_law_731 (fun r M1 h1 => ?_)
  refine l_aload (pc := 734) (x := ad X 85) C 3 dL_law_734 rfl ?_
  refine l_arg (pc := 735) (k := 1) C hL hi (by decide) rfl dL_law_735 dL_law_736 dL_law_737 dL_law_738 dL_law_739 ?_
  refine l_callI (pc := 740) (As := [.int (xs (i + 1))]) (st := [.int r]) (k := 85) C 1 (by decide) (ce85 _) rfl aw687 aw688 (c_X9_reach X M1 _ _ h1) aw686 aw689 aw5 yd_X9_reach ⟨rfl, rfl⟩ ⟨(Nat.le_of_ble_eq_true rfl), (Nat.le_of_ble_eq_true rfl)⟩ rfl (Nat.le_of_ble_eq_true rfl) dL_law_740 (fun r2 M2 h2 => ?_)
  obtain ⟨e, hI2⟩ := hP r r2 M2 h2
  exact l_eq (pc := 743) (tgt := 1319) C e dL_law_743 (by decide) (kk M2 hI2)
theorem la_18 (C : KL K X cl sl b L xs) (hL : L ≤ 3584) (hi : i + 7 ≤ L) (hI : IV M) (kk : ∀ M2, IV M2 → WL K X Qg cl sl M2 1319 (lvL X b i) []) : WL K X Qg cl sl M 748 (lvL X b i) [] := by
  obtain ⟨P, hw, hP⟩ := o_locked  M hI
  refine l_aload (pc := 748) (x := ad X 0) C 2 dL_law_748 rfl ?_
  refine l_callI (pc := 749) (As := []) (st := []) (k := 0) C 0 (by decide) (ce0 _) rfl aw695 aw696 (c_X8_locked X M  _ hw) aw694 aw697 aw2 yd_X8_locked ⟨rfl, rfl⟩ ⟨(Nat.le_of_ble_eq_true rfl), (Nat.le_of_ble_eq_true rfl)⟩ rfl (Nat.le_of_ble_eq_true rfl) dL_law_749 (fun r M1 h1 => ?_)
  refine l_aload (pc := 752) (x := ad X 85) C 3 dL_law_752 rfl ?_
  refine l_callI (pc := 753) (As := []) (st := [.int r]) (k := 85) C 0 (by decide) (ce85 _) rfl aw699 aw700 (c_X9_locked X M1  _ h1) aw698 aw701 aw5 yd_X9_locked ⟨rfl, rfl⟩ ⟨(Nat.le_of_ble_eq_true rfl), (Nat.le_of_ble_eq_true rfl)⟩ rfl (Nat.le_of_ble_eq_true rfl) dL_law_753 (fun r2 M2 h2 => ?_)
  obtain ⟨e, hI2⟩ := hP r r2 M2 h2
  exact l_eq (pc := 756) (tgt := 1319) C e dL_law_756 (by decide) (kk M2 hI2)
theorem la_19 (C : KL K X cl sl b L xs) (hL : L ≤ 3584) (hi : i + 7 ≤ L) (hI : IV M) (kk : ∀ M2, IV M2 → WL K X Qg cl sl M2 1319 (lvL X b i) []) : WL K X Qg cl sl M 761 (lvL X b i) [] := by
  obtain ⟨P, hw, hP⟩ := o_gifts (xs (i + 1)) (xs (i + 2)) (xs (i + 3)) M hI
  refine l_aload (pc := 761) (x := ad X 0) C 2 dL_law_761 rfl ?_
  refine l_arg (pc := 762) (k := 1) C hL hi (by decide) rfl dL_law_762 dL_law_763 dL_law_764 dL_law_765 dL_law_766 ?_
  refine l_arg (pc := 767) (k := 2) C hL hi (by decide) rfl dL_law_767 dL_law_768 dL_law_769 dL_law_770 dL_law_771 ?_
  refine l_arg (pc := 772) (k := 3) C hL hi (by decide) rfl dL_law_772 dL_law_773 dL_law_774 dL_law_775 dL_law_776 ?_
  refine l_callI (pc := 777) (As := [.int (xs (i + 1)), .int (xs (i + 2)), .int (xs (i + 3))]) (st := []) (k := 0) C 3 (by decide) (ce0 _) rfl aw706 aw707 (c_X8_gifts X M _ _ _ _ hw) aw705 aw708 aw2 yd_X8_gifts ⟨rfl, rfl⟩ ⟨(Nat.le_of_ble_eq_true rfl), (Nat.le_of_ble_eq_true rfl)⟩ rfl (Nat.le_of_ble_eq_true rfl) dL_law_777 (fun r M1 h1 => ?_)
  refine l_aload (pc := 780) (x := ad X 85) C 3 dL_law_780 rfl ?_
  refine l_arg (pc := 781) (k := 1) C hL hi (by decide) rfl dL_law_781 dL_law_782 dL_law_783 dL_law_784 dL_law_785 ?_
  refine l_arg (pc := 786) (k := 2) C hL hi (by decide) rfl dL_law_786 dL_law_787 dL_law_788 dL_law_789 dL_law_790 ?_
  refine l_arg (pc := 791) (k := 3) C hL hi (by decide) rfl dL_law_791 dL_law_792 dL_law_793 dL_law_794 dL_law_795 ?_
  refine l_callI (pc := 796) (As := [.int (xs (i + 1)), .int (xs (i + 2)), .int (xs (i + 3))]) (st := [.int r]) (k := 85) C 3 (by decide) (ce85 _) rfl aw732 aw733 (c_X9_gifts X M1 _ _ _ _ h1) aw731 aw734 aw5 yd_X9_gifts ⟨rfl, rfl⟩ ⟨(Nat.le_of_ble_eq_true rfl), (Nat.le_of_ble_eq_true rfl)⟩ rfl (Nat.le_of_ble_eq_true rfl) dL_law_796 (fun r2 M2 h2 => ?_)
  obtain ⟨e, hI2⟩ := hP r r2 M2 h2
  exact l_eq (pc := 799) (tgt := 1319) C e dL_law_799 (by decide) (kk M2 hI2)
theorem la_20 (C : KL K X cl sl b L xs) (hL : L ≤ 3584) (hi : i + 7 ≤ L) (hI : IV M) (kk : ∀ M2, IV M2 → WL K X Qg cl sl M2 1319 (lvL X b i) []) : WL K X Qg cl sl M 804 (lvL X b i) [] := by
  obtain ⟨P, hw, hP⟩ := o_parade (xs (i + 1)) (xs (i + 2)) (xs (i + 3)) M hI
  refine l_aload (pc := 804) (x := ad X 0) C 2 dL_law_804 rfl ?_
  refine l_arg (pc := 805) (k := 1) C hL hi (by decide) rfl dL_law_805 dL_law_806 dL_law_807 dL_law_808 dL_law_809 ?_
  refine l_arg (pc := 810) (k := 2) C hL hi (by decide) rfl dL_law_810 dL_law_811 dL_law_812 dL_law_813 dL_law_814 ?_
  refine l_arg (pc := 815) (k := 3) C hL hi (by decide) rfl dL_law_815 dL_law_816 dL_law_817 dL_law_818 dL_law_819 ?_
  refine l_callI (pc := 820) (As := [.int (xs (i + 1)), .int (xs (i + 2)), .int (xs (i + 3))]) (st := []) (k := 0) C 3 (by decide) (ce0 _) rfl aw750 aw751 (c_X8_parade X M _ _ _ _ hw) aw749 aw752 aw2 yd_X8_parade ⟨rfl, rfl⟩ ⟨(Nat.le_of_ble_eq_true rfl), (Nat.le_of_ble_eq_true rfl)⟩ rfl (Nat.le_of_ble_eq_true rfl) dL_law_820 (fun r M1 h1 => ?_)
  refine l_aload (pc := 823) (x := ad X 85) C 3 dL_law_823 rfl ?_
  refine l_arg (pc := 824) (k := 1) C hL hi (by decide) rfl dL_law_824 dL_law_825 dL_law_826 dL_law_827 dL_law_828 ?_
  refine l_arg (pc := 829) (k := 2) C hL hi (by decide) rfl dL_law_829 dL_law_830 dL_law_831 dL_law_832 dL_law_833 ?_
  refine l_arg (pc := 834) (k := 3) C hL hi (by decide) rfl dL_law_834 dL_law_835 dL_law_836 dL_law_837 dL_law_838 ?_
  refine l_callI (pc := 839) (As := [.int (xs (i + 1)), .int (xs (i + 2)), .int (xs (i + 3))]) (st := [.int r]) (k := 85) C 3 (by decide) (ce85 _) rfl aw764 aw765 (c_X9_parade X M1 _ _ _ _ h1) aw763 aw766 aw5 yd_X9_parade ⟨rfl, rfl⟩ ⟨(Nat.le_of_ble_eq_true rfl), (Nat.le_of_ble_eq_true rfl)⟩ rfl (Nat.le_of_ble_eq_true rfl) dL_law_839 (fun r2 M2 h2 => ?_)
  obtain ⟨e, hI2⟩ := hP r r2 M2 h2
  exact l_eq (pc := 842) (tgt := 1319) C e dL_law_842 (by decide) (kk M2 hI2)
theorem la_21 (C : KL K X cl sl b L xs) (hL : L ≤ 3584) (hi : i + 7 ≤ L) (hI : IV M) (kk : ∀ M2, IV M2 → WL K X Qg cl sl M2 1319 (lvL X b i) []) : WL K X Qg cl sl M 847 (lvL X b i) [] := by
  obtain ⟨P, hw, hP⟩ := o_newDoor (xs (i + 1)) (xs (i + 2)) (xs (i + 3)) M hI
  refine l_aload (pc := 847) (x := ad X 0) C 2 dL_law_847 rfl ?_
  refine l_arg (pc := 848) (k := 1) C hL hi (by decide) rfl dL_law_848 dL_law_849 dL_law_850 dL_law_851 dL_law_852 ?_
  refine l_arg (pc := 853) (k := 2) C hL hi (by decide) rfl dL_law_853 dL_law_854 dL_law_855 dL_law_856 dL_law_857 ?_
  refine l_arg (pc := 858) (k := 3) C hL hi (by decide) rfl dL_law_858 dL_law_859 dL_law_860 dL_law_861 dL_law_862 ?_
  refine l_callI (pc := 863) (As := [.int (xs (i + 1)), .int (xs (i + 2)), .int (xs (i + 3))]) (st := []) (k := 0) C 3 (by decide) (ce0 _) rfl aw768 aw769 (c_X8_newDoor X M _ _ _ _ hw) aw767 aw770 aw2 yd_X8_newDoor ⟨rfl, rfl⟩ ⟨(Nat.le_of_ble_eq_true rfl), (Nat.le_of_ble_eq_true rfl)⟩ rfl (Nat.le_of_ble_eq_true rfl) dL_law_863 (fun r M1 h1 => ?_)
  refine l_aload (pc := 866) (x := ad X 85) C 3 dL_law_866 rfl ?_
  refine l_arg (pc := 867) (k := 1) C hL hi (by decide) rfl dL_law_867 dL_law_868 dL_law_869 dL_law_870 dL_law_871 ?_
  refine l_arg (pc := 872) (k := 2) C hL hi (by decide) rfl dL_law_872 dL_law_873 dL_law_874 dL_law_875 dL_law_876 ?_
  refine l_arg (pc := 877) (k := 3) C hL hi (by decide) rfl dL_law_877 dL_law_878 dL_law_879 dL_law_880 dL_law_881 ?_
  refine l_callI (pc := 882) (As := [.int (xs (i + 1)), .int (xs (i + 2)), .int (xs (i + 3))]) (st := [.int r]) (k := 85) C 3 (by decide) (ce85 _) rfl aw776 aw777 (c_X9_newDoor X M1 _ _ _ _ h1) aw775 aw778 aw5 yd_X9_newDoor ⟨rfl, rfl⟩ ⟨(Nat.le_of_ble_eq_true rfl), (Nat.le_of_ble_eq_true rfl)⟩ rfl (Nat.le_of_ble_eq_true rfl) dL_law_882 (fun r2 M2 h2 => ?_)
  obtain ⟨e, hI2⟩ := hP r r2 M2 h2
  exact l_eq (pc := 885) (tgt := 1319) C e dL_law_885 (by decide) (kk M2 hI2)
theorem la_22 (C : KL K X cl sl b L xs) (hL : L ≤ 3584) (hi : i + 7 ≤ L) (hI : IV M) (kk : ∀ M2, IV M2 → WL K X Qg cl sl M2 1319 (lvL X b i) []) : WL K X Qg cl sl M 890 (lvL X b i) [] := by
  obtain ⟨P, hw, hP⟩ := o_bents (xs (i + 1)) (xs (i + 2)) (xs (i + 3)) (xs (i + 4)) (xs (i + 5)) (xs (i + 6)) M hI
  refine l_aload (pc := 890) (x := ad X 0) C 2 dL_law_890 rfl ?_
  refine l_arg (pc := 891) (k := 1) C hL hi (by decide) rfl dL_law_891 dL_law_892 dL_law_893 dL_law_894 dL_law_895 ?_
  refine l_arg (pc := 896) (k := 2) C hL hi (by decide) rfl dL_law_896 dL_law_897 dL_law_898 dL_law_899 dL_law_900 ?_
  refine l_arg (pc := 901) (k := 3) C hL hi (by decide) rfl dL_law_901 dL_law_902 dL_law_903 dL_law_904 dL_law_905 ?_
  refine l_arg (pc := 906) (k := 4) C hL hi (by decide) rfl dL_law_906 dL_law_907 dL_law_908 dL_law_909 dL_law_910 ?_
  refine l_arg (pc := 911) (k := 5) C hL hi (by decide) rfl dL_law_911 dL_law_912 dL_law_913 dL_law_914 dL_law_915 ?_
  refine l_arg6 (pc := 916) (k := 6) C hL hi (by decide) (by decide) dL_law_916 dL_law_917 dL_law_918 dL_law_920 dL_law_921 ?_
  refine l_callI (pc := 922) (As := [.int (xs (i + 1)), .int (xs (i + 2)), .int (xs (i + 3)), .int (xs (i + 4)), .int (xs (i + 5)), .int (xs (i + 6))]) (st := []) (k := 0) C 6 (by decide) (ce0 _) rfl aw780 aw781 (c_X8_bents X M _ _ _ _ _ _ _ hw) aw779 aw782 aw2 yd_X8_bents ⟨rfl, rfl⟩ ⟨(Nat.le_of_ble_eq_true rfl), (Nat.le_of_ble_eq_true rfl)⟩ rfl (Nat.le_of_ble_eq_true rfl) dL_law_922 (fun r M1 h1 => ?_)
  refine l_aload (pc := 925) (x := ad X 85) C 3 dL_law_925 rfl ?_
  refine l_arg (pc := 926) (k := 1) C hL hi (by decide) rfl dL_law_926 dL_law_927 dL_law_928 dL_law_929 dL_law_930 ?_
  refine l_arg (pc := 931) (k := 2) C hL hi (by decide) rfl dL_law_931 dL_law_932 dL_law_933 dL_law_934 dL_law_935 ?_
  refine l_arg (pc := 936) (k := 3) C hL hi (by decide) rfl dL_law_936 dL_law_937 dL_law_938 dL_law_939 dL_law_940 ?_
  refine l_arg (pc := 941) (k := 4) C hL hi (by decide) rfl dL_law_941 dL_law_942 dL_law_943 dL_law_944 dL_law_945 ?_
  refine l_arg (pc := 946) (k := 5) C hL hi (by decide) rfl dL_law_946 dL_law_947 dL_law_948 dL_law_949 dL_law_950 ?_
  refine l_arg6 (pc := 951) (k := 6) C hL hi (by decide) (by decide) dL_law_951 dL_law_952 dL_law_953 dL_law_955 dL_law_956 ?_
  refine l_callI (pc := 957) (As := [.int (xs (i + 1)), .int (xs (i + 2)), .int (xs (i + 3)), .int (xs (i + 4)), .int (xs (i + 5)), .int (xs (i + 6))]) (st := [.int r]) (k := 85) C 6 (by decide) (ce85 _) rfl aw792 aw793 (c_X9_bents X M1 _ _ _ _ _ _ _ h1) aw791 aw794 aw5 yd_X9_bents ⟨rfl, rfl⟩ ⟨(Nat.le_of_ble_eq_true rfl), (Nat.le_of_ble_eq_true rfl)⟩ rfl (Nat.le_of_ble_eq_true rfl) dL_law_957 (fun r2 M2 h2 => ?_)
  obtain ⟨e, hI2⟩ := hP r r2 M2 h2
  exact l_eq (pc := 960) (tgt := 1319) C e dL_law_960 (by decide) (kk M2 hI2)
theorem la_23 (C : KL K X cl sl b L xs) (hL : L ≤ 3584) (hi : i + 7 ≤ L) (hI : IV M) (kk : ∀ M2, IV M2 → WL K X Qg cl sl M2 1319 (lvL X b i) []) : WL K X Qg cl sl M 965 (lvL X b i) [] := by
  obtain ⟨P, hw, hP⟩ := o_who (xs (i + 1)) (xs (i + 2)) (xs (i + 3)) (xs (i + 4)) (xs (i + 5)) M hI
  refine l_aload (pc := 965) (x := ad X 0) C 2 dL_law_965 rfl ?_
  refine l_arg (pc := 966) (k := 1) C hL hi (by decide) rfl dL_law_966 dL_law_967 dL_law_968 dL_law_969 dL_law_970 ?_
  refine l_arg (pc := 971) (k := 2) C hL hi (by decide) rfl dL_law_971 dL_law_972 dL_law_973 dL_law_974 dL_law_975 ?_
  refine l_arg (pc := 976) (k := 3) C hL hi (by decide) rfl dL_law_976 dL_law_977 dL_law_978 dL_law_979 dL_law_980 ?_
  refine l_arg (pc := 981) (k := 4) C hL hi (by decide) rfl dL_law_981 dL_law_982 dL_law_983 dL_law_984 dL_law_985 ?_
  refine l_arg (pc := 986) (k := 5) C hL hi (by decide) rfl dL_law_986 dL_law_987 dL_law_988 dL_law_989 dL_law_990 ?_
  refine l_callI (pc := 991) (As := [.int (xs (i + 1)), .int (xs (i + 2)), .int (xs (i + 3)), .int (xs (i + 4)), .int (xs (i + 5))]) (st := []) (k := 0) C 5 (by decide) (ce0 _) rfl aw808 aw809 (c_X8_who X M _ _ _ _ _ _ hw) aw807 aw810 aw2 yd_X8_who ⟨rfl, rfl⟩ ⟨(Nat.le_of_ble_eq_true rfl), (Nat.le_of_ble_eq_true rfl)⟩ rfl (Nat.le_of_ble_eq_true rfl) dL_law_991 (fun r M1 h1 => ?_)
  refine l_aload (pc := 994) (x := ad X 85) C 3 dL_law_994 rfl ?_
  refine l_arg (pc := 995) (k := 1) C hL hi (by decide) rfl dL_law_995 dL_law_996 dL_law_997 dL_law_998 dL_law_999 ?_
  refine l_arg (pc := 1000) (k := 2) C hL hi (by decide) rfl dL_law_1000 dL_law_1001 dL_law_1002 dL_law_1003 dL_law_1004 ?_
  refine l_arg (pc := 1005) (k := 3) C hL hi (by decide) rfl dL_law_1005 dL_law_1006 dL_law_1007 dL_law_1008 dL_law_1009 ?_
  refine l_arg (pc := 1010) (k := 4) C hL hi (by decide) rfl dL_law_1010 dL_law_1011 dL_law_1012 dL_law_1013 dL_law_1014 ?_
  refine l_arg (pc := 1015) (k := 5) C hL hi (by decide) rfl dL_law_1015 dL_law_1016 dL_law_1017 dL_law_1018 dL_law_1019 ?_
  refine l_callI (pc := 1020) (As := [.int (xs (i + 1)), .int (xs (i + 2)), .int (xs (i + 3)), .int (xs (i + 4)), .int (xs (i + 5))]) (st := [.int r]) (k := 85) C 5 (by decide) (ce85 _) rfl aw812 aw813 (c_X9_who X M1 _ _ _ _ _ _ h1) aw811 aw814 aw5 yd_X9_who ⟨rfl, rfl⟩ ⟨(Nat.le_of_ble_eq_true rfl), (Nat.le_of_ble_eq_true rfl)⟩ rfl (Nat.le_of_ble_eq_true rfl) dL_law_1020 (fun r2 M2 h2 => ?_)
  obtain ⟨e, hI2⟩ := hP r r2 M2 h2
  exact l_eq (pc := 1023) (tgt := 1319) C e dL_law_1023 (by decide) (kk M2 hI2)
theorem la_24 (C : KL K X cl sl b L xs) (hL : L ≤ 3584) (hi : i + 7 ≤ L) (hI : IV M) (kk : ∀ M2, IV M2 → WL K X Qg cl sl M2 1319 (lvL X b i) []) : WL K X Qg cl sl M 1028 (lvL X b i) [] := by
  obtain ⟨P, hw, hP⟩ := o_awake (xs (i + 1)) (xs (i + 2)) (xs (i + 3)) (xs (i + 4)) M hI
  refine l_aload (pc := 1028) (x := ad X 0) C 2 dL_law_1028 rfl ?_
  refine l_arg (pc := 1029) (k := 1) C hL hi (by decide) rfl dL_law_1029 dL_law_1030 dL_law_1031 dL_law_1032 dL_law_1033 ?_
  refine l_arg (pc := 1034) (k := 2) C hL hi (by decide) rfl dL_law_1034 dL_law_1035 dL_law_1036 dL_law_1037 dL_law_1038 ?_
  refine l_arg (pc := 1039) (k := 3) C hL hi (by decide) rfl dL_law_1039 dL_law_1040 dL_law_1041 dL_law_1042 dL_law_1043 ?_
  refine l_arg (pc := 1044) (k := 4) C hL hi (by decide) rfl dL_law_1044 dL_law_1045 dL_law_1046 dL_law_1047 dL_law_1048 ?_
  refine l_callL (pc := 1049) (As := [.int (xs (i + 1)), .int (xs (i + 2)), .int (xs (i + 3)), .int (xs (i + 4))]) (st := []) (k := 0) C 4 (by decide) (ce0 _) rfl aw816 aw817 (c_X8_awake X M _ _ _ _ _ hw) aw815 aw818 aw2 yd_X8_awake ⟨rfl, rfl⟩ ⟨(Nat.le_of_ble_eq_true rfl), (Nat.le_of_ble_eq_true rfl)⟩ rfl (Nat.le_of_ble_eq_true rfl) dL_law_1049 (fun r M1 h1 => ?_)
  refine l_aload (pc := 1052) (x := ad X 85) C 3 dL_law_1052 rfl ?_
  refine l_arg (pc := 1053) (k := 1) C hL hi (by decide) rfl dL_law_1053 dL_law_1054 dL_law_1055 dL_law_1056 dL_law_1057 ?_
  refine l_arg (pc := 1058) (k := 2) C hL hi (by decide) rfl dL_law_1058 dL_law_1059 dL_law_1060 dL_law_1061 dL_law_1062 ?_
  refine l_arg (pc := 1063) (k := 3) C hL hi (by decide) rfl dL_law_1063 dL_law_1064 dL_law_1065 dL_law_1066 dL_law_1067 ?_
  refine l_arg (pc := 1068) (k := 4) C hL hi (by decide) rfl dL_law_1068 dL_law_1069 dL_law_1070 dL_law_1071 dL_law_1072 ?_
  refine l_callL (pc := 1073) (As := [.int (xs (i + 1)), .int (xs (i + 2)), .int (xs (i + 3)), .int (xs (i + 4))]) (st := [.long r]) (k := 85) C 4 (by decide) (ce85 _) rfl aw828 aw829 (c_X9_awake X M1 _ _ _ _ _ h1) aw827 aw830 aw5 yd_X9_awake ⟨rfl, rfl⟩ ⟨(Nat.le_of_ble_eq_true rfl), (Nat.le_of_ble_eq_true rfl)⟩ rfl (Nat.le_of_ble_eq_true rfl) dL_law_1073 (fun r2 M2 h2 => ?_)
  obtain ⟨e, hI2⟩ := hP r r2 M2 h2
  exact l_eqL (pc := 1076) (tgt := 1319) C e dL_law_1076 dL_law_1077 (by decide) (kk M2 hI2)
theorem la_25 (C : KL K X cl sl b L xs) (hL : L ≤ 3584) (hi : i + 7 ≤ L) (hI : IV M) (kk : ∀ M2, IV M2 → WL K X Qg cl sl M2 1319 (lvL X b i) []) : WL K X Qg cl sl M 1082 (lvL X b i) [] := by
  obtain ⟨P, hw, hP⟩ := o_drawn (xs (i + 1)) (xs (i + 2)) (xs (i + 3)) M hI
  refine l_aload (pc := 1082) (x := ad X 0) C 2 dL_law_1082 rfl ?_
  refine l_arg (pc := 1083) (k := 1) C hL hi (by decide) rfl dL_law_1083 dL_law_1084 dL_law_1085 dL_law_1086 dL_law_1087 ?_
  refine l_arg (pc := 1088) (k := 2) C hL hi (by decide) rfl dL_law_1088 dL_law_1089 dL_law_1090 dL_law_1091 dL_law_1092 ?_
  refine l_arg (pc := 1093) (k := 3) C hL hi (by decide) rfl dL_law_1093 dL_law_1094 dL_law_1095 dL_law_1096 dL_law_1097 ?_
  refine l_callI (pc := 1098) (As := [.int (xs (i + 1)), .int (xs (i + 2)), .int (xs (i + 3))]) (st := []) (k := 0) C 3 (by decide) (ce0 _) rfl aw834 aw835 (c_X8_drawn X M _ _ _ _ hw) aw833 aw836 aw2 yd_X8_drawn ⟨rfl, rfl⟩ ⟨(Nat.le_of_ble_eq_true rfl), (Nat.le_of_ble_eq_true rfl)⟩ rfl (Nat.le_of_ble_eq_true rfl) dL_law_1098 (fun r M1 h1 => ?_)
  refine l_aload (pc := 1101) (x := ad X 85) C 3 dL_law_1101 rfl ?_
  refine l_arg (pc := 1102) (k := 1) C hL hi (by decide) rfl dL_law_1102 dL_law_1103 dL_law_1104 dL_law_1105 dL_law_1106 ?_
  refine l_arg (pc := 1107) (k := 2) C hL hi (by decide) rfl dL_law_1107 dL_law_1108 dL_law_1109 dL_law_1110 dL_law_1111 ?_
  refine l_arg (pc := 1112) (k := 3) C hL hi (by decide) rfl dL_law_1112 dL_law_1113 dL_law_1114 dL_law_1115 dL_law_1116 ?_
  refine l_callI (pc := 1117) (As := [.int (xs (i + 1)), .int (xs (i + 2)), .int (xs (i + 3))]) (st := [.int r]) (k := 85) C 3 (by decide) (ce85 _) rfl aw845 aw846 (c_X9_drawn X M1 _ _ _ _ h1) aw844 aw847 aw5 yd_X9_drawn ⟨rfl, rfl⟩ ⟨(Nat.le_of_ble_eq_true rfl), (Nat.le_of_ble_eq_true rfl)⟩ rfl (Nat.le_of_ble_eq_true rfl) dL_law_1117 (fun r2 M2 h2 => ?_)
  obtain ⟨e, hI2⟩ := hP r r2 M2 h2
  exact l_eq (pc := 1120) (tgt := 1319) C e dL_law_1120 (by decide) (kk M2 hI2)
theorem la_26 (C : KL K X cl sl b L xs) (hL : L ≤ 3584) (hi : i + 7 ≤ L) (hI : IV M) (kk : ∀ M2, IV M2 → WL K X Qg cl sl M2 1319 (lvL X b i) []) : WL K X Qg cl sl M 1125 (lvL X b i) [] := by
  obtain ⟨P, hw, hP⟩ := o_image (xs (i + 1)) M hI
  refine l_aload (pc := 1125) (x := ad X 0) C 2 dL_law_1125 rfl ?_
  refine l_arg (pc := 1126) (k := 1) C hL hi (by decide) rfl dL_law_1126 dL_law_1127 dL_law_1128 dL_law_1129 dL_law_1130 ?_
  refine l_callI (pc := 1131) (As := [.int (xs (i + 1))]) (st := []) (k := 0) C 1 (by decide) (ce0 _) rfl aw854 aw855 (c_X8_image X M _ _ hw) aw853 aw856 aw2 yd_X8_image ⟨rfl, rfl⟩ ⟨(Nat.le_of_ble_eq_true rfl), (Nat.le_of_ble_eq_true rfl)⟩ rfl (Nat.le_of_ble_eq_true rfl) dL_law_1131 (fun r M1 h1 => ?_)
  refine l_aload (pc := 1134) (x := ad X 85) C 3 dL_law_1134 rfl ?_
  refine l_arg (pc := 1135) (k := 1) C hL hi (by decide) rfl dL_law_1135 dL_law_1136 dL_law_1137 dL_law_1138 dL_law_1139 ?_
  refine l_callI (pc := 1140) (As := [.int (xs (i + 1))]) (st := [.int r]) (k := 85) C 1 (by decide) (ce85 _) rfl aw858 aw859 (c_X9_image X M1 _ _ h1) aw857 aw860 aw5 yd_X9_image ⟨rfl, rfl⟩ ⟨(Nat.le_of_ble_eq_true rfl), (Nat.le_of_ble_eq_true rfl)⟩ rfl (Nat.le_of_ble_eq_true rfl) dL_law_1140 (fun r2 M2 h2 => ?_)
  obtain ⟨e, hI2⟩ := hP r r2 M2 h2
  exact l_eq (pc := 1143) (tgt := 1319) C e dL_law_1143 (by decide) (kk M2 hI2)
theorem la_27 (C : KL K X cl sl b L xs) (hL : L ≤ 3584) (hi : i + 7 ≤ L) (hI : IV M) (kk : ∀ M2, IV M2 → WL K X Qg cl sl M2 1319 (lvL X b i) []) : WL K X Qg cl sl M 1148 (lvL X b i) [] := by
  obtain ⟨P, hw, hP⟩ := o_restore (xs (i + 1)) M hI
  refine l_aload (pc := 1148) (x := ad X 0) C 2 dL_law_1148 rfl ?_
  refine l_arg (pc := 1149) (k := 1) C hL hi (by decide) rfl dL_law_1149 dL_law_1150 dL_law_1151 dL_law_1152 dL_law_1153 ?_
  refine l_callI (pc := 1154) (As := [.int (xs (i + 1))]) (st := []) (k := 0) C 1 (by decide) (ce0 _) rfl aw862 aw863 (c_X8_restore X M _ _ hw) aw861 aw864 aw2 yd_X8_restore ⟨rfl, rfl⟩ ⟨(Nat.le_of_ble_eq_true rfl), (Nat.le_of_ble_eq_true rfl)⟩ rfl (Nat.le_of_ble_eq_true rfl) dL_law_1154 (fun r M1 h1 => ?_)
  refine l_aload (pc := 1157) (x := ad X 85) C 3 dL_law_1157 rfl ?_
  refine l_arg (pc := 1158) (k := 1) C hL hi (by decide) rfl dL_law_1158 dL_law_1159 dL_law_1160 dL_law_1161 dL_law_1162 ?_
  refine l_callI (pc := 1163) (As := [.int (xs (i + 1))]) (st := [.int r]) (k := 85) C 1 (by decide) (ce85 _) rfl aw866 aw867 (c_X9_restore X M1 _ _ h1) aw865 aw868 aw5 yd_X9_restore ⟨rfl, rfl⟩ ⟨(Nat.le_of_ble_eq_true rfl), (Nat.le_of_ble_eq_true rfl)⟩ rfl (Nat.le_of_ble_eq_true rfl) dL_law_1163 (fun r2 M2 h2 => ?_)
  obtain ⟨e, hI2⟩ := hP r r2 M2 h2
  exact l_eq (pc := 1166) (tgt := 1319) C e dL_law_1166 (by decide) (kk M2 hI2)
theorem la_28 (C : KL K X cl sl b L xs) (hL : L ≤ 3584) (hi : i + 7 ≤ L) (hI : IV M) (kk : ∀ M2, IV M2 → WL K X Qg cl sl M2 1319 (lvL X b i) []) : WL K X Qg cl sl M 1171 (lvL X b i) [] := by
  obtain ⟨P, hw, hP⟩ := o_kind (xs (i + 1)) M hI
  refine l_aload (pc := 1171) (x := ad X 0) C 2 dL_law_1171 rfl ?_
  refine l_arg (pc := 1172) (k := 1) C hL hi (by decide) rfl dL_law_1172 dL_law_1173 dL_law_1174 dL_law_1175 dL_law_1176 ?_
  refine l_callI (pc := 1177) (As := [.int (xs (i + 1))]) (st := []) (k := 0) C 1 (by decide) (ce0 _) rfl aw870 aw871 (c_X8_kind X M _ _ hw) aw869 aw872 aw2 yd_X8_kind ⟨rfl, rfl⟩ ⟨(Nat.le_of_ble_eq_true rfl), (Nat.le_of_ble_eq_true rfl)⟩ rfl (Nat.le_of_ble_eq_true rfl) dL_law_1177 (fun r M1 h1 => ?_)
  refine l_aload (pc := 1180) (x := ad X 85) C 3 dL_law_1180 rfl ?_
  refine l_arg (pc := 1181) (k := 1) C hL hi (by decide) rfl dL_law_1181 dL_law_1182 dL_law_1183 dL_law_1184 dL_law_1185 ?_
  refine l_callI (pc := 1186) (As := [.int (xs (i + 1))]) (st := [.int r]) (k := 85) C 1 (by decide) (ce85 _) rfl aw874 aw875 (c_X9_kind X M1 _ _ h1) aw873 aw876 aw5 yd_X9_kind ⟨rfl, rfl⟩ ⟨(Nat.le_of_ble_eq_true rfl), (Nat.le_of_ble_eq_true rfl)⟩ rfl (Nat.le_of_ble_eq_true rfl) dL_law_1186 (fun r2 M2 h2 => ?_)
  obtain ⟨e, hI2⟩ := hP r r2 M2 h2
  exact l_eq (pc := 1189) (tgt := 1319) C e dL_law_1189 (by decide) (kk M2 hI2)
theorem la_29 (C : KL K X cl sl b L xs) (hL : L ≤ 3584) (hi : i + 7 ≤ L) (hI : IV M) (kk : ∀ M2, IV M2 → WL K X Qg cl sl M2 1319 (lvL X b i) []) : WL K X Qg cl sl M 1194 (lvL X b i) [] := by
  obtain ⟨P, hw, hP⟩ := o_as (xs (i + 1)) (xs (i + 2)) M hI
  refine l_aload (pc := 1194) (x := ad X 0) C 2 dL_law_1194 rfl ?_
  refine l_arg (pc := 1195) (k := 1) C hL hi (by decide) rfl dL_law_1195 dL_law_1196 dL_law_1197 dL_law_1198 dL_law_1199 ?_
  refine l_arg (pc := 1200) (k := 2) C hL hi (by decide) rfl dL_law_1200 dL_law_1201 dL_law_1202 dL_law_1203 dL_law_1204 ?_
  refine l_callI (pc := 1205) (As := [.int (xs (i + 1)), .int (xs (i + 2))]) (st := []) (k := 0) C 2 (by decide) (ce0 _) rfl aw878 aw879 (c_X8_as X M _ _ _ hw) aw877 aw880 aw2 yd_X8_as ⟨rfl, rfl⟩ ⟨(Nat.le_of_ble_eq_true rfl), (Nat.le_of_ble_eq_true rfl)⟩ rfl (Nat.le_of_ble_eq_true rfl) dL_law_1205 (fun r M1 h1 => ?_)
  refine l_aload (pc := 1208) (x := ad X 85) C 3 dL_law_1208 rfl ?_
  refine l_arg (pc := 1209) (k := 1) C hL hi (by decide) rfl dL_law_1209 dL_law_1210 dL_law_1211 dL_law_1212 dL_law_1213 ?_
  refine l_arg (pc := 1214) (k := 2) C hL hi (by decide) rfl dL_law_1214 dL_law_1215 dL_law_1216 dL_law_1217 dL_law_1218 ?_
  refine l_callI (pc := 1219) (As := [.int (xs (i + 1)), .int (xs (i + 2))]) (st := [.int r]) (k := 85) C 2 (by decide) (ce85 _) rfl aw886 aw887 (c_X9_as X M1 _ _ _ h1) aw885 aw888 aw5 yd_X9_as ⟨rfl, rfl⟩ ⟨(Nat.le_of_ble_eq_true rfl), (Nat.le_of_ble_eq_true rfl)⟩ rfl (Nat.le_of_ble_eq_true rfl) dL_law_1219 (fun r2 M2 h2 => ?_)
  obtain ⟨e, hI2⟩ := hP r r2 M2 h2
  exact l_eq (pc := 1222) (tgt := 1319) C e dL_law_1222 (by decide) (kk M2 hI2)
theorem la_30 (C : KL K X cl sl b L xs) (hL : L ≤ 3584) (hi : i + 7 ≤ L) (hI : IV M) (kk : ∀ M2, IV M2 → WL K X Qg cl sl M2 1319 (lvL X b i) []) : WL K X Qg cl sl M 1227 (lvL X b i) [] := by
  obtain ⟨P, hw, hP⟩ := o_ask (xs (i + 1)) (xs (i + 2)) M hI
  refine l_aload (pc := 1227) (x := ad X 0) C 2 dL_law_1227 rfl ?_
  refine l_arg (pc := 1228) (k := 1) C hL hi (by decide) rfl dL_law_1228 dL_law_1229 dL_law_1230 dL_law_1231 dL_law_1232 ?_
  refine l_arg (pc := 1233) (k := 2) C hL hi (by decide) rfl dL_law_1233 dL_law_1234 dL_law_1235 dL_law_1236 dL_law_1237 ?_
  refine l_callI (pc := 1238) (As := [.int (xs (i + 1)), .int (xs (i + 2))]) (st := []) (k := 0) C 2 (by decide) (ce0 _) rfl aw895 aw896 (c_X8_ask X M _ _ _ hw) aw894 aw897 aw2 yd_X8_ask ⟨rfl, rfl⟩ ⟨(Nat.le_of_ble_eq_true rfl), (Nat.le_of_ble_eq_true rfl)⟩ rfl (Nat.le_of_ble_eq_true rfl) dL_law_1238 (fun r M1 h1 => ?_)
  refine l_aload (pc := 1241) (x := ad X 85) C 3 dL_law_1241 rfl ?_
  refine l_arg (pc := 1242) (k := 1) C hL hi (by decide) rfl dL_law_1242 dL_law_1243 dL_law_1244 dL_law_1245 dL_law_1246 ?_
  refine l_arg (pc := 1247) (k := 2) C hL hi (by decide) rfl dL_law_1247 dL_law_1248 dL_law_1249 dL_law_1250 dL_law_1251 ?_
  refine l_callI (pc := 1252) (As := [.int (xs (i + 1)), .int (xs (i + 2))]) (st := [.int r]) (k := 85) C 2 (by decide) (ce85 _) rfl aw915 aw916 (c_X9_ask X M1 _ _ _ h1) aw914 aw917 aw5 yd_X9_ask ⟨rfl, rfl⟩ ⟨(Nat.le_of_ble_eq_true rfl), (Nat.le_of_ble_eq_true rfl)⟩ rfl (Nat.le_of_ble_eq_true rfl) dL_law_1252 (fun r2 M2 h2 => ?_)
  obtain ⟨e, hI2⟩ := hP r r2 M2 h2
  exact l_eq (pc := 1255) (tgt := 1319) C e dL_law_1255 (by decide) (kk M2 hI2)
theorem la_31 (C : KL K X cl sl b L xs) (hL : L ≤ 3584) (hi : i + 7 ≤ L) (hI : IV M) (kk : ∀ M2, IV M2 → WL K X Qg cl sl M2 1319 (lvL X b i) []) : WL K X Qg cl sl M 1260 (lvL X b i) [] := by
  obtain ⟨P, hw, hP⟩ := o_trace (xs (i + 1)) M hI
  refine l_aload (pc := 1260) (x := ad X 0) C 2 dL_law_1260 rfl ?_
  refine l_arg (pc := 1261) (k := 1) C hL hi (by decide) rfl dL_law_1261 dL_law_1262 dL_law_1263 dL_law_1264 dL_law_1265 ?_
  refine l_callI (pc := 1266) (As := [.int (xs (i + 1))]) (st := []) (k := 0) C 1 (by decide) (ce0 _) rfl aw956 aw957 (c_X8_trace X M _ _ hw) aw955 aw958 aw2 yd_X8_trace ⟨rfl, rfl⟩ ⟨(Nat.le_of_ble_eq_true rfl), (Nat.le_of_ble_eq_true rfl)⟩ rfl (Nat.le_of_ble_eq_true rfl) dL_law_1266 (fun r M1 h1 => ?_)
  refine l_aload (pc := 1269) (x := ad X 85) C 3 dL_law_1269 rfl ?_
  refine l_arg (pc := 1270) (k := 1) C hL hi (by decide) rfl dL_law_1270 dL_law_1271 dL_law_1272 dL_law_1273 dL_law_1274 ?_
  refine l_callI (pc := 1275) (As := [.int (xs (i + 1))]) (st := [.int r]) (k := 85) C 1 (by decide) (ce85 _) rfl aw960 aw961 (c_X9_trace X M1 _ _ h1) aw959 aw962 aw5 yd_X9_trace ⟨rfl, rfl⟩ ⟨(Nat.le_of_ble_eq_true rfl), (Nat.le_of_ble_eq_true rfl)⟩ rfl (Nat.le_of_ble_eq_true rfl) dL_law_1275 (fun r2 M2 h2 => ?_)
  obtain ⟨e, hI2⟩ := hP r r2 M2 h2
  exact l_eq (pc := 1278) (tgt := 1319) C e dL_law_1278 (by decide) (kk M2 hI2)
theorem la_32 (C : KL K X cl sl b L xs) (hL : L ≤ 3584) (hi : i + 7 ≤ L) (hI : IV M) (kk : ∀ M2, IV M2 → WL K X Qg cl sl M2 1319 (lvL X b i) []) : WL K X Qg cl sl M 1283 (lvL X b i) [] := by
  obtain ⟨P, hw, hP⟩ := o_count (xs (i + 1)) M hI
  refine l_aload (pc := 1283) (x := ad X 0) C 2 dL_law_1283 rfl ?_
  refine l_arg (pc := 1284) (k := 1) C hL hi (by decide) rfl dL_law_1284 dL_law_1285 dL_law_1286 dL_law_1287 dL_law_1288 ?_
  refine l_callI (pc := 1289) (As := [.int (xs (i + 1))]) (st := []) (k := 0) C 1 (by decide) (ce0 _) rfl aw964 aw965 (c_X8_count X M _ _ hw) aw963 aw966 aw2 yd_X8_count ⟨rfl, rfl⟩ ⟨(Nat.le_of_ble_eq_true rfl), (Nat.le_of_ble_eq_true rfl)⟩ rfl (Nat.le_of_ble_eq_true rfl) dL_law_1289 (fun r M1 h1 => ?_)
  refine l_aload (pc := 1292) (x := ad X 85) C 3 dL_law_1292 rfl ?_
  refine l_arg (pc := 1293) (k := 1) C hL hi (by decide) rfl dL_law_1293 dL_law_1294 dL_law_1295 dL_law_1296 dL_law_1297 ?_
  refine l_callI (pc := 1298) (As := [.int (xs (i + 1))]) (st := [.int r]) (k := 85) C 1 (by decide) (ce85 _) rfl aw976 aw977 (c_X9_count X M1 _ _ h1) aw975 aw978 aw5 yd_X9_count ⟨rfl, rfl⟩ ⟨(Nat.le_of_ble_eq_true rfl), (Nat.le_of_ble_eq_true rfl)⟩ rfl (Nat.le_of_ble_eq_true rfl) dL_law_1298 (fun r2 M2 h2 => ?_)
  obtain ⟨e, hI2⟩ := hP r r2 M2 h2
  exact l_eq (pc := 1301) (tgt := 1319) C e dL_law_1301 (by decide) (kk M2 hI2)
theorem la_33 (C : KL K X cl sl b L xs) (hL : L ≤ 3584) (hi : i + 7 ≤ L) (hI : IV M) (kk : ∀ M2, IV M2 → WL K X Qg cl sl M2 1319 (lvL X b i) []) : WL K X Qg cl sl M 1306 (lvL X b i) [] := by
  obtain ⟨P, hw, hP⟩ := o_status  M hI
  refine l_aload (pc := 1306) (x := ad X 0) C 2 dL_law_1306 rfl ?_
  refine l_callI (pc := 1307) (As := []) (st := []) (k := 0) C 0 (by decide) (ce0 _) rfl aw980 aw981 (c_X8_status X M  _ hw) aw979 aw982 aw2 yd_X8_status ⟨rfl, rfl⟩ ⟨(Nat.le_of_ble_eq_true rfl), (Nat.le_of_ble_eq_true rfl)⟩ rfl (Nat.le_of_ble_eq_true rfl) dL_law_1307 (fun r M1 h1 => ?_)
  refine l_aload (pc := 1310) (x := ad X 85) C 3 dL_law_1310 rfl ?_
  refine l_callI (pc := 1311) (As := []) (st := [.int r]) (k := 85) C 0 (by decide) (ce85 _) rfl aw984 aw985 (c_X9_status X M1  _ h1) aw983 aw986 aw5 yd_X9_status ⟨rfl, rfl⟩ ⟨(Nat.le_of_ble_eq_true rfl), (Nat.le_of_ble_eq_true rfl)⟩ rfl (Nat.le_of_ble_eq_true rfl) dL_law_1311 (fun r2 M2 h2 => ?_)
  obtain ⟨e, hI2⟩ := hP r r2 M2 h2
  exact l_eq (pc := 1314) (tgt := 1319) C e dL_law_1314 (by decide) (kk M2 hI2)
end LC
