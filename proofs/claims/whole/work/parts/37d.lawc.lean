/-! THE LAW: its 31 calls -/
theorem la_0 {l : Launch} {g : qa_G} {v i cells slots : Nat} {h : qa_M} (iv : Inv v h) (hv : v < 1000) (hi : i + 6 ≤ g.2.2.2.2.2.2.1) (hL : g.2.2.2.2.2.2.1 ≤ 3072) (hc : cells + 1 ≤ 600000) (hs : slots + 9216 ≤ 7302250) (K : ∀ h2, Inv (v + 1) h2 → LW l g (cells + 1) (slots + 9216) 1197 (laV g i) [] (qO h2) h2) : LW l g cells slots 172 (laV g i) [] (qO h) h := by
  obtain ⟨⟨r1, h1⟩, e1, ⟨r2, h2⟩, e2, e3, iv2⟩ := J_feed (x1 := laX g i 1) (x2 := laX g i 2) (x3 := laX g i 3) (x4 := laX g i 4) (x5 := laX g i 5) iv
  dsimp only at e2 e3 iv2
  refine qs_aload_n 2 dL_law_172 rfl rfl ?_
  refine la_arg (k := 1) rfl (by omega) (by omega) dL_law_173 dL_law_174 dL_law_175 dL_law_176 dL_law_177 ?_
  refine la_arg (k := 2) rfl (by omega) (by omega) dL_law_178 dL_law_179 dL_law_180 dL_law_181 dL_law_182 ?_
  refine la_arg (k := 3) rfl (by omega) (by omega) dL_law_183 dL_law_184 dL_law_185 dL_law_186 dL_law_187 ?_
  refine la_arg (k := 4) rfl (by omega) (by omega) dL_law_188 dL_law_189 dL_law_190 dL_law_191 dL_law_192 ?_
  refine la_arg (k := 5) rfl (by omega) (by omega) dL_law_193 dL_law_194 dL_law_195 dL_law_196 dL_law_197 ?_
  refine la_calli [.int (laX g i 1), .int (laX g i 2), .int (laX g i 3), .int (laX g i 4), .int (laX g i 5)] (c_X11_feed (laX g i 1) (laX g i 2) (laX g i 3) (laX g i 4) (laX g i 5) h e1) cv_RL_13 (wl_0 h) rfl rfl rfl (Nat.le_of_ble_eq_true rfl) dL_law_198 (by omega) (by omega) ?_
  refine qs_aload_n 1 dL_law_201 rfl rfl ?_
  refine la_arg (k := 1) rfl (by omega) (by omega) dL_law_202 dL_law_203 dL_law_204 dL_law_205 dL_law_206 ?_
  refine la_arg (k := 2) rfl (by omega) (by omega) dL_law_207 dL_law_208 dL_law_209 dL_law_210 dL_law_211 ?_
  refine la_arg (k := 3) rfl (by omega) (by omega) dL_law_212 dL_law_213 dL_law_214 dL_law_215 dL_law_216 ?_
  refine la_arg (k := 4) rfl (by omega) (by omega) dL_law_217 dL_law_218 dL_law_219 dL_law_220 dL_law_221 ?_
  refine la_arg (k := 5) rfl (by omega) (by omega) dL_law_222 dL_law_223 dL_law_224 dL_law_225 dL_law_226 ?_
  refine la_calli [.int (laX g i 1), .int (laX g i 2), .int (laX g i 3), .int (laX g i 4), .int (laX g i 5)] (c_X12_feed (laX g i 1) (laX g i 2) (laX g i 3) (laX g i 4) (laX g i 5) h1 e2) cv_RL_17 (wl_119 h1) rfl rfl rfl (Nat.le_of_ble_eq_true rfl) dL_law_227 (by omega) (by omega) ?_
  exact qs_icmp_eq 1197 dL_law_230 rfl (fun _ => qs_widen (by omega) (by omega) (K _ iv2)) (fun c => absurd e3 c)
theorem la_1 {l : Launch} {g : qa_G} {v i cells slots : Nat} {h : qa_M} (iv : Inv v h) (hv : v < 1000) (hi : i + 6 ≤ g.2.2.2.2.2.2.1) (hL : g.2.2.2.2.2.2.1 ≤ 3072) (hc : cells + 1 ≤ 600000) (hs : slots + 9216 ≤ 7302250) (K : ∀ h2, Inv (v + 1) h2 → LW l g (cells + 1) (slots + 9216) 1197 (laV g i) [] (qO h2) h2) : LW l g cells slots 235 (laV g i) [] (qO h) h := by
  obtain ⟨⟨r1, h1⟩, e1, ⟨r2, h2⟩, e2, e3, iv2⟩ := J_end (x := laX g i 1) iv
  dsimp only at e2 e3 iv2
  refine qs_aload_n 2 dL_law_235 rfl rfl ?_
  refine la_arg (k := 1) rfl (by omega) (by omega) dL_law_236 dL_law_237 dL_law_238 dL_law_239 dL_law_240 ?_
  refine la_calli [.int (laX g i 1)] (c_X11_end (laX g i 1) h e1) cv_RL_18 (wl_0 h) rfl rfl rfl (Nat.le_of_ble_eq_true rfl) dL_law_241 (by omega) (by omega) ?_
  refine qs_aload_n 1 dL_law_244 rfl rfl ?_
  refine la_arg (k := 1) rfl (by omega) (by omega) dL_law_245 dL_law_246 dL_law_247 dL_law_248 dL_law_249 ?_
  refine la_calli [.int (laX g i 1)] (c_X12_end (laX g i 1) h1 e2) cv_RL_22 (wl_119 h1) rfl rfl rfl (Nat.le_of_ble_eq_true rfl) dL_law_250 (by omega) (by omega) ?_
  exact qs_icmp_eq 1197 dL_law_253 rfl (fun _ => qs_widen (by omega) (by omega) (K _ iv2)) (fun c => absurd e3 c)
theorem la_2 {l : Launch} {g : qa_G} {v i cells slots : Nat} {h : qa_M} (iv : Inv v h) (hv : v < 1000) (hi : i + 6 ≤ g.2.2.2.2.2.2.1) (hL : g.2.2.2.2.2.2.1 ≤ 3072) (hc : cells + 1 ≤ 600000) (hs : slots + 9216 ≤ 7302250) (K : ∀ h2, Inv (v + 1) h2 → LW l g (cells + 1) (slots + 9216) 1197 (laV g i) [] (qO h2) h2) : LW l g cells slots 258 (laV g i) [] (qO h) h := by
  obtain ⟨⟨r1, h1⟩, e1, ⟨r2, h2⟩, e2, e3, iv2⟩ := J_land  iv (by omega)
  dsimp only at e2 e3 iv2
  refine qs_aload_n 2 dL_law_258 rfl rfl ?_
  refine la_calli [] (c_X11_land  h e1) cv_RL_23 (wl_0 h) rfl rfl rfl (Nat.le_of_ble_eq_true rfl) dL_law_259 (by omega) (by omega) ?_
  refine qs_aload_n 1 dL_law_262 rfl rfl ?_
  refine la_calli [] (c_X12_land  h1 e2) cv_RL_27 (wl_119 h1) rfl rfl rfl (Nat.le_of_ble_eq_true rfl) dL_law_263 (by omega) (by omega) ?_
  exact qs_icmp_eq 1197 dL_law_266 rfl (fun _ => qs_widen (by omega) (by omega) (K _ iv2)) (fun c => absurd e3 c)
theorem la_3 {l : Launch} {g : qa_G} {v i cells slots : Nat} {h : qa_M} (iv : Inv v h) (hv : v < 1000) (hi : i + 6 ≤ g.2.2.2.2.2.2.1) (hL : g.2.2.2.2.2.2.1 ≤ 3072) (hc : cells + 1 ≤ 600000) (hs : slots + 9216 ≤ 7302250) (K : ∀ h2, Inv (v + 1) h2 → LW l g (cells + 1) (slots + 9216) 1197 (laV g i) [] (qO h2) h2) : LW l g cells slots 271 (laV g i) [] (qO h) h := by
  obtain ⟨⟨r1, h1⟩, e1, ⟨r2, h2⟩, e2, e3, iv2⟩ := J_law  iv
  dsimp only at e2 e3 iv2
  refine qs_aload_n 2 dL_law_271 rfl rfl ?_
  refine la_calli [] (c_X11_law  h e1) cv_RL_28 (wl_0 h) rfl rfl rfl (Nat.le_of_ble_eq_true rfl) dL_law_272 (by omega) (by omega) ?_
  refine qs_aload_n 1 dL_law_275 rfl rfl ?_
  refine la_calli [] (c_X12_law  h1 e2) cv_RL_31 (wl_119 h1) rfl rfl rfl (Nat.le_of_ble_eq_true rfl) dL_law_276 (by omega) (by omega) ?_
  exact qs_icmp_eq 1197 dL_law_279 rfl (fun _ => qs_widen (by omega) (by omega) (K _ iv2)) (fun c => absurd e3 c)
theorem la_4 {l : Launch} {g : qa_G} {v i cells slots : Nat} {h : qa_M} (iv : Inv v h) (hv : v < 1000) (hi : i + 6 ≤ g.2.2.2.2.2.2.1) (hL : g.2.2.2.2.2.2.1 ≤ 3072) (hc : cells + 1 ≤ 600000) (hs : slots + 9216 ≤ 7302250) (K : ∀ h2, Inv (v + 1) h2 → LW l g (cells + 1) (slots + 9216) 1197 (laV g i) [] (qO h2) h2) : LW l g cells slots 284 (laV g i) [] (qO h) h := by
  obtain ⟨⟨r1, h1⟩, e1, ⟨r2, h2⟩, e2, e3, iv2⟩ := J_stands (x := laX g i 1) iv (by omega)
  dsimp only at e2 e3 iv2
  refine qs_aload_n 2 dL_law_284 rfl rfl ?_
  refine la_arg (k := 1) rfl (by omega) (by omega) dL_law_285 dL_law_286 dL_law_287 dL_law_288 dL_law_289 ?_
  refine la_calli [.int (laX g i 1)] (c_X11_stands (laX g i 1) h e1) cv_RL_32 (wl_0 h) rfl rfl rfl (Nat.le_of_ble_eq_true rfl) dL_law_290 (by omega) (by omega) ?_
  refine qs_aload_n 1 dL_law_293 rfl rfl ?_
  refine la_arg (k := 1) rfl (by omega) (by omega) dL_law_294 dL_law_295 dL_law_296 dL_law_297 dL_law_298 ?_
  refine la_calli [.int (laX g i 1)] (c_X12_stands (laX g i 1) h1 e2) cv_RL_35 (wl_119 h1) rfl rfl rfl (Nat.le_of_ble_eq_true rfl) dL_law_299 (by omega) (by omega) ?_
  exact qs_icmp_eq 1197 dL_law_302 rfl (fun _ => qs_widen (by omega) (by omega) (K _ iv2)) (fun c => absurd e3 c)
theorem la_5 {l : Launch} {g : qa_G} {v i cells slots : Nat} {h : qa_M} (iv : Inv v h) (hv : v < 1000) (hi : i + 6 ≤ g.2.2.2.2.2.2.1) (hL : g.2.2.2.2.2.2.1 ≤ 3072) (hc : cells + 1 ≤ 600000) (hs : slots + 9216 ≤ 7302250) (K : ∀ h2, Inv (v + 1) h2 → LW l g (cells + 1) (slots + 9216) 1197 (laV g i) [] (qO h2) h2) : LW l g cells slots 307 (laV g i) [] (qO h) h := by
  obtain ⟨⟨r1, h1⟩, e1, ⟨r2, h2⟩, e2, e3, iv2⟩ := J_note (x1 := laX g i 1) (x2 := laX g i 2) (x3 := laX g i 3) (x4 := laX g i 4) (x5 := laX g i 5) iv (by omega)
  dsimp only at e2 e3 iv2
  refine qs_aload_n 2 dL_law_307 rfl rfl ?_
  refine la_arg (k := 1) rfl (by omega) (by omega) dL_law_308 dL_law_309 dL_law_310 dL_law_311 dL_law_312 ?_
  refine la_arg (k := 2) rfl (by omega) (by omega) dL_law_313 dL_law_314 dL_law_315 dL_law_316 dL_law_317 ?_
  refine la_arg (k := 3) rfl (by omega) (by omega) dL_law_318 dL_law_319 dL_law_320 dL_law_321 dL_law_322 ?_
  refine la_arg (k := 4) rfl (by omega) (by omega) dL_law_323 dL_law_324 dL_law_325 dL_law_326 dL_law_327 ?_
  refine la_arg (k := 5) rfl (by omega) (by omega) dL_law_328 dL_law_329 dL_law_330 dL_law_331 dL_law_332 ?_
  refine la_calli [.int (laX g i 1), .int (laX g i 2), .int (laX g i 3), .int (laX g i 4), .int (laX g i 5)] (c_X11_note (laX g i 1) (laX g i 2) (laX g i 3) (laX g i 4) (laX g i 5) h e1) cv_RL_36 (wl_0 h) rfl rfl rfl (Nat.le_of_ble_eq_true rfl) dL_law_333 (by omega) (by omega) ?_
  refine qs_aload_n 1 dL_law_336 rfl rfl ?_
  refine la_arg (k := 1) rfl (by omega) (by omega) dL_law_337 dL_law_338 dL_law_339 dL_law_340 dL_law_341 ?_
  refine la_arg (k := 2) rfl (by omega) (by omega) dL_law_342 dL_law_343 dL_law_344 dL_law_345 dL_law_346 ?_
  refine la_arg (k := 3) rfl (by omega) (by omega) dL_law_347 dL_law_348 dL_law_349 dL_law_350 dL_law_351 ?_
  refine la_arg (k := 4) rfl (by omega) (by omega) dL_law_352 dL_law_353 dL_law_354 dL_law_355 dL_law_356 ?_
  refine la_arg (k := 5) rfl (by omega) (by omega) dL_law_357 dL_law_358 dL_law_359 dL_law_360 dL_law_361 ?_
  refine la_calli [.int (laX g i 1), .int (laX g i 2), .int (laX g i 3), .int (laX g i 4), .int (laX g i 5)] (c_X12_note (laX g i 1) (laX g i 2) (laX g i 3) (laX g i 4) (laX g i 5) h1 e2) cv_RL_39 (wl_119 h1) rfl rfl rfl (Nat.le_of_ble_eq_true rfl) dL_law_362 (by omega) (by omega) ?_
  exact qs_icmp_eq 1197 dL_law_365 rfl (fun _ => qs_widen (by omega) (by omega) (K _ iv2)) (fun c => absurd e3 c)
theorem la_6 {l : Launch} {g : qa_G} {v i cells slots : Nat} {h : qa_M} (iv : Inv v h) (hv : v < 1000) (hi : i + 6 ≤ g.2.2.2.2.2.2.1) (hL : g.2.2.2.2.2.2.1 ≤ 3072) (hc : cells + 1 ≤ 600000) (hs : slots + 9216 ≤ 7302250) (K : ∀ h2, Inv (v + 1) h2 → LW l g (cells + 1) (slots + 9216) 1197 (laV g i) [] (qO h2) h2) : LW l g cells slots 370 (laV g i) [] (qO h) h := by
  obtain ⟨⟨r1, h1⟩, e1, ⟨r2, h2⟩, e2, e3, iv2⟩ := J_square (x1 := laX g i 1) (x2 := laX g i 2) (x3 := laX g i 3) iv (by omega)
  dsimp only at e2 e3 iv2
  refine qs_aload_n 2 dL_law_370 rfl rfl ?_
  refine la_arg (k := 1) rfl (by omega) (by omega) dL_law_371 dL_law_372 dL_law_373 dL_law_374 dL_law_375 ?_
  refine la_arg (k := 2) rfl (by omega) (by omega) dL_law_376 dL_law_377 dL_law_378 dL_law_379 dL_law_380 ?_
  refine la_arg (k := 3) rfl (by omega) (by omega) dL_law_381 dL_law_382 dL_law_383 dL_law_384 dL_law_385 ?_
  refine la_calli [.int (laX g i 1), .int (laX g i 2), .int (laX g i 3)] (c_X11_square (laX g i 1) (laX g i 2) (laX g i 3) h e1) cv_RL_40 (wl_0 h) rfl rfl rfl (Nat.le_of_ble_eq_true rfl) dL_law_386 (by omega) (by omega) ?_
  refine qs_aload_n 1 dL_law_389 rfl rfl ?_
  refine la_arg (k := 1) rfl (by omega) (by omega) dL_law_390 dL_law_391 dL_law_392 dL_law_393 dL_law_394 ?_
  refine la_arg (k := 2) rfl (by omega) (by omega) dL_law_395 dL_law_396 dL_law_397 dL_law_398 dL_law_399 ?_
  refine la_arg (k := 3) rfl (by omega) (by omega) dL_law_400 dL_law_401 dL_law_402 dL_law_403 dL_law_404 ?_
  refine la_calli [.int (laX g i 1), .int (laX g i 2), .int (laX g i 3)] (c_X12_square (laX g i 1) (laX g i 2) (laX g i 3) h1 e2) cv_RL_44 (wl_119 h1) rfl rfl rfl (Nat.le_of_ble_eq_true rfl) dL_law_405 (by omega) (by omega) ?_
  exact qs_icmp_eq 1197 dL_law_408 rfl (fun _ => qs_widen (by omega) (by omega) (K _ iv2)) (fun c => absurd e3 c)
theorem la_7 {l : Launch} {g : qa_G} {v i cells slots : Nat} {h : qa_M} (iv : Inv v h) (hv : v < 1000) (hi : i + 6 ≤ g.2.2.2.2.2.2.1) (hL : g.2.2.2.2.2.2.1 ≤ 3072) (hc : cells + 1 ≤ 600000) (hs : slots + 9216 ≤ 7302250) (K : ∀ h2, Inv (v + 1) h2 → LW l g (cells + 1) (slots + 9216) 1197 (laV g i) [] (qO h2) h2) : LW l g cells slots 413 (laV g i) [] (qO h) h := by
  obtain ⟨⟨r1, h1⟩, e1, ⟨r2, h2⟩, e2, e3, iv2⟩ := J_sees (x := laX g i 1) iv
  dsimp only at e2 e3 iv2
  refine qs_aload_n 2 dL_law_413 rfl rfl ?_
  refine la_arg (k := 1) rfl (by omega) (by omega) dL_law_414 dL_law_415 dL_law_416 dL_law_417 dL_law_418 ?_
  refine la_calll [.int (laX g i 1)] (c_X11_sees (laX g i 1) h e1) cv_RL_45 (wl_0 h) rfl rfl rfl (Nat.le_of_ble_eq_true rfl) dL_law_419 (by omega) (by omega) ?_
  refine qs_aload_n 1 dL_law_422 rfl rfl ?_
  refine la_arg (k := 1) rfl (by omega) (by omega) dL_law_423 dL_law_424 dL_law_425 dL_law_426 dL_law_427 ?_
  refine la_calll [.int (laX g i 1)] (c_X12_sees (laX g i 1) h1 e2) cv_RL_49 (wl_119 h1) rfl rfl rfl (Nat.le_of_ble_eq_true rfl) dL_law_428 (by omega) (by omega) ?_
  refine qs_lcmp dL_law_431 ?_
  exact qs_if_eq 1197 dL_law_432 rfl (fun _ => qs_widen (by omega) (by omega) (K _ iv2)) (fun c => absurd (by rw [e3]; exact la_cmp _) c)
theorem la_8 {l : Launch} {g : qa_G} {v i cells slots : Nat} {h : qa_M} (iv : Inv v h) (hv : v < 1000) (hi : i + 6 ≤ g.2.2.2.2.2.2.1) (hL : g.2.2.2.2.2.2.1 ≤ 3072) (hc : cells + 1 ≤ 600000) (hs : slots + 9216 ≤ 7302250) (K : ∀ h2, Inv (v + 1) h2 → LW l g (cells + 1) (slots + 9216) 1197 (laV g i) [] (qO h2) h2) : LW l g cells slots 437 (laV g i) [] (qO h) h := by
  obtain ⟨⟨r1, h1⟩, e1, ⟨r2, h2⟩, e2, e3, iv2⟩ := J_hidden  iv
  dsimp only at e2 e3 iv2
  refine qs_aload_n 2 dL_law_437 rfl rfl ?_
  refine la_calll [] (c_X11_hidden  h e1) cv_RL_50 (wl_0 h) rfl rfl rfl (Nat.le_of_ble_eq_true rfl) dL_law_438 (by omega) (by omega) ?_
  refine qs_aload_n 1 dL_law_441 rfl rfl ?_
  refine la_calll [] (c_X12_hidden  h1 e2) cv_RL_54 (wl_119 h1) rfl rfl rfl (Nat.le_of_ble_eq_true rfl) dL_law_442 (by omega) (by omega) ?_
  refine qs_lcmp dL_law_445 ?_
  exact qs_if_eq 1197 dL_law_446 rfl (fun _ => qs_widen (by omega) (by omega) (K _ iv2)) (fun c => absurd (by rw [e3]; exact la_cmp _) c)
theorem la_9 {l : Launch} {g : qa_G} {v i cells slots : Nat} {h : qa_M} (iv : Inv v h) (hv : v < 1000) (hi : i + 6 ≤ g.2.2.2.2.2.2.1) (hL : g.2.2.2.2.2.2.1 ≤ 3072) (hc : cells + 1 ≤ 600000) (hs : slots + 9216 ≤ 7302250) (K : ∀ h2, Inv (v + 1) h2 → LW l g (cells + 1) (slots + 9216) 1197 (laV g i) [] (qO h2) h2) : LW l g cells slots 451 (laV g i) [] (qO h) h := by
  obtain ⟨⟨r1, h1⟩, e1, ⟨r2, h2⟩, e2, e3, iv2⟩ := J_notes (x := laX g i 1) (y := laX g i 2) iv
  dsimp only at e2 e3 iv2
  refine qs_aload_n 2 dL_law_451 rfl rfl ?_
  refine la_arg (k := 1) rfl (by omega) (by omega) dL_law_452 dL_law_453 dL_law_454 dL_law_455 dL_law_456 ?_
  refine la_arg (k := 2) rfl (by omega) (by omega) dL_law_457 dL_law_458 dL_law_459 dL_law_460 dL_law_461 ?_
  refine la_calli [.int (laX g i 1), .int (laX g i 2)] (c_X11_notes (laX g i 1) (laX g i 2) h e1) cv_RL_55 (wl_0 h) rfl rfl rfl (Nat.le_of_ble_eq_true rfl) dL_law_462 (by omega) (by omega) ?_
  refine qs_aload_n 1 dL_law_465 rfl rfl ?_
  refine la_arg (k := 1) rfl (by omega) (by omega) dL_law_466 dL_law_467 dL_law_468 dL_law_469 dL_law_470 ?_
  refine la_arg (k := 2) rfl (by omega) (by omega) dL_law_471 dL_law_472 dL_law_473 dL_law_474 dL_law_475 ?_
  refine la_calli [.int (laX g i 1), .int (laX g i 2)] (c_X12_notes (laX g i 1) (laX g i 2) h1 e2) cv_RL_59 (wl_119 h1) rfl rfl rfl (Nat.le_of_ble_eq_true rfl) dL_law_476 (by omega) (by omega) ?_
  exact qs_icmp_eq 1197 dL_law_479 rfl (fun _ => qs_widen (by omega) (by omega) (K _ iv2)) (fun c => absurd e3 c)
theorem la_10 {l : Launch} {g : qa_G} {v i cells slots : Nat} {h : qa_M} (iv : Inv v h) (hv : v < 1000) (hi : i + 6 ≤ g.2.2.2.2.2.2.1) (hL : g.2.2.2.2.2.2.1 ≤ 3072) (hc : cells + 1 ≤ 600000) (hs : slots + 9216 ≤ 7302250) (K : ∀ h2, Inv (v + 1) h2 → LW l g (cells + 1) (slots + 9216) 1197 (laV g i) [] (qO h2) h2) : LW l g cells slots 484 (laV g i) [] (qO h) h := by
  obtain ⟨⟨r1, h1⟩, e1, ⟨r2, h2⟩, e2, e3, iv2⟩ := J_layings (x1 := laX g i 1) iv (by omega)
  dsimp only at e2 e3 iv2
  refine qs_aload_n 2 dL_law_484 rfl rfl ?_
  refine la_arg (k := 1) rfl (by omega) (by omega) dL_law_485 dL_law_486 dL_law_487 dL_law_488 dL_law_489 ?_
  refine la_calli [.int (laX g i 1)] (c_X11_layings (laX g i 1) h e1) cv_RL_60 (wl_0 h) rfl rfl rfl (Nat.le_of_ble_eq_true rfl) dL_law_490 (by omega) (by omega) ?_
  refine qs_aload_n 1 dL_law_493 rfl rfl ?_
  refine la_arg (k := 1) rfl (by omega) (by omega) dL_law_494 dL_law_495 dL_law_496 dL_law_497 dL_law_498 ?_
  refine la_calli [.int (laX g i 1)] (c_X12_layings (laX g i 1) h1 e2) cv_RL_63 (wl_119 h1) rfl rfl rfl (Nat.le_of_ble_eq_true rfl) dL_law_499 (by omega) (by omega) ?_
  exact qs_icmp_eq 1197 dL_law_502 rfl (fun _ => qs_widen (by omega) (by omega) (K _ iv2)) (fun c => absurd e3 c)
theorem la_11 {l : Launch} {g : qa_G} {v i cells slots : Nat} {h : qa_M} (iv : Inv v h) (hv : v < 1000) (hi : i + 6 ≤ g.2.2.2.2.2.2.1) (hL : g.2.2.2.2.2.2.1 ≤ 3072) (hc : cells + 1 ≤ 600000) (hs : slots + 9216 ≤ 7302250) (K : ∀ h2, Inv (v + 1) h2 → LW l g (cells + 1) (slots + 9216) 1197 (laV g i) [] (qO h2) h2) : LW l g cells slots 507 (laV g i) [] (qO h) h := by
  obtain ⟨⟨r1, h1⟩, e1, ⟨r2, h2⟩, e2, e3, iv2⟩ := J_may (x1 := laX g i 1) (x2 := laX g i 2) (x3 := laX g i 3) (x4 := laX g i 4) iv (by omega)
  dsimp only at e2 e3 iv2
  refine qs_aload_n 2 dL_law_507 rfl rfl ?_
  refine la_arg (k := 1) rfl (by omega) (by omega) dL_law_508 dL_law_509 dL_law_510 dL_law_511 dL_law_512 ?_
  refine la_arg (k := 2) rfl (by omega) (by omega) dL_law_513 dL_law_514 dL_law_515 dL_law_516 dL_law_517 ?_
  refine la_arg (k := 3) rfl (by omega) (by omega) dL_law_518 dL_law_519 dL_law_520 dL_law_521 dL_law_522 ?_
  refine la_arg (k := 4) rfl (by omega) (by omega) dL_law_523 dL_law_524 dL_law_525 dL_law_526 dL_law_527 ?_
  refine la_calli [.int (laX g i 1), .int (laX g i 2), .int (laX g i 3), .int (laX g i 4)] (c_X11_may (laX g i 1) (laX g i 2) (laX g i 3) (laX g i 4) h e1) cv_RL_64 (wl_0 h) rfl rfl rfl (Nat.le_of_ble_eq_true rfl) dL_law_528 (by omega) (by omega) ?_
  refine qs_aload_n 1 dL_law_531 rfl rfl ?_
  refine la_arg (k := 1) rfl (by omega) (by omega) dL_law_532 dL_law_533 dL_law_534 dL_law_535 dL_law_536 ?_
  refine la_arg (k := 2) rfl (by omega) (by omega) dL_law_537 dL_law_538 dL_law_539 dL_law_540 dL_law_541 ?_
  refine la_arg (k := 3) rfl (by omega) (by omega) dL_law_542 dL_law_543 dL_law_544 dL_law_545 dL_law_546 ?_
  refine la_arg (k := 4) rfl (by omega) (by omega) dL_law_547 dL_law_548 dL_law_549 dL_law_550 dL_law_551 ?_
  refine la_calli [.int (laX g i 1), .int (laX g i 2), .int (laX g i 3), .int (laX g i 4)] (c_X12_may (laX g i 1) (laX g i 2) (laX g i 3) (laX g i 4) h1 e2) cv_RL_68 (wl_119 h1) rfl rfl rfl (Nat.le_of_ble_eq_true rfl) dL_law_552 (by omega) (by omega) ?_
  exact qs_icmp_eq 1197 dL_law_555 rfl (fun _ => qs_widen (by omega) (by omega) (K _ iv2)) (fun c => absurd e3 c)
theorem la_12 {l : Launch} {g : qa_G} {v i cells slots : Nat} {h : qa_M} (iv : Inv v h) (hv : v < 1000) (hi : i + 6 ≤ g.2.2.2.2.2.2.1) (hL : g.2.2.2.2.2.2.1 ≤ 3072) (hc : cells + 1 ≤ 600000) (hs : slots + 9216 ≤ 7302250) (K : ∀ h2, Inv (v + 1) h2 → LW l g (cells + 1) (slots + 9216) 1197 (laV g i) [] (qO h2) h2) : LW l g cells slots 560 (laV g i) [] (qO h) h := by
  obtain ⟨⟨r1, h1⟩, e1, ⟨r2, h2⟩, e2, e3, iv2⟩ := J_odds (x1 := laX g i 1) (x2 := laX g i 2) (x3 := laX g i 3) (x4 := laX g i 4) (x5 := laX g i 5) iv (by omega)
  dsimp only at e2 e3 iv2
  refine qs_aload_n 2 dL_law_560 rfl rfl ?_
  refine la_arg (k := 1) rfl (by omega) (by omega) dL_law_561 dL_law_562 dL_law_563 dL_law_564 dL_law_565 ?_
  refine la_arg (k := 2) rfl (by omega) (by omega) dL_law_566 dL_law_567 dL_law_568 dL_law_569 dL_law_570 ?_
  refine la_arg (k := 3) rfl (by omega) (by omega) dL_law_571 dL_law_572 dL_law_573 dL_law_574 dL_law_575 ?_
  refine la_arg (k := 4) rfl (by omega) (by omega) dL_law_576 dL_law_577 dL_law_578 dL_law_579 dL_law_580 ?_
  refine la_arg (k := 5) rfl (by omega) (by omega) dL_law_581 dL_law_582 dL_law_583 dL_law_584 dL_law_585 ?_
  refine la_calli [.int (laX g i 1), .int (laX g i 2), .int (laX g i 3), .int (laX g i 4), .int (laX g i 5)] (c_X11_odds (laX g i 1) (laX g i 2) (laX g i 3) (laX g i 4) (laX g i 5) h e1) cv_RL_69 (wl_0 h) rfl rfl rfl (Nat.le_of_ble_eq_true rfl) dL_law_586 (by omega) (by omega) ?_
  refine qs_aload_n 1 dL_law_589 rfl rfl ?_
  refine la_arg (k := 1) rfl (by omega) (by omega) dL_law_590 dL_law_591 dL_law_592 dL_law_593 dL_law_594 ?_
  refine la_arg (k := 2) rfl (by omega) (by omega) dL_law_595 dL_law_596 dL_law_597 dL_law_598 dL_law_599 ?_
  refine la_arg (k := 3) rfl (by omega) (by omega) dL_law_600 dL_law_601 dL_law_602 dL_law_603 dL_law_604 ?_
  refine la_arg (k := 4) rfl (by omega) (by omega) dL_law_605 dL_law_606 dL_law_607 dL_law_608 dL_law_609 ?_
  refine la_arg (k := 5) rfl (by omega) (by omega) dL_law_610 dL_law_611 dL_law_612 dL_law_613 dL_law_614 ?_
  refine la_calli [.int (laX g i 1), .int (laX g i 2), .int (laX g i 3), .int (laX g i 4), .int (laX g i 5)] (c_X12_odds (laX g i 1) (laX g i 2) (laX g i 3) (laX g i 4) (laX g i 5) h1 e2) cv_RL_72 (wl_119 h1) rfl rfl rfl (Nat.le_of_ble_eq_true rfl) dL_law_615 (by omega) (by omega) ?_
  exact qs_icmp_eq 1197 dL_law_618 rfl (fun _ => qs_widen (by omega) (by omega) (K _ iv2)) (fun c => absurd e3 c)
theorem la_13 {l : Launch} {g : qa_G} {v i cells slots : Nat} {h : qa_M} (iv : Inv v h) (hv : v < 1000) (hi : i + 6 ≤ g.2.2.2.2.2.2.1) (hL : g.2.2.2.2.2.2.1 ≤ 3072) (hc : cells + 1 ≤ 600000) (hs : slots + 9216 ≤ 7302250) (K : ∀ h2, Inv (v + 1) h2 → LW l g (cells + 1) (slots + 9216) 1197 (laV g i) [] (qO h2) h2) : LW l g cells slots 623 (laV g i) [] (qO h) h := by
  obtain ⟨⟨r1, h1⟩, e1, ⟨r2, h2⟩, e2, e3, iv2⟩ := J_laying (x1 := laX g i 1) (x2 := laX g i 2) (x3 := laX g i 3) iv (by omega)
  dsimp only at e2 e3 iv2
  refine qs_aload_n 2 dL_law_623 rfl rfl ?_
  refine la_arg (k := 1) rfl (by omega) (by omega) dL_law_624 dL_law_625 dL_law_626 dL_law_627 dL_law_628 ?_
  refine la_arg (k := 2) rfl (by omega) (by omega) dL_law_629 dL_law_630 dL_law_631 dL_law_632 dL_law_633 ?_
  refine la_arg (k := 3) rfl (by omega) (by omega) dL_law_634 dL_law_635 dL_law_636 dL_law_637 dL_law_638 ?_
  refine la_calli [.int (laX g i 1), .int (laX g i 2), .int (laX g i 3)] (c_X11_laying (laX g i 1) (laX g i 2) (laX g i 3) h e1) cv_RL_73 (wl_0 h) rfl rfl rfl (Nat.le_of_ble_eq_true rfl) dL_law_639 (by omega) (by omega) ?_
  refine qs_aload_n 1 dL_law_642 rfl rfl ?_
  refine la_arg (k := 1) rfl (by omega) (by omega) dL_law_643 dL_law_644 dL_law_645 dL_law_646 dL_law_647 ?_
  refine la_arg (k := 2) rfl (by omega) (by omega) dL_law_648 dL_law_649 dL_law_650 dL_law_651 dL_law_652 ?_
  refine la_arg (k := 3) rfl (by omega) (by omega) dL_law_653 dL_law_654 dL_law_655 dL_law_656 dL_law_657 ?_
  refine la_calli [.int (laX g i 1), .int (laX g i 2), .int (laX g i 3)] (c_X12_laying (laX g i 1) (laX g i 2) (laX g i 3) h1 e2) cv_RL_76 (wl_119 h1) rfl rfl rfl (Nat.le_of_ble_eq_true rfl) dL_law_658 (by omega) (by omega) ?_
  exact qs_icmp_eq 1197 dL_law_661 rfl (fun _ => qs_widen (by omega) (by omega) (K _ iv2)) (fun c => absurd e3 c)
theorem la_14 {l : Launch} {g : qa_G} {v i cells slots : Nat} {h : qa_M} (iv : Inv v h) (hv : v < 1000) (hi : i + 6 ≤ g.2.2.2.2.2.2.1) (hL : g.2.2.2.2.2.2.1 ≤ 3072) (hc : cells + 1 ≤ 600000) (hs : slots + 9216 ≤ 7302250) (K : ∀ h2, Inv (v + 1) h2 → LW l g (cells + 1) (slots + 9216) 1197 (laV g i) [] (qO h2) h2) : LW l g cells slots 666 (laV g i) [] (qO h) h := by
  obtain ⟨⟨r1, h1⟩, e1, ⟨r2, h2⟩, e2, e3, iv2⟩ := J_rows (x1 := laX g i 1) (x2 := laX g i 2) (x3 := laX g i 3) (x4 := laX g i 4) iv (by omega)
  dsimp only at e2 e3 iv2
  refine qs_aload_n 2 dL_law_666 rfl rfl ?_
  refine la_arg (k := 1) rfl (by omega) (by omega) dL_law_667 dL_law_668 dL_law_669 dL_law_670 dL_law_671 ?_
  refine la_arg (k := 2) rfl (by omega) (by omega) dL_law_672 dL_law_673 dL_law_674 dL_law_675 dL_law_676 ?_
  refine la_arg (k := 3) rfl (by omega) (by omega) dL_law_677 dL_law_678 dL_law_679 dL_law_680 dL_law_681 ?_
  refine la_arg (k := 4) rfl (by omega) (by omega) dL_law_682 dL_law_683 dL_law_684 dL_law_685 dL_law_686 ?_
  refine la_calli [.int (laX g i 1), .int (laX g i 2), .int (laX g i 3), .int (laX g i 4)] (c_X11_rows (laX g i 1) (laX g i 2) (laX g i 3) (laX g i 4) h e1) cv_RL_77 (wl_0 h) rfl rfl rfl (Nat.le_of_ble_eq_true rfl) dL_law_687 (by omega) (by omega) ?_
  refine qs_aload_n 1 dL_law_690 rfl rfl ?_
  refine la_arg (k := 1) rfl (by omega) (by omega) dL_law_691 dL_law_692 dL_law_693 dL_law_694 dL_law_695 ?_
  refine la_arg (k := 2) rfl (by omega) (by omega) dL_law_696 dL_law_697 dL_law_698 dL_law_699 dL_law_700 ?_
  refine la_arg (k := 3) rfl (by omega) (by omega) dL_law_701 dL_law_702 dL_law_703 dL_law_704 dL_law_705 ?_
  refine la_arg (k := 4) rfl (by omega) (by omega) dL_law_706 dL_law_707 dL_law_708 dL_law_709 dL_law_710 ?_
  refine la_calli [.int (laX g i 1), .int (laX g i 2), .int (laX g i 3), .int (laX g i 4)] (c_X12_rows (laX g i 1) (laX g i 2) (laX g i 3) (laX g i 4) h1 e2) cv_RL_80 (wl_119 h1) rfl rfl rfl (Nat.le_of_ble_eq_true rfl) dL_law_711 (by omega) (by omega) ?_
  exact qs_icmp_eq 1197 dL_law_714 rfl (fun _ => qs_widen (by omega) (by omega) (K _ iv2)) (fun c => absurd e3 c)
theorem la_15 {l : Launch} {g : qa_G} {v i cells slots : Nat} {h : qa_M} (iv : Inv v h) (hv : v < 1000) (hi : i + 6 ≤ g.2.2.2.2.2.2.1) (hL : g.2.2.2.2.2.2.1 ≤ 3072) (hc : cells + 1 ≤ 600000) (hs : slots + 9216 ≤ 7302250) (K : ∀ h2, Inv (v + 1) h2 → LW l g (cells + 1) (slots + 9216) 1197 (laV g i) [] (qO h2) h2) : LW l g cells slots 719 (laV g i) [] (qO h) h := by
  obtain ⟨⟨r1, h1⟩, e1, ⟨r2, h2⟩, e2, e3, iv2⟩ := J_news (x1 := laX g i 1) (x2 := laX g i 2) iv (by omega)
  dsimp only at e2 e3 iv2
  refine qs_aload_n 2 dL_law_719 rfl rfl ?_
  refine la_arg (k := 1) rfl (by omega) (by omega) dL_law_720 dL_law_721 dL_law_722 dL_law_723 dL_law_724 ?_
  refine la_arg (k := 2) rfl (by omega) (by omega) dL_law_725 dL_law_726 dL_law_727 dL_law_728 dL_law_729 ?_
  refine la_calli [.int (laX g i 1), .int (laX g i 2)] (c_X11_news (laX g i 1) (laX g i 2) h e1) cv_RL_81 (wl_0 h) rfl rfl rfl (Nat.le_of_ble_eq_true rfl) dL_law_730 (by omega) (by omega) ?_
  refine qs_aload_n 1 dL_law_733 rfl rfl ?_
  refine la_arg (k := 1) rfl (by omega) (by omega) dL_law_734 dL_law_735 dL_law_736 dL_law_737 dL_law_738 ?_
  refine la_arg (k := 2) rfl (by omega) (by omega) dL_law_739 dL_law_740 dL_law_741 dL_law_742 dL_law_743 ?_
  refine la_calli [.int (laX g i 1), .int (laX g i 2)] (c_X12_news (laX g i 1) (laX g i 2) h1 e2) cv_RL_84 (wl_119 h1) rfl rfl rfl (Nat.le_of_ble_eq_true rfl) dL_law_744 (by omega) (by omega) ?_
  exact qs_icmp_eq 1197 dL_law_747 rfl (fun _ => qs_widen (by omega) (by omega) (K _ iv2)) (fun c => absurd e3 c)
theorem la_16 {l : Launch} {g : qa_G} {v i cells slots : Nat} {h : qa_M} (iv : Inv v h) (hv : v < 1000) (hi : i + 6 ≤ g.2.2.2.2.2.2.1) (hL : g.2.2.2.2.2.2.1 ≤ 3072) (hc : cells + 1 ≤ 600000) (hs : slots + 9216 ≤ 7302250) (K : ∀ h2, Inv (v + 1) h2 → LW l g (cells + 1) (slots + 9216) 1197 (laV g i) [] (qO h2) h2) : LW l g cells slots 752 (laV g i) [] (qO h) h := by
  obtain ⟨⟨r1, h1⟩, e1, ⟨r2, h2⟩, e2, e3, iv2⟩ := J_quarrel (x1 := laX g i 1) (x2 := laX g i 2) iv (by omega)
  dsimp only at e2 e3 iv2
  refine qs_aload_n 2 dL_law_752 rfl rfl ?_
  refine la_arg (k := 1) rfl (by omega) (by omega) dL_law_753 dL_law_754 dL_law_755 dL_law_756 dL_law_757 ?_
  refine la_arg (k := 2) rfl (by omega) (by omega) dL_law_758 dL_law_759 dL_law_760 dL_law_761 dL_law_762 ?_
  refine la_calli [.int (laX g i 1), .int (laX g i 2)] (c_X11_quarrel (laX g i 1) (laX g i 2) h e1) cv_RL_85 (wl_0 h) rfl rfl rfl (Nat.le_of_ble_eq_true rfl) dL_law_763 (by omega) (by omega) ?_
  refine qs_aload_n 1 dL_law_766 rfl rfl ?_
  refine la_arg (k := 1) rfl (by omega) (by omega) dL_law_767 dL_law_768 dL_law_769 dL_law_770 dL_law_771 ?_
  refine la_arg (k := 2) rfl (by omega) (by omega) dL_law_772 dL_law_773 dL_law_774 dL_law_775 dL_law_776 ?_
  refine la_calli [.int (laX g i 1), .int (laX g i 2)] (c_X12_quarrel (laX g i 1) (laX g i 2) h1 e2) cv_RL_88 (wl_119 h1) rfl rfl rfl (Nat.le_of_ble_eq_true rfl) dL_law_777 (by omega) (by omega) ?_
  exact qs_icmp_eq 1197 dL_law_780 rfl (fun _ => qs_widen (by omega) (by omega) (K _ iv2)) (fun c => absurd e3 c)
theorem la_17 {l : Launch} {g : qa_G} {v i cells slots : Nat} {h : qa_M} (iv : Inv v h) (hv : v < 1000) (hi : i + 6 ≤ g.2.2.2.2.2.2.1) (hL : g.2.2.2.2.2.2.1 ≤ 3072) (hc : cells + 1 ≤ 600000) (hs : slots + 9216 ≤ 7302250) (K : ∀ h2, Inv (v + 1) h2 → LW l g (cells + 1) (slots + 9216) 1197 (laV g i) [] (qO h2) h2) : LW l g cells slots 785 (laV g i) [] (qO h) h := by
  obtain ⟨⟨r1, h1⟩, e1, ⟨r2, h2⟩, e2, e3, iv2⟩ := J_least (x1 := laX g i 1) iv (by omega)
  dsimp only at e2 e3 iv2
  refine qs_aload_n 2 dL_law_785 rfl rfl ?_
  refine la_arg (k := 1) rfl (by omega) (by omega) dL_law_786 dL_law_787 dL_law_788 dL_law_789 dL_law_790 ?_
  refine la_calli [.int (laX g i 1)] (c_X11_least (laX g i 1) h e1) cv_RL_89 (wl_0 h) rfl rfl rfl (Nat.le_of_ble_eq_true rfl) dL_law_791 (by omega) (by omega) ?_
  refine qs_aload_n 1 dL_law_794 rfl rfl ?_
  refine la_arg (k := 1) rfl (by omega) (by omega) dL_law_795 dL_law_796 dL_law_797 dL_law_798 dL_law_799 ?_
  refine la_calli [.int (laX g i 1)] (c_X12_least (laX g i 1) h1 e2) cv_RL_92 (wl_119 h1) rfl rfl rfl (Nat.le_of_ble_eq_true rfl) dL_law_800 (by omega) (by omega) ?_
  exact qs_icmp_eq 1197 dL_law_803 rfl (fun _ => qs_widen (by omega) (by omega) (K _ iv2)) (fun c => absurd e3 c)
theorem la_18 {l : Launch} {g : qa_G} {v i cells slots : Nat} {h : qa_M} (iv : Inv v h) (hv : v < 1000) (hi : i + 6 ≤ g.2.2.2.2.2.2.1) (hL : g.2.2.2.2.2.2.1 ≤ 3072) (hc : cells + 1 ≤ 600000) (hs : slots + 9216 ≤ 7302250) (K : ∀ h2, Inv (v + 1) h2 → LW l g (cells + 1) (slots + 9216) 1197 (laV g i) [] (qO h2) h2) : LW l g cells slots 808 (laV g i) [] (qO h) h := by
  obtain ⟨⟨r1, h1⟩, e1, ⟨r2, h2⟩, e2, e3, iv2⟩ := J_careless (x1 := laX g i 1) iv (by omega)
  dsimp only at e2 e3 iv2
  refine qs_aload_n 2 dL_law_808 rfl rfl ?_
  refine la_arg (k := 1) rfl (by omega) (by omega) dL_law_809 dL_law_810 dL_law_811 dL_law_812 dL_law_813 ?_
  refine la_calli [.int (laX g i 1)] (c_X11_careless (laX g i 1) h e1) cv_RL_93 (wl_0 h) rfl rfl rfl (Nat.le_of_ble_eq_true rfl) dL_law_814 (by omega) (by omega) ?_
  refine qs_aload_n 1 dL_law_817 rfl rfl ?_
  refine la_arg (k := 1) rfl (by omega) (by omega) dL_law_818 dL_law_819 dL_law_820 dL_law_821 dL_law_822 ?_
  refine la_calli [.int (laX g i 1)] (c_X12_careless (laX g i 1) h1 e2) cv_RL_96 (wl_119 h1) rfl rfl rfl (Nat.le_of_ble_eq_true rfl) dL_law_823 (by omega) (by omega) ?_
  exact qs_icmp_eq 1197 dL_law_826 rfl (fun _ => qs_widen (by omega) (by omega) (K _ iv2)) (fun c => absurd e3 c)
theorem la_19 {l : Launch} {g : qa_G} {v i cells slots : Nat} {h : qa_M} (iv : Inv v h) (hv : v < 1000) (hi : i + 6 ≤ g.2.2.2.2.2.2.1) (hL : g.2.2.2.2.2.2.1 ≤ 3072) (hc : cells + 1 ≤ 600000) (hs : slots + 9216 ≤ 7302250) (K : ∀ h2, Inv (v + 1) h2 → LW l g (cells + 1) (slots + 9216) 1197 (laV g i) [] (qO h2) h2) : LW l g cells slots 831 (laV g i) [] (qO h) h := by
  obtain ⟨⟨r1, h1⟩, e1, ⟨r2, h2⟩, e2, e3, iv2⟩ := J_trust (x1 := laX g i 1) iv (by omega)
  dsimp only at e2 e3 iv2
  refine qs_aload_n 2 dL_law_831 rfl rfl ?_
  refine la_arg (k := 1) rfl (by omega) (by omega) dL_law_832 dL_law_833 dL_law_834 dL_law_835 dL_law_836 ?_
  refine la_calli [.int (laX g i 1)] (c_X11_trust (laX g i 1) h e1) cv_RL_97 (wl_0 h) rfl rfl rfl (Nat.le_of_ble_eq_true rfl) dL_law_837 (by omega) (by omega) ?_
  refine qs_aload_n 1 dL_law_840 rfl rfl ?_
  refine la_arg (k := 1) rfl (by omega) (by omega) dL_law_841 dL_law_842 dL_law_843 dL_law_844 dL_law_845 ?_
  refine la_calli [.int (laX g i 1)] (c_X12_trust (laX g i 1) h1 e2) cv_RL_100 (wl_119 h1) rfl rfl rfl (Nat.le_of_ble_eq_true rfl) dL_law_846 (by omega) (by omega) ?_
  exact qs_icmp_eq 1197 dL_law_849 rfl (fun _ => qs_widen (by omega) (by omega) (K _ iv2)) (fun c => absurd e3 c)
theorem la_20 {l : Launch} {g : qa_G} {v i cells slots : Nat} {h : qa_M} (iv : Inv v h) (hv : v < 1000) (hi : i + 6 ≤ g.2.2.2.2.2.2.1) (hL : g.2.2.2.2.2.2.1 ≤ 3072) (hc : cells + 1 ≤ 600000) (hs : slots + 9216 ≤ 7302250) (K : ∀ h2, Inv (v + 1) h2 → LW l g (cells + 1) (slots + 9216) 1197 (laV g i) [] (qO h2) h2) : LW l g cells slots 854 (laV g i) [] (qO h) h := by
  obtain ⟨⟨r1, h1⟩, e1, ⟨r2, h2⟩, e2, e3, iv2⟩ := J_worst (x1 := laX g i 1) (x2 := laX g i 2) iv (by omega)
  dsimp only at e2 e3 iv2
  refine qs_aload_n 2 dL_law_854 rfl rfl ?_
  refine la_arg (k := 1) rfl (by omega) (by omega) dL_law_855 dL_law_856 dL_law_857 dL_law_858 dL_law_859 ?_
  refine la_arg (k := 2) rfl (by omega) (by omega) dL_law_860 dL_law_861 dL_law_862 dL_law_863 dL_law_864 ?_
  refine la_calli [.int (laX g i 1), .int (laX g i 2)] (c_X11_worst (laX g i 1) (laX g i 2) h e1) cv_RL_101 (wl_0 h) rfl rfl rfl (Nat.le_of_ble_eq_true rfl) dL_law_865 (by omega) (by omega) ?_
  refine qs_aload_n 1 dL_law_868 rfl rfl ?_
  refine la_arg (k := 1) rfl (by omega) (by omega) dL_law_869 dL_law_870 dL_law_871 dL_law_872 dL_law_873 ?_
  refine la_arg (k := 2) rfl (by omega) (by omega) dL_law_874 dL_law_875 dL_law_876 dL_law_877 dL_law_878 ?_
  refine la_calli [.int (laX g i 1), .int (laX g i 2)] (c_X12_worst (laX g i 1) (laX g i 2) h1 e2) cv_RL_104 (wl_119 h1) rfl rfl rfl (Nat.le_of_ble_eq_true rfl) dL_law_879 (by omega) (by omega) ?_
  exact qs_icmp_eq 1197 dL_law_882 rfl (fun _ => qs_widen (by omega) (by omega) (K _ iv2)) (fun c => absurd e3 c)
theorem la_21 {l : Launch} {g : qa_G} {v i cells slots : Nat} {h : qa_M} (iv : Inv v h) (hv : v < 1000) (hi : i + 6 ≤ g.2.2.2.2.2.2.1) (hL : g.2.2.2.2.2.2.1 ≤ 3072) (hc : cells + 1 ≤ 600000) (hs : slots + 9216 ≤ 7302250) (K : ∀ h2, Inv (v + 1) h2 → LW l g (cells + 1) (slots + 9216) 1197 (laV g i) [] (qO h2) h2) : LW l g cells slots 887 (laV g i) [] (qO h) h := by
  obtain ⟨⟨r1, h1⟩, e1, ⟨r2, h2⟩, e2, e3, iv2⟩ := J_next (x1 := laX g i 1) (x2 := laX g i 2) iv (by omega)
  dsimp only at e2 e3 iv2
  refine qs_aload_n 2 dL_law_887 rfl rfl ?_
  refine la_arg (k := 1) rfl (by omega) (by omega) dL_law_888 dL_law_889 dL_law_890 dL_law_891 dL_law_892 ?_
  refine la_arg (k := 2) rfl (by omega) (by omega) dL_law_893 dL_law_894 dL_law_895 dL_law_896 dL_law_897 ?_
  refine la_calli [.int (laX g i 1), .int (laX g i 2)] (c_X11_next (laX g i 1) (laX g i 2) h e1) cv_RL_105 (wl_0 h) rfl rfl rfl (Nat.le_of_ble_eq_true rfl) dL_law_898 (by omega) (by omega) ?_
  refine qs_aload_n 1 dL_law_901 rfl rfl ?_
  refine la_arg (k := 1) rfl (by omega) (by omega) dL_law_902 dL_law_903 dL_law_904 dL_law_905 dL_law_906 ?_
  refine la_arg (k := 2) rfl (by omega) (by omega) dL_law_907 dL_law_908 dL_law_909 dL_law_910 dL_law_911 ?_
  refine la_calli [.int (laX g i 1), .int (laX g i 2)] (c_X12_next (laX g i 1) (laX g i 2) h1 e2) cv_RL_108 (wl_119 h1) rfl rfl rfl (Nat.le_of_ble_eq_true rfl) dL_law_912 (by omega) (by omega) ?_
  exact qs_icmp_eq 1197 dL_law_915 rfl (fun _ => qs_widen (by omega) (by omega) (K _ iv2)) (fun c => absurd e3 c)
theorem la_22 {l : Launch} {g : qa_G} {v i cells slots : Nat} {h : qa_M} (iv : Inv v h) (hv : v < 1000) (hi : i + 6 ≤ g.2.2.2.2.2.2.1) (hL : g.2.2.2.2.2.2.1 ≤ 3072) (hc : cells + 1 ≤ 600000) (hs : slots + 9216 ≤ 7302250) (K : ∀ h2, Inv (v + 1) h2 → LW l g (cells + 1) (slots + 9216) 1197 (laV g i) [] (qO h2) h2) : LW l g cells slots 920 (laV g i) [] (qO h) h := by
  obtain ⟨⟨r1, h1⟩, e1, ⟨r2, h2⟩, e2, e3, iv2⟩ := J_then (x1 := laX g i 1) (x2 := laX g i 2) (x3 := laX g i 3) (x4 := laX g i 4) iv (by omega)
  dsimp only at e2 e3 iv2
  refine qs_aload_n 2 dL_law_920 rfl rfl ?_
  refine la_arg (k := 1) rfl (by omega) (by omega) dL_law_921 dL_law_922 dL_law_923 dL_law_924 dL_law_925 ?_
  refine la_arg (k := 2) rfl (by omega) (by omega) dL_law_926 dL_law_927 dL_law_928 dL_law_929 dL_law_930 ?_
  refine la_arg (k := 3) rfl (by omega) (by omega) dL_law_931 dL_law_932 dL_law_933 dL_law_934 dL_law_935 ?_
  refine la_arg (k := 4) rfl (by omega) (by omega) dL_law_936 dL_law_937 dL_law_938 dL_law_939 dL_law_940 ?_
  refine la_calli [.int (laX g i 1), .int (laX g i 2), .int (laX g i 3), .int (laX g i 4)] (c_X11_then (laX g i 1) (laX g i 2) (laX g i 3) (laX g i 4) h e1) cv_RL_109 (wl_0 h) rfl rfl rfl (Nat.le_of_ble_eq_true rfl) dL_law_941 (by omega) (by omega) ?_
  refine qs_aload_n 1 dL_law_944 rfl rfl ?_
  refine la_arg (k := 1) rfl (by omega) (by omega) dL_law_945 dL_law_946 dL_law_947 dL_law_948 dL_law_949 ?_
  refine la_arg (k := 2) rfl (by omega) (by omega) dL_law_950 dL_law_951 dL_law_952 dL_law_953 dL_law_954 ?_
  refine la_arg (k := 3) rfl (by omega) (by omega) dL_law_955 dL_law_956 dL_law_957 dL_law_958 dL_law_959 ?_
  refine la_arg (k := 4) rfl (by omega) (by omega) dL_law_960 dL_law_961 dL_law_962 dL_law_963 dL_law_964 ?_
  refine la_calli [.int (laX g i 1), .int (laX g i 2), .int (laX g i 3), .int (laX g i 4)] (c_X12_then (laX g i 1) (laX g i 2) (laX g i 3) (laX g i 4) h1 e2) cv_RL_112 (wl_119 h1) rfl rfl rfl (Nat.le_of_ble_eq_true rfl) dL_law_965 (by omega) (by omega) ?_
  exact qs_icmp_eq 1197 dL_law_968 rfl (fun _ => qs_widen (by omega) (by omega) (K _ iv2)) (fun c => absurd e3 c)
theorem la_23 {l : Launch} {g : qa_G} {v i cells slots : Nat} {h : qa_M} (iv : Inv v h) (hv : v < 1000) (hi : i + 6 ≤ g.2.2.2.2.2.2.1) (hL : g.2.2.2.2.2.2.1 ≤ 3072) (hc : cells + 1 ≤ 600000) (hs : slots + 9216 ≤ 7302250) (K : ∀ h2, Inv (v + 1) h2 → LW l g (cells + 1) (slots + 9216) 1197 (laV g i) [] (qO h2) h2) : LW l g cells slots 973 (laV g i) [] (qO h) h := by
  obtain ⟨⟨r1, h1⟩, e1, ⟨r2, h2⟩, e2, e3, iv2⟩ := J_plan (x1 := laX g i 1) (x2 := laX g i 2) iv (by omega)
  dsimp only at e2 e3 iv2
  refine qs_aload_n 2 dL_law_973 rfl rfl ?_
  refine la_arg (k := 1) rfl (by omega) (by omega) dL_law_974 dL_law_975 dL_law_976 dL_law_977 dL_law_978 ?_
  refine la_arg (k := 2) rfl (by omega) (by omega) dL_law_979 dL_law_980 dL_law_981 dL_law_982 dL_law_983 ?_
  refine la_calli [.int (laX g i 1), .int (laX g i 2)] (c_X11_plan (laX g i 1) (laX g i 2) h e1) cv_RL_113 (wl_0 h) rfl rfl rfl (Nat.le_of_ble_eq_true rfl) dL_law_984 (by omega) (by omega) ?_
  refine qs_aload_n 1 dL_law_987 rfl rfl ?_
  refine la_arg (k := 1) rfl (by omega) (by omega) dL_law_988 dL_law_989 dL_law_990 dL_law_991 dL_law_992 ?_
  refine la_arg (k := 2) rfl (by omega) (by omega) dL_law_993 dL_law_994 dL_law_995 dL_law_996 dL_law_997 ?_
  refine la_calli [.int (laX g i 1), .int (laX g i 2)] (c_X12_plan (laX g i 1) (laX g i 2) h1 e2) cv_RL_116 (wl_119 h1) rfl rfl rfl (Nat.le_of_ble_eq_true rfl) dL_law_998 (by omega) (by omega) ?_
  exact qs_icmp_eq 1197 dL_law_1001 rfl (fun _ => qs_widen (by omega) (by omega) (K _ iv2)) (fun c => absurd e3 c)
theorem la_24 {l : Launch} {g : qa_G} {v i cells slots : Nat} {h : qa_M} (iv : Inv v h) (hv : v < 1000) (hi : i + 6 ≤ g.2.2.2.2.2.2.1) (hL : g.2.2.2.2.2.2.1 ≤ 3072) (hc : cells + 1 ≤ 600000) (hs : slots + 9216 ≤ 7302250) (K : ∀ h2, Inv (v + 1) h2 → LW l g (cells + 1) (slots + 9216) 1197 (laV g i) [] (qO h2) h2) : LW l g cells slots 1006 (laV g i) [] (qO h) h := by
  obtain ⟨⟨r1, h1⟩, e1, ⟨r2, h2⟩, e2, e3, iv2⟩ := J_fresh (x1 := laX g i 1) (x2 := laX g i 2) (x3 := laX g i 3) iv (by omega)
  dsimp only at e2 e3 iv2
  refine qs_aload_n 2 dL_law_1006 rfl rfl ?_
  refine la_arg (k := 1) rfl (by omega) (by omega) dL_law_1007 dL_law_1008 dL_law_1009 dL_law_1010 dL_law_1011 ?_
  refine la_arg (k := 2) rfl (by omega) (by omega) dL_law_1012 dL_law_1013 dL_law_1014 dL_law_1015 dL_law_1016 ?_
  refine la_arg (k := 3) rfl (by omega) (by omega) dL_law_1017 dL_law_1018 dL_law_1019 dL_law_1020 dL_law_1021 ?_
  refine la_calli [.int (laX g i 1), .int (laX g i 2), .int (laX g i 3)] (c_X11_fresh (laX g i 1) (laX g i 2) (laX g i 3) h e1) cv_RL_117 (wl_0 h) rfl rfl rfl (Nat.le_of_ble_eq_true rfl) dL_law_1022 (by omega) (by omega) ?_
  refine qs_aload_n 1 dL_law_1025 rfl rfl ?_
  refine la_arg (k := 1) rfl (by omega) (by omega) dL_law_1026 dL_law_1027 dL_law_1028 dL_law_1029 dL_law_1030 ?_
  refine la_arg (k := 2) rfl (by omega) (by omega) dL_law_1031 dL_law_1032 dL_law_1033 dL_law_1034 dL_law_1035 ?_
  refine la_arg (k := 3) rfl (by omega) (by omega) dL_law_1036 dL_law_1037 dL_law_1038 dL_law_1039 dL_law_1040 ?_
  refine la_calli [.int (laX g i 1), .int (laX g i 2), .int (laX g i 3)] (c_X12_fresh (laX g i 1) (laX g i 2) (laX g i 3) h1 e2) cv_RL_120 (wl_119 h1) rfl rfl rfl (Nat.le_of_ble_eq_true rfl) dL_law_1041 (by omega) (by omega) ?_
  exact qs_icmp_eq 1197 dL_law_1044 rfl (fun _ => qs_widen (by omega) (by omega) (K _ iv2)) (fun c => absurd e3 c)
theorem la_25 {l : Launch} {g : qa_G} {v i cells slots : Nat} {h : qa_M} (iv : Inv v h) (hv : v < 1000) (hi : i + 6 ≤ g.2.2.2.2.2.2.1) (hL : g.2.2.2.2.2.2.1 ≤ 3072) (hc : cells + 1 ≤ 600000) (hs : slots + 9216 ≤ 7302250) (K : ∀ h2, Inv (v + 1) h2 → LW l g (cells + 1) (slots + 9216) 1197 (laV g i) [] (qO h2) h2) : LW l g cells slots 1049 (laV g i) [] (qO h) h := by
  obtain ⟨⟨r1, h1⟩, e1, ⟨r2, h2⟩, e2, e3, iv2⟩ := J_walk (x := laX g i 1) (y := laX g i 2) iv
  dsimp only at e2 e3 iv2
  refine qs_aload_n 2 dL_law_1049 rfl rfl ?_
  refine la_arg (k := 1) rfl (by omega) (by omega) dL_law_1050 dL_law_1051 dL_law_1052 dL_law_1053 dL_law_1054 ?_
  refine la_arg (k := 2) rfl (by omega) (by omega) dL_law_1055 dL_law_1056 dL_law_1057 dL_law_1058 dL_law_1059 ?_
  refine la_calli [.int (laX g i 1), .int (laX g i 2)] (c_X11_walk (laX g i 1) (laX g i 2) h e1) cv_RL_121 (wl_0 h) rfl rfl rfl (Nat.le_of_ble_eq_true rfl) dL_law_1060 (by omega) (by omega) ?_
  refine qs_aload_n 1 dL_law_1063 rfl rfl ?_
  refine la_arg (k := 1) rfl (by omega) (by omega) dL_law_1064 dL_law_1065 dL_law_1066 dL_law_1067 dL_law_1068 ?_
  refine la_arg (k := 2) rfl (by omega) (by omega) dL_law_1069 dL_law_1070 dL_law_1071 dL_law_1072 dL_law_1073 ?_
  refine la_calli [.int (laX g i 1), .int (laX g i 2)] (c_X12_walk (laX g i 1) (laX g i 2) h1 e2) cv_RL_124 (wl_119 h1) rfl rfl rfl (Nat.le_of_ble_eq_true rfl) dL_law_1074 (by omega) (by omega) ?_
  exact qs_icmp_eq 1197 dL_law_1077 rfl (fun _ => qs_widen (by omega) (by omega) (K _ iv2)) (fun c => absurd e3 c)
theorem la_26 {l : Launch} {g : qa_G} {v i cells slots : Nat} {h : qa_M} (iv : Inv v h) (hv : v < 1000) (hi : i + 6 ≤ g.2.2.2.2.2.2.1) (hL : g.2.2.2.2.2.2.1 ≤ 3072) (hc : cells + 1 ≤ 600000) (hs : slots + 9216 ≤ 7302250) (K : ∀ h2, Inv (v + 1) h2 → LW l g (cells + 1) (slots + 9216) 1197 (laV g i) [] (qO h2) h2) : LW l g cells slots 1082 (laV g i) [] (qO h) h := by
  obtain ⟨⟨r1, h1⟩, e1, ⟨r2, h2⟩, e2, e3, iv2⟩ := J_seed (x := laX g i 1) iv
  dsimp only at e2 e3 iv2
  refine qs_aload_n 2 dL_law_1082 rfl rfl ?_
  refine la_arg (k := 1) rfl (by omega) (by omega) dL_law_1083 dL_law_1084 dL_law_1085 dL_law_1086 dL_law_1087 ?_
  refine la_calli [.int (laX g i 1)] (c_X11_seed (laX g i 1) h e1) cv_RL_125 (wl_0 h) rfl rfl rfl (Nat.le_of_ble_eq_true rfl) dL_law_1088 (by omega) (by omega) ?_
  refine qs_aload_n 1 dL_law_1091 rfl rfl ?_
  refine la_arg (k := 1) rfl (by omega) (by omega) dL_law_1092 dL_law_1093 dL_law_1094 dL_law_1095 dL_law_1096 ?_
  refine la_calli [.int (laX g i 1)] (c_X12_seed (laX g i 1) h1 e2) cv_RL_128 (wl_119 h1) rfl rfl rfl (Nat.le_of_ble_eq_true rfl) dL_law_1097 (by omega) (by omega) ?_
  exact qs_icmp_eq 1197 dL_law_1100 rfl (fun _ => qs_widen (by omega) (by omega) (K _ iv2)) (fun c => absurd e3 c)
theorem la_27 {l : Launch} {g : qa_G} {v i cells slots : Nat} {h : qa_M} (iv : Inv v h) (hv : v < 1000) (hi : i + 6 ≤ g.2.2.2.2.2.2.1) (hL : g.2.2.2.2.2.2.1 ≤ 3072) (hc : cells + 1 ≤ 600000) (hs : slots + 9216 ≤ 7302250) (K : ∀ h2, Inv (v + 1) h2 → LW l g (cells + 1) (slots + 9216) 1197 (laV g i) [] (qO h2) h2) : LW l g cells slots 1105 (laV g i) [] (qO h) h := by
  obtain ⟨⟨r1, h1⟩, e1, ⟨r2, h2⟩, e2, e3, iv2⟩ := J_drawn (x := laX g i 1) iv (by omega)
  dsimp only at e2 e3 iv2
  refine qs_aload_n 2 dL_law_1105 rfl rfl ?_
  refine la_arg (k := 1) rfl (by omega) (by omega) dL_law_1106 dL_law_1107 dL_law_1108 dL_law_1109 dL_law_1110 ?_
  refine la_calli [.int (laX g i 1)] (c_X11_drawn (laX g i 1) h e1) cv_RL_129 (wl_0 h) rfl rfl rfl (Nat.le_of_ble_eq_true rfl) dL_law_1111 (by omega) (by omega) ?_
  refine qs_aload_n 1 dL_law_1114 rfl rfl ?_
  refine la_arg (k := 1) rfl (by omega) (by omega) dL_law_1115 dL_law_1116 dL_law_1117 dL_law_1118 dL_law_1119 ?_
  refine la_calli [.int (laX g i 1)] (c_X12_drawn (laX g i 1) h1 e2) cv_RL_132 (wl_119 h1) rfl rfl rfl (Nat.le_of_ble_eq_true rfl) dL_law_1120 (by omega) (by omega) ?_
  exact qs_icmp_eq 1197 dL_law_1123 rfl (fun _ => qs_widen (by omega) (by omega) (K _ iv2)) (fun c => absurd e3 c)
theorem la_28 {l : Launch} {g : qa_G} {v i cells slots : Nat} {h : qa_M} (iv : Inv v h) (hv : v < 1000) (hi : i + 6 ≤ g.2.2.2.2.2.2.1) (hL : g.2.2.2.2.2.2.1 ≤ 3072) (hc : cells + 1 ≤ 600000) (hs : slots + 9216 ≤ 7302250) (K : ∀ h2, Inv (v + 1) h2 → LW l g (cells + 1) (slots + 9216) 1197 (laV g i) [] (qO h2) h2) : LW l g cells slots 1128 (laV g i) [] (qO h) h := by
  obtain ⟨⟨r1, h1⟩, e1, ⟨r2, h2⟩, e2, e3, iv2⟩ := J_count (x := laX g i 1) iv
  dsimp only at e2 e3 iv2
  refine qs_aload_n 2 dL_law_1128 rfl rfl ?_
  refine la_arg (k := 1) rfl (by omega) (by omega) dL_law_1129 dL_law_1130 dL_law_1131 dL_law_1132 dL_law_1133 ?_
  refine la_calli [.int (laX g i 1)] (c_X11_count (laX g i 1) h e1) cv_RL_133 (wl_0 h) rfl rfl rfl (Nat.le_of_ble_eq_true rfl) dL_law_1134 (by omega) (by omega) ?_
  refine qs_aload_n 1 dL_law_1137 rfl rfl ?_
  refine la_arg (k := 1) rfl (by omega) (by omega) dL_law_1138 dL_law_1139 dL_law_1140 dL_law_1141 dL_law_1142 ?_
  refine la_calli [.int (laX g i 1)] (c_X12_count (laX g i 1) h1 e2) cv_RL_136 (wl_119 h1) rfl rfl rfl (Nat.le_of_ble_eq_true rfl) dL_law_1143 (by omega) (by omega) ?_
  exact qs_icmp_eq 1197 dL_law_1146 rfl (fun _ => qs_widen (by omega) (by omega) (K _ iv2)) (fun c => absurd e3 c)
theorem la_29 {l : Launch} {g : qa_G} {v i cells slots : Nat} {h : qa_M} (iv : Inv v h) (hv : v < 1000) (hi : i + 6 ≤ g.2.2.2.2.2.2.1) (hL : g.2.2.2.2.2.2.1 ≤ 3072) (hc : cells + 1 ≤ 600000) (hs : slots + 9216 ≤ 7302250) (K : ∀ h2, Inv (v + 1) h2 → LW l g (cells + 1) (slots + 9216) 1197 (laV g i) [] (qO h2) h2) : LW l g cells slots 1151 (laV g i) [] (qO h) h := by
  obtain ⟨⟨r1, h1⟩, e1, ⟨r2, h2⟩, e2, e3, iv2⟩ := J_image (x := laX g i 1) iv
  dsimp only at e2 e3 iv2
  refine qs_aload_n 2 dL_law_1151 rfl rfl ?_
  refine la_arg (k := 1) rfl (by omega) (by omega) dL_law_1152 dL_law_1153 dL_law_1154 dL_law_1155 dL_law_1156 ?_
  refine la_calli [.int (laX g i 1)] (c_X11_image (laX g i 1) h e1) cv_RL_137 (wl_0 h) rfl rfl rfl (Nat.le_of_ble_eq_true rfl) dL_law_1157 (by omega) (by omega) ?_
  refine qs_aload_n 1 dL_law_1160 rfl rfl ?_
  refine la_arg (k := 1) rfl (by omega) (by omega) dL_law_1161 dL_law_1162 dL_law_1163 dL_law_1164 dL_law_1165 ?_
  refine la_calli [.int (laX g i 1)] (c_X12_image (laX g i 1) h1 e2) cv_RL_140 (wl_119 h1) rfl rfl rfl (Nat.le_of_ble_eq_true rfl) dL_law_1166 (by omega) (by omega) ?_
  exact qs_icmp_eq 1197 dL_law_1169 rfl (fun _ => qs_widen (by omega) (by omega) (K _ iv2)) (fun c => absurd e3 c)
theorem la_30 {l : Launch} {g : qa_G} {v i cells slots : Nat} {h : qa_M} (iv : Inv v h) (hv : v < 1000) (hi : i + 6 ≤ g.2.2.2.2.2.2.1) (hL : g.2.2.2.2.2.2.1 ≤ 3072) (hc : cells + 1 ≤ 600000) (hs : slots + 9216 ≤ 7302250) (K : ∀ h2, Inv (v + 1) h2 → LW l g (cells + 1) (slots + 9216) 1197 (laV g i) [] (qO h2) h2) : LW l g cells slots 1174 (laV g i) [] (qO h) h := by
  obtain ⟨⟨r1, h1⟩, e1, ⟨r2, h2⟩, e2, e3, iv2⟩ := J_back (x := laX g i 1) iv (by omega)
  dsimp only at e2 e3 iv2
  refine qs_aload_n 2 dL_law_1174 rfl rfl ?_
  refine la_arg (k := 1) rfl (by omega) (by omega) dL_law_1175 dL_law_1176 dL_law_1177 dL_law_1178 dL_law_1179 ?_
  refine la_calli [.int (laX g i 1)] (c_X11_back (laX g i 1) h e1) cv_RL_141 (wl_0 h) rfl rfl rfl (Nat.le_of_ble_eq_true rfl) dL_law_1180 (by omega) (by omega) ?_
  refine qs_aload_n 1 dL_law_1183 rfl rfl ?_
  refine la_arg (k := 1) rfl (by omega) (by omega) dL_law_1184 dL_law_1185 dL_law_1186 dL_law_1187 dL_law_1188 ?_
  refine la_calli [.int (laX g i 1)] (c_X12_back (laX g i 1) h1 e2) cv_RL_144 (wl_119 h1) rfl rfl rfl (Nat.le_of_ble_eq_true rfl) dL_law_1189 (by omega) (by omega) ?_
  exact qs_icmp_eq 1197 dL_law_1192 rfl (fun _ => qs_widen (by omega) (by omega) (K _ iv2)) (fun c => absurd e3 c)
