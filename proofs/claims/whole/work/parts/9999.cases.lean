/-! the law: its 27 cases, by gen_law.py -/
theorem hl_q11 : ∃ q, hbCl[11]? = some q ∧ q.1 = hbOwn 11 := ⟨_, rfl, rfl⟩
theorem hl_q12 : ∃ q, hbCl[12]? = some q ∧ q.1 = hbOwn 12 := ⟨_, rfl, rfl⟩
theorem hl_k13 : hl_ok 13 78 11 3 := ⟨by decide, by decide +kernel, by decide +kernel, by decide +kernel, by decide +kernel, by decide +kernel, hb_wd_in (i := 534) (by decide +kernel)⟩
theorem hl_k17 : hl_ok 17 115 12 3 := ⟨by decide, by decide +kernel, by decide +kernel, by decide +kernel, by decide +kernel, by decide +kernel, hb_wd_in (i := 1200) (by decide +kernel)⟩
set_option maxRecDepth 100000 in
theorem law_0 {p : Program} {l : Launch} {e : Env} {s : State} {m : MethodId} {below : List Frame} {meth : Method} {c : Code} {cells slots : Nat} {b L n : Nat} {xs : Nat → Int32} {ls : Array Slot} {D : va_G} {cI cZ cS : ClassId} {α : Nat → Nat} {ov : Value} {A : Nat → Prop} {σ : hbM} (C : hl_C p s m c b L xs D cI cZ cS α ov A) (hl : hl_L α b n ls) (hcl : cells ≤ 600000) (hsl : slots ≤ 7302250) (hL : L ≤ 3072) (hn : 6 * n + 6 ≤ L) (hJ : J n σ) (k : ∀ σ2, J (n + 1) σ2 → hl_W p l e s m below meth c b D cI cZ cS α A cells slots σ2 1067 ls []) : hl_W p l e s m below meth c b D cI cZ cS α A cells slots σ 156 ls [] := by
  obtain ⟨r, σ1, σ2, e1, e2, hJ2⟩ := o_sheet hJ ((xs (6 * n + 1))) ((xs (6 * n + 2))) ((xs (6 * n + 3)))
  refine hl_a1 C hl dl_156 ?_
  refine hl_arg C hl hL 1 (z := 1) (by decide +kernel) (by omega) dl_157 dl_158 dl_159 dl_160 dl_161 ?_
  refine hl_arg C hl hL 2 (z := 2) (by decide +kernel) (by omega) dl_162 dl_163 dl_164 dl_165 dl_166 ?_
  refine hl_arg C hl hL 3 (z := 3) (by decide +kernel) (by omega) dl_167 dl_168 dl_169 dl_170 dl_171 ?_
  refine hl_call C (as := [.int (xs (6 * n + 1)), .int (xs (6 * n + 2)), .int (xs (6 * n + 3))]) (rest := []) hcl hsl hl_k13 hl_q11 (c0 := 13) rfl dl_172 rfl rfl rfl (Nat.le_of_ble_eq_true rfl) hl.1 e1 ?_
  refine hl_a2 C hl dl_175 ?_
  refine hl_arg C hl hL 1 (z := 1) (by decide +kernel) (by omega) dl_176 dl_177 dl_178 dl_179 dl_180 ?_
  refine hl_arg C hl hL 2 (z := 2) (by decide +kernel) (by omega) dl_181 dl_182 dl_183 dl_184 dl_185 ?_
  refine hl_arg C hl hL 3 (z := 3) (by decide +kernel) (by omega) dl_186 dl_187 dl_188 dl_189 dl_190 ?_
  refine hl_call C (as := [.int (xs (6 * n + 1)), .int (xs (6 * n + 2)), .int (xs (6 * n + 3))]) (rest := [.int r]) hcl hsl hl_k17 hl_q12 (c0 := 54) rfl dl_191 rfl rfl rfl (Nat.le_of_ble_eq_true rfl) hl.1 e2 ?_
  refine hl_ieq C (tgt := 1067) dl_194 (by decide) ?_
  exact k σ2 hJ2
theorem hl_k18 : hl_ok 18 79 11 3 := ⟨by decide, by decide +kernel, by decide +kernel, by decide +kernel, by decide +kernel, by decide +kernel, hb_wd_in (i := 561) (by decide +kernel)⟩
theorem hl_k21 : hl_ok 21 116 12 3 := ⟨by decide, by decide +kernel, by decide +kernel, by decide +kernel, by decide +kernel, by decide +kernel, hb_wd_in (i := 1218) (by decide +kernel)⟩
set_option maxRecDepth 100000 in
theorem law_1 {p : Program} {l : Launch} {e : Env} {s : State} {m : MethodId} {below : List Frame} {meth : Method} {c : Code} {cells slots : Nat} {b L n : Nat} {xs : Nat → Int32} {ls : Array Slot} {D : va_G} {cI cZ cS : ClassId} {α : Nat → Nat} {ov : Value} {A : Nat → Prop} {σ : hbM} (C : hl_C p s m c b L xs D cI cZ cS α ov A) (hl : hl_L α b n ls) (hcl : cells ≤ 600000) (hsl : slots ≤ 7302250) (hL : L ≤ 3072) (hn : 6 * n + 6 ≤ L) (hJ : J n σ) (k : ∀ σ2, J (n + 1) σ2 → hl_W p l e s m below meth c b D cI cZ cS α A cells slots σ2 1067 ls []) : hl_W p l e s m below meth c b D cI cZ cS α A cells slots σ 199 ls [] := by
  obtain ⟨r, σ1, σ2, e1, e2, hJ2⟩ := o_set hJ ((xs (6 * n + 1))) ((xs (6 * n + 2))) ((xs (6 * n + 3)))
  refine hl_a1 C hl dl_199 ?_
  refine hl_arg C hl hL 1 (z := 1) (by decide +kernel) (by omega) dl_200 dl_201 dl_202 dl_203 dl_204 ?_
  refine hl_arg C hl hL 2 (z := 2) (by decide +kernel) (by omega) dl_205 dl_206 dl_207 dl_208 dl_209 ?_
  refine hl_arg C hl hL 3 (z := 3) (by decide +kernel) (by omega) dl_210 dl_211 dl_212 dl_213 dl_214 ?_
  refine hl_call C (as := [.int (xs (6 * n + 1)), .int (xs (6 * n + 2)), .int (xs (6 * n + 3))]) (rest := []) hcl hsl hl_k18 hl_q11 (c0 := 13) rfl dl_215 rfl rfl rfl (Nat.le_of_ble_eq_true rfl) hl.1 e1 ?_
  refine hl_a2 C hl dl_218 ?_
  refine hl_arg C hl hL 1 (z := 1) (by decide +kernel) (by omega) dl_219 dl_220 dl_221 dl_222 dl_223 ?_
  refine hl_arg C hl hL 2 (z := 2) (by decide +kernel) (by omega) dl_224 dl_225 dl_226 dl_227 dl_228 ?_
  refine hl_arg C hl hL 3 (z := 3) (by decide +kernel) (by omega) dl_229 dl_230 dl_231 dl_232 dl_233 ?_
  refine hl_call C (as := [.int (xs (6 * n + 1)), .int (xs (6 * n + 2)), .int (xs (6 * n + 3))]) (rest := [.int r]) hcl hsl hl_k21 hl_q12 (c0 := 54) rfl dl_234 rfl rfl rfl (Nat.le_of_ble_eq_true rfl) hl.1 e2 ?_
  refine hl_ieq C (tgt := 1067) dl_237 (by decide) ?_
  exact k σ2 hJ2
theorem hl_k22 : hl_ok 22 80 11 5 := ⟨by decide, by decide +kernel, by decide +kernel, by decide +kernel, by decide +kernel, by decide +kernel, hb_wd_in (i := 573) (by decide +kernel)⟩
theorem hl_k26 : hl_ok 26 117 12 5 := ⟨by decide, by decide +kernel, by decide +kernel, by decide +kernel, by decide +kernel, by decide +kernel, hb_wd_in (i := 1222) (by decide +kernel)⟩
set_option maxRecDepth 100000 in
theorem law_2 {p : Program} {l : Launch} {e : Env} {s : State} {m : MethodId} {below : List Frame} {meth : Method} {c : Code} {cells slots : Nat} {b L n : Nat} {xs : Nat → Int32} {ls : Array Slot} {D : va_G} {cI cZ cS : ClassId} {α : Nat → Nat} {ov : Value} {A : Nat → Prop} {σ : hbM} (C : hl_C p s m c b L xs D cI cZ cS α ov A) (hl : hl_L α b n ls) (hcl : cells ≤ 600000) (hsl : slots ≤ 7302250) (hL : L ≤ 3072) (hn : 6 * n + 6 ≤ L) (hJ : J n σ) (k : ∀ σ2, J (n + 1) σ2 → hl_W p l e s m below meth c b D cI cZ cS α A cells slots σ2 1067 ls []) : hl_W p l e s m below meth c b D cI cZ cS α A cells slots σ 242 ls [] := by
  obtain ⟨r, σ1, σ2, e1, e2, hJ2⟩ := o_copy hJ ((xs (6 * n + 1))) ((xs (6 * n + 2))) ((xs (6 * n + 3))) ((xs (6 * n + 4))) ((xs (6 * n + 5)))
  refine hl_a1 C hl dl_242 ?_
  refine hl_arg C hl hL 1 (z := 1) (by decide +kernel) (by omega) dl_243 dl_244 dl_245 dl_246 dl_247 ?_
  refine hl_arg C hl hL 2 (z := 2) (by decide +kernel) (by omega) dl_248 dl_249 dl_250 dl_251 dl_252 ?_
  refine hl_arg C hl hL 3 (z := 3) (by decide +kernel) (by omega) dl_253 dl_254 dl_255 dl_256 dl_257 ?_
  refine hl_arg C hl hL 4 (z := 4) (by decide +kernel) (by omega) dl_258 dl_259 dl_260 dl_261 dl_262 ?_
  refine hl_arg C hl hL 5 (z := 5) (by decide +kernel) (by omega) dl_263 dl_264 dl_265 dl_266 dl_267 ?_
  refine hl_call C (as := [.int (xs (6 * n + 1)), .int (xs (6 * n + 2)), .int (xs (6 * n + 3)), .int (xs (6 * n + 4)), .int (xs (6 * n + 5))]) (rest := []) hcl hsl hl_k22 hl_q11 (c0 := 13) rfl dl_268 rfl rfl rfl (Nat.le_of_ble_eq_true rfl) hl.1 e1 ?_
  refine hl_a2 C hl dl_271 ?_
  refine hl_arg C hl hL 1 (z := 1) (by decide +kernel) (by omega) dl_272 dl_273 dl_274 dl_275 dl_276 ?_
  refine hl_arg C hl hL 2 (z := 2) (by decide +kernel) (by omega) dl_277 dl_278 dl_279 dl_280 dl_281 ?_
  refine hl_arg C hl hL 3 (z := 3) (by decide +kernel) (by omega) dl_282 dl_283 dl_284 dl_285 dl_286 ?_
  refine hl_arg C hl hL 4 (z := 4) (by decide +kernel) (by omega) dl_287 dl_288 dl_289 dl_290 dl_291 ?_
  refine hl_arg C hl hL 5 (z := 5) (by decide +kernel) (by omega) dl_292 dl_293 dl_294 dl_295 dl_296 ?_
  refine hl_call C (as := [.int (xs (6 * n + 1)), .int (xs (6 * n + 2)), .int (xs (6 * n + 3)), .int (xs (6 * n + 4)), .int (xs (6 * n + 5))]) (rest := [.int r]) hcl hsl hl_k26 hl_q12 (c0 := 54) rfl dl_297 rfl rfl rfl (Nat.le_of_ble_eq_true rfl) hl.1 e2 ?_
  refine hl_ieq C (tgt := 1067) dl_300 (by decide) ?_
  exact k σ2 hJ2
theorem hl_k27 : hl_ok 27 81 11 1 := ⟨by decide, by decide +kernel, by decide +kernel, by decide +kernel, by decide +kernel, by decide +kernel, hb_wd_in (i := 580) (by decide +kernel)⟩
theorem hl_k31 : hl_ok 31 118 12 1 := ⟨by decide, by decide +kernel, by decide +kernel, by decide +kernel, by decide +kernel, by decide +kernel, hb_wd_in (i := 1226) (by decide +kernel)⟩
set_option maxRecDepth 100000 in
theorem law_3 {p : Program} {l : Launch} {e : Env} {s : State} {m : MethodId} {below : List Frame} {meth : Method} {c : Code} {cells slots : Nat} {b L n : Nat} {xs : Nat → Int32} {ls : Array Slot} {D : va_G} {cI cZ cS : ClassId} {α : Nat → Nat} {ov : Value} {A : Nat → Prop} {σ : hbM} (C : hl_C p s m c b L xs D cI cZ cS α ov A) (hl : hl_L α b n ls) (hcl : cells ≤ 600000) (hsl : slots ≤ 7302250) (hL : L ≤ 3072) (hn : 6 * n + 6 ≤ L) (hJ : J n σ) (k : ∀ σ2, J (n + 1) σ2 → hl_W p l e s m below meth c b D cI cZ cS α A cells slots σ2 1067 ls []) : hl_W p l e s m below meth c b D cI cZ cS α A cells slots σ 305 ls [] := by
  obtain ⟨r, σ1, σ2, e1, e2, hJ2⟩ := o_drop hJ ((xs (6 * n + 1)))
  refine hl_a1 C hl dl_305 ?_
  refine hl_arg C hl hL 1 (z := 1) (by decide +kernel) (by omega) dl_306 dl_307 dl_308 dl_309 dl_310 ?_
  refine hl_call C (as := [.int (xs (6 * n + 1))]) (rest := []) hcl hsl hl_k27 hl_q11 (c0 := 13) rfl dl_311 rfl rfl rfl (Nat.le_of_ble_eq_true rfl) hl.1 e1 ?_
  refine hl_a2 C hl dl_314 ?_
  refine hl_arg C hl hL 1 (z := 1) (by decide +kernel) (by omega) dl_315 dl_316 dl_317 dl_318 dl_319 ?_
  refine hl_call C (as := [.int (xs (6 * n + 1))]) (rest := [.int r]) hcl hsl hl_k31 hl_q12 (c0 := 54) rfl dl_320 rfl rfl rfl (Nat.le_of_ble_eq_true rfl) hl.1 e2 ?_
  refine hl_ieq C (tgt := 1067) dl_323 (by decide) ?_
  exact k σ2 hJ2
theorem hl_k34 : hl_ok 34 82 11 2 := ⟨by decide, by decide +kernel, by decide +kernel, by decide +kernel, by decide +kernel, by decide +kernel, hb_wd_in (i := 584) (by decide +kernel)⟩
theorem hl_k38 : hl_ok 38 119 12 2 := ⟨by decide, by decide +kernel, by decide +kernel, by decide +kernel, by decide +kernel, by decide +kernel, hb_wd_in (i := 1230) (by decide +kernel)⟩
set_option maxRecDepth 100000 in
theorem law_4 {p : Program} {l : Launch} {e : Env} {s : State} {m : MethodId} {below : List Frame} {meth : Method} {c : Code} {cells slots : Nat} {b L n : Nat} {xs : Nat → Int32} {ls : Array Slot} {D : va_G} {cI cZ cS : ClassId} {α : Nat → Nat} {ov : Value} {A : Nat → Prop} {σ : hbM} (C : hl_C p s m c b L xs D cI cZ cS α ov A) (hl : hl_L α b n ls) (hcl : cells ≤ 600000) (hsl : slots ≤ 7302250) (hL : L ≤ 3072) (hn : 6 * n + 6 ≤ L) (hJ : J n σ) (k : ∀ σ2, J (n + 1) σ2 → hl_W p l e s m below meth c b D cI cZ cS α A cells slots σ2 1067 ls []) : hl_W p l e s m below meth c b D cI cZ cS α A cells slots σ 328 ls [] := by
  obtain ⟨r, σ1, σ2, e1, e2, hJ2⟩ := o_feed hJ ((((xs (6 * n + 1)).toInt64 <<< ((32 : Int32).toInt64 &&& 63)) ||| ((xs (6 * n + 2)).toInt64 &&& 4294967295))) ((xs (6 * n + 3)))
  refine hl_a1 C hl dl_328 ?_
  refine hl_arg C hl hL 1 (z := 1) (by decide +kernel) (by omega) dl_329 dl_330 dl_331 dl_332 dl_333 ?_
  refine hl_lift (fun _ _ k => lv_i2l (v := (xs (6 * n + 1)).toInt64) C.1 C.2.1 dl_334 rfl k) ?_
  refine hl_lift (fun _ _ k => lv_bipush (v := 32) C.1 C.2.1 dl_335 (by decide +kernel) k) ?_
  refine hl_lift (fun _ _ k => lv_lshl (v := ((xs (6 * n + 1)).toInt64 <<< ((32 : Int32).toInt64 &&& 63))) C.1 C.2.1 dl_337 rfl k) ?_
  refine hl_arg C hl hL 2 (z := 2) (by decide +kernel) (by omega) dl_338 dl_339 dl_340 dl_341 dl_342 ?_
  refine hl_lift (fun _ _ k => lv_i2l (v := (xs (6 * n + 2)).toInt64) C.1 C.2.1 dl_343 rfl k) ?_
  refine hl_lift (fun _ _ k => lv_ldc2 (v := 4294967295) C.1 C.2.1 C.2.2.2.1 (C.2.2.2.2.1 _ (hb_wd_in (i := 1524) (by decide +kernel))) dl_344 k) ?_
  refine hl_lift (fun _ _ k => lv_land C.1 C.2.1 dl_347 k) ?_
  refine hl_lift (fun _ _ k => lv_lor C.1 C.2.1 dl_348 k) ?_
  refine hl_arg C hl hL 3 (z := 3) (by decide +kernel) (by omega) dl_349 dl_350 dl_351 dl_352 dl_353 ?_
  refine hl_call C (as := [.long (((xs (6 * n + 1)).toInt64 <<< ((32 : Int32).toInt64 &&& 63)) ||| ((xs (6 * n + 2)).toInt64 &&& 4294967295)), .int (xs (6 * n + 3))]) (rest := []) hcl hsl hl_k34 hl_q11 (c0 := 13) rfl dl_354 rfl rfl rfl (Nat.le_of_ble_eq_true rfl) hl.1 e1 ?_
  refine hl_a2 C hl dl_357 ?_
  refine hl_arg C hl hL 1 (z := 1) (by decide +kernel) (by omega) dl_358 dl_359 dl_360 dl_361 dl_362 ?_
  refine hl_lift (fun _ _ k => lv_i2l (v := (xs (6 * n + 1)).toInt64) C.1 C.2.1 dl_363 rfl k) ?_
  refine hl_lift (fun _ _ k => lv_bipush (v := 32) C.1 C.2.1 dl_364 (by decide +kernel) k) ?_
  refine hl_lift (fun _ _ k => lv_lshl (v := ((xs (6 * n + 1)).toInt64 <<< ((32 : Int32).toInt64 &&& 63))) C.1 C.2.1 dl_366 rfl k) ?_
  refine hl_arg C hl hL 2 (z := 2) (by decide +kernel) (by omega) dl_367 dl_368 dl_369 dl_370 dl_371 ?_
  refine hl_lift (fun _ _ k => lv_i2l (v := (xs (6 * n + 2)).toInt64) C.1 C.2.1 dl_372 rfl k) ?_
  refine hl_lift (fun _ _ k => lv_ldc2 (v := 4294967295) C.1 C.2.1 C.2.2.2.1 (C.2.2.2.2.1 _ (hb_wd_in (i := 1524) (by decide +kernel))) dl_373 k) ?_
  refine hl_lift (fun _ _ k => lv_land C.1 C.2.1 dl_376 k) ?_
  refine hl_lift (fun _ _ k => lv_lor C.1 C.2.1 dl_377 k) ?_
  refine hl_arg C hl hL 3 (z := 3) (by decide +kernel) (by omega) dl_378 dl_379 dl_380 dl_381 dl_382 ?_
  refine hl_call C (as := [.long (((xs (6 * n + 1)).toInt64 <<< ((32 : Int32).toInt64 &&& 63)) ||| ((xs (6 * n + 2)).toInt64 &&& 4294967295)), .int (xs (6 * n + 3))]) (rest := [.int r]) hcl hsl hl_k38 hl_q12 (c0 := 54) rfl dl_383 rfl rfl rfl (Nat.le_of_ble_eq_true rfl) hl.1 e2 ?_
  refine hl_ieq C (tgt := 1067) dl_386 (by decide) ?_
  exact k σ2 hJ2
theorem hl_k39 : hl_ok 39 83 11 0 := ⟨by decide, by decide +kernel, by decide +kernel, by decide +kernel, by decide +kernel, by decide +kernel, hb_wd_in (i := 593) (by decide +kernel)⟩
theorem hl_k43 : hl_ok 43 133 12 0 := ⟨by decide, by decide +kernel, by decide +kernel, by decide +kernel, by decide +kernel, by decide +kernel, hb_wd_in (i := 1237) (by decide +kernel)⟩
set_option maxRecDepth 100000 in
theorem law_5 {p : Program} {l : Launch} {e : Env} {s : State} {m : MethodId} {below : List Frame} {meth : Method} {c : Code} {cells slots : Nat} {b L n : Nat} {xs : Nat → Int32} {ls : Array Slot} {D : va_G} {cI cZ cS : ClassId} {α : Nat → Nat} {ov : Value} {A : Nat → Prop} {σ : hbM} (C : hl_C p s m c b L xs D cI cZ cS α ov A) (hl : hl_L α b n ls) (hcl : cells ≤ 600000) (hsl : slots ≤ 7302250) (hL : L ≤ 3072) (hn : 6 * n + 6 ≤ L) (hJ : J n σ) (k : ∀ σ2, J (n + 1) σ2 → hl_W p l e s m below meth c b D cI cZ cS α A cells slots σ2 1067 ls []) : hl_W p l e s m below meth c b D cI cZ cS α A cells slots σ 391 ls [] := by
  obtain ⟨r, σ1, σ2, e1, e2, hJ2⟩ := o_book hJ
  refine hl_a1 C hl dl_391 ?_
  refine hl_call C (as := []) (rest := []) hcl hsl hl_k39 hl_q11 (c0 := 13) rfl dl_392 rfl rfl rfl (Nat.le_of_ble_eq_true rfl) hl.1 e1 ?_
  refine hl_a2 C hl dl_395 ?_
  refine hl_call C (as := []) (rest := [.int r]) hcl hsl hl_k43 hl_q12 (c0 := 54) rfl dl_396 rfl rfl rfl (Nat.le_of_ble_eq_true rfl) hl.1 e2 ?_
  refine hl_ieq C (tgt := 1067) dl_399 (by decide) ?_
  exact k σ2 hJ2
theorem hl_k44 : hl_ok 44 84 11 0 := ⟨by decide, by decide +kernel, by decide +kernel, by decide +kernel, by decide +kernel, by decide +kernel, hb_wd_in (i := 751) (by decide +kernel)⟩
theorem hl_k47 : hl_ok 47 134 12 0 := ⟨by decide, by decide +kernel, by decide +kernel, by decide +kernel, by decide +kernel, by decide +kernel, hb_wd_in (i := 1309) (by decide +kernel)⟩
set_option maxRecDepth 100000 in
theorem law_6 {p : Program} {l : Launch} {e : Env} {s : State} {m : MethodId} {below : List Frame} {meth : Method} {c : Code} {cells slots : Nat} {b L n : Nat} {xs : Nat → Int32} {ls : Array Slot} {D : va_G} {cI cZ cS : ClassId} {α : Nat → Nat} {ov : Value} {A : Nat → Prop} {σ : hbM} (C : hl_C p s m c b L xs D cI cZ cS α ov A) (hl : hl_L α b n ls) (hcl : cells ≤ 600000) (hsl : slots ≤ 7302250) (hL : L ≤ 3072) (hn : 6 * n + 6 ≤ L) (hJ : J n σ) (k : ∀ σ2, J (n + 1) σ2 → hl_W p l e s m below meth c b D cI cZ cS α A cells slots σ2 1067 ls []) : hl_W p l e s m below meth c b D cI cZ cS α A cells slots σ 404 ls [] := by
  obtain ⟨r, σ1, σ2, e1, e2, hJ2⟩ := o_fault hJ
  refine hl_a1 C hl dl_404 ?_
  refine hl_call C (as := []) (rest := []) hcl hsl hl_k44 hl_q11 (c0 := 13) rfl dl_405 rfl rfl rfl (Nat.le_of_ble_eq_true rfl) hl.1 e1 ?_
  refine hl_a2 C hl dl_408 ?_
  refine hl_call C (as := []) (rest := [.int r]) hcl hsl hl_k47 hl_q12 (c0 := 54) rfl dl_409 rfl rfl rfl (Nat.le_of_ble_eq_true rfl) hl.1 e2 ?_
  refine hl_ieq C (tgt := 1067) dl_412 (by decide) ?_
  exact k σ2 hJ2
theorem hl_k48 : hl_ok 48 85 11 2 := ⟨by decide, by decide +kernel, by decide +kernel, by decide +kernel, by decide +kernel, by decide +kernel, hb_wd_in (i := 755) (by decide +kernel)⟩
theorem hl_k52 : hl_ok 52 138 12 2 := ⟨by decide, by decide +kernel, by decide +kernel, by decide +kernel, by decide +kernel, by decide +kernel, hb_wd_in (i := 1313) (by decide +kernel)⟩
set_option maxRecDepth 100000 in
theorem law_7 {p : Program} {l : Launch} {e : Env} {s : State} {m : MethodId} {below : List Frame} {meth : Method} {c : Code} {cells slots : Nat} {b L n : Nat} {xs : Nat → Int32} {ls : Array Slot} {D : va_G} {cI cZ cS : ClassId} {α : Nat → Nat} {ov : Value} {A : Nat → Prop} {σ : hbM} (C : hl_C p s m c b L xs D cI cZ cS α ov A) (hl : hl_L α b n ls) (hcl : cells ≤ 600000) (hsl : slots ≤ 7302250) (hL : L ≤ 3072) (hn : 6 * n + 6 ≤ L) (hJ : J n σ) (k : ∀ σ2, J (n + 1) σ2 → hl_W p l e s m below meth c b D cI cZ cS α A cells slots σ2 1067 ls []) : hl_W p l e s m below meth c b D cI cZ cS α A cells slots σ 417 ls [] := by
  obtain ⟨r, σ1, σ2, e1, e2, hJ2⟩ := o_like hJ ((xs (6 * n + 1))) ((xs (6 * n + 2)))
  refine hl_a1 C hl dl_417 ?_
  refine hl_arg C hl hL 1 (z := 1) (by decide +kernel) (by omega) dl_418 dl_419 dl_420 dl_421 dl_422 ?_
  refine hl_arg C hl hL 2 (z := 2) (by decide +kernel) (by omega) dl_423 dl_424 dl_425 dl_426 dl_427 ?_
  refine hl_call C (as := [.int (xs (6 * n + 1)), .int (xs (6 * n + 2))]) (rest := []) hcl hsl hl_k48 hl_q11 (c0 := 13) rfl dl_428 rfl rfl rfl (Nat.le_of_ble_eq_true rfl) hl.1 e1 ?_
  refine hl_a2 C hl dl_431 ?_
  refine hl_arg C hl hL 1 (z := 1) (by decide +kernel) (by omega) dl_432 dl_433 dl_434 dl_435 dl_436 ?_
  refine hl_arg C hl hL 2 (z := 2) (by decide +kernel) (by omega) dl_437 dl_438 dl_439 dl_440 dl_441 ?_
  refine hl_call C (as := [.int (xs (6 * n + 1)), .int (xs (6 * n + 2))]) (rest := [.int r]) hcl hsl hl_k52 hl_q12 (c0 := 54) rfl dl_442 rfl rfl rfl (Nat.le_of_ble_eq_true rfl) hl.1 e2 ?_
  refine hl_ieq C (tgt := 1067) dl_445 (by decide) ?_
  exact k σ2 hJ2
theorem hl_k53 : hl_ok 53 86 11 2 := ⟨by decide, by decide +kernel, by decide +kernel, by decide +kernel, by decide +kernel, by decide +kernel, hb_wd_in (i := 760) (by decide +kernel)⟩
theorem hl_k56 : hl_ok 56 139 12 2 := ⟨by decide, by decide +kernel, by decide +kernel, by decide +kernel, by decide +kernel, by decide +kernel, hb_wd_in (i := 1320) (by decide +kernel)⟩
set_option maxRecDepth 100000 in
theorem law_8 {p : Program} {l : Launch} {e : Env} {s : State} {m : MethodId} {below : List Frame} {meth : Method} {c : Code} {cells slots : Nat} {b L n : Nat} {xs : Nat → Int32} {ls : Array Slot} {D : va_G} {cI cZ cS : ClassId} {α : Nat → Nat} {ov : Value} {A : Nat → Prop} {σ : hbM} (C : hl_C p s m c b L xs D cI cZ cS α ov A) (hl : hl_L α b n ls) (hcl : cells ≤ 600000) (hsl : slots ≤ 7302250) (hL : L ≤ 3072) (hn : 6 * n + 6 ≤ L) (hJ : J n σ) (k : ∀ σ2, J (n + 1) σ2 → hl_W p l e s m below meth c b D cI cZ cS α A cells slots σ2 1067 ls []) : hl_W p l e s m below meth c b D cI cZ cS α A cells slots σ 450 ls [] := by
  obtain ⟨r, σ1, σ2, e1, e2, hJ2⟩ := o_price hJ ((xs (6 * n + 1))) ((xs (6 * n + 2)))
  refine hl_a1 C hl dl_450 ?_
  refine hl_arg C hl hL 1 (z := 1) (by decide +kernel) (by omega) dl_451 dl_452 dl_453 dl_454 dl_455 ?_
  refine hl_arg C hl hL 2 (z := 2) (by decide +kernel) (by omega) dl_456 dl_457 dl_458 dl_459 dl_460 ?_
  refine hl_call C (as := [.int (xs (6 * n + 1)), .int (xs (6 * n + 2))]) (rest := []) hcl hsl hl_k53 hl_q11 (c0 := 13) rfl dl_461 rfl rfl rfl (Nat.le_of_ble_eq_true rfl) hl.1 e1 ?_
  refine hl_a2 C hl dl_464 ?_
  refine hl_arg C hl hL 1 (z := 1) (by decide +kernel) (by omega) dl_465 dl_466 dl_467 dl_468 dl_469 ?_
  refine hl_arg C hl hL 2 (z := 2) (by decide +kernel) (by omega) dl_470 dl_471 dl_472 dl_473 dl_474 ?_
  refine hl_call C (as := [.int (xs (6 * n + 1)), .int (xs (6 * n + 2))]) (rest := [.int r]) hcl hsl hl_k56 hl_q12 (c0 := 54) rfl dl_475 rfl rfl rfl (Nat.le_of_ble_eq_true rfl) hl.1 e2 ?_
  refine hl_ieq C (tgt := 1067) dl_478 (by decide) ?_
  exact k σ2 hJ2
theorem hl_k57 : hl_ok 57 87 11 3 := ⟨by decide, by decide +kernel, by decide +kernel, by decide +kernel, by decide +kernel, by decide +kernel, hb_wd_in (i := 764) (by decide +kernel)⟩
theorem hl_k60 : hl_ok 60 140 12 3 := ⟨by decide, by decide +kernel, by decide +kernel, by decide +kernel, by decide +kernel, by decide +kernel, hb_wd_in (i := 1328) (by decide +kernel)⟩
set_option maxRecDepth 100000 in
theorem law_9 {p : Program} {l : Launch} {e : Env} {s : State} {m : MethodId} {below : List Frame} {meth : Method} {c : Code} {cells slots : Nat} {b L n : Nat} {xs : Nat → Int32} {ls : Array Slot} {D : va_G} {cI cZ cS : ClassId} {α : Nat → Nat} {ov : Value} {A : Nat → Prop} {σ : hbM} (C : hl_C p s m c b L xs D cI cZ cS α ov A) (hl : hl_L α b n ls) (hcl : cells ≤ 600000) (hsl : slots ≤ 7302250) (hL : L ≤ 3072) (hn : 6 * n + 6 ≤ L) (hJ : J n σ) (k : ∀ σ2, J (n + 1) σ2 → hl_W p l e s m below meth c b D cI cZ cS α A cells slots σ2 1067 ls []) : hl_W p l e s m below meth c b D cI cZ cS α A cells slots σ 483 ls [] := by
  obtain ⟨r, σ1, σ2, e1, e2, hJ2⟩ := o_bar hJ ((xs (6 * n + 1))) ((xs (6 * n + 2))) ((xs (6 * n + 3)))
  refine hl_a1 C hl dl_483 ?_
  refine hl_arg C hl hL 1 (z := 1) (by decide +kernel) (by omega) dl_484 dl_485 dl_486 dl_487 dl_488 ?_
  refine hl_arg C hl hL 2 (z := 2) (by decide +kernel) (by omega) dl_489 dl_490 dl_491 dl_492 dl_493 ?_
  refine hl_arg C hl hL 3 (z := 3) (by decide +kernel) (by omega) dl_494 dl_495 dl_496 dl_497 dl_498 ?_
  refine hl_call C (as := [.int (xs (6 * n + 1)), .int (xs (6 * n + 2)), .int (xs (6 * n + 3))]) (rest := []) hcl hsl hl_k57 hl_q11 (c0 := 13) rfl dl_499 rfl rfl rfl (Nat.le_of_ble_eq_true rfl) hl.1 e1 ?_
  refine hl_a2 C hl dl_502 ?_
  refine hl_arg C hl hL 1 (z := 1) (by decide +kernel) (by omega) dl_503 dl_504 dl_505 dl_506 dl_507 ?_
  refine hl_arg C hl hL 2 (z := 2) (by decide +kernel) (by omega) dl_508 dl_509 dl_510 dl_511 dl_512 ?_
  refine hl_arg C hl hL 3 (z := 3) (by decide +kernel) (by omega) dl_513 dl_514 dl_515 dl_516 dl_517 ?_
  refine hl_call C (as := [.int (xs (6 * n + 1)), .int (xs (6 * n + 2)), .int (xs (6 * n + 3))]) (rest := [.int r]) hcl hsl hl_k60 hl_q12 (c0 := 54) rfl dl_518 rfl rfl rfl (Nat.le_of_ble_eq_true rfl) hl.1 e2 ?_
  refine hl_ieq C (tgt := 1067) dl_521 (by decide) ?_
  exact k σ2 hJ2
theorem hl_k61 : hl_ok 61 88 11 1 := ⟨by decide, by decide +kernel, by decide +kernel, by decide +kernel, by decide +kernel, by decide +kernel, hb_wd_in (i := 768) (by decide +kernel)⟩
theorem hl_k64 : hl_ok 64 143 12 1 := ⟨by decide, by decide +kernel, by decide +kernel, by decide +kernel, by decide +kernel, by decide +kernel, hb_wd_in (i := 1332) (by decide +kernel)⟩
set_option maxRecDepth 100000 in
theorem law_10 {p : Program} {l : Launch} {e : Env} {s : State} {m : MethodId} {below : List Frame} {meth : Method} {c : Code} {cells slots : Nat} {b L n : Nat} {xs : Nat → Int32} {ls : Array Slot} {D : va_G} {cI cZ cS : ClassId} {α : Nat → Nat} {ov : Value} {A : Nat → Prop} {σ : hbM} (C : hl_C p s m c b L xs D cI cZ cS α ov A) (hl : hl_L α b n ls) (hcl : cells ≤ 600000) (hsl : slots ≤ 7302250) (hL : L ≤ 3072) (hn : 6 * n + 6 ≤ L) (hJ : J n σ) (k : ∀ σ2, J (n + 1) σ2 → hl_W p l e s m below meth c b D cI cZ cS α A cells slots σ2 1067 ls []) : hl_W p l e s m below meth c b D cI cZ cS α A cells slots σ 526 ls [] := by
  obtain ⟨r, σ1, σ2, e1, e2, hJ2⟩ := o_tick hJ ((xs (6 * n + 1)))
  refine hl_a1 C hl dl_526 ?_
  refine hl_arg C hl hL 1 (z := 1) (by decide +kernel) (by omega) dl_527 dl_528 dl_529 dl_530 dl_531 ?_
  refine hl_call C (as := [.int (xs (6 * n + 1))]) (rest := []) hcl hsl hl_k61 hl_q11 (c0 := 13) rfl dl_532 rfl rfl rfl (Nat.le_of_ble_eq_true rfl) hl.1 e1 ?_
  refine hl_a2 C hl dl_535 ?_
  refine hl_arg C hl hL 1 (z := 1) (by decide +kernel) (by omega) dl_536 dl_537 dl_538 dl_539 dl_540 ?_
  refine hl_call C (as := [.int (xs (6 * n + 1))]) (rest := [.int r]) hcl hsl hl_k64 hl_q12 (c0 := 54) rfl dl_541 rfl rfl rfl (Nat.le_of_ble_eq_true rfl) hl.1 e2 ?_
  refine hl_ieq C (tgt := 1067) dl_544 (by decide) ?_
  exact k σ2 hJ2
theorem hl_k65 : hl_ok 65 89 11 2 := ⟨by decide, by decide +kernel, by decide +kernel, by decide +kernel, by decide +kernel, by decide +kernel, hb_wd_in (i := 775) (by decide +kernel)⟩
theorem hl_k68 : hl_ok 68 148 12 2 := ⟨by decide, by decide +kernel, by decide +kernel, by decide +kernel, by decide +kernel, by decide +kernel, hb_wd_in (i := 1347) (by decide +kernel)⟩
set_option maxRecDepth 100000 in
theorem law_11 {p : Program} {l : Launch} {e : Env} {s : State} {m : MethodId} {below : List Frame} {meth : Method} {c : Code} {cells slots : Nat} {b L n : Nat} {xs : Nat → Int32} {ls : Array Slot} {D : va_G} {cI cZ cS : ClassId} {α : Nat → Nat} {ov : Value} {A : Nat → Prop} {σ : hbM} (C : hl_C p s m c b L xs D cI cZ cS α ov A) (hl : hl_L α b n ls) (hcl : cells ≤ 600000) (hsl : slots ≤ 7302250) (hL : L ≤ 3072) (hn : 6 * n + 6 ≤ L) (hJ : J n σ) (k : ∀ σ2, J (n + 1) σ2 → hl_W p l e s m below meth c b D cI cZ cS α A cells slots σ2 1067 ls []) : hl_W p l e s m below meth c b D cI cZ cS α A cells slots σ 549 ls [] := by
  obtain ⟨r, σ1, σ2, e1, e2, hJ2⟩ := o_judge hJ ((xs (6 * n + 1))) ((xs (6 * n + 2)))
  refine hl_a1 C hl dl_549 ?_
  refine hl_arg C hl hL 1 (z := 1) (by decide +kernel) (by omega) dl_550 dl_551 dl_552 dl_553 dl_554 ?_
  refine hl_arg C hl hL 2 (z := 2) (by decide +kernel) (by omega) dl_555 dl_556 dl_557 dl_558 dl_559 ?_
  refine hl_call C (as := [.int (xs (6 * n + 1)), .int (xs (6 * n + 2))]) (rest := []) hcl hsl hl_k65 hl_q11 (c0 := 13) rfl dl_560 rfl rfl rfl (Nat.le_of_ble_eq_true rfl) hl.1 e1 ?_
  refine hl_a2 C hl dl_563 ?_
  refine hl_arg C hl hL 1 (z := 1) (by decide +kernel) (by omega) dl_564 dl_565 dl_566 dl_567 dl_568 ?_
  refine hl_arg C hl hL 2 (z := 2) (by decide +kernel) (by omega) dl_569 dl_570 dl_571 dl_572 dl_573 ?_
  refine hl_call C (as := [.int (xs (6 * n + 1)), .int (xs (6 * n + 2))]) (rest := [.int r]) hcl hsl hl_k68 hl_q12 (c0 := 54) rfl dl_574 rfl rfl rfl (Nat.le_of_ble_eq_true rfl) hl.1 e2 ?_
  refine hl_ieq C (tgt := 1067) dl_577 (by decide) ?_
  exact k σ2 hJ2
theorem hl_k69 : hl_ok 69 90 11 3 := ⟨by decide, by decide +kernel, by decide +kernel, by decide +kernel, by decide +kernel, by decide +kernel, hb_wd_in (i := 780) (by decide +kernel)⟩
theorem hl_k72 : hl_ok 72 149 12 3 := ⟨by decide, by decide +kernel, by decide +kernel, by decide +kernel, by decide +kernel, by decide +kernel, hb_wd_in (i := 1367) (by decide +kernel)⟩
set_option maxRecDepth 100000 in
theorem law_12 {p : Program} {l : Launch} {e : Env} {s : State} {m : MethodId} {below : List Frame} {meth : Method} {c : Code} {cells slots : Nat} {b L n : Nat} {xs : Nat → Int32} {ls : Array Slot} {D : va_G} {cI cZ cS : ClassId} {α : Nat → Nat} {ov : Value} {A : Nat → Prop} {σ : hbM} (C : hl_C p s m c b L xs D cI cZ cS α ov A) (hl : hl_L α b n ls) (hcl : cells ≤ 600000) (hsl : slots ≤ 7302250) (hL : L ≤ 3072) (hn : 6 * n + 6 ≤ L) (hJ : J n σ) (k : ∀ σ2, J (n + 1) σ2 → hl_W p l e s m below meth c b D cI cZ cS α A cells slots σ2 1067 ls []) : hl_W p l e s m below meth c b D cI cZ cS α A cells slots σ 582 ls [] := by
  obtain ⟨r, σ1, σ2, e1, e2, hJ2⟩ := o_days hJ ((xs (6 * n + 1))) ((xs (6 * n + 2))) ((xs (6 * n + 3)))
  refine hl_a1 C hl dl_582 ?_
  refine hl_arg C hl hL 1 (z := 1) (by decide +kernel) (by omega) dl_583 dl_584 dl_585 dl_586 dl_587 ?_
  refine hl_arg C hl hL 2 (z := 2) (by decide +kernel) (by omega) dl_588 dl_589 dl_590 dl_591 dl_592 ?_
  refine hl_arg C hl hL 3 (z := 3) (by decide +kernel) (by omega) dl_593 dl_594 dl_595 dl_596 dl_597 ?_
  refine hl_call C (as := [.int (xs (6 * n + 1)), .int (xs (6 * n + 2)), .int (xs (6 * n + 3))]) (rest := []) hcl hsl hl_k69 hl_q11 (c0 := 13) rfl dl_598 rfl rfl rfl (Nat.le_of_ble_eq_true rfl) hl.1 e1 ?_
  refine hl_a2 C hl dl_601 ?_
  refine hl_arg C hl hL 1 (z := 1) (by decide +kernel) (by omega) dl_602 dl_603 dl_604 dl_605 dl_606 ?_
  refine hl_arg C hl hL 2 (z := 2) (by decide +kernel) (by omega) dl_607 dl_608 dl_609 dl_610 dl_611 ?_
  refine hl_arg C hl hL 3 (z := 3) (by decide +kernel) (by omega) dl_612 dl_613 dl_614 dl_615 dl_616 ?_
  refine hl_call C (as := [.int (xs (6 * n + 1)), .int (xs (6 * n + 2)), .int (xs (6 * n + 3))]) (rest := [.int r]) hcl hsl hl_k72 hl_q12 (c0 := 54) rfl dl_617 rfl rfl rfl (Nat.le_of_ble_eq_true rfl) hl.1 e2 ?_
  refine hl_ieq C (tgt := 1067) dl_620 (by decide) ?_
  exact k σ2 hJ2
theorem hl_k73 : hl_ok 73 91 11 2 := ⟨by decide, by decide +kernel, by decide +kernel, by decide +kernel, by decide +kernel, by decide +kernel, hb_wd_in (i := 784) (by decide +kernel)⟩
theorem hl_k76 : hl_ok 76 155 12 2 := ⟨by decide, by decide +kernel, by decide +kernel, by decide +kernel, by decide +kernel, by decide +kernel, hb_wd_in (i := 1372) (by decide +kernel)⟩
set_option maxRecDepth 100000 in
theorem law_13 {p : Program} {l : Launch} {e : Env} {s : State} {m : MethodId} {below : List Frame} {meth : Method} {c : Code} {cells slots : Nat} {b L n : Nat} {xs : Nat → Int32} {ls : Array Slot} {D : va_G} {cI cZ cS : ClassId} {α : Nat → Nat} {ov : Value} {A : Nat → Prop} {σ : hbM} (C : hl_C p s m c b L xs D cI cZ cS α ov A) (hl : hl_L α b n ls) (hcl : cells ≤ 600000) (hsl : slots ≤ 7302250) (hL : L ≤ 3072) (hn : 6 * n + 6 ≤ L) (hJ : J n σ) (k : ∀ σ2, J (n + 1) σ2 → hl_W p l e s m below meth c b D cI cZ cS α A cells slots σ2 1067 ls []) : hl_W p l e s m below meth c b D cI cZ cS α A cells slots σ 625 ls [] := by
  obtain ⟨r, σ1, σ2, e1, e2, hJ2⟩ := o_on hJ ((xs (6 * n + 1))) ((xs (6 * n + 2)))
  refine hl_a1 C hl dl_625 ?_
  refine hl_arg C hl hL 1 (z := 1) (by decide +kernel) (by omega) dl_626 dl_627 dl_628 dl_629 dl_630 ?_
  refine hl_arg C hl hL 2 (z := 2) (by decide +kernel) (by omega) dl_631 dl_632 dl_633 dl_634 dl_635 ?_
  refine hl_call C (as := [.int (xs (6 * n + 1)), .int (xs (6 * n + 2))]) (rest := []) hcl hsl hl_k73 hl_q11 (c0 := 13) rfl dl_636 rfl rfl rfl (Nat.le_of_ble_eq_true rfl) hl.1 e1 ?_
  refine hl_a2 C hl dl_639 ?_
  refine hl_arg C hl hL 1 (z := 1) (by decide +kernel) (by omega) dl_640 dl_641 dl_642 dl_643 dl_644 ?_
  refine hl_arg C hl hL 2 (z := 2) (by decide +kernel) (by omega) dl_645 dl_646 dl_647 dl_648 dl_649 ?_
  refine hl_call C (as := [.int (xs (6 * n + 1)), .int (xs (6 * n + 2))]) (rest := [.int r]) hcl hsl hl_k76 hl_q12 (c0 := 54) rfl dl_650 rfl rfl rfl (Nat.le_of_ble_eq_true rfl) hl.1 e2 ?_
  refine hl_ieq C (tgt := 1067) dl_653 (by decide) ?_
  exact k σ2 hJ2
theorem hl_k77 : hl_ok 77 92 11 3 := ⟨by decide, by decide +kernel, by decide +kernel, by decide +kernel, by decide +kernel, by decide +kernel, hb_wd_in (i := 801) (by decide +kernel)⟩
theorem hl_k80 : hl_ok 80 156 12 3 := ⟨by decide, by decide +kernel, by decide +kernel, by decide +kernel, by decide +kernel, by decide +kernel, hb_wd_in (i := 1392) (by decide +kernel)⟩
set_option maxRecDepth 100000 in
theorem law_14 {p : Program} {l : Launch} {e : Env} {s : State} {m : MethodId} {below : List Frame} {meth : Method} {c : Code} {cells slots : Nat} {b L n : Nat} {xs : Nat → Int32} {ls : Array Slot} {D : va_G} {cI cZ cS : ClassId} {α : Nat → Nat} {ov : Value} {A : Nat → Prop} {σ : hbM} (C : hl_C p s m c b L xs D cI cZ cS α ov A) (hl : hl_L α b n ls) (hcl : cells ≤ 600000) (hsl : slots ≤ 7302250) (hL : L ≤ 3072) (hn : 6 * n + 6 ≤ L) (hJ : J n σ) (k : ∀ σ2, J (n + 1) σ2 → hl_W p l e s m below meth c b D cI cZ cS α A cells slots σ2 1067 ls []) : hl_W p l e s m below meth c b D cI cZ cS α A cells slots σ 658 ls [] := by
  obtain ⟨r, σ1, σ2, e1, e2, hJ2⟩ := o_slip hJ ((xs (6 * n + 1))) ((xs (6 * n + 2))) ((xs (6 * n + 3)))
  refine hl_a1 C hl dl_658 ?_
  refine hl_arg C hl hL 1 (z := 1) (by decide +kernel) (by omega) dl_659 dl_660 dl_661 dl_662 dl_663 ?_
  refine hl_arg C hl hL 2 (z := 2) (by decide +kernel) (by omega) dl_664 dl_665 dl_666 dl_667 dl_668 ?_
  refine hl_arg C hl hL 3 (z := 3) (by decide +kernel) (by omega) dl_669 dl_670 dl_671 dl_672 dl_673 ?_
  refine hl_call C (as := [.int (xs (6 * n + 1)), .int (xs (6 * n + 2)), .int (xs (6 * n + 3))]) (rest := []) hcl hsl hl_k77 hl_q11 (c0 := 13) rfl dl_674 rfl rfl rfl (Nat.le_of_ble_eq_true rfl) hl.1 e1 ?_
  refine hl_a2 C hl dl_677 ?_
  refine hl_arg C hl hL 1 (z := 1) (by decide +kernel) (by omega) dl_678 dl_679 dl_680 dl_681 dl_682 ?_
  refine hl_arg C hl hL 2 (z := 2) (by decide +kernel) (by omega) dl_683 dl_684 dl_685 dl_686 dl_687 ?_
  refine hl_arg C hl hL 3 (z := 3) (by decide +kernel) (by omega) dl_688 dl_689 dl_690 dl_691 dl_692 ?_
  refine hl_call C (as := [.int (xs (6 * n + 1)), .int (xs (6 * n + 2)), .int (xs (6 * n + 3))]) (rest := [.int r]) hcl hsl hl_k80 hl_q12 (c0 := 54) rfl dl_693 rfl rfl rfl (Nat.le_of_ble_eq_true rfl) hl.1 e2 ?_
  refine hl_ieq C (tgt := 1067) dl_696 (by decide) ?_
  exact k σ2 hJ2
theorem hl_k81 : hl_ok 81 93 11 2 := ⟨by decide, by decide +kernel, by decide +kernel, by decide +kernel, by decide +kernel, by decide +kernel, hb_wd_in (i := 813) (by decide +kernel)⟩
theorem hl_k84 : hl_ok 84 158 12 2 := ⟨by decide, by decide +kernel, by decide +kernel, by decide +kernel, by decide +kernel, by decide +kernel, hb_wd_in (i := 1400) (by decide +kernel)⟩
set_option maxRecDepth 100000 in
theorem law_15 {p : Program} {l : Launch} {e : Env} {s : State} {m : MethodId} {below : List Frame} {meth : Method} {c : Code} {cells slots : Nat} {b L n : Nat} {xs : Nat → Int32} {ls : Array Slot} {D : va_G} {cI cZ cS : ClassId} {α : Nat → Nat} {ov : Value} {A : Nat → Prop} {σ : hbM} (C : hl_C p s m c b L xs D cI cZ cS α ov A) (hl : hl_L α b n ls) (hcl : cells ≤ 600000) (hsl : slots ≤ 7302250) (hL : L ≤ 3072) (hn : 6 * n + 6 ≤ L) (hJ : J n σ) (k : ∀ σ2, J (n + 1) σ2 → hl_W p l e s m below meth c b D cI cZ cS α A cells slots σ2 1067 ls []) : hl_W p l e s m below meth c b D cI cZ cS α A cells slots σ 701 ls [] := by
  obtain ⟨r, σ1, σ2, e1, e2, hJ2⟩ := o_run hJ (by omega) ((xs (6 * n + 1))) ((xs (6 * n + 2)))
  refine hl_a1 C hl dl_701 ?_
  refine hl_arg C hl hL 1 (z := 1) (by decide +kernel) (by omega) dl_702 dl_703 dl_704 dl_705 dl_706 ?_
  refine hl_arg C hl hL 2 (z := 2) (by decide +kernel) (by omega) dl_707 dl_708 dl_709 dl_710 dl_711 ?_
  refine hl_call C (as := [.int (xs (6 * n + 1)), .int (xs (6 * n + 2))]) (rest := []) hcl hsl hl_k81 hl_q11 (c0 := 13) rfl dl_712 rfl rfl rfl (Nat.le_of_ble_eq_true rfl) hl.1 e1 ?_
  refine hl_a2 C hl dl_715 ?_
  refine hl_arg C hl hL 1 (z := 1) (by decide +kernel) (by omega) dl_716 dl_717 dl_718 dl_719 dl_720 ?_
  refine hl_arg C hl hL 2 (z := 2) (by decide +kernel) (by omega) dl_721 dl_722 dl_723 dl_724 dl_725 ?_
  refine hl_call C (as := [.int (xs (6 * n + 1)), .int (xs (6 * n + 2))]) (rest := [.int r]) hcl hsl hl_k84 hl_q12 (c0 := 54) rfl dl_726 rfl rfl rfl (Nat.le_of_ble_eq_true rfl) hl.1 e2 ?_
  refine hl_ieq C (tgt := 1067) dl_729 (by decide) ?_
  exact k σ2 hJ2
theorem hl_k85 : hl_ok 85 94 11 3 := ⟨by decide, by decide +kernel, by decide +kernel, by decide +kernel, by decide +kernel, by decide +kernel, hb_wd_in (i := 836) (by decide +kernel)⟩
theorem hl_k88 : hl_ok 88 163 12 3 := ⟨by decide, by decide +kernel, by decide +kernel, by decide +kernel, by decide +kernel, by decide +kernel, hb_wd_in (i := 1408) (by decide +kernel)⟩
set_option maxRecDepth 100000 in
theorem law_16 {p : Program} {l : Launch} {e : Env} {s : State} {m : MethodId} {below : List Frame} {meth : Method} {c : Code} {cells slots : Nat} {b L n : Nat} {xs : Nat → Int32} {ls : Array Slot} {D : va_G} {cI cZ cS : ClassId} {α : Nat → Nat} {ov : Value} {A : Nat → Prop} {σ : hbM} (C : hl_C p s m c b L xs D cI cZ cS α ov A) (hl : hl_L α b n ls) (hcl : cells ≤ 600000) (hsl : slots ≤ 7302250) (hL : L ≤ 3072) (hn : 6 * n + 6 ≤ L) (hJ : J n σ) (k : ∀ σ2, J (n + 1) σ2 → hl_W p l e s m below meth c b D cI cZ cS α A cells slots σ2 1067 ls []) : hl_W p l e s m below meth c b D cI cZ cS α A cells slots σ 734 ls [] := by
  obtain ⟨r, σ1, σ2, e1, e2, hJ2⟩ := o_through hJ (by omega) ((xs (6 * n + 1))) ((xs (6 * n + 2))) ((xs (6 * n + 3)))
  refine hl_a1 C hl dl_734 ?_
  refine hl_arg C hl hL 1 (z := 1) (by decide +kernel) (by omega) dl_735 dl_736 dl_737 dl_738 dl_739 ?_
  refine hl_arg C hl hL 2 (z := 2) (by decide +kernel) (by omega) dl_740 dl_741 dl_742 dl_743 dl_744 ?_
  refine hl_arg C hl hL 3 (z := 3) (by decide +kernel) (by omega) dl_745 dl_746 dl_747 dl_748 dl_749 ?_
  refine hl_call C (as := [.int (xs (6 * n + 1)), .int (xs (6 * n + 2)), .int (xs (6 * n + 3))]) (rest := []) hcl hsl hl_k85 hl_q11 (c0 := 13) rfl dl_750 rfl rfl rfl (Nat.le_of_ble_eq_true rfl) hl.1 e1 ?_
  refine hl_a2 C hl dl_753 ?_
  refine hl_arg C hl hL 1 (z := 1) (by decide +kernel) (by omega) dl_754 dl_755 dl_756 dl_757 dl_758 ?_
  refine hl_arg C hl hL 2 (z := 2) (by decide +kernel) (by omega) dl_759 dl_760 dl_761 dl_762 dl_763 ?_
  refine hl_arg C hl hL 3 (z := 3) (by decide +kernel) (by omega) dl_764 dl_765 dl_766 dl_767 dl_768 ?_
  refine hl_call C (as := [.int (xs (6 * n + 1)), .int (xs (6 * n + 2)), .int (xs (6 * n + 3))]) (rest := [.int r]) hcl hsl hl_k88 hl_q12 (c0 := 54) rfl dl_769 rfl rfl rfl (Nat.le_of_ble_eq_true rfl) hl.1 e2 ?_
  refine hl_ieq C (tgt := 1067) dl_772 (by decide) ?_
  exact k σ2 hJ2
theorem hl_k89 : hl_ok 89 95 11 2 := ⟨by decide, by decide +kernel, by decide +kernel, by decide +kernel, by decide +kernel, by decide +kernel, hb_wd_in (i := 886) (by decide +kernel)⟩
theorem hl_k92 : hl_ok 92 165 12 2 := ⟨by decide, by decide +kernel, by decide +kernel, by decide +kernel, by decide +kernel, by decide +kernel, hb_wd_in (i := 1429) (by decide +kernel)⟩
set_option maxRecDepth 100000 in
theorem law_17 {p : Program} {l : Launch} {e : Env} {s : State} {m : MethodId} {below : List Frame} {meth : Method} {c : Code} {cells slots : Nat} {b L n : Nat} {xs : Nat → Int32} {ls : Array Slot} {D : va_G} {cI cZ cS : ClassId} {α : Nat → Nat} {ov : Value} {A : Nat → Prop} {σ : hbM} (C : hl_C p s m c b L xs D cI cZ cS α ov A) (hl : hl_L α b n ls) (hcl : cells ≤ 600000) (hsl : slots ≤ 7302250) (hL : L ≤ 3072) (hn : 6 * n + 6 ≤ L) (hJ : J n σ) (k : ∀ σ2, J (n + 1) σ2 → hl_W p l e s m below meth c b D cI cZ cS α A cells slots σ2 1067 ls []) : hl_W p l e s m below meth c b D cI cZ cS α A cells slots σ 777 ls [] := by
  obtain ⟨r, σ1, σ2, e1, e2, hJ2⟩ := o_cheapest hJ (by omega) ((xs (6 * n + 1))) ((xs (6 * n + 2)))
  refine hl_a1 C hl dl_777 ?_
  refine hl_arg C hl hL 1 (z := 1) (by decide +kernel) (by omega) dl_778 dl_779 dl_780 dl_781 dl_782 ?_
  refine hl_arg C hl hL 2 (z := 2) (by decide +kernel) (by omega) dl_783 dl_784 dl_785 dl_786 dl_787 ?_
  refine hl_call C (as := [.int (xs (6 * n + 1)), .int (xs (6 * n + 2))]) (rest := []) hcl hsl hl_k89 hl_q11 (c0 := 13) rfl dl_788 rfl rfl rfl (Nat.le_of_ble_eq_true rfl) hl.1 e1 ?_
  refine hl_a2 C hl dl_791 ?_
  refine hl_arg C hl hL 1 (z := 1) (by decide +kernel) (by omega) dl_792 dl_793 dl_794 dl_795 dl_796 ?_
  refine hl_arg C hl hL 2 (z := 2) (by decide +kernel) (by omega) dl_797 dl_798 dl_799 dl_800 dl_801 ?_
  refine hl_call C (as := [.int (xs (6 * n + 1)), .int (xs (6 * n + 2))]) (rest := [.int r]) hcl hsl hl_k92 hl_q12 (c0 := 54) rfl dl_802 rfl rfl rfl (Nat.le_of_ble_eq_true rfl) hl.1 e2 ?_
  refine hl_ieq C (tgt := 1067) dl_805 (by decide) ?_
  exact k σ2 hJ2
theorem hl_k93 : hl_ok 93 96 11 2 := ⟨by decide, by decide +kernel, by decide +kernel, by decide +kernel, by decide +kernel, by decide +kernel, hb_wd_in (i := 927) (by decide +kernel)⟩
theorem hl_k96 : hl_ok 96 167 12 2 := ⟨by decide, by decide +kernel, by decide +kernel, by decide +kernel, by decide +kernel, by decide +kernel, hb_wd_in (i := 1437) (by decide +kernel)⟩
set_option maxRecDepth 100000 in
theorem law_18 {p : Program} {l : Launch} {e : Env} {s : State} {m : MethodId} {below : List Frame} {meth : Method} {c : Code} {cells slots : Nat} {b L n : Nat} {xs : Nat → Int32} {ls : Array Slot} {D : va_G} {cI cZ cS : ClassId} {α : Nat → Nat} {ov : Value} {A : Nat → Prop} {σ : hbM} (C : hl_C p s m c b L xs D cI cZ cS α ov A) (hl : hl_L α b n ls) (hcl : cells ≤ 600000) (hsl : slots ≤ 7302250) (hL : L ≤ 3072) (hn : 6 * n + 6 ≤ L) (hJ : J n σ) (k : ∀ σ2, J (n + 1) σ2 → hl_W p l e s m below meth c b D cI cZ cS α A cells slots σ2 1067 ls []) : hl_W p l e s m below meth c b D cI cZ cS α A cells slots σ 810 ls [] := by
  obtain ⟨r, σ1, σ2, e1, e2, hJ2⟩ := o_back hJ (by omega) ((xs (6 * n + 1))) ((xs (6 * n + 2)))
  refine hl_a1 C hl dl_810 ?_
  refine hl_arg C hl hL 1 (z := 1) (by decide +kernel) (by omega) dl_811 dl_812 dl_813 dl_814 dl_815 ?_
  refine hl_arg C hl hL 2 (z := 2) (by decide +kernel) (by omega) dl_816 dl_817 dl_818 dl_819 dl_820 ?_
  refine hl_call C (as := [.int (xs (6 * n + 1)), .int (xs (6 * n + 2))]) (rest := []) hcl hsl hl_k93 hl_q11 (c0 := 13) rfl dl_821 rfl rfl rfl (Nat.le_of_ble_eq_true rfl) hl.1 e1 ?_
  refine hl_a2 C hl dl_824 ?_
  refine hl_arg C hl hL 1 (z := 1) (by decide +kernel) (by omega) dl_825 dl_826 dl_827 dl_828 dl_829 ?_
  refine hl_arg C hl hL 2 (z := 2) (by decide +kernel) (by omega) dl_830 dl_831 dl_832 dl_833 dl_834 ?_
  refine hl_call C (as := [.int (xs (6 * n + 1)), .int (xs (6 * n + 2))]) (rest := [.int r]) hcl hsl hl_k96 hl_q12 (c0 := 54) rfl dl_835 rfl rfl rfl (Nat.le_of_ble_eq_true rfl) hl.1 e2 ?_
  refine hl_ieq C (tgt := 1067) dl_838 (by decide) ?_
  exact k σ2 hJ2
theorem hl_k97 : hl_ok 97 97 11 3 := ⟨by decide, by decide +kernel, by decide +kernel, by decide +kernel, by decide +kernel, by decide +kernel, hb_wd_in (i := 944) (by decide +kernel)⟩
theorem hl_k100 : hl_ok 100 169 12 3 := ⟨by decide, by decide +kernel, by decide +kernel, by decide +kernel, by decide +kernel, by decide +kernel, hb_wd_in (i := 1445) (by decide +kernel)⟩
set_option maxRecDepth 100000 in
theorem law_19 {p : Program} {l : Launch} {e : Env} {s : State} {m : MethodId} {below : List Frame} {meth : Method} {c : Code} {cells slots : Nat} {b L n : Nat} {xs : Nat → Int32} {ls : Array Slot} {D : va_G} {cI cZ cS : ClassId} {α : Nat → Nat} {ov : Value} {A : Nat → Prop} {σ : hbM} (C : hl_C p s m c b L xs D cI cZ cS α ov A) (hl : hl_L α b n ls) (hcl : cells ≤ 600000) (hsl : slots ≤ 7302250) (hL : L ≤ 3072) (hn : 6 * n + 6 ≤ L) (hJ : J n σ) (k : ∀ σ2, J (n + 1) σ2 → hl_W p l e s m below meth c b D cI cZ cS α A cells slots σ2 1067 ls []) : hl_W p l e s m below meth c b D cI cZ cS α A cells slots σ 843 ls [] := by
  obtain ⟨r, σ1, σ2, e1, e2, hJ2⟩ := o_shows hJ ((xs (6 * n + 1))) ((xs (6 * n + 2))) ((xs (6 * n + 3)))
  refine hl_a1 C hl dl_843 ?_
  refine hl_arg C hl hL 1 (z := 1) (by decide +kernel) (by omega) dl_844 dl_845 dl_846 dl_847 dl_848 ?_
  refine hl_arg C hl hL 2 (z := 2) (by decide +kernel) (by omega) dl_849 dl_850 dl_851 dl_852 dl_853 ?_
  refine hl_arg C hl hL 3 (z := 3) (by decide +kernel) (by omega) dl_854 dl_855 dl_856 dl_857 dl_858 ?_
  refine hl_call C (as := [.int (xs (6 * n + 1)), .int (xs (6 * n + 2)), .int (xs (6 * n + 3))]) (rest := []) hcl hsl hl_k97 hl_q11 (c0 := 13) rfl dl_859 rfl rfl rfl (Nat.le_of_ble_eq_true rfl) hl.1 e1 ?_
  refine hl_a2 C hl dl_862 ?_
  refine hl_arg C hl hL 1 (z := 1) (by decide +kernel) (by omega) dl_863 dl_864 dl_865 dl_866 dl_867 ?_
  refine hl_arg C hl hL 2 (z := 2) (by decide +kernel) (by omega) dl_868 dl_869 dl_870 dl_871 dl_872 ?_
  refine hl_arg C hl hL 3 (z := 3) (by decide +kernel) (by omega) dl_873 dl_874 dl_875 dl_876 dl_877 ?_
  refine hl_call C (as := [.int (xs (6 * n + 1)), .int (xs (6 * n + 2)), .int (xs (6 * n + 3))]) (rest := [.int r]) hcl hsl hl_k100 hl_q12 (c0 := 54) rfl dl_878 rfl rfl rfl (Nat.le_of_ble_eq_true rfl) hl.1 e2 ?_
  refine hl_ieq C (tgt := 1067) dl_881 (by decide) ?_
  exact k σ2 hJ2
theorem hl_k101 : hl_ok 101 98 11 2 := ⟨by decide, by decide +kernel, by decide +kernel, by decide +kernel, by decide +kernel, by decide +kernel, hb_wd_in (i := 961) (by decide +kernel)⟩
theorem hl_k104 : hl_ok 104 173 12 2 := ⟨by decide, by decide +kernel, by decide +kernel, by decide +kernel, by decide +kernel, by decide +kernel, hb_wd_in (i := 1453) (by decide +kernel)⟩
set_option maxRecDepth 100000 in
theorem law_20 {p : Program} {l : Launch} {e : Env} {s : State} {m : MethodId} {below : List Frame} {meth : Method} {c : Code} {cells slots : Nat} {b L n : Nat} {xs : Nat → Int32} {ls : Array Slot} {D : va_G} {cI cZ cS : ClassId} {α : Nat → Nat} {ov : Value} {A : Nat → Prop} {σ : hbM} (C : hl_C p s m c b L xs D cI cZ cS α ov A) (hl : hl_L α b n ls) (hcl : cells ≤ 600000) (hsl : slots ≤ 7302250) (hL : L ≤ 3072) (hn : 6 * n + 6 ≤ L) (hJ : J n σ) (k : ∀ σ2, J (n + 1) σ2 → hl_W p l e s m below meth c b D cI cZ cS α A cells slots σ2 1067 ls []) : hl_W p l e s m below meth c b D cI cZ cS α A cells slots σ 886 ls [] := by
  obtain ⟨r, σ1, σ2, e1, e2, hJ2⟩ := o_fewest hJ (by omega) ((xs (6 * n + 1))) ((xs (6 * n + 2)))
  refine hl_a1 C hl dl_886 ?_
  refine hl_arg C hl hL 1 (z := 1) (by decide +kernel) (by omega) dl_887 dl_888 dl_889 dl_890 dl_891 ?_
  refine hl_arg C hl hL 2 (z := 2) (by decide +kernel) (by omega) dl_892 dl_893 dl_894 dl_895 dl_896 ?_
  refine hl_call C (as := [.int (xs (6 * n + 1)), .int (xs (6 * n + 2))]) (rest := []) hcl hsl hl_k101 hl_q11 (c0 := 13) rfl dl_897 rfl rfl rfl (Nat.le_of_ble_eq_true rfl) hl.1 e1 ?_
  refine hl_a2 C hl dl_900 ?_
  refine hl_arg C hl hL 1 (z := 1) (by decide +kernel) (by omega) dl_901 dl_902 dl_903 dl_904 dl_905 ?_
  refine hl_arg C hl hL 2 (z := 2) (by decide +kernel) (by omega) dl_906 dl_907 dl_908 dl_909 dl_910 ?_
  refine hl_call C (as := [.int (xs (6 * n + 1)), .int (xs (6 * n + 2))]) (rest := [.int r]) hcl hsl hl_k104 hl_q12 (c0 := 54) rfl dl_911 rfl rfl rfl (Nat.le_of_ble_eq_true rfl) hl.1 e2 ?_
  refine hl_ieq C (tgt := 1067) dl_914 (by decide) ?_
  exact k σ2 hJ2
theorem hl_k105 : hl_ok 105 99 11 1 := ⟨by decide, by decide +kernel, by decide +kernel, by decide +kernel, by decide +kernel, by decide +kernel, hb_wd_in (i := 984) (by decide +kernel)⟩
theorem hl_k108 : hl_ok 108 177 12 1 := ⟨by decide, by decide +kernel, by decide +kernel, by decide +kernel, by decide +kernel, by decide +kernel, hb_wd_in (i := 1468) (by decide +kernel)⟩
set_option maxRecDepth 100000 in
theorem law_21 {p : Program} {l : Launch} {e : Env} {s : State} {m : MethodId} {below : List Frame} {meth : Method} {c : Code} {cells slots : Nat} {b L n : Nat} {xs : Nat → Int32} {ls : Array Slot} {D : va_G} {cI cZ cS : ClassId} {α : Nat → Nat} {ov : Value} {A : Nat → Prop} {σ : hbM} (C : hl_C p s m c b L xs D cI cZ cS α ov A) (hl : hl_L α b n ls) (hcl : cells ≤ 600000) (hsl : slots ≤ 7302250) (hL : L ≤ 3072) (hn : 6 * n + 6 ≤ L) (hJ : J n σ) (k : ∀ σ2, J (n + 1) σ2 → hl_W p l e s m below meth c b D cI cZ cS α A cells slots σ2 1067 ls []) : hl_W p l e s m below meth c b D cI cZ cS α A cells slots σ 919 ls [] := by
  obtain ⟨r, σ1, σ2, e1, e2, hJ2⟩ := o_kind hJ ((xs (6 * n + 1)))
  refine hl_a1 C hl dl_919 ?_
  refine hl_arg C hl hL 1 (z := 1) (by decide +kernel) (by omega) dl_920 dl_921 dl_922 dl_923 dl_924 ?_
  refine hl_call C (as := [.int (xs (6 * n + 1))]) (rest := []) hcl hsl hl_k105 hl_q11 (c0 := 13) rfl dl_925 rfl rfl rfl (Nat.le_of_ble_eq_true rfl) hl.1 e1 ?_
  refine hl_a2 C hl dl_928 ?_
  refine hl_arg C hl hL 1 (z := 1) (by decide +kernel) (by omega) dl_929 dl_930 dl_931 dl_932 dl_933 ?_
  refine hl_call C (as := [.int (xs (6 * n + 1))]) (rest := [.int r]) hcl hsl hl_k108 hl_q12 (c0 := 54) rfl dl_934 rfl rfl rfl (Nat.le_of_ble_eq_true rfl) hl.1 e2 ?_
  refine hl_ieq C (tgt := 1067) dl_937 (by decide) ?_
  exact k σ2 hJ2
theorem hl_k109 : hl_ok 109 100 11 2 := ⟨by decide, by decide +kernel, by decide +kernel, by decide +kernel, by decide +kernel, by decide +kernel, hb_wd_in (i := 992) (by decide +kernel)⟩
theorem hl_k112 : hl_ok 112 178 12 2 := ⟨by decide, by decide +kernel, by decide +kernel, by decide +kernel, by decide +kernel, by decide +kernel, hb_wd_in (i := 1480) (by decide +kernel)⟩
set_option maxRecDepth 100000 in
theorem law_22 {p : Program} {l : Launch} {e : Env} {s : State} {m : MethodId} {below : List Frame} {meth : Method} {c : Code} {cells slots : Nat} {b L n : Nat} {xs : Nat → Int32} {ls : Array Slot} {D : va_G} {cI cZ cS : ClassId} {α : Nat → Nat} {ov : Value} {A : Nat → Prop} {σ : hbM} (C : hl_C p s m c b L xs D cI cZ cS α ov A) (hl : hl_L α b n ls) (hcl : cells ≤ 600000) (hsl : slots ≤ 7302250) (hL : L ≤ 3072) (hn : 6 * n + 6 ≤ L) (hJ : J n σ) (k : ∀ σ2, J (n + 1) σ2 → hl_W p l e s m below meth c b D cI cZ cS α A cells slots σ2 1067 ls []) : hl_W p l e s m below meth c b D cI cZ cS α A cells slots σ 942 ls [] := by
  obtain ⟨r, σ1, σ2, e1, e2, hJ2⟩ := o_as hJ ((xs (6 * n + 1))) ((xs (6 * n + 2)))
  refine hl_a1 C hl dl_942 ?_
  refine hl_arg C hl hL 1 (z := 1) (by decide +kernel) (by omega) dl_943 dl_944 dl_945 dl_946 dl_947 ?_
  refine hl_arg C hl hL 2 (z := 2) (by decide +kernel) (by omega) dl_948 dl_949 dl_950 dl_951 dl_952 ?_
  refine hl_call C (as := [.int (xs (6 * n + 1)), .int (xs (6 * n + 2))]) (rest := []) hcl hsl hl_k109 hl_q11 (c0 := 13) rfl dl_953 rfl rfl rfl (Nat.le_of_ble_eq_true rfl) hl.1 e1 ?_
  refine hl_a2 C hl dl_956 ?_
  refine hl_arg C hl hL 1 (z := 1) (by decide +kernel) (by omega) dl_957 dl_958 dl_959 dl_960 dl_961 ?_
  refine hl_arg C hl hL 2 (z := 2) (by decide +kernel) (by omega) dl_962 dl_963 dl_964 dl_965 dl_966 ?_
  refine hl_call C (as := [.int (xs (6 * n + 1)), .int (xs (6 * n + 2))]) (rest := [.int r]) hcl hsl hl_k112 hl_q12 (c0 := 54) rfl dl_967 rfl rfl rfl (Nat.le_of_ble_eq_true rfl) hl.1 e2 ?_
  refine hl_ieq C (tgt := 1067) dl_970 (by decide) ?_
  exact k σ2 hJ2
theorem hl_k113 : hl_ok 113 101 11 2 := ⟨by decide, by decide +kernel, by decide +kernel, by decide +kernel, by decide +kernel, by decide +kernel, hb_wd_in (i := 1001) (by decide +kernel)⟩
theorem hl_k116 : hl_ok 116 184 12 2 := ⟨by decide, by decide +kernel, by decide +kernel, by decide +kernel, by decide +kernel, by decide +kernel, hb_wd_in (i := 1488) (by decide +kernel)⟩
set_option maxRecDepth 100000 in
theorem law_23 {p : Program} {l : Launch} {e : Env} {s : State} {m : MethodId} {below : List Frame} {meth : Method} {c : Code} {cells slots : Nat} {b L n : Nat} {xs : Nat → Int32} {ls : Array Slot} {D : va_G} {cI cZ cS : ClassId} {α : Nat → Nat} {ov : Value} {A : Nat → Prop} {σ : hbM} (C : hl_C p s m c b L xs D cI cZ cS α ov A) (hl : hl_L α b n ls) (hcl : cells ≤ 600000) (hsl : slots ≤ 7302250) (hL : L ≤ 3072) (hn : 6 * n + 6 ≤ L) (hJ : J n σ) (k : ∀ σ2, J (n + 1) σ2 → hl_W p l e s m below meth c b D cI cZ cS α A cells slots σ2 1067 ls []) : hl_W p l e s m below meth c b D cI cZ cS α A cells slots σ 975 ls [] := by
  obtain ⟨r, σ1, σ2, e1, e2, hJ2⟩ := o_ask hJ ((xs (6 * n + 1))) ((xs (6 * n + 2)))
  refine hl_a1 C hl dl_975 ?_
  refine hl_arg C hl hL 1 (z := 1) (by decide +kernel) (by omega) dl_976 dl_977 dl_978 dl_979 dl_980 ?_
  refine hl_arg C hl hL 2 (z := 2) (by decide +kernel) (by omega) dl_981 dl_982 dl_983 dl_984 dl_985 ?_
  refine hl_call C (as := [.int (xs (6 * n + 1)), .int (xs (6 * n + 2))]) (rest := []) hcl hsl hl_k113 hl_q11 (c0 := 13) rfl dl_986 rfl rfl rfl (Nat.le_of_ble_eq_true rfl) hl.1 e1 ?_
  refine hl_a2 C hl dl_989 ?_
  refine hl_arg C hl hL 1 (z := 1) (by decide +kernel) (by omega) dl_990 dl_991 dl_992 dl_993 dl_994 ?_
  refine hl_arg C hl hL 2 (z := 2) (by decide +kernel) (by omega) dl_995 dl_996 dl_997 dl_998 dl_999 ?_
  refine hl_call C (as := [.int (xs (6 * n + 1)), .int (xs (6 * n + 2))]) (rest := [.int r]) hcl hsl hl_k116 hl_q12 (c0 := 54) rfl dl_1000 rfl rfl rfl (Nat.le_of_ble_eq_true rfl) hl.1 e2 ?_
  refine hl_ieq C (tgt := 1067) dl_1003 (by decide) ?_
  exact k σ2 hJ2
theorem hl_k117 : hl_ok 117 102 11 1 := ⟨by decide, by decide +kernel, by decide +kernel, by decide +kernel, by decide +kernel, by decide +kernel, hb_wd_in (i := 1029) (by decide +kernel)⟩
theorem hl_k120 : hl_ok 120 185 12 1 := ⟨by decide, by decide +kernel, by decide +kernel, by decide +kernel, by decide +kernel, by decide +kernel, hb_wd_in (i := 1512) (by decide +kernel)⟩
set_option maxRecDepth 100000 in
theorem law_24 {p : Program} {l : Launch} {e : Env} {s : State} {m : MethodId} {below : List Frame} {meth : Method} {c : Code} {cells slots : Nat} {b L n : Nat} {xs : Nat → Int32} {ls : Array Slot} {D : va_G} {cI cZ cS : ClassId} {α : Nat → Nat} {ov : Value} {A : Nat → Prop} {σ : hbM} (C : hl_C p s m c b L xs D cI cZ cS α ov A) (hl : hl_L α b n ls) (hcl : cells ≤ 600000) (hsl : slots ≤ 7302250) (hL : L ≤ 3072) (hn : 6 * n + 6 ≤ L) (hJ : J n σ) (k : ∀ σ2, J (n + 1) σ2 → hl_W p l e s m below meth c b D cI cZ cS α A cells slots σ2 1067 ls []) : hl_W p l e s m below meth c b D cI cZ cS α A cells slots σ 1008 ls [] := by
  obtain ⟨r, σ1, σ2, e1, e2, hJ2⟩ := o_trace hJ ((xs (6 * n + 1)))
  refine hl_a1 C hl dl_1008 ?_
  refine hl_arg C hl hL 1 (z := 1) (by decide +kernel) (by omega) dl_1009 dl_1010 dl_1011 dl_1012 dl_1013 ?_
  refine hl_call C (as := [.int (xs (6 * n + 1))]) (rest := []) hcl hsl hl_k117 hl_q11 (c0 := 13) rfl dl_1014 rfl rfl rfl (Nat.le_of_ble_eq_true rfl) hl.1 e1 ?_
  refine hl_a2 C hl dl_1017 ?_
  refine hl_arg C hl hL 1 (z := 1) (by decide +kernel) (by omega) dl_1018 dl_1019 dl_1020 dl_1021 dl_1022 ?_
  refine hl_call C (as := [.int (xs (6 * n + 1))]) (rest := [.int r]) hcl hsl hl_k120 hl_q12 (c0 := 54) rfl dl_1023 rfl rfl rfl (Nat.le_of_ble_eq_true rfl) hl.1 e2 ?_
  refine hl_ieq C (tgt := 1067) dl_1026 (by decide) ?_
  exact k σ2 hJ2
theorem hl_k121 : hl_ok 121 103 11 1 := ⟨by decide, by decide +kernel, by decide +kernel, by decide +kernel, by decide +kernel, by decide +kernel, hb_wd_in (i := 1033) (by decide +kernel)⟩
theorem hl_k124 : hl_ok 124 186 12 1 := ⟨by decide, by decide +kernel, by decide +kernel, by decide +kernel, by decide +kernel, by decide +kernel, hb_wd_in (i := 1516) (by decide +kernel)⟩
set_option maxRecDepth 100000 in
theorem law_25 {p : Program} {l : Launch} {e : Env} {s : State} {m : MethodId} {below : List Frame} {meth : Method} {c : Code} {cells slots : Nat} {b L n : Nat} {xs : Nat → Int32} {ls : Array Slot} {D : va_G} {cI cZ cS : ClassId} {α : Nat → Nat} {ov : Value} {A : Nat → Prop} {σ : hbM} (C : hl_C p s m c b L xs D cI cZ cS α ov A) (hl : hl_L α b n ls) (hcl : cells ≤ 600000) (hsl : slots ≤ 7302250) (hL : L ≤ 3072) (hn : 6 * n + 6 ≤ L) (hJ : J n σ) (k : ∀ σ2, J (n + 1) σ2 → hl_W p l e s m below meth c b D cI cZ cS α A cells slots σ2 1067 ls []) : hl_W p l e s m below meth c b D cI cZ cS α A cells slots σ 1031 ls [] := by
  obtain ⟨r, σ1, σ2, e1, e2, hJ2⟩ := o_count hJ ((xs (6 * n + 1)))
  refine hl_a1 C hl dl_1031 ?_
  refine hl_arg C hl hL 1 (z := 1) (by decide +kernel) (by omega) dl_1032 dl_1033 dl_1034 dl_1035 dl_1036 ?_
  refine hl_call C (as := [.int (xs (6 * n + 1))]) (rest := []) hcl hsl hl_k121 hl_q11 (c0 := 13) rfl dl_1037 rfl rfl rfl (Nat.le_of_ble_eq_true rfl) hl.1 e1 ?_
  refine hl_a2 C hl dl_1040 ?_
  refine hl_arg C hl hL 1 (z := 1) (by decide +kernel) (by omega) dl_1041 dl_1042 dl_1043 dl_1044 dl_1045 ?_
  refine hl_call C (as := [.int (xs (6 * n + 1))]) (rest := [.int r]) hcl hsl hl_k124 hl_q12 (c0 := 54) rfl dl_1046 rfl rfl rfl (Nat.le_of_ble_eq_true rfl) hl.1 e2 ?_
  refine hl_ieq C (tgt := 1067) dl_1049 (by decide) ?_
  exact k σ2 hJ2
theorem hl_k125 : hl_ok 125 104 11 0 := ⟨by decide, by decide +kernel, by decide +kernel, by decide +kernel, by decide +kernel, by decide +kernel, hb_wd_in (i := 1041) (by decide +kernel)⟩
theorem hl_k128 : hl_ok 128 187 12 0 := ⟨by decide, by decide +kernel, by decide +kernel, by decide +kernel, by decide +kernel, by decide +kernel, hb_wd_in (i := 1520) (by decide +kernel)⟩
set_option maxRecDepth 100000 in
theorem law_26 {p : Program} {l : Launch} {e : Env} {s : State} {m : MethodId} {below : List Frame} {meth : Method} {c : Code} {cells slots : Nat} {b L n : Nat} {xs : Nat → Int32} {ls : Array Slot} {D : va_G} {cI cZ cS : ClassId} {α : Nat → Nat} {ov : Value} {A : Nat → Prop} {σ : hbM} (C : hl_C p s m c b L xs D cI cZ cS α ov A) (hl : hl_L α b n ls) (hcl : cells ≤ 600000) (hsl : slots ≤ 7302250) (hL : L ≤ 3072) (hn : 6 * n + 6 ≤ L) (hJ : J n σ) (k : ∀ σ2, J (n + 1) σ2 → hl_W p l e s m below meth c b D cI cZ cS α A cells slots σ2 1067 ls []) : hl_W p l e s m below meth c b D cI cZ cS α A cells slots σ 1054 ls [] := by
  obtain ⟨r, σ1, σ2, e1, e2, hJ2⟩ := o_status hJ
  refine hl_a1 C hl dl_1054 ?_
  refine hl_call C (as := []) (rest := []) hcl hsl hl_k125 hl_q11 (c0 := 13) rfl dl_1055 rfl rfl rfl (Nat.le_of_ble_eq_true rfl) hl.1 e1 ?_
  refine hl_a2 C hl dl_1058 ?_
  refine hl_call C (as := []) (rest := [.int r]) hcl hsl hl_k128 hl_q12 (c0 := 54) rfl dl_1059 rfl rfl rfl (Nat.le_of_ble_eq_true rfl) hl.1 e2 ?_
  refine hl_ieq C (tgt := 1067) dl_1062 (by decide) ?_
  exact k σ2 hJ2
