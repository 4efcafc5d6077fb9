set_option maxRecDepth 100000 in
set_option maxHeartbeats 4000000 in
theorem l_case0 {b L : Nat} {xs : Nat → Int32} {cs : Nat → ClassId} {adC adM : Nat → Nat} {l : Launch} {X : LC} {σC σM σC' σM' : St} {i v : Int} (F : LOk b L xs cs adC adM l X) (hL : L < 2147483648) (hi : 0 ≤ i ∧ i + 7 ≤ (L : Int)) (hC : ansC 0 σC (fun k => (xs (i + (k : Int)).toNat).toInt) = some (v, σC')) (hM : ansM 0 σM (fun k => (xs (i + (k : Int)).toNat).toInt) = some (v, σM')) (kk : LAt b cs adC adM X σC' σM' [(0, .ref b), (1, .ref (adC 0)), (2, .ref (adM 0)), (3, iv i)] [] 1141) : LAt b cs adC adM X σC σM [(0, .ref b), (1, .ref (adC 0)), (2, .ref (adM 0)), (3, iv i)] [] 172 := by
  obtain ⟨hi0, hi7⟩ := hi
  refine l_aload_n F dL_law_172 rfl 1 rfl ?_
  refine l_aload_n F dL_law_173 rfl 0 rfl ?_
  refine l_iload_n F dL_law_174 rfl 3 rfl ?_
  refine l_iconst F dL_law_175 ?_
  refine l_iadd F dL_law_176 ?_
  refine l_sld F ⟨by omega, by omega⟩ hL dL_law_177 ?_
  refine l_aload_n F dL_law_178 rfl 0 rfl ?_
  refine l_iload_n F dL_law_179 rfl 3 rfl ?_
  refine l_iconst F dL_law_180 ?_
  refine l_iadd F dL_law_181 ?_
  refine l_sld F ⟨by omega, by omega⟩ hL dL_law_182 ?_
  refine l_callCI F tC_0 rfl lkl_13 c_X10_rectangle rfl rfl ⟨rfl, rfl⟩ ⟨Nat.le_of_ble_eq_true rfl, Nat.le_of_ble_eq_true rfl⟩ rfl (Nat.le_of_ble_eq_true rfl) dL_law_183 hC ?_
  refine l_aload_n F dL_law_186 rfl 2 rfl ?_
  refine l_aload_n F dL_law_187 rfl 0 rfl ?_
  refine l_iload_n F dL_law_188 rfl 3 rfl ?_
  refine l_iconst F dL_law_189 ?_
  refine l_iadd F dL_law_190 ?_
  refine l_sld F ⟨by omega, by omega⟩ hL dL_law_191 ?_
  refine l_aload_n F dL_law_192 rfl 0 rfl ?_
  refine l_iload_n F dL_law_193 rfl 3 rfl ?_
  refine l_iconst F dL_law_194 ?_
  refine l_iadd F dL_law_195 ?_
  refine l_sld F ⟨by omega, by omega⟩ hL dL_law_196 ?_
  refine l_callMI F tM_0 rfl lkl_17 c_X11_rectangle rfl rfl ⟨rfl, rfl⟩ ⟨Nat.le_of_ble_eq_true rfl, Nat.le_of_ble_eq_true rfl⟩ rfl (Nat.le_of_ble_eq_true rfl) dL_law_197 hM ?_
  refine l_same F (tgt := 1141) dL_law_200 (by decide) ?_
  exact kk
set_option maxRecDepth 100000 in
set_option maxHeartbeats 4000000 in
theorem l_case1 {b L : Nat} {xs : Nat → Int32} {cs : Nat → ClassId} {adC adM : Nat → Nat} {l : Launch} {X : LC} {σC σM σC' σM' : St} {i v : Int} (F : LOk b L xs cs adC adM l X) (hL : L < 2147483648) (hi : 0 ≤ i ∧ i + 7 ≤ (L : Int)) (hC : ansC 1 σC (fun k => (xs (i + (k : Int)).toNat).toInt) = some (v, σC')) (hM : ansM 1 σM (fun k => (xs (i + (k : Int)).toNat).toInt) = some (v, σM')) (kk : LAt b cs adC adM X σC' σM' [(0, .ref b), (1, .ref (adC 0)), (2, .ref (adM 0)), (3, iv i)] [] 1141) : LAt b cs adC adM X σC σM [(0, .ref b), (1, .ref (adC 0)), (2, .ref (adM 0)), (3, iv i)] [] 205 := by
  obtain ⟨hi0, hi7⟩ := hi
  refine l_aload_n F dL_law_205 rfl 1 rfl ?_
  refine l_aload_n F dL_law_206 rfl 0 rfl ?_
  refine l_iload_n F dL_law_207 rfl 3 rfl ?_
  refine l_iconst F dL_law_208 ?_
  refine l_iadd F dL_law_209 ?_
  refine l_sld F ⟨by omega, by omega⟩ hL dL_law_210 ?_
  refine l_callCI F tC_0 rfl lkl_18 c_X10_season rfl rfl ⟨rfl, rfl⟩ ⟨Nat.le_of_ble_eq_true rfl, Nat.le_of_ble_eq_true rfl⟩ rfl (Nat.le_of_ble_eq_true rfl) dL_law_211 hC ?_
  refine l_aload_n F dL_law_214 rfl 2 rfl ?_
  refine l_aload_n F dL_law_215 rfl 0 rfl ?_
  refine l_iload_n F dL_law_216 rfl 3 rfl ?_
  refine l_iconst F dL_law_217 ?_
  refine l_iadd F dL_law_218 ?_
  refine l_sld F ⟨by omega, by omega⟩ hL dL_law_219 ?_
  refine l_callMI F tM_0 rfl lkl_22 c_X11_season rfl rfl ⟨rfl, rfl⟩ ⟨Nat.le_of_ble_eq_true rfl, Nat.le_of_ble_eq_true rfl⟩ rfl (Nat.le_of_ble_eq_true rfl) dL_law_220 hM ?_
  refine l_same F (tgt := 1141) dL_law_223 (by decide) ?_
  exact kk
set_option maxRecDepth 100000 in
set_option maxHeartbeats 4000000 in
theorem l_case2 {b L : Nat} {xs : Nat → Int32} {cs : Nat → ClassId} {adC adM : Nat → Nat} {l : Launch} {X : LC} {σC σM σC' σM' : St} {i v : Int} (F : LOk b L xs cs adC adM l X) (hL : L < 2147483648) (hi : 0 ≤ i ∧ i + 7 ≤ (L : Int)) (hC : ansC 2 σC (fun k => (xs (i + (k : Int)).toNat).toInt) = some (v, σC')) (hM : ansM 2 σM (fun k => (xs (i + (k : Int)).toNat).toInt) = some (v, σM')) (kk : LAt b cs adC adM X σC' σM' [(0, .ref b), (1, .ref (adC 0)), (2, .ref (adM 0)), (3, iv i)] [] 1141) : LAt b cs adC adM X σC σM [(0, .ref b), (1, .ref (adC 0)), (2, .ref (adM 0)), (3, iv i)] [] 228 := by
  obtain ⟨hi0, hi7⟩ := hi
  refine l_aload_n F dL_law_228 rfl 1 rfl ?_
  refine l_aload_n F dL_law_229 rfl 0 rfl ?_
  refine l_iload_n F dL_law_230 rfl 3 rfl ?_
  refine l_iconst F dL_law_231 ?_
  refine l_iadd F dL_law_232 ?_
  refine l_sld F ⟨by omega, by omega⟩ hL dL_law_233 ?_
  refine l_aload_n F dL_law_234 rfl 0 rfl ?_
  refine l_iload_n F dL_law_235 rfl 3 rfl ?_
  refine l_iconst F dL_law_236 ?_
  refine l_iadd F dL_law_237 ?_
  refine l_sld F ⟨by omega, by omega⟩ hL dL_law_238 ?_
  refine l_aload_n F dL_law_239 rfl 0 rfl ?_
  refine l_iload_n F dL_law_240 rfl 3 rfl ?_
  refine l_iconst F dL_law_241 ?_
  refine l_iadd F dL_law_242 ?_
  refine l_sld F ⟨by omega, by omega⟩ hL dL_law_243 ?_
  refine l_aload_n F dL_law_244 rfl 0 rfl ?_
  refine l_iload_n F dL_law_245 rfl 3 rfl ?_
  refine l_iconst F dL_law_246 ?_
  refine l_iadd F dL_law_247 ?_
  refine l_sld F ⟨by omega, by omega⟩ hL dL_law_248 ?_
  refine l_callCI F tC_0 rfl lkl_23 c_X10_sink rfl rfl ⟨rfl, rfl⟩ ⟨Nat.le_of_ble_eq_true rfl, Nat.le_of_ble_eq_true rfl⟩ rfl (Nat.le_of_ble_eq_true rfl) dL_law_249 hC ?_
  refine l_aload_n F dL_law_252 rfl 2 rfl ?_
  refine l_aload_n F dL_law_253 rfl 0 rfl ?_
  refine l_iload_n F dL_law_254 rfl 3 rfl ?_
  refine l_iconst F dL_law_255 ?_
  refine l_iadd F dL_law_256 ?_
  refine l_sld F ⟨by omega, by omega⟩ hL dL_law_257 ?_
  refine l_aload_n F dL_law_258 rfl 0 rfl ?_
  refine l_iload_n F dL_law_259 rfl 3 rfl ?_
  refine l_iconst F dL_law_260 ?_
  refine l_iadd F dL_law_261 ?_
  refine l_sld F ⟨by omega, by omega⟩ hL dL_law_262 ?_
  refine l_aload_n F dL_law_263 rfl 0 rfl ?_
  refine l_iload_n F dL_law_264 rfl 3 rfl ?_
  refine l_iconst F dL_law_265 ?_
  refine l_iadd F dL_law_266 ?_
  refine l_sld F ⟨by omega, by omega⟩ hL dL_law_267 ?_
  refine l_aload_n F dL_law_268 rfl 0 rfl ?_
  refine l_iload_n F dL_law_269 rfl 3 rfl ?_
  refine l_iconst F dL_law_270 ?_
  refine l_iadd F dL_law_271 ?_
  refine l_sld F ⟨by omega, by omega⟩ hL dL_law_272 ?_
  refine l_callMI F tM_0 rfl lkl_27 c_X11_sink rfl rfl ⟨rfl, rfl⟩ ⟨Nat.le_of_ble_eq_true rfl, Nat.le_of_ble_eq_true rfl⟩ rfl (Nat.le_of_ble_eq_true rfl) dL_law_273 hM ?_
  refine l_same F (tgt := 1141) dL_law_276 (by decide) ?_
  exact kk
set_option maxRecDepth 100000 in
set_option maxHeartbeats 4000000 in
theorem l_case3 {b L : Nat} {xs : Nat → Int32} {cs : Nat → ClassId} {adC adM : Nat → Nat} {l : Launch} {X : LC} {σC σM σC' σM' : St} {i v : Int} (F : LOk b L xs cs adC adM l X) (hL : L < 2147483648) (hi : 0 ≤ i ∧ i + 7 ≤ (L : Int)) (hC : ansC 3 σC (fun k => (xs (i + (k : Int)).toNat).toInt) = some (v, σC')) (hM : ansM 3 σM (fun k => (xs (i + (k : Int)).toNat).toInt) = some (v, σM')) (kk : LAt b cs adC adM X σC' σM' [(0, .ref b), (1, .ref (adC 0)), (2, .ref (adM 0)), (3, iv i)] [] 1141) : LAt b cs adC adM X σC σM [(0, .ref b), (1, .ref (adC 0)), (2, .ref (adM 0)), (3, iv i)] [] 281 := by
  obtain ⟨hi0, hi7⟩ := hi
  refine l_aload_n F dL_law_281 rfl 1 rfl ?_
  refine l_aload_n F dL_law_282 rfl 0 rfl ?_
  refine l_iload_n F dL_law_283 rfl 3 rfl ?_
  refine l_iconst F dL_law_284 ?_
  refine l_iadd F dL_law_285 ?_
  refine l_sld F ⟨by omega, by omega⟩ hL dL_law_286 ?_
  refine l_callCI F tC_0 rfl lkl_28 c_X10_fill rfl rfl ⟨rfl, rfl⟩ ⟨Nat.le_of_ble_eq_true rfl, Nat.le_of_ble_eq_true rfl⟩ rfl (Nat.le_of_ble_eq_true rfl) dL_law_287 hC ?_
  refine l_aload_n F dL_law_290 rfl 2 rfl ?_
  refine l_aload_n F dL_law_291 rfl 0 rfl ?_
  refine l_iload_n F dL_law_292 rfl 3 rfl ?_
  refine l_iconst F dL_law_293 ?_
  refine l_iadd F dL_law_294 ?_
  refine l_sld F ⟨by omega, by omega⟩ hL dL_law_295 ?_
  refine l_callMI F tM_0 rfl lkl_31 c_X11_fill rfl rfl ⟨rfl, rfl⟩ ⟨Nat.le_of_ble_eq_true rfl, Nat.le_of_ble_eq_true rfl⟩ rfl (Nat.le_of_ble_eq_true rfl) dL_law_296 hM ?_
  refine l_same F (tgt := 1141) dL_law_299 (by decide) ?_
  exact kk
set_option maxRecDepth 100000 in
set_option maxHeartbeats 4000000 in
theorem l_case4 {b L : Nat} {xs : Nat → Int32} {cs : Nat → ClassId} {adC adM : Nat → Nat} {l : Launch} {X : LC} {σC σM σC' σM' : St} {i v : Int} (F : LOk b L xs cs adC adM l X) (hL : L < 2147483648) (hi : 0 ≤ i ∧ i + 7 ≤ (L : Int)) (hC : ansC 4 σC (fun k => (xs (i + (k : Int)).toNat).toInt) = some (v, σC')) (hM : ansM 4 σM (fun k => (xs (i + (k : Int)).toNat).toInt) = some (v, σM')) (kk : LAt b cs adC adM X σC' σM' [(0, .ref b), (1, .ref (adC 0)), (2, .ref (adM 0)), (3, iv i)] [] 1141) : LAt b cs adC adM X σC σM [(0, .ref b), (1, .ref (adC 0)), (2, .ref (adM 0)), (3, iv i)] [] 304 := by
  obtain ⟨hi0, hi7⟩ := hi
  refine l_aload_n F dL_law_304 rfl 1 rfl ?_
  refine l_aload_n F dL_law_305 rfl 0 rfl ?_
  refine l_iload_n F dL_law_306 rfl 3 rfl ?_
  refine l_iconst F dL_law_307 ?_
  refine l_iadd F dL_law_308 ?_
  refine l_sld F ⟨by omega, by omega⟩ hL dL_law_309 ?_
  refine l_aload_n F dL_law_310 rfl 0 rfl ?_
  refine l_iload_n F dL_law_311 rfl 3 rfl ?_
  refine l_iconst F dL_law_312 ?_
  refine l_iadd F dL_law_313 ?_
  refine l_sld F ⟨by omega, by omega⟩ hL dL_law_314 ?_
  refine l_aload_n F dL_law_315 rfl 0 rfl ?_
  refine l_iload_n F dL_law_316 rfl 3 rfl ?_
  refine l_iconst F dL_law_317 ?_
  refine l_iadd F dL_law_318 ?_
  refine l_sld F ⟨by omega, by omega⟩ hL dL_law_319 ?_
  refine l_callCI F tC_0 rfl lkl_32 c_X10_become rfl rfl ⟨rfl, rfl⟩ ⟨Nat.le_of_ble_eq_true rfl, Nat.le_of_ble_eq_true rfl⟩ rfl (Nat.le_of_ble_eq_true rfl) dL_law_320 hC ?_
  refine l_aload_n F dL_law_323 rfl 2 rfl ?_
  refine l_aload_n F dL_law_324 rfl 0 rfl ?_
  refine l_iload_n F dL_law_325 rfl 3 rfl ?_
  refine l_iconst F dL_law_326 ?_
  refine l_iadd F dL_law_327 ?_
  refine l_sld F ⟨by omega, by omega⟩ hL dL_law_328 ?_
  refine l_aload_n F dL_law_329 rfl 0 rfl ?_
  refine l_iload_n F dL_law_330 rfl 3 rfl ?_
  refine l_iconst F dL_law_331 ?_
  refine l_iadd F dL_law_332 ?_
  refine l_sld F ⟨by omega, by omega⟩ hL dL_law_333 ?_
  refine l_aload_n F dL_law_334 rfl 0 rfl ?_
  refine l_iload_n F dL_law_335 rfl 3 rfl ?_
  refine l_iconst F dL_law_336 ?_
  refine l_iadd F dL_law_337 ?_
  refine l_sld F ⟨by omega, by omega⟩ hL dL_law_338 ?_
  refine l_callMI F tM_0 rfl lkl_36 c_X11_become rfl rfl ⟨rfl, rfl⟩ ⟨Nat.le_of_ble_eq_true rfl, Nat.le_of_ble_eq_true rfl⟩ rfl (Nat.le_of_ble_eq_true rfl) dL_law_339 hM ?_
  refine l_same F (tgt := 1141) dL_law_342 (by decide) ?_
  exact kk
set_option maxRecDepth 100000 in
set_option maxHeartbeats 4000000 in
theorem l_case5 {b L : Nat} {xs : Nat → Int32} {cs : Nat → ClassId} {adC adM : Nat → Nat} {l : Launch} {X : LC} {σC σM σC' σM' : St} {i v : Int} (F : LOk b L xs cs adC adM l X) (hL : L < 2147483648) (hi : 0 ≤ i ∧ i + 7 ≤ (L : Int)) (hC : ansC 5 σC (fun k => (xs (i + (k : Int)).toNat).toInt) = some (v, σC')) (hM : ansM 5 σM (fun k => (xs (i + (k : Int)).toNat).toInt) = some (v, σM')) (kk : LAt b cs adC adM X σC' σM' [(0, .ref b), (1, .ref (adC 0)), (2, .ref (adM 0)), (3, iv i)] [] 1141) : LAt b cs adC adM X σC σM [(0, .ref b), (1, .ref (adC 0)), (2, .ref (adM 0)), (3, iv i)] [] 347 := by
  obtain ⟨hi0, hi7⟩ := hi
  refine l_aload_n F dL_law_347 rfl 1 rfl ?_
  refine l_aload_n F dL_law_348 rfl 0 rfl ?_
  refine l_iload_n F dL_law_349 rfl 3 rfl ?_
  refine l_iconst F dL_law_350 ?_
  refine l_iadd F dL_law_351 ?_
  refine l_sld F ⟨by omega, by omega⟩ hL dL_law_352 ?_
  refine l_aload_n F dL_law_353 rfl 0 rfl ?_
  refine l_iload_n F dL_law_354 rfl 3 rfl ?_
  refine l_iconst F dL_law_355 ?_
  refine l_iadd F dL_law_356 ?_
  refine l_sld F ⟨by omega, by omega⟩ hL dL_law_357 ?_
  refine l_callCI F tC_0 rfl lkl_37 c_X10_well rfl rfl ⟨rfl, rfl⟩ ⟨Nat.le_of_ble_eq_true rfl, Nat.le_of_ble_eq_true rfl⟩ rfl (Nat.le_of_ble_eq_true rfl) dL_law_358 hC ?_
  refine l_aload_n F dL_law_361 rfl 2 rfl ?_
  refine l_aload_n F dL_law_362 rfl 0 rfl ?_
  refine l_iload_n F dL_law_363 rfl 3 rfl ?_
  refine l_iconst F dL_law_364 ?_
  refine l_iadd F dL_law_365 ?_
  refine l_sld F ⟨by omega, by omega⟩ hL dL_law_366 ?_
  refine l_aload_n F dL_law_367 rfl 0 rfl ?_
  refine l_iload_n F dL_law_368 rfl 3 rfl ?_
  refine l_iconst F dL_law_369 ?_
  refine l_iadd F dL_law_370 ?_
  refine l_sld F ⟨by omega, by omega⟩ hL dL_law_371 ?_
  refine l_callMI F tM_0 rfl lkl_41 c_X11_well rfl rfl ⟨rfl, rfl⟩ ⟨Nat.le_of_ble_eq_true rfl, Nat.le_of_ble_eq_true rfl⟩ rfl (Nat.le_of_ble_eq_true rfl) dL_law_372 hM ?_
  refine l_same F (tgt := 1141) dL_law_375 (by decide) ?_
  exact kk
set_option maxRecDepth 100000 in
set_option maxHeartbeats 4000000 in
theorem l_case6 {b L : Nat} {xs : Nat → Int32} {cs : Nat → ClassId} {adC adM : Nat → Nat} {l : Launch} {X : LC} {σC σM σC' σM' : St} {i v : Int} (F : LOk b L xs cs adC adM l X) (hL : L < 2147483648) (hi : 0 ≤ i ∧ i + 7 ≤ (L : Int)) (hC : ansC 6 σC (fun k => (xs (i + (k : Int)).toNat).toInt) = some (v, σC')) (hM : ansM 6 σM (fun k => (xs (i + (k : Int)).toNat).toInt) = some (v, σM')) (kk : LAt b cs adC adM X σC' σM' [(0, .ref b), (1, .ref (adC 0)), (2, .ref (adM 0)), (3, iv i)] [] 1141) : LAt b cs adC adM X σC σM [(0, .ref b), (1, .ref (adC 0)), (2, .ref (adM 0)), (3, iv i)] [] 380 := by
  obtain ⟨hi0, hi7⟩ := hi
  refine l_aload_n F dL_law_380 rfl 1 rfl ?_
  refine l_aload_n F dL_law_381 rfl 0 rfl ?_
  refine l_iload_n F dL_law_382 rfl 3 rfl ?_
  refine l_iconst F dL_law_383 ?_
  refine l_iadd F dL_law_384 ?_
  refine l_sld F ⟨by omega, by omega⟩ hL dL_law_385 ?_
  refine l_aload_n F dL_law_386 rfl 0 rfl ?_
  refine l_iload_n F dL_law_387 rfl 3 rfl ?_
  refine l_iconst F dL_law_388 ?_
  refine l_iadd F dL_law_389 ?_
  refine l_sld F ⟨by omega, by omega⟩ hL dL_law_390 ?_
  refine l_callCI F tC_0 rfl lkl_42 c_X10_ask rfl rfl ⟨rfl, rfl⟩ ⟨Nat.le_of_ble_eq_true rfl, Nat.le_of_ble_eq_true rfl⟩ rfl (Nat.le_of_ble_eq_true rfl) dL_law_391 hC ?_
  refine l_aload_n F dL_law_394 rfl 2 rfl ?_
  refine l_aload_n F dL_law_395 rfl 0 rfl ?_
  refine l_iload_n F dL_law_396 rfl 3 rfl ?_
  refine l_iconst F dL_law_397 ?_
  refine l_iadd F dL_law_398 ?_
  refine l_sld F ⟨by omega, by omega⟩ hL dL_law_399 ?_
  refine l_aload_n F dL_law_400 rfl 0 rfl ?_
  refine l_iload_n F dL_law_401 rfl 3 rfl ?_
  refine l_iconst F dL_law_402 ?_
  refine l_iadd F dL_law_403 ?_
  refine l_sld F ⟨by omega, by omega⟩ hL dL_law_404 ?_
  refine l_callMI F tM_0 rfl lkl_45 c_X11_ask rfl rfl ⟨rfl, rfl⟩ ⟨Nat.le_of_ble_eq_true rfl, Nat.le_of_ble_eq_true rfl⟩ rfl (Nat.le_of_ble_eq_true rfl) dL_law_405 hM ?_
  refine l_same F (tgt := 1141) dL_law_408 (by decide) ?_
  exact kk
set_option maxRecDepth 100000 in
set_option maxHeartbeats 4000000 in
theorem l_case7 {b L : Nat} {xs : Nat → Int32} {cs : Nat → ClassId} {adC adM : Nat → Nat} {l : Launch} {X : LC} {σC σM σC' σM' : St} {i v : Int} (F : LOk b L xs cs adC adM l X) (hL : L < 2147483648) (hi : 0 ≤ i ∧ i + 7 ≤ (L : Int)) (hC : ansC 7 σC (fun k => (xs (i + (k : Int)).toNat).toInt) = some (v, σC')) (hM : ansM 7 σM (fun k => (xs (i + (k : Int)).toNat).toInt) = some (v, σM')) (kk : LAt b cs adC adM X σC' σM' [(0, .ref b), (1, .ref (adC 0)), (2, .ref (adM 0)), (3, iv i)] [] 1141) : LAt b cs adC adM X σC σM [(0, .ref b), (1, .ref (adC 0)), (2, .ref (adM 0)), (3, iv i)] [] 413 := by
  obtain ⟨hi0, hi7⟩ := hi
  refine l_aload_n F dL_law_413 rfl 1 rfl ?_
  refine l_aload_n F dL_law_414 rfl 0 rfl ?_
  refine l_iload_n F dL_law_415 rfl 3 rfl ?_
  refine l_iconst F dL_law_416 ?_
  refine l_iadd F dL_law_417 ?_
  refine l_sld F ⟨by omega, by omega⟩ hL dL_law_418 ?_
  refine l_callCI F tC_0 rfl lkl_46 c_X10_count rfl rfl ⟨rfl, rfl⟩ ⟨Nat.le_of_ble_eq_true rfl, Nat.le_of_ble_eq_true rfl⟩ rfl (Nat.le_of_ble_eq_true rfl) dL_law_419 hC ?_
  refine l_aload_n F dL_law_422 rfl 2 rfl ?_
  refine l_aload_n F dL_law_423 rfl 0 rfl ?_
  refine l_iload_n F dL_law_424 rfl 3 rfl ?_
  refine l_iconst F dL_law_425 ?_
  refine l_iadd F dL_law_426 ?_
  refine l_sld F ⟨by omega, by omega⟩ hL dL_law_427 ?_
  refine l_callMI F tM_0 rfl lkl_49 c_X11_count rfl rfl ⟨rfl, rfl⟩ ⟨Nat.le_of_ble_eq_true rfl, Nat.le_of_ble_eq_true rfl⟩ rfl (Nat.le_of_ble_eq_true rfl) dL_law_428 hM ?_
  refine l_same F (tgt := 1141) dL_law_431 (by decide) ?_
  exact kk
set_option maxRecDepth 100000 in
set_option maxHeartbeats 4000000 in
theorem l_case8 {b L : Nat} {xs : Nat → Int32} {cs : Nat → ClassId} {adC adM : Nat → Nat} {l : Launch} {X : LC} {σC σM σC' σM' : St} {i v : Int} (F : LOk b L xs cs adC adM l X) (hL : L < 2147483648) (hi : 0 ≤ i ∧ i + 7 ≤ (L : Int)) (hC : ansC 8 σC (fun k => (xs (i + (k : Int)).toNat).toInt) = some (v, σC')) (hM : ansM 8 σM (fun k => (xs (i + (k : Int)).toNat).toInt) = some (v, σM')) (kk : LAt b cs adC adM X σC' σM' [(0, .ref b), (1, .ref (adC 0)), (2, .ref (adM 0)), (3, iv i)] [] 1141) : LAt b cs adC adM X σC σM [(0, .ref b), (1, .ref (adC 0)), (2, .ref (adM 0)), (3, iv i)] [] 436 := by
  obtain ⟨hi0, hi7⟩ := hi
  refine l_aload_n F dL_law_436 rfl 1 rfl ?_
  refine l_aload_n F dL_law_437 rfl 0 rfl ?_
  refine l_iload_n F dL_law_438 rfl 3 rfl ?_
  refine l_iconst F dL_law_439 ?_
  refine l_iadd F dL_law_440 ?_
  refine l_sld F ⟨by omega, by omega⟩ hL dL_law_441 ?_
  refine l_aload_n F dL_law_442 rfl 0 rfl ?_
  refine l_iload_n F dL_law_443 rfl 3 rfl ?_
  refine l_iconst F dL_law_444 ?_
  refine l_iadd F dL_law_445 ?_
  refine l_sld F ⟨by omega, by omega⟩ hL dL_law_446 ?_
  refine l_aload_n F dL_law_447 rfl 0 rfl ?_
  refine l_iload_n F dL_law_448 rfl 3 rfl ?_
  refine l_iconst F dL_law_449 ?_
  refine l_iadd F dL_law_450 ?_
  refine l_sld F ⟨by omega, by omega⟩ hL dL_law_451 ?_
  refine l_callCI F tC_0 rfl lkl_50 c_X10_serves rfl rfl ⟨rfl, rfl⟩ ⟨Nat.le_of_ble_eq_true rfl, Nat.le_of_ble_eq_true rfl⟩ rfl (Nat.le_of_ble_eq_true rfl) dL_law_452 hC ?_
  refine l_aload_n F dL_law_455 rfl 2 rfl ?_
  refine l_aload_n F dL_law_456 rfl 0 rfl ?_
  refine l_iload_n F dL_law_457 rfl 3 rfl ?_
  refine l_iconst F dL_law_458 ?_
  refine l_iadd F dL_law_459 ?_
  refine l_sld F ⟨by omega, by omega⟩ hL dL_law_460 ?_
  refine l_aload_n F dL_law_461 rfl 0 rfl ?_
  refine l_iload_n F dL_law_462 rfl 3 rfl ?_
  refine l_iconst F dL_law_463 ?_
  refine l_iadd F dL_law_464 ?_
  refine l_sld F ⟨by omega, by omega⟩ hL dL_law_465 ?_
  refine l_aload_n F dL_law_466 rfl 0 rfl ?_
  refine l_iload_n F dL_law_467 rfl 3 rfl ?_
  refine l_iconst F dL_law_468 ?_
  refine l_iadd F dL_law_469 ?_
  refine l_sld F ⟨by omega, by omega⟩ hL dL_law_470 ?_
  refine l_callMI F tM_0 rfl lkl_53 c_X11_serves rfl rfl ⟨rfl, rfl⟩ ⟨Nat.le_of_ble_eq_true rfl, Nat.le_of_ble_eq_true rfl⟩ rfl (Nat.le_of_ble_eq_true rfl) dL_law_471 hM ?_
  refine l_same F (tgt := 1141) dL_law_474 (by decide) ?_
  exact kk
set_option maxRecDepth 100000 in
set_option maxHeartbeats 4000000 in
theorem l_case9 {b L : Nat} {xs : Nat → Int32} {cs : Nat → ClassId} {adC adM : Nat → Nat} {l : Launch} {X : LC} {σC σM σC' σM' : St} {i v : Int} (F : LOk b L xs cs adC adM l X) (hL : L < 2147483648) (hi : 0 ≤ i ∧ i + 7 ≤ (L : Int)) (hC : ansC 9 σC (fun k => (xs (i + (k : Int)).toNat).toInt) = some (v, σC')) (hM : ansM 9 σM (fun k => (xs (i + (k : Int)).toNat).toInt) = some (v, σM')) (kk : LAt b cs adC adM X σC' σM' [(0, .ref b), (1, .ref (adC 0)), (2, .ref (adM 0)), (3, iv i)] [] 1141) : LAt b cs adC adM X σC σM [(0, .ref b), (1, .ref (adC 0)), (2, .ref (adM 0)), (3, iv i)] [] 479 := by
  obtain ⟨hi0, hi7⟩ := hi
  refine l_aload_n F dL_law_479 rfl 1 rfl ?_
  refine l_aload_n F dL_law_480 rfl 0 rfl ?_
  refine l_iload_n F dL_law_481 rfl 3 rfl ?_
  refine l_iconst F dL_law_482 ?_
  refine l_iadd F dL_law_483 ?_
  refine l_sld F ⟨by omega, by omega⟩ hL dL_law_484 ?_
  refine l_aload_n F dL_law_485 rfl 0 rfl ?_
  refine l_iload_n F dL_law_486 rfl 3 rfl ?_
  refine l_iconst F dL_law_487 ?_
  refine l_iadd F dL_law_488 ?_
  refine l_sld F ⟨by omega, by omega⟩ hL dL_law_489 ?_
  refine l_aload_n F dL_law_490 rfl 0 rfl ?_
  refine l_iload_n F dL_law_491 rfl 3 rfl ?_
  refine l_iconst F dL_law_492 ?_
  refine l_iadd F dL_law_493 ?_
  refine l_sld F ⟨by omega, by omega⟩ hL dL_law_494 ?_
  refine l_aload_n F dL_law_495 rfl 0 rfl ?_
  refine l_iload_n F dL_law_496 rfl 3 rfl ?_
  refine l_iconst F dL_law_497 ?_
  refine l_iadd F dL_law_498 ?_
  refine l_sld F ⟨by omega, by omega⟩ hL dL_law_499 ?_
  refine l_callCI F tC_0 rfl lkl_54 c_X10_next rfl rfl ⟨rfl, rfl⟩ ⟨Nat.le_of_ble_eq_true rfl, Nat.le_of_ble_eq_true rfl⟩ rfl (Nat.le_of_ble_eq_true rfl) dL_law_500 hC ?_
  refine l_aload_n F dL_law_503 rfl 2 rfl ?_
  refine l_aload_n F dL_law_504 rfl 0 rfl ?_
  refine l_iload_n F dL_law_505 rfl 3 rfl ?_
  refine l_iconst F dL_law_506 ?_
  refine l_iadd F dL_law_507 ?_
  refine l_sld F ⟨by omega, by omega⟩ hL dL_law_508 ?_
  refine l_aload_n F dL_law_509 rfl 0 rfl ?_
  refine l_iload_n F dL_law_510 rfl 3 rfl ?_
  refine l_iconst F dL_law_511 ?_
  refine l_iadd F dL_law_512 ?_
  refine l_sld F ⟨by omega, by omega⟩ hL dL_law_513 ?_
  refine l_aload_n F dL_law_514 rfl 0 rfl ?_
  refine l_iload_n F dL_law_515 rfl 3 rfl ?_
  refine l_iconst F dL_law_516 ?_
  refine l_iadd F dL_law_517 ?_
  refine l_sld F ⟨by omega, by omega⟩ hL dL_law_518 ?_
  refine l_aload_n F dL_law_519 rfl 0 rfl ?_
  refine l_iload_n F dL_law_520 rfl 3 rfl ?_
  refine l_iconst F dL_law_521 ?_
  refine l_iadd F dL_law_522 ?_
  refine l_sld F ⟨by omega, by omega⟩ hL dL_law_523 ?_
  refine l_callMI F tM_0 rfl lkl_57 c_X11_next rfl rfl ⟨rfl, rfl⟩ ⟨Nat.le_of_ble_eq_true rfl, Nat.le_of_ble_eq_true rfl⟩ rfl (Nat.le_of_ble_eq_true rfl) dL_law_524 hM ?_
  refine l_same F (tgt := 1141) dL_law_527 (by decide) ?_
  exact kk
set_option maxRecDepth 100000 in
set_option maxHeartbeats 4000000 in
theorem l_case10 {b L : Nat} {xs : Nat → Int32} {cs : Nat → ClassId} {adC adM : Nat → Nat} {l : Launch} {X : LC} {σC σM σC' σM' : St} {i v : Int} (F : LOk b L xs cs adC adM l X) (hL : L < 2147483648) (hi : 0 ≤ i ∧ i + 7 ≤ (L : Int)) (hC : ansC 10 σC (fun k => (xs (i + (k : Int)).toNat).toInt) = some (v, σC')) (hM : ansM 10 σM (fun k => (xs (i + (k : Int)).toNat).toInt) = some (v, σM')) (kk : LAt b cs adC adM X σC' σM' [(0, .ref b), (1, .ref (adC 0)), (2, .ref (adM 0)), (3, iv i)] [] 1141) : LAt b cs adC adM X σC σM [(0, .ref b), (1, .ref (adC 0)), (2, .ref (adM 0)), (3, iv i)] [] 532 := by
  obtain ⟨hi0, hi7⟩ := hi
  refine l_aload_n F dL_law_532 rfl 1 rfl ?_
  refine l_aload_n F dL_law_533 rfl 0 rfl ?_
  refine l_iload_n F dL_law_534 rfl 3 rfl ?_
  refine l_iconst F dL_law_535 ?_
  refine l_iadd F dL_law_536 ?_
  refine l_sld F ⟨by omega, by omega⟩ hL dL_law_537 ?_
  refine l_callCI F tC_0 rfl lkl_58 c_X10_corners rfl rfl ⟨rfl, rfl⟩ ⟨Nat.le_of_ble_eq_true rfl, Nat.le_of_ble_eq_true rfl⟩ rfl (Nat.le_of_ble_eq_true rfl) dL_law_538 hC ?_
  refine l_aload_n F dL_law_541 rfl 2 rfl ?_
  refine l_aload_n F dL_law_542 rfl 0 rfl ?_
  refine l_iload_n F dL_law_543 rfl 3 rfl ?_
  refine l_iconst F dL_law_544 ?_
  refine l_iadd F dL_law_545 ?_
  refine l_sld F ⟨by omega, by omega⟩ hL dL_law_546 ?_
  refine l_callMI F tM_0 rfl lkl_61 c_X11_corners rfl rfl ⟨rfl, rfl⟩ ⟨Nat.le_of_ble_eq_true rfl, Nat.le_of_ble_eq_true rfl⟩ rfl (Nat.le_of_ble_eq_true rfl) dL_law_547 hM ?_
  refine l_same F (tgt := 1141) dL_law_550 (by decide) ?_
  exact kk
set_option maxRecDepth 100000 in
set_option maxHeartbeats 4000000 in
theorem l_case11 {b L : Nat} {xs : Nat → Int32} {cs : Nat → ClassId} {adC adM : Nat → Nat} {l : Launch} {X : LC} {σC σM σC' σM' : St} {i v : Int} (F : LOk b L xs cs adC adM l X) (hL : L < 2147483648) (hi : 0 ≤ i ∧ i + 7 ≤ (L : Int)) (hC : ansC 11 σC (fun k => (xs (i + (k : Int)).toNat).toInt) = some (v, σC')) (hM : ansM 11 σM (fun k => (xs (i + (k : Int)).toNat).toInt) = some (v, σM')) (kk : LAt b cs adC adM X σC' σM' [(0, .ref b), (1, .ref (adC 0)), (2, .ref (adM 0)), (3, iv i)] [] 1141) : LAt b cs adC adM X σC σM [(0, .ref b), (1, .ref (adC 0)), (2, .ref (adM 0)), (3, iv i)] [] 555 := by
  obtain ⟨hi0, hi7⟩ := hi
  refine l_aload_n F dL_law_555 rfl 1 rfl ?_
  refine l_aload_n F dL_law_556 rfl 0 rfl ?_
  refine l_iload_n F dL_law_557 rfl 3 rfl ?_
  refine l_iconst F dL_law_558 ?_
  refine l_iadd F dL_law_559 ?_
  refine l_sld F ⟨by omega, by omega⟩ hL dL_law_560 ?_
  refine l_aload_n F dL_law_561 rfl 0 rfl ?_
  refine l_iload_n F dL_law_562 rfl 3 rfl ?_
  refine l_iconst F dL_law_563 ?_
  refine l_iadd F dL_law_564 ?_
  refine l_sld F ⟨by omega, by omega⟩ hL dL_law_565 ?_
  refine l_aload_n F dL_law_566 rfl 0 rfl ?_
  refine l_iload_n F dL_law_567 rfl 3 rfl ?_
  refine l_iconst F dL_law_568 ?_
  refine l_iadd F dL_law_569 ?_
  refine l_sld F ⟨by omega, by omega⟩ hL dL_law_570 ?_
  refine l_callCL F tC_0 rfl lkl_62 c_X10_corner rfl rfl ⟨rfl, rfl⟩ ⟨Nat.le_of_ble_eq_true rfl, Nat.le_of_ble_eq_true rfl⟩ rfl (Nat.le_of_ble_eq_true rfl) dL_law_571 hC ?_
  refine l_aload_n F dL_law_574 rfl 2 rfl ?_
  refine l_aload_n F dL_law_575 rfl 0 rfl ?_
  refine l_iload_n F dL_law_576 rfl 3 rfl ?_
  refine l_iconst F dL_law_577 ?_
  refine l_iadd F dL_law_578 ?_
  refine l_sld F ⟨by omega, by omega⟩ hL dL_law_579 ?_
  refine l_aload_n F dL_law_580 rfl 0 rfl ?_
  refine l_iload_n F dL_law_581 rfl 3 rfl ?_
  refine l_iconst F dL_law_582 ?_
  refine l_iadd F dL_law_583 ?_
  refine l_sld F ⟨by omega, by omega⟩ hL dL_law_584 ?_
  refine l_aload_n F dL_law_585 rfl 0 rfl ?_
  refine l_iload_n F dL_law_586 rfl 3 rfl ?_
  refine l_iconst F dL_law_587 ?_
  refine l_iadd F dL_law_588 ?_
  refine l_sld F ⟨by omega, by omega⟩ hL dL_law_589 ?_
  refine l_callML F tM_0 rfl lkl_66 c_X11_corner rfl rfl ⟨rfl, rfl⟩ ⟨Nat.le_of_ble_eq_true rfl, Nat.le_of_ble_eq_true rfl⟩ rfl (Nat.le_of_ble_eq_true rfl) dL_law_590 hM ?_
  refine l_sameL F (tgt := 1141) dL_law_593 dL_law_594 (by decide) ?_
  exact kk
set_option maxRecDepth 100000 in
set_option maxHeartbeats 4000000 in
theorem l_case12 {b L : Nat} {xs : Nat → Int32} {cs : Nat → ClassId} {adC adM : Nat → Nat} {l : Launch} {X : LC} {σC σM σC' σM' : St} {i v : Int} (F : LOk b L xs cs adC adM l X) (hL : L < 2147483648) (hi : 0 ≤ i ∧ i + 7 ≤ (L : Int)) (hC : ansC 12 σC (fun k => (xs (i + (k : Int)).toNat).toInt) = some (v, σC')) (hM : ansM 12 σM (fun k => (xs (i + (k : Int)).toNat).toInt) = some (v, σM')) (kk : LAt b cs adC adM X σC' σM' [(0, .ref b), (1, .ref (adC 0)), (2, .ref (adM 0)), (3, iv i)] [] 1141) : LAt b cs adC adM X σC σM [(0, .ref b), (1, .ref (adC 0)), (2, .ref (adM 0)), (3, iv i)] [] 599 := by
  obtain ⟨hi0, hi7⟩ := hi
  refine l_aload_n F dL_law_599 rfl 1 rfl ?_
  refine l_aload_n F dL_law_600 rfl 0 rfl ?_
  refine l_iload_n F dL_law_601 rfl 3 rfl ?_
  refine l_iconst F dL_law_602 ?_
  refine l_iadd F dL_law_603 ?_
  refine l_sld F ⟨by omega, by omega⟩ hL dL_law_604 ?_
  refine l_aload_n F dL_law_605 rfl 0 rfl ?_
  refine l_iload_n F dL_law_606 rfl 3 rfl ?_
  refine l_iconst F dL_law_607 ?_
  refine l_iadd F dL_law_608 ?_
  refine l_sld F ⟨by omega, by omega⟩ hL dL_law_609 ?_
  refine l_callCI F tC_0 rfl lkl_67 c_X10_beside rfl rfl ⟨rfl, rfl⟩ ⟨Nat.le_of_ble_eq_true rfl, Nat.le_of_ble_eq_true rfl⟩ rfl (Nat.le_of_ble_eq_true rfl) dL_law_610 hC ?_
  refine l_aload_n F dL_law_613 rfl 2 rfl ?_
  refine l_aload_n F dL_law_614 rfl 0 rfl ?_
  refine l_iload_n F dL_law_615 rfl 3 rfl ?_
  refine l_iconst F dL_law_616 ?_
  refine l_iadd F dL_law_617 ?_
  refine l_sld F ⟨by omega, by omega⟩ hL dL_law_618 ?_
  refine l_aload_n F dL_law_619 rfl 0 rfl ?_
  refine l_iload_n F dL_law_620 rfl 3 rfl ?_
  refine l_iconst F dL_law_621 ?_
  refine l_iadd F dL_law_622 ?_
  refine l_sld F ⟨by omega, by omega⟩ hL dL_law_623 ?_
  refine l_callMI F tM_0 rfl lkl_70 c_X11_beside rfl rfl ⟨rfl, rfl⟩ ⟨Nat.le_of_ble_eq_true rfl, Nat.le_of_ble_eq_true rfl⟩ rfl (Nat.le_of_ble_eq_true rfl) dL_law_624 hM ?_
  refine l_same F (tgt := 1141) dL_law_627 (by decide) ?_
  exact kk
set_option maxRecDepth 100000 in
set_option maxHeartbeats 4000000 in
theorem l_case13 {b L : Nat} {xs : Nat → Int32} {cs : Nat → ClassId} {adC adM : Nat → Nat} {l : Launch} {X : LC} {σC σM σC' σM' : St} {i v : Int} (F : LOk b L xs cs adC adM l X) (hL : L < 2147483648) (hi : 0 ≤ i ∧ i + 7 ≤ (L : Int)) (hC : ansC 13 σC (fun k => (xs (i + (k : Int)).toNat).toInt) = some (v, σC')) (hM : ansM 13 σM (fun k => (xs (i + (k : Int)).toNat).toInt) = some (v, σM')) (kk : LAt b cs adC adM X σC' σM' [(0, .ref b), (1, .ref (adC 0)), (2, .ref (adM 0)), (3, iv i)] [] 1141) : LAt b cs adC adM X σC σM [(0, .ref b), (1, .ref (adC 0)), (2, .ref (adM 0)), (3, iv i)] [] 632 := by
  obtain ⟨hi0, hi7⟩ := hi
  refine l_aload_n F dL_law_632 rfl 1 rfl ?_
  refine l_aload_n F dL_law_633 rfl 0 rfl ?_
  refine l_iload_n F dL_law_634 rfl 3 rfl ?_
  refine l_iconst F dL_law_635 ?_
  refine l_iadd F dL_law_636 ?_
  refine l_sld F ⟨by omega, by omega⟩ hL dL_law_637 ?_
  refine l_aload_n F dL_law_638 rfl 0 rfl ?_
  refine l_iload_n F dL_law_639 rfl 3 rfl ?_
  refine l_iconst F dL_law_640 ?_
  refine l_iadd F dL_law_641 ?_
  refine l_sld F ⟨by omega, by omega⟩ hL dL_law_642 ?_
  refine l_callCI F tC_0 rfl lkl_71 c_X10_border rfl rfl ⟨rfl, rfl⟩ ⟨Nat.le_of_ble_eq_true rfl, Nat.le_of_ble_eq_true rfl⟩ rfl (Nat.le_of_ble_eq_true rfl) dL_law_643 hC ?_
  refine l_aload_n F dL_law_646 rfl 2 rfl ?_
  refine l_aload_n F dL_law_647 rfl 0 rfl ?_
  refine l_iload_n F dL_law_648 rfl 3 rfl ?_
  refine l_iconst F dL_law_649 ?_
  refine l_iadd F dL_law_650 ?_
  refine l_sld F ⟨by omega, by omega⟩ hL dL_law_651 ?_
  refine l_aload_n F dL_law_652 rfl 0 rfl ?_
  refine l_iload_n F dL_law_653 rfl 3 rfl ?_
  refine l_iconst F dL_law_654 ?_
  refine l_iadd F dL_law_655 ?_
  refine l_sld F ⟨by omega, by omega⟩ hL dL_law_656 ?_
  refine l_callMI F tM_0 rfl lkl_74 c_X11_border rfl rfl ⟨rfl, rfl⟩ ⟨Nat.le_of_ble_eq_true rfl, Nat.le_of_ble_eq_true rfl⟩ rfl (Nat.le_of_ble_eq_true rfl) dL_law_657 hM ?_
  refine l_same F (tgt := 1141) dL_law_660 (by decide) ?_
  exact kk
set_option maxRecDepth 100000 in
set_option maxHeartbeats 4000000 in
theorem l_case14 {b L : Nat} {xs : Nat → Int32} {cs : Nat → ClassId} {adC adM : Nat → Nat} {l : Launch} {X : LC} {σC σM σC' σM' : St} {i v : Int} (F : LOk b L xs cs adC adM l X) (hL : L < 2147483648) (hi : 0 ≤ i ∧ i + 7 ≤ (L : Int)) (hC : ansC 14 σC (fun k => (xs (i + (k : Int)).toNat).toInt) = some (v, σC')) (hM : ansM 14 σM (fun k => (xs (i + (k : Int)).toNat).toInt) = some (v, σM')) (kk : LAt b cs adC adM X σC' σM' [(0, .ref b), (1, .ref (adC 0)), (2, .ref (adM 0)), (3, iv i)] [] 1141) : LAt b cs adC adM X σC σM [(0, .ref b), (1, .ref (adC 0)), (2, .ref (adM 0)), (3, iv i)] [] 665 := by
  obtain ⟨hi0, hi7⟩ := hi
  refine l_aload_n F dL_law_665 rfl 1 rfl ?_
  refine l_aload_n F dL_law_666 rfl 0 rfl ?_
  refine l_iload_n F dL_law_667 rfl 3 rfl ?_
  refine l_iconst F dL_law_668 ?_
  refine l_iadd F dL_law_669 ?_
  refine l_sld F ⟨by omega, by omega⟩ hL dL_law_670 ?_
  refine l_aload_n F dL_law_671 rfl 0 rfl ?_
  refine l_iload_n F dL_law_672 rfl 3 rfl ?_
  refine l_iconst F dL_law_673 ?_
  refine l_iadd F dL_law_674 ?_
  refine l_sld F ⟨by omega, by omega⟩ hL dL_law_675 ?_
  refine l_aload_n F dL_law_676 rfl 0 rfl ?_
  refine l_iload_n F dL_law_677 rfl 3 rfl ?_
  refine l_iconst F dL_law_678 ?_
  refine l_iadd F dL_law_679 ?_
  refine l_sld F ⟨by omega, by omega⟩ hL dL_law_680 ?_
  refine l_aload_n F dL_law_681 rfl 0 rfl ?_
  refine l_iload_n F dL_law_682 rfl 3 rfl ?_
  refine l_iconst F dL_law_683 ?_
  refine l_iadd F dL_law_684 ?_
  refine l_sld F ⟨by omega, by omega⟩ hL dL_law_685 ?_
  refine l_callCL F tC_0 rfl lkl_75 c_X10_end rfl rfl ⟨rfl, rfl⟩ ⟨Nat.le_of_ble_eq_true rfl, Nat.le_of_ble_eq_true rfl⟩ rfl (Nat.le_of_ble_eq_true rfl) dL_law_686 hC ?_
  refine l_aload_n F dL_law_689 rfl 2 rfl ?_
  refine l_aload_n F dL_law_690 rfl 0 rfl ?_
  refine l_iload_n F dL_law_691 rfl 3 rfl ?_
  refine l_iconst F dL_law_692 ?_
  refine l_iadd F dL_law_693 ?_
  refine l_sld F ⟨by omega, by omega⟩ hL dL_law_694 ?_
  refine l_aload_n F dL_law_695 rfl 0 rfl ?_
  refine l_iload_n F dL_law_696 rfl 3 rfl ?_
  refine l_iconst F dL_law_697 ?_
  refine l_iadd F dL_law_698 ?_
  refine l_sld F ⟨by omega, by omega⟩ hL dL_law_699 ?_
  refine l_aload_n F dL_law_700 rfl 0 rfl ?_
  refine l_iload_n F dL_law_701 rfl 3 rfl ?_
  refine l_iconst F dL_law_702 ?_
  refine l_iadd F dL_law_703 ?_
  refine l_sld F ⟨by omega, by omega⟩ hL dL_law_704 ?_
  refine l_aload_n F dL_law_705 rfl 0 rfl ?_
  refine l_iload_n F dL_law_706 rfl 3 rfl ?_
  refine l_iconst F dL_law_707 ?_
  refine l_iadd F dL_law_708 ?_
  refine l_sld F ⟨by omega, by omega⟩ hL dL_law_709 ?_
  refine l_callML F tM_0 rfl lkl_79 c_X11_end rfl rfl ⟨rfl, rfl⟩ ⟨Nat.le_of_ble_eq_true rfl, Nat.le_of_ble_eq_true rfl⟩ rfl (Nat.le_of_ble_eq_true rfl) dL_law_710 hM ?_
  refine l_sameL F (tgt := 1141) dL_law_713 dL_law_714 (by decide) ?_
  exact kk
set_option maxRecDepth 100000 in
set_option maxHeartbeats 4000000 in
theorem l_case15 {b L : Nat} {xs : Nat → Int32} {cs : Nat → ClassId} {adC adM : Nat → Nat} {l : Launch} {X : LC} {σC σM σC' σM' : St} {i v : Int} (F : LOk b L xs cs adC adM l X) (hL : L < 2147483648) (hi : 0 ≤ i ∧ i + 7 ≤ (L : Int)) (hC : ansC 15 σC (fun k => (xs (i + (k : Int)).toNat).toInt) = some (v, σC')) (hM : ansM 15 σM (fun k => (xs (i + (k : Int)).toNat).toInt) = some (v, σM')) (kk : LAt b cs adC adM X σC' σM' [(0, .ref b), (1, .ref (adC 0)), (2, .ref (adM 0)), (3, iv i)] [] 1141) : LAt b cs adC adM X σC σM [(0, .ref b), (1, .ref (adC 0)), (2, .ref (adM 0)), (3, iv i)] [] 719 := by
  obtain ⟨hi0, hi7⟩ := hi
  refine l_aload_n F dL_law_719 rfl 1 rfl ?_
  refine l_aload_n F dL_law_720 rfl 0 rfl ?_
  refine l_iload_n F dL_law_721 rfl 3 rfl ?_
  refine l_iconst F dL_law_722 ?_
  refine l_iadd F dL_law_723 ?_
  refine l_sld F ⟨by omega, by omega⟩ hL dL_law_724 ?_
  refine l_callCI F tC_0 rfl lkl_80 c_X10_about rfl rfl ⟨rfl, rfl⟩ ⟨Nat.le_of_ble_eq_true rfl, Nat.le_of_ble_eq_true rfl⟩ rfl (Nat.le_of_ble_eq_true rfl) dL_law_725 hC ?_
  refine l_aload_n F dL_law_728 rfl 2 rfl ?_
  refine l_aload_n F dL_law_729 rfl 0 rfl ?_
  refine l_iload_n F dL_law_730 rfl 3 rfl ?_
  refine l_iconst F dL_law_731 ?_
  refine l_iadd F dL_law_732 ?_
  refine l_sld F ⟨by omega, by omega⟩ hL dL_law_733 ?_
  refine l_callMI F tM_0 rfl lkl_83 c_X11_about rfl rfl ⟨rfl, rfl⟩ ⟨Nat.le_of_ble_eq_true rfl, Nat.le_of_ble_eq_true rfl⟩ rfl (Nat.le_of_ble_eq_true rfl) dL_law_734 hM ?_
  refine l_same F (tgt := 1141) dL_law_737 (by decide) ?_
  exact kk
set_option maxRecDepth 100000 in
set_option maxHeartbeats 4000000 in
theorem l_case16 {b L : Nat} {xs : Nat → Int32} {cs : Nat → ClassId} {adC adM : Nat → Nat} {l : Launch} {X : LC} {σC σM σC' σM' : St} {i v : Int} (F : LOk b L xs cs adC adM l X) (hL : L < 2147483648) (hi : 0 ≤ i ∧ i + 7 ≤ (L : Int)) (hC : ansC 16 σC (fun k => (xs (i + (k : Int)).toNat).toInt) = some (v, σC')) (hM : ansM 16 σM (fun k => (xs (i + (k : Int)).toNat).toInt) = some (v, σM')) (kk : LAt b cs adC adM X σC' σM' [(0, .ref b), (1, .ref (adC 0)), (2, .ref (adM 0)), (3, iv i)] [] 1141) : LAt b cs adC adM X σC σM [(0, .ref b), (1, .ref (adC 0)), (2, .ref (adM 0)), (3, iv i)] [] 742 := by
  obtain ⟨hi0, hi7⟩ := hi
  refine l_aload_n F dL_law_742 rfl 1 rfl ?_
  refine l_callCI F tC_0 rfl lkl_84 c_X10_rings rfl rfl ⟨rfl, rfl⟩ ⟨Nat.le_of_ble_eq_true rfl, Nat.le_of_ble_eq_true rfl⟩ rfl (Nat.le_of_ble_eq_true rfl) dL_law_743 hC ?_
  refine l_aload_n F dL_law_746 rfl 2 rfl ?_
  refine l_callMI F tM_0 rfl lkl_88 c_X11_rings rfl rfl ⟨rfl, rfl⟩ ⟨Nat.le_of_ble_eq_true rfl, Nat.le_of_ble_eq_true rfl⟩ rfl (Nat.le_of_ble_eq_true rfl) dL_law_747 hM ?_
  refine l_same F (tgt := 1141) dL_law_750 (by decide) ?_
  exact kk
set_option maxRecDepth 100000 in
set_option maxHeartbeats 4000000 in
theorem l_case17 {b L : Nat} {xs : Nat → Int32} {cs : Nat → ClassId} {adC adM : Nat → Nat} {l : Launch} {X : LC} {σC σM σC' σM' : St} {i v : Int} (F : LOk b L xs cs adC adM l X) (hL : L < 2147483648) (hi : 0 ≤ i ∧ i + 7 ≤ (L : Int)) (hC : ansC 17 σC (fun k => (xs (i + (k : Int)).toNat).toInt) = some (v, σC')) (hM : ansM 17 σM (fun k => (xs (i + (k : Int)).toNat).toInt) = some (v, σM')) (kk : LAt b cs adC adM X σC' σM' [(0, .ref b), (1, .ref (adC 0)), (2, .ref (adM 0)), (3, iv i)] [] 1141) : LAt b cs adC adM X σC σM [(0, .ref b), (1, .ref (adC 0)), (2, .ref (adM 0)), (3, iv i)] [] 755 := by
  obtain ⟨hi0, hi7⟩ := hi
  refine l_aload_n F dL_law_755 rfl 1 rfl ?_
  refine l_aload_n F dL_law_756 rfl 0 rfl ?_
  refine l_iload_n F dL_law_757 rfl 3 rfl ?_
  refine l_iconst F dL_law_758 ?_
  refine l_iadd F dL_law_759 ?_
  refine l_sld F ⟨by omega, by omega⟩ hL dL_law_760 ?_
  refine l_callCI F tC_0 rfl lkl_89 c_X10_ring rfl rfl ⟨rfl, rfl⟩ ⟨Nat.le_of_ble_eq_true rfl, Nat.le_of_ble_eq_true rfl⟩ rfl (Nat.le_of_ble_eq_true rfl) dL_law_761 hC ?_
  refine l_aload_n F dL_law_764 rfl 2 rfl ?_
  refine l_aload_n F dL_law_765 rfl 0 rfl ?_
  refine l_iload_n F dL_law_766 rfl 3 rfl ?_
  refine l_iconst F dL_law_767 ?_
  refine l_iadd F dL_law_768 ?_
  refine l_sld F ⟨by omega, by omega⟩ hL dL_law_769 ?_
  refine l_callMI F tM_0 rfl lkl_92 c_X11_ring rfl rfl ⟨rfl, rfl⟩ ⟨Nat.le_of_ble_eq_true rfl, Nat.le_of_ble_eq_true rfl⟩ rfl (Nat.le_of_ble_eq_true rfl) dL_law_770 hM ?_
  refine l_same F (tgt := 1141) dL_law_773 (by decide) ?_
  exact kk
set_option maxRecDepth 100000 in
set_option maxHeartbeats 4000000 in
theorem l_case18 {b L : Nat} {xs : Nat → Int32} {cs : Nat → ClassId} {adC adM : Nat → Nat} {l : Launch} {X : LC} {σC σM σC' σM' : St} {i v : Int} (F : LOk b L xs cs adC adM l X) (hL : L < 2147483648) (hi : 0 ≤ i ∧ i + 7 ≤ (L : Int)) (hC : ansC 18 σC (fun k => (xs (i + (k : Int)).toNat).toInt) = some (v, σC')) (hM : ansM 18 σM (fun k => (xs (i + (k : Int)).toNat).toInt) = some (v, σM')) (kk : LAt b cs adC adM X σC' σM' [(0, .ref b), (1, .ref (adC 0)), (2, .ref (adM 0)), (3, iv i)] [] 1141) : LAt b cs adC adM X σC σM [(0, .ref b), (1, .ref (adC 0)), (2, .ref (adM 0)), (3, iv i)] [] 778 := by
  obtain ⟨hi0, hi7⟩ := hi
  refine l_aload_n F dL_law_778 rfl 1 rfl ?_
  refine l_aload_n F dL_law_779 rfl 0 rfl ?_
  refine l_iload_n F dL_law_780 rfl 3 rfl ?_
  refine l_iconst F dL_law_781 ?_
  refine l_iadd F dL_law_782 ?_
  refine l_sld F ⟨by omega, by omega⟩ hL dL_law_783 ?_
  refine l_aload_n F dL_law_784 rfl 0 rfl ?_
  refine l_iload_n F dL_law_785 rfl 3 rfl ?_
  refine l_iconst F dL_law_786 ?_
  refine l_iadd F dL_law_787 ?_
  refine l_sld F ⟨by omega, by omega⟩ hL dL_law_788 ?_
  refine l_callCL F tC_0 rfl lkl_93 c_X10_round rfl rfl ⟨rfl, rfl⟩ ⟨Nat.le_of_ble_eq_true rfl, Nat.le_of_ble_eq_true rfl⟩ rfl (Nat.le_of_ble_eq_true rfl) dL_law_789 hC ?_
  refine l_aload_n F dL_law_792 rfl 2 rfl ?_
  refine l_aload_n F dL_law_793 rfl 0 rfl ?_
  refine l_iload_n F dL_law_794 rfl 3 rfl ?_
  refine l_iconst F dL_law_795 ?_
  refine l_iadd F dL_law_796 ?_
  refine l_sld F ⟨by omega, by omega⟩ hL dL_law_797 ?_
  refine l_aload_n F dL_law_798 rfl 0 rfl ?_
  refine l_iload_n F dL_law_799 rfl 3 rfl ?_
  refine l_iconst F dL_law_800 ?_
  refine l_iadd F dL_law_801 ?_
  refine l_sld F ⟨by omega, by omega⟩ hL dL_law_802 ?_
  refine l_callML F tM_0 rfl lkl_97 c_X11_round rfl rfl ⟨rfl, rfl⟩ ⟨Nat.le_of_ble_eq_true rfl, Nat.le_of_ble_eq_true rfl⟩ rfl (Nat.le_of_ble_eq_true rfl) dL_law_803 hM ?_
  refine l_sameL F (tgt := 1141) dL_law_806 dL_law_807 (by decide) ?_
  exact kk
set_option maxRecDepth 100000 in
set_option maxHeartbeats 4000000 in
theorem l_case19 {b L : Nat} {xs : Nat → Int32} {cs : Nat → ClassId} {adC adM : Nat → Nat} {l : Launch} {X : LC} {σC σM σC' σM' : St} {i v : Int} (F : LOk b L xs cs adC adM l X) (hL : L < 2147483648) (hi : 0 ≤ i ∧ i + 7 ≤ (L : Int)) (hC : ansC 19 σC (fun k => (xs (i + (k : Int)).toNat).toInt) = some (v, σC')) (hM : ansM 19 σM (fun k => (xs (i + (k : Int)).toNat).toInt) = some (v, σM')) (kk : LAt b cs adC adM X σC' σM' [(0, .ref b), (1, .ref (adC 0)), (2, .ref (adM 0)), (3, iv i)] [] 1141) : LAt b cs adC adM X σC σM [(0, .ref b), (1, .ref (adC 0)), (2, .ref (adM 0)), (3, iv i)] [] 812 := by
  obtain ⟨hi0, hi7⟩ := hi
  refine l_aload_n F dL_law_812 rfl 1 rfl ?_
  refine l_aload_n F dL_law_813 rfl 0 rfl ?_
  refine l_iload_n F dL_law_814 rfl 3 rfl ?_
  refine l_iconst F dL_law_815 ?_
  refine l_iadd F dL_law_816 ?_
  refine l_sld F ⟨by omega, by omega⟩ hL dL_law_817 ?_
  refine l_callCL F tC_0 rfl lkl_98 c_X10_largest rfl rfl ⟨rfl, rfl⟩ ⟨Nat.le_of_ble_eq_true rfl, Nat.le_of_ble_eq_true rfl⟩ rfl (Nat.le_of_ble_eq_true rfl) dL_law_818 hC ?_
  refine l_aload_n F dL_law_821 rfl 2 rfl ?_
  refine l_aload_n F dL_law_822 rfl 0 rfl ?_
  refine l_iload_n F dL_law_823 rfl 3 rfl ?_
  refine l_iconst F dL_law_824 ?_
  refine l_iadd F dL_law_825 ?_
  refine l_sld F ⟨by omega, by omega⟩ hL dL_law_826 ?_
  refine l_callML F tM_0 rfl lkl_102 c_X11_largest rfl rfl ⟨rfl, rfl⟩ ⟨Nat.le_of_ble_eq_true rfl, Nat.le_of_ble_eq_true rfl⟩ rfl (Nat.le_of_ble_eq_true rfl) dL_law_827 hM ?_
  refine l_sameL F (tgt := 1141) dL_law_830 dL_law_831 (by decide) ?_
  exact kk
set_option maxRecDepth 100000 in
set_option maxHeartbeats 4000000 in
theorem l_case20 {b L : Nat} {xs : Nat → Int32} {cs : Nat → ClassId} {adC adM : Nat → Nat} {l : Launch} {X : LC} {σC σM σC' σM' : St} {i v : Int} (F : LOk b L xs cs adC adM l X) (hL : L < 2147483648) (hi : 0 ≤ i ∧ i + 7 ≤ (L : Int)) (hC : ansC 20 σC (fun k => (xs (i + (k : Int)).toNat).toInt) = some (v, σC')) (hM : ansM 20 σM (fun k => (xs (i + (k : Int)).toNat).toInt) = some (v, σM')) (kk : LAt b cs adC adM X σC' σM' [(0, .ref b), (1, .ref (adC 0)), (2, .ref (adM 0)), (3, iv i)] [] 1141) : LAt b cs adC adM X σC σM [(0, .ref b), (1, .ref (adC 0)), (2, .ref (adM 0)), (3, iv i)] [] 836 := by
  obtain ⟨hi0, hi7⟩ := hi
  refine l_aload_n F dL_law_836 rfl 1 rfl ?_
  refine l_aload_n F dL_law_837 rfl 0 rfl ?_
  refine l_iload_n F dL_law_838 rfl 3 rfl ?_
  refine l_iconst F dL_law_839 ?_
  refine l_iadd F dL_law_840 ?_
  refine l_sld F ⟨by omega, by omega⟩ hL dL_law_841 ?_
  refine l_callCI F tC_0 rfl lkl_103 c_X10_closest rfl rfl ⟨rfl, rfl⟩ ⟨Nat.le_of_ble_eq_true rfl, Nat.le_of_ble_eq_true rfl⟩ rfl (Nat.le_of_ble_eq_true rfl) dL_law_842 hC ?_
  refine l_aload_n F dL_law_845 rfl 2 rfl ?_
  refine l_aload_n F dL_law_846 rfl 0 rfl ?_
  refine l_iload_n F dL_law_847 rfl 3 rfl ?_
  refine l_iconst F dL_law_848 ?_
  refine l_iadd F dL_law_849 ?_
  refine l_sld F ⟨by omega, by omega⟩ hL dL_law_850 ?_
  refine l_callMI F tM_0 rfl lkl_106 c_X11_closest rfl rfl ⟨rfl, rfl⟩ ⟨Nat.le_of_ble_eq_true rfl, Nat.le_of_ble_eq_true rfl⟩ rfl (Nat.le_of_ble_eq_true rfl) dL_law_851 hM ?_
  refine l_same F (tgt := 1141) dL_law_854 (by decide) ?_
  exact kk
set_option maxRecDepth 100000 in
set_option maxHeartbeats 4000000 in
theorem l_case21 {b L : Nat} {xs : Nat → Int32} {cs : Nat → ClassId} {adC adM : Nat → Nat} {l : Launch} {X : LC} {σC σM σC' σM' : St} {i v : Int} (F : LOk b L xs cs adC adM l X) (hL : L < 2147483648) (hi : 0 ≤ i ∧ i + 7 ≤ (L : Int)) (hC : ansC 21 σC (fun k => (xs (i + (k : Int)).toNat).toInt) = some (v, σC')) (hM : ansM 21 σM (fun k => (xs (i + (k : Int)).toNat).toInt) = some (v, σM')) (kk : LAt b cs adC adM X σC' σM' [(0, .ref b), (1, .ref (adC 0)), (2, .ref (adM 0)), (3, iv i)] [] 1141) : LAt b cs adC adM X σC σM [(0, .ref b), (1, .ref (adC 0)), (2, .ref (adM 0)), (3, iv i)] [] 859 := by
  obtain ⟨hi0, hi7⟩ := hi
  refine l_aload_n F dL_law_859 rfl 1 rfl ?_
  refine l_aload_n F dL_law_860 rfl 0 rfl ?_
  refine l_iload_n F dL_law_861 rfl 3 rfl ?_
  refine l_iconst F dL_law_862 ?_
  refine l_iadd F dL_law_863 ?_
  refine l_sld F ⟨by omega, by omega⟩ hL dL_law_864 ?_
  refine l_callCI F tC_0 rfl lkl_107 c_X10_nearest rfl rfl ⟨rfl, rfl⟩ ⟨Nat.le_of_ble_eq_true rfl, Nat.le_of_ble_eq_true rfl⟩ rfl (Nat.le_of_ble_eq_true rfl) dL_law_865 hC ?_
  refine l_aload_n F dL_law_868 rfl 2 rfl ?_
  refine l_aload_n F dL_law_869 rfl 0 rfl ?_
  refine l_iload_n F dL_law_870 rfl 3 rfl ?_
  refine l_iconst F dL_law_871 ?_
  refine l_iadd F dL_law_872 ?_
  refine l_sld F ⟨by omega, by omega⟩ hL dL_law_873 ?_
  refine l_callMI F tM_0 rfl lkl_110 c_X11_nearest rfl rfl ⟨rfl, rfl⟩ ⟨Nat.le_of_ble_eq_true rfl, Nat.le_of_ble_eq_true rfl⟩ rfl (Nat.le_of_ble_eq_true rfl) dL_law_874 hM ?_
  refine l_same F (tgt := 1141) dL_law_877 (by decide) ?_
  exact kk
set_option maxRecDepth 100000 in
set_option maxHeartbeats 4000000 in
theorem l_case22 {b L : Nat} {xs : Nat → Int32} {cs : Nat → ClassId} {adC adM : Nat → Nat} {l : Launch} {X : LC} {σC σM σC' σM' : St} {i v : Int} (F : LOk b L xs cs adC adM l X) (hL : L < 2147483648) (hi : 0 ≤ i ∧ i + 7 ≤ (L : Int)) (hC : ansC 22 σC (fun k => (xs (i + (k : Int)).toNat).toInt) = some (v, σC')) (hM : ansM 22 σM (fun k => (xs (i + (k : Int)).toNat).toInt) = some (v, σM')) (kk : LAt b cs adC adM X σC' σM' [(0, .ref b), (1, .ref (adC 0)), (2, .ref (adM 0)), (3, iv i)] [] 1141) : LAt b cs adC adM X σC σM [(0, .ref b), (1, .ref (adC 0)), (2, .ref (adM 0)), (3, iv i)] [] 882 := by
  obtain ⟨hi0, hi7⟩ := hi
  refine l_aload_n F dL_law_882 rfl 1 rfl ?_
  refine l_callCI F tC_0 rfl lkl_111 c_X10_tree rfl rfl ⟨rfl, rfl⟩ ⟨Nat.le_of_ble_eq_true rfl, Nat.le_of_ble_eq_true rfl⟩ rfl (Nat.le_of_ble_eq_true rfl) dL_law_883 hC ?_
  refine l_aload_n F dL_law_886 rfl 2 rfl ?_
  refine l_callMI F tM_0 rfl lkl_114 c_X11_tree rfl rfl ⟨rfl, rfl⟩ ⟨Nat.le_of_ble_eq_true rfl, Nat.le_of_ble_eq_true rfl⟩ rfl (Nat.le_of_ble_eq_true rfl) dL_law_887 hM ?_
  refine l_same F (tgt := 1141) dL_law_890 (by decide) ?_
  exact kk
set_option maxRecDepth 100000 in
set_option maxHeartbeats 4000000 in
theorem l_case23 {b L : Nat} {xs : Nat → Int32} {cs : Nat → ClassId} {adC adM : Nat → Nat} {l : Launch} {X : LC} {σC σM σC' σM' : St} {i v : Int} (F : LOk b L xs cs adC adM l X) (hL : L < 2147483648) (hi : 0 ≤ i ∧ i + 7 ≤ (L : Int)) (hC : ansC 23 σC (fun k => (xs (i + (k : Int)).toNat).toInt) = some (v, σC')) (hM : ansM 23 σM (fun k => (xs (i + (k : Int)).toNat).toInt) = some (v, σM')) (kk : LAt b cs adC adM X σC' σM' [(0, .ref b), (1, .ref (adC 0)), (2, .ref (adM 0)), (3, iv i)] [] 1141) : LAt b cs adC adM X σC σM [(0, .ref b), (1, .ref (adC 0)), (2, .ref (adM 0)), (3, iv i)] [] 895 := by
  obtain ⟨hi0, hi7⟩ := hi
  refine l_aload_n F dL_law_895 rfl 1 rfl ?_
  refine l_aload_n F dL_law_896 rfl 0 rfl ?_
  refine l_iload_n F dL_law_897 rfl 3 rfl ?_
  refine l_iconst F dL_law_898 ?_
  refine l_iadd F dL_law_899 ?_
  refine l_sld F ⟨by omega, by omega⟩ hL dL_law_900 ?_
  refine l_aload_n F dL_law_901 rfl 0 rfl ?_
  refine l_iload_n F dL_law_902 rfl 3 rfl ?_
  refine l_iconst F dL_law_903 ?_
  refine l_iadd F dL_law_904 ?_
  refine l_sld F ⟨by omega, by omega⟩ hL dL_law_905 ?_
  refine l_callCI F tC_0 rfl lkl_115 c_X10_pipe rfl rfl ⟨rfl, rfl⟩ ⟨Nat.le_of_ble_eq_true rfl, Nat.le_of_ble_eq_true rfl⟩ rfl (Nat.le_of_ble_eq_true rfl) dL_law_906 hC ?_
  refine l_aload_n F dL_law_909 rfl 2 rfl ?_
  refine l_aload_n F dL_law_910 rfl 0 rfl ?_
  refine l_iload_n F dL_law_911 rfl 3 rfl ?_
  refine l_iconst F dL_law_912 ?_
  refine l_iadd F dL_law_913 ?_
  refine l_sld F ⟨by omega, by omega⟩ hL dL_law_914 ?_
  refine l_aload_n F dL_law_915 rfl 0 rfl ?_
  refine l_iload_n F dL_law_916 rfl 3 rfl ?_
  refine l_iconst F dL_law_917 ?_
  refine l_iadd F dL_law_918 ?_
  refine l_sld F ⟨by omega, by omega⟩ hL dL_law_919 ?_
  refine l_callMI F tM_0 rfl lkl_118 c_X11_pipe rfl rfl ⟨rfl, rfl⟩ ⟨Nat.le_of_ble_eq_true rfl, Nat.le_of_ble_eq_true rfl⟩ rfl (Nat.le_of_ble_eq_true rfl) dL_law_920 hM ?_
  refine l_same F (tgt := 1141) dL_law_923 (by decide) ?_
  exact kk
set_option maxRecDepth 100000 in
set_option maxHeartbeats 4000000 in
theorem l_case24 {b L : Nat} {xs : Nat → Int32} {cs : Nat → ClassId} {adC adM : Nat → Nat} {l : Launch} {X : LC} {σC σM σC' σM' : St} {i v : Int} (F : LOk b L xs cs adC adM l X) (hL : L < 2147483648) (hi : 0 ≤ i ∧ i + 7 ≤ (L : Int)) (hC : ansC 24 σC (fun k => (xs (i + (k : Int)).toNat).toInt) = some (v, σC')) (hM : ansM 24 σM (fun k => (xs (i + (k : Int)).toNat).toInt) = some (v, σM')) (kk : LAt b cs adC adM X σC' σM' [(0, .ref b), (1, .ref (adC 0)), (2, .ref (adM 0)), (3, iv i)] [] 1141) : LAt b cs adC adM X σC σM [(0, .ref b), (1, .ref (adC 0)), (2, .ref (adM 0)), (3, iv i)] [] 928 := by
  obtain ⟨hi0, hi7⟩ := hi
  refine l_aload_n F dL_law_928 rfl 1 rfl ?_
  refine l_callCI F tC_0 rfl lkl_119 c_X10_hull rfl rfl ⟨rfl, rfl⟩ ⟨Nat.le_of_ble_eq_true rfl, Nat.le_of_ble_eq_true rfl⟩ rfl (Nat.le_of_ble_eq_true rfl) dL_law_929 hC ?_
  refine l_aload_n F dL_law_932 rfl 2 rfl ?_
  refine l_callMI F tM_0 rfl lkl_122 c_X11_hull rfl rfl ⟨rfl, rfl⟩ ⟨Nat.le_of_ble_eq_true rfl, Nat.le_of_ble_eq_true rfl⟩ rfl (Nat.le_of_ble_eq_true rfl) dL_law_933 hM ?_
  refine l_same F (tgt := 1141) dL_law_936 (by decide) ?_
  exact kk
set_option maxRecDepth 100000 in
set_option maxHeartbeats 4000000 in
theorem l_case25 {b L : Nat} {xs : Nat → Int32} {cs : Nat → ClassId} {adC adM : Nat → Nat} {l : Launch} {X : LC} {σC σM σC' σM' : St} {i v : Int} (F : LOk b L xs cs adC adM l X) (hL : L < 2147483648) (hi : 0 ≤ i ∧ i + 7 ≤ (L : Int)) (hC : ansC 25 σC (fun k => (xs (i + (k : Int)).toNat).toInt) = some (v, σC')) (hM : ansM 25 σM (fun k => (xs (i + (k : Int)).toNat).toInt) = some (v, σM')) (kk : LAt b cs adC adM X σC' σM' [(0, .ref b), (1, .ref (adC 0)), (2, .ref (adM 0)), (3, iv i)] [] 1141) : LAt b cs adC adM X σC σM [(0, .ref b), (1, .ref (adC 0)), (2, .ref (adM 0)), (3, iv i)] [] 941 := by
  obtain ⟨hi0, hi7⟩ := hi
  refine l_aload_n F dL_law_941 rfl 1 rfl ?_
  refine l_aload_n F dL_law_942 rfl 0 rfl ?_
  refine l_iload_n F dL_law_943 rfl 3 rfl ?_
  refine l_iconst F dL_law_944 ?_
  refine l_iadd F dL_law_945 ?_
  refine l_sld F ⟨by omega, by omega⟩ hL dL_law_946 ?_
  refine l_callCI F tC_0 rfl lkl_123 c_X10_around rfl rfl ⟨rfl, rfl⟩ ⟨Nat.le_of_ble_eq_true rfl, Nat.le_of_ble_eq_true rfl⟩ rfl (Nat.le_of_ble_eq_true rfl) dL_law_947 hC ?_
  refine l_aload_n F dL_law_950 rfl 2 rfl ?_
  refine l_aload_n F dL_law_951 rfl 0 rfl ?_
  refine l_iload_n F dL_law_952 rfl 3 rfl ?_
  refine l_iconst F dL_law_953 ?_
  refine l_iadd F dL_law_954 ?_
  refine l_sld F ⟨by omega, by omega⟩ hL dL_law_955 ?_
  refine l_callMI F tM_0 rfl lkl_126 c_X11_around rfl rfl ⟨rfl, rfl⟩ ⟨Nat.le_of_ble_eq_true rfl, Nat.le_of_ble_eq_true rfl⟩ rfl (Nat.le_of_ble_eq_true rfl) dL_law_956 hM ?_
  refine l_same F (tgt := 1141) dL_law_959 (by decide) ?_
  exact kk
set_option maxRecDepth 100000 in
set_option maxHeartbeats 4000000 in
theorem l_case26 {b L : Nat} {xs : Nat → Int32} {cs : Nat → ClassId} {adC adM : Nat → Nat} {l : Launch} {X : LC} {σC σM σC' σM' : St} {i v : Int} (F : LOk b L xs cs adC adM l X) (hL : L < 2147483648) (hi : 0 ≤ i ∧ i + 7 ≤ (L : Int)) (hC : ansC 26 σC (fun k => (xs (i + (k : Int)).toNat).toInt) = some (v, σC')) (hM : ansM 26 σM (fun k => (xs (i + (k : Int)).toNat).toInt) = some (v, σM')) (kk : LAt b cs adC adM X σC' σM' [(0, .ref b), (1, .ref (adC 0)), (2, .ref (adM 0)), (3, iv i)] [] 1141) : LAt b cs adC adM X σC σM [(0, .ref b), (1, .ref (adC 0)), (2, .ref (adM 0)), (3, iv i)] [] 964 := by
  obtain ⟨hi0, hi7⟩ := hi
  refine l_aload_n F dL_law_964 rfl 1 rfl ?_
  refine l_aload_n F dL_law_965 rfl 0 rfl ?_
  refine l_iload_n F dL_law_966 rfl 3 rfl ?_
  refine l_iconst F dL_law_967 ?_
  refine l_iadd F dL_law_968 ?_
  refine l_sld F ⟨by omega, by omega⟩ hL dL_law_969 ?_
  refine l_aload_n F dL_law_970 rfl 0 rfl ?_
  refine l_iload_n F dL_law_971 rfl 3 rfl ?_
  refine l_iconst F dL_law_972 ?_
  refine l_iadd F dL_law_973 ?_
  refine l_sld F ⟨by omega, by omega⟩ hL dL_law_974 ?_
  refine l_callCI F tC_0 rfl lkl_127 c_X10_keep rfl rfl ⟨rfl, rfl⟩ ⟨Nat.le_of_ble_eq_true rfl, Nat.le_of_ble_eq_true rfl⟩ rfl (Nat.le_of_ble_eq_true rfl) dL_law_975 hC ?_
  refine l_aload_n F dL_law_978 rfl 2 rfl ?_
  refine l_aload_n F dL_law_979 rfl 0 rfl ?_
  refine l_iload_n F dL_law_980 rfl 3 rfl ?_
  refine l_iconst F dL_law_981 ?_
  refine l_iadd F dL_law_982 ?_
  refine l_sld F ⟨by omega, by omega⟩ hL dL_law_983 ?_
  refine l_aload_n F dL_law_984 rfl 0 rfl ?_
  refine l_iload_n F dL_law_985 rfl 3 rfl ?_
  refine l_iconst F dL_law_986 ?_
  refine l_iadd F dL_law_987 ?_
  refine l_sld F ⟨by omega, by omega⟩ hL dL_law_988 ?_
  refine l_callMI F tM_0 rfl lkl_130 c_X11_keep rfl rfl ⟨rfl, rfl⟩ ⟨Nat.le_of_ble_eq_true rfl, Nat.le_of_ble_eq_true rfl⟩ rfl (Nat.le_of_ble_eq_true rfl) dL_law_989 hM ?_
  refine l_same F (tgt := 1141) dL_law_992 (by decide) ?_
  exact kk
set_option maxRecDepth 100000 in
set_option maxHeartbeats 4000000 in
theorem l_case27 {b L : Nat} {xs : Nat → Int32} {cs : Nat → ClassId} {adC adM : Nat → Nat} {l : Launch} {X : LC} {σC σM σC' σM' : St} {i v : Int} (F : LOk b L xs cs adC adM l X) (hL : L < 2147483648) (hi : 0 ≤ i ∧ i + 7 ≤ (L : Int)) (hC : ansC 27 σC (fun k => (xs (i + (k : Int)).toNat).toInt) = some (v, σC')) (hM : ansM 27 σM (fun k => (xs (i + (k : Int)).toNat).toInt) = some (v, σM')) (kk : LAt b cs adC adM X σC' σM' [(0, .ref b), (1, .ref (adC 0)), (2, .ref (adM 0)), (3, iv i)] [] 1141) : LAt b cs adC adM X σC σM [(0, .ref b), (1, .ref (adC 0)), (2, .ref (adM 0)), (3, iv i)] [] 997 := by
  obtain ⟨hi0, hi7⟩ := hi
  refine l_aload_n F dL_law_997 rfl 1 rfl ?_
  refine l_aload_n F dL_law_998 rfl 0 rfl ?_
  refine l_iload_n F dL_law_999 rfl 3 rfl ?_
  refine l_iconst F dL_law_1000 ?_
  refine l_iadd F dL_law_1001 ?_
  refine l_sld F ⟨by omega, by omega⟩ hL dL_law_1002 ?_
  refine l_aload_n F dL_law_1003 rfl 0 rfl ?_
  refine l_iload_n F dL_law_1004 rfl 3 rfl ?_
  refine l_iconst F dL_law_1005 ?_
  refine l_iadd F dL_law_1006 ?_
  refine l_sld F ⟨by omega, by omega⟩ hL dL_law_1007 ?_
  refine l_callCI F tC_0 rfl lkl_131 c_X10_sheet rfl rfl ⟨rfl, rfl⟩ ⟨Nat.le_of_ble_eq_true rfl, Nat.le_of_ble_eq_true rfl⟩ rfl (Nat.le_of_ble_eq_true rfl) dL_law_1008 hC ?_
  refine l_aload_n F dL_law_1011 rfl 2 rfl ?_
  refine l_aload_n F dL_law_1012 rfl 0 rfl ?_
  refine l_iload_n F dL_law_1013 rfl 3 rfl ?_
  refine l_iconst F dL_law_1014 ?_
  refine l_iadd F dL_law_1015 ?_
  refine l_sld F ⟨by omega, by omega⟩ hL dL_law_1016 ?_
  refine l_aload_n F dL_law_1017 rfl 0 rfl ?_
  refine l_iload_n F dL_law_1018 rfl 3 rfl ?_
  refine l_iconst F dL_law_1019 ?_
  refine l_iadd F dL_law_1020 ?_
  refine l_sld F ⟨by omega, by omega⟩ hL dL_law_1021 ?_
  refine l_callMI F tM_0 rfl lkl_134 c_X11_sheet rfl rfl ⟨rfl, rfl⟩ ⟨Nat.le_of_ble_eq_true rfl, Nat.le_of_ble_eq_true rfl⟩ rfl (Nat.le_of_ble_eq_true rfl) dL_law_1022 hM ?_
  refine l_same F (tgt := 1141) dL_law_1025 (by decide) ?_
  exact kk
set_option maxRecDepth 100000 in
set_option maxHeartbeats 4000000 in
theorem l_case28 {b L : Nat} {xs : Nat → Int32} {cs : Nat → ClassId} {adC adM : Nat → Nat} {l : Launch} {X : LC} {σC σM σC' σM' : St} {i v : Int} (F : LOk b L xs cs adC adM l X) (hL : L < 2147483648) (hi : 0 ≤ i ∧ i + 7 ≤ (L : Int)) (hC : ansC 28 σC (fun k => (xs (i + (k : Int)).toNat).toInt) = some (v, σC')) (hM : ansM 28 σM (fun k => (xs (i + (k : Int)).toNat).toInt) = some (v, σM')) (kk : LAt b cs adC adM X σC' σM' [(0, .ref b), (1, .ref (adC 0)), (2, .ref (adM 0)), (3, iv i)] [] 1141) : LAt b cs adC adM X σC σM [(0, .ref b), (1, .ref (adC 0)), (2, .ref (adM 0)), (3, iv i)] [] 1030 := by
  obtain ⟨hi0, hi7⟩ := hi
  refine l_aload_n F dL_law_1030 rfl 1 rfl ?_
  refine l_aload_n F dL_law_1031 rfl 0 rfl ?_
  refine l_iload_n F dL_law_1032 rfl 3 rfl ?_
  refine l_iconst F dL_law_1033 ?_
  refine l_iadd F dL_law_1034 ?_
  refine l_sld F ⟨by omega, by omega⟩ hL dL_law_1035 ?_
  refine l_aload_n F dL_law_1036 rfl 0 rfl ?_
  refine l_iload_n F dL_law_1037 rfl 3 rfl ?_
  refine l_iconst F dL_law_1038 ?_
  refine l_iadd F dL_law_1039 ?_
  refine l_sld F ⟨by omega, by omega⟩ hL dL_law_1040 ?_
  refine l_aload_n F dL_law_1041 rfl 0 rfl ?_
  refine l_iload_n F dL_law_1042 rfl 3 rfl ?_
  refine l_iconst F dL_law_1043 ?_
  refine l_iadd F dL_law_1044 ?_
  refine l_sld F ⟨by omega, by omega⟩ hL dL_law_1045 ?_
  refine l_aload_n F dL_law_1046 rfl 0 rfl ?_
  refine l_iload_n F dL_law_1047 rfl 3 rfl ?_
  refine l_iconst F dL_law_1048 ?_
  refine l_iadd F dL_law_1049 ?_
  refine l_sld F ⟨by omega, by omega⟩ hL dL_law_1050 ?_
  refine l_aload_n F dL_law_1051 rfl 0 rfl ?_
  refine l_iload_n F dL_law_1052 rfl 3 rfl ?_
  refine l_iconst F dL_law_1053 ?_
  refine l_iadd F dL_law_1054 ?_
  refine l_sld F ⟨by omega, by omega⟩ hL dL_law_1055 ?_
  refine l_aload_n F dL_law_1056 rfl 0 rfl ?_
  refine l_iload_n F dL_law_1057 rfl 3 rfl ?_
  refine l_bipush F dL_law_1058 (by decide +kernel) ?_
  refine l_iadd F dL_law_1060 ?_
  refine l_sld F ⟨by omega, by omega⟩ hL dL_law_1061 ?_
  refine l_callCI F tC_0 rfl lkl_135 c_X10_line rfl rfl ⟨rfl, rfl⟩ ⟨Nat.le_of_ble_eq_true rfl, Nat.le_of_ble_eq_true rfl⟩ rfl (Nat.le_of_ble_eq_true rfl) dL_law_1062 hC ?_
  refine l_aload_n F dL_law_1065 rfl 2 rfl ?_
  refine l_aload_n F dL_law_1066 rfl 0 rfl ?_
  refine l_iload_n F dL_law_1067 rfl 3 rfl ?_
  refine l_iconst F dL_law_1068 ?_
  refine l_iadd F dL_law_1069 ?_
  refine l_sld F ⟨by omega, by omega⟩ hL dL_law_1070 ?_
  refine l_aload_n F dL_law_1071 rfl 0 rfl ?_
  refine l_iload_n F dL_law_1072 rfl 3 rfl ?_
  refine l_iconst F dL_law_1073 ?_
  refine l_iadd F dL_law_1074 ?_
  refine l_sld F ⟨by omega, by omega⟩ hL dL_law_1075 ?_
  refine l_aload_n F dL_law_1076 rfl 0 rfl ?_
  refine l_iload_n F dL_law_1077 rfl 3 rfl ?_
  refine l_iconst F dL_law_1078 ?_
  refine l_iadd F dL_law_1079 ?_
  refine l_sld F ⟨by omega, by omega⟩ hL dL_law_1080 ?_
  refine l_aload_n F dL_law_1081 rfl 0 rfl ?_
  refine l_iload_n F dL_law_1082 rfl 3 rfl ?_
  refine l_iconst F dL_law_1083 ?_
  refine l_iadd F dL_law_1084 ?_
  refine l_sld F ⟨by omega, by omega⟩ hL dL_law_1085 ?_
  refine l_aload_n F dL_law_1086 rfl 0 rfl ?_
  refine l_iload_n F dL_law_1087 rfl 3 rfl ?_
  refine l_iconst F dL_law_1088 ?_
  refine l_iadd F dL_law_1089 ?_
  refine l_sld F ⟨by omega, by omega⟩ hL dL_law_1090 ?_
  refine l_aload_n F dL_law_1091 rfl 0 rfl ?_
  refine l_iload_n F dL_law_1092 rfl 3 rfl ?_
  refine l_bipush F dL_law_1093 (by decide +kernel) ?_
  refine l_iadd F dL_law_1095 ?_
  refine l_sld F ⟨by omega, by omega⟩ hL dL_law_1096 ?_
  refine l_callMI F tM_0 rfl lkl_139 c_X11_line_ rfl rfl ⟨rfl, rfl⟩ ⟨Nat.le_of_ble_eq_true rfl, Nat.le_of_ble_eq_true rfl⟩ rfl (Nat.le_of_ble_eq_true rfl) dL_law_1097 hM ?_
  refine l_same F (tgt := 1141) dL_law_1100 (by decide) ?_
  exact kk
set_option maxRecDepth 100000 in
set_option maxHeartbeats 4000000 in
theorem l_case29 {b L : Nat} {xs : Nat → Int32} {cs : Nat → ClassId} {adC adM : Nat → Nat} {l : Launch} {X : LC} {σC σM σC' σM' : St} {i v : Int} (F : LOk b L xs cs adC adM l X) (hL : L < 2147483648) (hi : 0 ≤ i ∧ i + 7 ≤ (L : Int)) (hC : ansC 29 σC (fun k => (xs (i + (k : Int)).toNat).toInt) = some (v, σC')) (hM : ansM 29 σM (fun k => (xs (i + (k : Int)).toNat).toInt) = some (v, σM')) (kk : LAt b cs adC adM X σC' σM' [(0, .ref b), (1, .ref (adC 0)), (2, .ref (adM 0)), (3, iv i)] [] 1141) : LAt b cs adC adM X σC σM [(0, .ref b), (1, .ref (adC 0)), (2, .ref (adM 0)), (3, iv i)] [] 1105 := by
  obtain ⟨hi0, hi7⟩ := hi
  refine l_aload_n F dL_law_1105 rfl 1 rfl ?_
  refine l_aload_n F dL_law_1106 rfl 0 rfl ?_
  refine l_iload_n F dL_law_1107 rfl 3 rfl ?_
  refine l_iconst F dL_law_1108 ?_
  refine l_iadd F dL_law_1109 ?_
  refine l_sld F ⟨by omega, by omega⟩ hL dL_law_1110 ?_
  refine l_callCI F tC_0 rfl lkl_140 c_X10_lay rfl rfl ⟨rfl, rfl⟩ ⟨Nat.le_of_ble_eq_true rfl, Nat.le_of_ble_eq_true rfl⟩ rfl (Nat.le_of_ble_eq_true rfl) dL_law_1111 hC ?_
  refine l_aload_n F dL_law_1114 rfl 2 rfl ?_
  refine l_aload_n F dL_law_1115 rfl 0 rfl ?_
  refine l_iload_n F dL_law_1116 rfl 3 rfl ?_
  refine l_iconst F dL_law_1117 ?_
  refine l_iadd F dL_law_1118 ?_
  refine l_sld F ⟨by omega, by omega⟩ hL dL_law_1119 ?_
  refine l_callMI F tM_0 rfl lkl_143 c_X11_lay rfl rfl ⟨rfl, rfl⟩ ⟨Nat.le_of_ble_eq_true rfl, Nat.le_of_ble_eq_true rfl⟩ rfl (Nat.le_of_ble_eq_true rfl) dL_law_1120 hM ?_
  refine l_same F (tgt := 1141) dL_law_1123 (by decide) ?_
  exact kk
set_option maxRecDepth 100000 in
set_option maxHeartbeats 4000000 in
theorem l_case30 {b L : Nat} {xs : Nat → Int32} {cs : Nat → ClassId} {adC adM : Nat → Nat} {l : Launch} {X : LC} {σC σM σC' σM' : St} {i v : Int} (F : LOk b L xs cs adC adM l X) (hL : L < 2147483648) (hi : 0 ≤ i ∧ i + 7 ≤ (L : Int)) (hC : ansC 30 σC (fun k => (xs (i + (k : Int)).toNat).toInt) = some (v, σC')) (hM : ansM 30 σM (fun k => (xs (i + (k : Int)).toNat).toInt) = some (v, σM')) (kk : LAt b cs adC adM X σC' σM' [(0, .ref b), (1, .ref (adC 0)), (2, .ref (adM 0)), (3, iv i)] [] 1141) : LAt b cs adC adM X σC σM [(0, .ref b), (1, .ref (adC 0)), (2, .ref (adM 0)), (3, iv i)] [] 1128 := by
  obtain ⟨hi0, hi7⟩ := hi
  refine l_aload_n F dL_law_1128 rfl 1 rfl ?_
  refine l_callCI F tC_0 rfl lkl_144 c_X10_undo rfl rfl ⟨rfl, rfl⟩ ⟨Nat.le_of_ble_eq_true rfl, Nat.le_of_ble_eq_true rfl⟩ rfl (Nat.le_of_ble_eq_true rfl) dL_law_1129 hC ?_
  refine l_aload_n F dL_law_1132 rfl 2 rfl ?_
  refine l_callMI F tM_0 rfl lkl_147 c_X11_undo rfl rfl ⟨rfl, rfl⟩ ⟨Nat.le_of_ble_eq_true rfl, Nat.le_of_ble_eq_true rfl⟩ rfl (Nat.le_of_ble_eq_true rfl) dL_law_1133 hM ?_
  refine l_same F (tgt := 1141) dL_law_1136 (by decide) ?_
  exact kk
