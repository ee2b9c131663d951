/-! the cases of the law -/
theorem lcmp_0 (r : Int64) : lg_cmp r r = 0 := by
  unfold lg_cmp
  simp
theorem lc_0 {p : Program} {e : Env} {s : State} {m : MethodId} {below : List Frame} {meth : Method} {c : Code} {b L : Nat} {xs : Nat → Int32} {l : Launch} {G : va_G} {cl : Nat → ClassId} {bx bm : Nat} {sa : Nat → Nat} (C : LC p s m meth c b L xs l G cl bx bm sa) {i : Nat} (hi : i + 6 ≤ L) {H : Heap} {x w : Wd} (hI : LI s l G cl bx bm sa H x w) (hR : Rel x w) {ls : Array Slot} (hl : lv_has ls 4 [(3, .int (nI i)), (2, .ref bm), (1, .ref bx), (0, .ref b)]) {Z : State → Prop} (kk : ∀ (H1 : Heap) (x1 w1 : Wd), LI s l G cl bx bm sa H1 x1 w1 → Rel x1 w1 → W p l e room_1 s m #[Value.ref b] below meth c H1 [] 170 (170 * 1280) Z (F0 m 1617 ls [])) : W p l e room_1 s m #[Value.ref b] below meth c H [] 170 (170 * 1280) Z (F0 m 224 ls []) := by
  obtain ⟨hx, hb, hr, hml, hown, hts, hX, hbl, hlocks, hgv⟩ := C.1
  have hbA : ¬ oldS s b := Nat.not_le.mpr hbl
  have hS := hI.1.1.2.2.1
  obtain ⟨CC, hrel⟩ := hR
  obtain ⟨r, x1, w1, ex, ew, hR1⟩ := C_row hrel (xs (nI i + 1).toNatClampNeg) (xs (nI i + 2).toNatClampNeg) (xs (nI i + 3).toNatClampNeg)
  refine lv_aload_n hx hb dL_law_224 rfl (lv_at hl 2 rfl) ?_
  refine lv_aload_n hx hb dL_law_225 rfl (lv_at hl 3 rfl) ?_
  refine lv_iload_n hx hb dL_law_226 rfl (lv_at hl 0 rfl) ?_
  refine lv_iconst (v := 1) hx hb dL_law_227 (by decide) ?_
  refine lv_iadd hx hb dL_law_228 ?_
  refine va_sld hx hb hX hbl hbA hS (L_in (j := 1) hi C.2.2.2.2 (by decide)) dL_law_229 ?_
  refine lv_aload_n hx hb dL_law_230 rfl (lv_at hl 3 rfl) ?_
  refine lv_iload_n hx hb dL_law_231 rfl (lv_at hl 0 rfl) ?_
  refine lv_iconst (v := 2) hx hb dL_law_232 (by decide) ?_
  refine lv_iadd hx hb dL_law_233 ?_
  refine va_sld hx hb hX hbl hbA hS (L_in (j := 2) hi C.2.2.2.2 (by decide)) dL_law_234 ?_
  refine lv_aload_n hx hb dL_law_235 rfl (lv_at hl 3 rfl) ?_
  refine lv_iload_n hx hb dL_law_236 rfl (lv_at hl 0 rfl) ?_
  refine lv_iconst (v := 3) hx hb dL_law_237 (by decide) ?_
  refine lv_iadd hx hb dL_law_238 ?_
  refine va_sld hx hb hX hbl hbA hS (L_in (j := 3) hi C.2.2.2.2 (by decide)) dL_law_239 ?_
  refine L_x C hI hR1.N.1 hl.1 [.int (xs (nI i + 1).toNatClampNeg), .int (xs (nI i + 2).toNatClampNeg), .int (xs (nI i + 3).toNatClampNeg)] (.int r) ld_X7_row lk_X7_row rfl rfl (by show _ ≤ 2000; decide) rfl rfl (Nat.le_of_ble_eq_true rfl) rfl rfl dL_law_240 (ctX7_row ex) (fun v u q => q) rfl (fun H1 hI1 => ?_)
  have hS := hI1.1.1.2.2.1
  refine lv_aload_n hx hb dL_law_243 rfl (lv_at hl 1 rfl) ?_
  refine lv_aload_n hx hb dL_law_244 rfl (lv_at hl 3 rfl) ?_
  refine lv_iload_n hx hb dL_law_245 rfl (lv_at hl 0 rfl) ?_
  refine lv_iconst (v := 1) hx hb dL_law_246 (by decide) ?_
  refine lv_iadd hx hb dL_law_247 ?_
  refine va_sld hx hb hX hbl hbA hS (L_in (j := 1) hi C.2.2.2.2 (by decide)) dL_law_248 ?_
  refine lv_aload_n hx hb dL_law_249 rfl (lv_at hl 3 rfl) ?_
  refine lv_iload_n hx hb dL_law_250 rfl (lv_at hl 0 rfl) ?_
  refine lv_iconst (v := 2) hx hb dL_law_251 (by decide) ?_
  refine lv_iadd hx hb dL_law_252 ?_
  refine va_sld hx hb hX hbl hbA hS (L_in (j := 2) hi C.2.2.2.2 (by decide)) dL_law_253 ?_
  refine lv_aload_n hx hb dL_law_254 rfl (lv_at hl 3 rfl) ?_
  refine lv_iload_n hx hb dL_law_255 rfl (lv_at hl 0 rfl) ?_
  refine lv_iconst (v := 3) hx hb dL_law_256 (by decide) ?_
  refine lv_iadd hx hb dL_law_257 ?_
  refine va_sld hx hb hX hbl hbA hS (L_in (j := 3) hi C.2.2.2.2 (by decide)) dL_law_258 ?_
  refine L_m C hI1 hR1.N.2 hl.1 [.int (xs (nI i + 1).toNatClampNeg), .int (xs (nI i + 2).toNatClampNeg), .int (xs (nI i + 3).toNatClampNeg)] (.int r) ld_X8_row lk_X8_row rfl rfl (by show _ ≤ 2000; decide) rfl rfl (Nat.le_of_ble_eq_true rfl) rfl rfl dL_law_259 (ctX8_row ew) (fun v u q => q) rfl (fun H2 hI2 => ?_)
  exact lv_icmp_eq (tgt := 1617) hx hb dL_law_262 (by decide) (fun _ => kk H2 x1 w1 hI2 hR1) (fun q => absurd rfl q)
theorem lc_1 {p : Program} {e : Env} {s : State} {m : MethodId} {below : List Frame} {meth : Method} {c : Code} {b L : Nat} {xs : Nat → Int32} {l : Launch} {G : va_G} {cl : Nat → ClassId} {bx bm : Nat} {sa : Nat → Nat} (C : LC p s m meth c b L xs l G cl bx bm sa) {i : Nat} (hi : i + 6 ≤ L) {H : Heap} {x w : Wd} (hI : LI s l G cl bx bm sa H x w) (hR : Rel x w) {ls : Array Slot} (hl : lv_has ls 4 [(3, .int (nI i)), (2, .ref bm), (1, .ref bx), (0, .ref b)]) {Z : State → Prop} (kk : ∀ (H1 : Heap) (x1 w1 : Wd), LI s l G cl bx bm sa H1 x1 w1 → Rel x1 w1 → W p l e room_1 s m #[Value.ref b] below meth c H1 [] 170 (170 * 1280) Z (F0 m 1617 ls [])) : W p l e room_1 s m #[Value.ref b] below meth c H [] 170 (170 * 1280) Z (F0 m 267 ls []) := by
  obtain ⟨hx, hb, hr, hml, hown, hts, hX, hbl, hlocks, hgv⟩ := C.1
  have hbA : ¬ oldS s b := Nat.not_le.mpr hbl
  have hS := hI.1.1.2.2.1
  obtain ⟨CC, hrel⟩ := hR
  obtain ⟨r, x1, w1, ex, ew, hR1⟩ := C_set hrel (xs (nI i + 1).toNatClampNeg) (xs (nI i + 2).toNatClampNeg) (lgY (xs (nI i + 3).toNatClampNeg) (xs (nI i + 4).toNatClampNeg))
  refine lv_aload_n hx hb dL_law_267 rfl (lv_at hl 2 rfl) ?_
  refine lv_aload_n hx hb dL_law_268 rfl (lv_at hl 3 rfl) ?_
  refine lv_iload_n hx hb dL_law_269 rfl (lv_at hl 0 rfl) ?_
  refine lv_iconst (v := 1) hx hb dL_law_270 (by decide) ?_
  refine lv_iadd hx hb dL_law_271 ?_
  refine va_sld hx hb hX hbl hbA hS (L_in (j := 1) hi C.2.2.2.2 (by decide)) dL_law_272 ?_
  refine lv_aload_n hx hb dL_law_273 rfl (lv_at hl 3 rfl) ?_
  refine lv_iload_n hx hb dL_law_274 rfl (lv_at hl 0 rfl) ?_
  refine lv_iconst (v := 2) hx hb dL_law_275 (by decide) ?_
  refine lv_iadd hx hb dL_law_276 ?_
  refine va_sld hx hb hX hbl hbA hS (L_in (j := 2) hi C.2.2.2.2 (by decide)) dL_law_277 ?_
  refine lv_aload_n hx hb dL_law_278 rfl (lv_at hl 3 rfl) ?_
  refine lv_iload_n hx hb dL_law_279 rfl (lv_at hl 0 rfl) ?_
  refine lv_iconst (v := 3) hx hb dL_law_280 (by decide) ?_
  refine lv_iadd hx hb dL_law_281 ?_
  refine va_sld hx hb hX hbl hbA hS (L_in (j := 3) hi C.2.2.2.2 (by decide)) dL_law_282 ?_
  refine lv_i2l hx hb dL_law_283 rfl ?_
  refine lv_bipush (v := 32) hx hb dL_law_284 (by decide) ?_
  refine lv_lshl hx hb dL_law_286 rfl ?_
  refine lv_aload_n hx hb dL_law_287 rfl (lv_at hl 3 rfl) ?_
  refine lv_iload_n hx hb dL_law_288 rfl (lv_at hl 0 rfl) ?_
  refine lv_iconst (v := 4) hx hb dL_law_289 (by decide) ?_
  refine lv_iadd hx hb dL_law_290 ?_
  refine va_sld hx hb hX hbl hbA hS (L_in (j := 4) hi C.2.2.2.2 (by decide)) dL_law_291 ?_
  refine lv_i2l hx hb dL_law_292 rfl ?_
  refine lv_ldc2 hx hb hown (hts _ lk_long) dL_law_293 ?_
  refine lv_land hx hb dL_law_296 ?_
  refine lv_lor hx hb dL_law_297 ?_
  refine L_x C hI hR1.N.1 hl.1 [.int (xs (nI i + 1).toNatClampNeg), .int (xs (nI i + 2).toNatClampNeg), .long (lgY (xs (nI i + 3).toNatClampNeg) (xs (nI i + 4).toNatClampNeg))] (.int r) ld_X7_set lk_X7_set rfl rfl (by show _ ≤ 2000; decide) rfl rfl (Nat.le_of_ble_eq_true rfl) rfl rfl dL_law_298 (ctX7_set ex) (fun v u q => q) rfl (fun H1 hI1 => ?_)
  have hS := hI1.1.1.2.2.1
  refine lv_aload_n hx hb dL_law_301 rfl (lv_at hl 1 rfl) ?_
  refine lv_aload_n hx hb dL_law_302 rfl (lv_at hl 3 rfl) ?_
  refine lv_iload_n hx hb dL_law_303 rfl (lv_at hl 0 rfl) ?_
  refine lv_iconst (v := 1) hx hb dL_law_304 (by decide) ?_
  refine lv_iadd hx hb dL_law_305 ?_
  refine va_sld hx hb hX hbl hbA hS (L_in (j := 1) hi C.2.2.2.2 (by decide)) dL_law_306 ?_
  refine lv_aload_n hx hb dL_law_307 rfl (lv_at hl 3 rfl) ?_
  refine lv_iload_n hx hb dL_law_308 rfl (lv_at hl 0 rfl) ?_
  refine lv_iconst (v := 2) hx hb dL_law_309 (by decide) ?_
  refine lv_iadd hx hb dL_law_310 ?_
  refine va_sld hx hb hX hbl hbA hS (L_in (j := 2) hi C.2.2.2.2 (by decide)) dL_law_311 ?_
  refine lv_aload_n hx hb dL_law_312 rfl (lv_at hl 3 rfl) ?_
  refine lv_iload_n hx hb dL_law_313 rfl (lv_at hl 0 rfl) ?_
  refine lv_iconst (v := 3) hx hb dL_law_314 (by decide) ?_
  refine lv_iadd hx hb dL_law_315 ?_
  refine va_sld hx hb hX hbl hbA hS (L_in (j := 3) hi C.2.2.2.2 (by decide)) dL_law_316 ?_
  refine lv_i2l hx hb dL_law_317 rfl ?_
  refine lv_bipush (v := 32) hx hb dL_law_318 (by decide) ?_
  refine lv_lshl hx hb dL_law_320 rfl ?_
  refine lv_aload_n hx hb dL_law_321 rfl (lv_at hl 3 rfl) ?_
  refine lv_iload_n hx hb dL_law_322 rfl (lv_at hl 0 rfl) ?_
  refine lv_iconst (v := 4) hx hb dL_law_323 (by decide) ?_
  refine lv_iadd hx hb dL_law_324 ?_
  refine va_sld hx hb hX hbl hbA hS (L_in (j := 4) hi C.2.2.2.2 (by decide)) dL_law_325 ?_
  refine lv_i2l hx hb dL_law_326 rfl ?_
  refine lv_ldc2 hx hb hown (hts _ lk_long) dL_law_327 ?_
  refine lv_land hx hb dL_law_330 ?_
  refine lv_lor hx hb dL_law_331 ?_
  refine L_m C hI1 hR1.N.2 hl.1 [.int (xs (nI i + 1).toNatClampNeg), .int (xs (nI i + 2).toNatClampNeg), .long (lgY (xs (nI i + 3).toNatClampNeg) (xs (nI i + 4).toNatClampNeg))] (.int r) ld_X8_set lk_X8_set rfl rfl (by show _ ≤ 2000; decide) rfl rfl (Nat.le_of_ble_eq_true rfl) rfl rfl dL_law_332 (ctX8_set ew) (fun v u q => q) rfl (fun H2 hI2 => ?_)
  exact lv_icmp_eq (tgt := 1617) hx hb dL_law_335 (by decide) (fun _ => kk H2 x1 w1 hI2 hR1) (fun q => absurd rfl q)
theorem lc_2 {p : Program} {e : Env} {s : State} {m : MethodId} {below : List Frame} {meth : Method} {c : Code} {b L : Nat} {xs : Nat → Int32} {l : Launch} {G : va_G} {cl : Nat → ClassId} {bx bm : Nat} {sa : Nat → Nat} (C : LC p s m meth c b L xs l G cl bx bm sa) {i : Nat} (hi : i + 6 ≤ L) {H : Heap} {x w : Wd} (hI : LI s l G cl bx bm sa H x w) (hR : Rel x w) {ls : Array Slot} (hl : lv_has ls 4 [(3, .int (nI i)), (2, .ref bm), (1, .ref bx), (0, .ref b)]) {Z : State → Prop} (kk : ∀ (H1 : Heap) (x1 w1 : Wd), LI s l G cl bx bm sa H1 x1 w1 → Rel x1 w1 → W p l e room_1 s m #[Value.ref b] below meth c H1 [] 170 (170 * 1280) Z (F0 m 1617 ls [])) : W p l e room_1 s m #[Value.ref b] below meth c H [] 170 (170 * 1280) Z (F0 m 340 ls []) := by
  obtain ⟨hx, hb, hr, hml, hown, hts, hX, hbl, hlocks, hgv⟩ := C.1
  have hbA : ¬ oldS s b := Nat.not_le.mpr hbl
  have hS := hI.1.1.2.2.1
  obtain ⟨CC, hrel⟩ := hR
  obtain ⟨r, x1, w1, ex, ew, hR1⟩ := C_copy hrel (xs (nI i + 1).toNatClampNeg) (xs (nI i + 2).toNatClampNeg) (xs (nI i + 3).toNatClampNeg) (xs (nI i + 4).toNatClampNeg) (xs (nI i + 5).toNatClampNeg)
  refine lv_aload_n hx hb dL_law_340 rfl (lv_at hl 2 rfl) ?_
  refine lv_aload_n hx hb dL_law_341 rfl (lv_at hl 3 rfl) ?_
  refine lv_iload_n hx hb dL_law_342 rfl (lv_at hl 0 rfl) ?_
  refine lv_iconst (v := 1) hx hb dL_law_343 (by decide) ?_
  refine lv_iadd hx hb dL_law_344 ?_
  refine va_sld hx hb hX hbl hbA hS (L_in (j := 1) hi C.2.2.2.2 (by decide)) dL_law_345 ?_
  refine lv_aload_n hx hb dL_law_346 rfl (lv_at hl 3 rfl) ?_
  refine lv_iload_n hx hb dL_law_347 rfl (lv_at hl 0 rfl) ?_
  refine lv_iconst (v := 2) hx hb dL_law_348 (by decide) ?_
  refine lv_iadd hx hb dL_law_349 ?_
  refine va_sld hx hb hX hbl hbA hS (L_in (j := 2) hi C.2.2.2.2 (by decide)) dL_law_350 ?_
  refine lv_aload_n hx hb dL_law_351 rfl (lv_at hl 3 rfl) ?_
  refine lv_iload_n hx hb dL_law_352 rfl (lv_at hl 0 rfl) ?_
  refine lv_iconst (v := 3) hx hb dL_law_353 (by decide) ?_
  refine lv_iadd hx hb dL_law_354 ?_
  refine va_sld hx hb hX hbl hbA hS (L_in (j := 3) hi C.2.2.2.2 (by decide)) dL_law_355 ?_
  refine lv_aload_n hx hb dL_law_356 rfl (lv_at hl 3 rfl) ?_
  refine lv_iload_n hx hb dL_law_357 rfl (lv_at hl 0 rfl) ?_
  refine lv_iconst (v := 4) hx hb dL_law_358 (by decide) ?_
  refine lv_iadd hx hb dL_law_359 ?_
  refine va_sld hx hb hX hbl hbA hS (L_in (j := 4) hi C.2.2.2.2 (by decide)) dL_law_360 ?_
  refine lv_aload_n hx hb dL_law_361 rfl (lv_at hl 3 rfl) ?_
  refine lv_iload_n hx hb dL_law_362 rfl (lv_at hl 0 rfl) ?_
  refine lv_iconst (v := 5) hx hb dL_law_363 (by decide) ?_
  refine lv_iadd hx hb dL_law_364 ?_
  refine va_sld hx hb hX hbl hbA hS (L_in (j := 5) hi C.2.2.2.2 (by decide)) dL_law_365 ?_
  refine L_x C hI hR1.N.1 hl.1 [.int (xs (nI i + 1).toNatClampNeg), .int (xs (nI i + 2).toNatClampNeg), .int (xs (nI i + 3).toNatClampNeg), .int (xs (nI i + 4).toNatClampNeg), .int (xs (nI i + 5).toNatClampNeg)] (.int r) ld_X7_copy lk_X7_copy rfl rfl (by show _ ≤ 2000; decide) rfl rfl (Nat.le_of_ble_eq_true rfl) rfl rfl dL_law_366 (ctX7_copy ex) (fun v u q => q) rfl (fun H1 hI1 => ?_)
  have hS := hI1.1.1.2.2.1
  refine lv_aload_n hx hb dL_law_369 rfl (lv_at hl 1 rfl) ?_
  refine lv_aload_n hx hb dL_law_370 rfl (lv_at hl 3 rfl) ?_
  refine lv_iload_n hx hb dL_law_371 rfl (lv_at hl 0 rfl) ?_
  refine lv_iconst (v := 1) hx hb dL_law_372 (by decide) ?_
  refine lv_iadd hx hb dL_law_373 ?_
  refine va_sld hx hb hX hbl hbA hS (L_in (j := 1) hi C.2.2.2.2 (by decide)) dL_law_374 ?_
  refine lv_aload_n hx hb dL_law_375 rfl (lv_at hl 3 rfl) ?_
  refine lv_iload_n hx hb dL_law_376 rfl (lv_at hl 0 rfl) ?_
  refine lv_iconst (v := 2) hx hb dL_law_377 (by decide) ?_
  refine lv_iadd hx hb dL_law_378 ?_
  refine va_sld hx hb hX hbl hbA hS (L_in (j := 2) hi C.2.2.2.2 (by decide)) dL_law_379 ?_
  refine lv_aload_n hx hb dL_law_380 rfl (lv_at hl 3 rfl) ?_
  refine lv_iload_n hx hb dL_law_381 rfl (lv_at hl 0 rfl) ?_
  refine lv_iconst (v := 3) hx hb dL_law_382 (by decide) ?_
  refine lv_iadd hx hb dL_law_383 ?_
  refine va_sld hx hb hX hbl hbA hS (L_in (j := 3) hi C.2.2.2.2 (by decide)) dL_law_384 ?_
  refine lv_aload_n hx hb dL_law_385 rfl (lv_at hl 3 rfl) ?_
  refine lv_iload_n hx hb dL_law_386 rfl (lv_at hl 0 rfl) ?_
  refine lv_iconst (v := 4) hx hb dL_law_387 (by decide) ?_
  refine lv_iadd hx hb dL_law_388 ?_
  refine va_sld hx hb hX hbl hbA hS (L_in (j := 4) hi C.2.2.2.2 (by decide)) dL_law_389 ?_
  refine lv_aload_n hx hb dL_law_390 rfl (lv_at hl 3 rfl) ?_
  refine lv_iload_n hx hb dL_law_391 rfl (lv_at hl 0 rfl) ?_
  refine lv_iconst (v := 5) hx hb dL_law_392 (by decide) ?_
  refine lv_iadd hx hb dL_law_393 ?_
  refine va_sld hx hb hX hbl hbA hS (L_in (j := 5) hi C.2.2.2.2 (by decide)) dL_law_394 ?_
  refine L_m C hI1 hR1.N.2 hl.1 [.int (xs (nI i + 1).toNatClampNeg), .int (xs (nI i + 2).toNatClampNeg), .int (xs (nI i + 3).toNatClampNeg), .int (xs (nI i + 4).toNatClampNeg), .int (xs (nI i + 5).toNatClampNeg)] (.int r) ld_X8_copy lk_X8_copy rfl rfl (by show _ ≤ 2000; decide) rfl rfl (Nat.le_of_ble_eq_true rfl) rfl rfl dL_law_395 (ctX8_copy ew) (fun v u q => q) rfl (fun H2 hI2 => ?_)
  exact lv_icmp_eq (tgt := 1617) hx hb dL_law_398 (by decide) (fun _ => kk H2 x1 w1 hI2 hR1) (fun q => absurd rfl q)
theorem lc_3 {p : Program} {e : Env} {s : State} {m : MethodId} {below : List Frame} {meth : Method} {c : Code} {b L : Nat} {xs : Nat → Int32} {l : Launch} {G : va_G} {cl : Nat → ClassId} {bx bm : Nat} {sa : Nat → Nat} (C : LC p s m meth c b L xs l G cl bx bm sa) {i : Nat} (hi : i + 6 ≤ L) {H : Heap} {x w : Wd} (hI : LI s l G cl bx bm sa H x w) (hR : Rel x w) {ls : Array Slot} (hl : lv_has ls 4 [(3, .int (nI i)), (2, .ref bm), (1, .ref bx), (0, .ref b)]) {Z : State → Prop} (kk : ∀ (H1 : Heap) (x1 w1 : Wd), LI s l G cl bx bm sa H1 x1 w1 → Rel x1 w1 → W p l e room_1 s m #[Value.ref b] below meth c H1 [] 170 (170 * 1280) Z (F0 m 1617 ls [])) : W p l e room_1 s m #[Value.ref b] below meth c H [] 170 (170 * 1280) Z (F0 m 403 ls []) := by
  obtain ⟨hx, hb, hr, hml, hown, hts, hX, hbl, hlocks, hgv⟩ := C.1
  have hbA : ¬ oldS s b := Nat.not_le.mpr hbl
  have hS := hI.1.1.2.2.1
  obtain ⟨CC, hrel⟩ := hR
  obtain ⟨r, x1, w1, ex, ew, hR1⟩ := C_element hrel (xs (nI i + 1).toNatClampNeg) (xs (nI i + 2).toNatClampNeg)
  refine lv_aload_n hx hb dL_law_403 rfl (lv_at hl 2 rfl) ?_
  refine lv_aload_n hx hb dL_law_404 rfl (lv_at hl 3 rfl) ?_
  refine lv_iload_n hx hb dL_law_405 rfl (lv_at hl 0 rfl) ?_
  refine lv_iconst (v := 1) hx hb dL_law_406 (by decide) ?_
  refine lv_iadd hx hb dL_law_407 ?_
  refine va_sld hx hb hX hbl hbA hS (L_in (j := 1) hi C.2.2.2.2 (by decide)) dL_law_408 ?_
  refine lv_aload_n hx hb dL_law_409 rfl (lv_at hl 3 rfl) ?_
  refine lv_iload_n hx hb dL_law_410 rfl (lv_at hl 0 rfl) ?_
  refine lv_iconst (v := 2) hx hb dL_law_411 (by decide) ?_
  refine lv_iadd hx hb dL_law_412 ?_
  refine va_sld hx hb hX hbl hbA hS (L_in (j := 2) hi C.2.2.2.2 (by decide)) dL_law_413 ?_
  refine L_x C hI hR1.N.1 hl.1 [.int (xs (nI i + 1).toNatClampNeg), .int (xs (nI i + 2).toNatClampNeg)] (.long r) ld_X7_element lk_X7_element rfl rfl (by show _ ≤ 2000; decide) rfl rfl (Nat.le_of_ble_eq_true rfl) rfl rfl dL_law_414 (ctX7_element ex) (fun v u q => q) rfl (fun H1 hI1 => ?_)
  have hS := hI1.1.1.2.2.1
  refine lv_aload_n hx hb dL_law_417 rfl (lv_at hl 1 rfl) ?_
  refine lv_aload_n hx hb dL_law_418 rfl (lv_at hl 3 rfl) ?_
  refine lv_iload_n hx hb dL_law_419 rfl (lv_at hl 0 rfl) ?_
  refine lv_iconst (v := 1) hx hb dL_law_420 (by decide) ?_
  refine lv_iadd hx hb dL_law_421 ?_
  refine va_sld hx hb hX hbl hbA hS (L_in (j := 1) hi C.2.2.2.2 (by decide)) dL_law_422 ?_
  refine lv_aload_n hx hb dL_law_423 rfl (lv_at hl 3 rfl) ?_
  refine lv_iload_n hx hb dL_law_424 rfl (lv_at hl 0 rfl) ?_
  refine lv_iconst (v := 2) hx hb dL_law_425 (by decide) ?_
  refine lv_iadd hx hb dL_law_426 ?_
  refine va_sld hx hb hX hbl hbA hS (L_in (j := 2) hi C.2.2.2.2 (by decide)) dL_law_427 ?_
  refine L_m C hI1 hR1.N.2 hl.1 [.int (xs (nI i + 1).toNatClampNeg), .int (xs (nI i + 2).toNatClampNeg)] (.long r) ld_X8_element lk_X8_element rfl rfl (by show _ ≤ 2000; decide) rfl rfl (Nat.le_of_ble_eq_true rfl) rfl rfl dL_law_428 (ctX8_element ew) (fun v u q => q) rfl (fun H2 hI2 => ?_)
  refine W.lcmp hx hb dL_law_431 ?_
  refine lv_if_eq (tgt := 1617) hx hb dL_law_432 (by decide) (fun _ => kk H2 x1 w1 hI2 hR1) (fun q => absurd (lcmp_0 r) q)
theorem lc_4 {p : Program} {e : Env} {s : State} {m : MethodId} {below : List Frame} {meth : Method} {c : Code} {b L : Nat} {xs : Nat → Int32} {l : Launch} {G : va_G} {cl : Nat → ClassId} {bx bm : Nat} {sa : Nat → Nat} (C : LC p s m meth c b L xs l G cl bx bm sa) {i : Nat} (hi : i + 6 ≤ L) {H : Heap} {x w : Wd} (hI : LI s l G cl bx bm sa H x w) (hR : Rel x w) {ls : Array Slot} (hl : lv_has ls 4 [(3, .int (nI i)), (2, .ref bm), (1, .ref bx), (0, .ref b)]) {Z : State → Prop} (kk : ∀ (H1 : Heap) (x1 w1 : Wd), LI s l G cl bx bm sa H1 x1 w1 → Rel x1 w1 → W p l e room_1 s m #[Value.ref b] below meth c H1 [] 170 (170 * 1280) Z (F0 m 1617 ls [])) : W p l e room_1 s m #[Value.ref b] below meth c H [] 170 (170 * 1280) Z (F0 m 437 ls []) := by
  obtain ⟨hx, hb, hr, hml, hown, hts, hX, hbl, hlocks, hgv⟩ := C.1
  have hbA : ¬ oldS s b := Nat.not_le.mpr hbl
  have hS := hI.1.1.2.2.1
  obtain ⟨CC, hrel⟩ := hR
  obtain ⟨r, x1, w1, ex, ew, hR1⟩ := C_show hrel (xs (nI i + 1).toNatClampNeg) (xs (nI i + 2).toNatClampNeg)
  refine lv_aload_n hx hb dL_law_437 rfl (lv_at hl 2 rfl) ?_
  refine lv_aload_n hx hb dL_law_438 rfl (lv_at hl 3 rfl) ?_
  refine lv_iload_n hx hb dL_law_439 rfl (lv_at hl 0 rfl) ?_
  refine lv_iconst (v := 1) hx hb dL_law_440 (by decide) ?_
  refine lv_iadd hx hb dL_law_441 ?_
  refine va_sld hx hb hX hbl hbA hS (L_in (j := 1) hi C.2.2.2.2 (by decide)) dL_law_442 ?_
  refine lv_aload_n hx hb dL_law_443 rfl (lv_at hl 3 rfl) ?_
  refine lv_iload_n hx hb dL_law_444 rfl (lv_at hl 0 rfl) ?_
  refine lv_iconst (v := 2) hx hb dL_law_445 (by decide) ?_
  refine lv_iadd hx hb dL_law_446 ?_
  refine va_sld hx hb hX hbl hbA hS (L_in (j := 2) hi C.2.2.2.2 (by decide)) dL_law_447 ?_
  refine L_x C hI hR1.N.1 hl.1 [.int (xs (nI i + 1).toNatClampNeg), .int (xs (nI i + 2).toNatClampNeg)] (.int r) ld_X7_show lk_X7_show rfl rfl (by show _ ≤ 2000; decide) rfl rfl (Nat.le_of_ble_eq_true rfl) rfl rfl dL_law_448 (ctX7_show ex) (fun v u q => q) rfl (fun H1 hI1 => ?_)
  have hS := hI1.1.1.2.2.1
  refine lv_aload_n hx hb dL_law_451 rfl (lv_at hl 1 rfl) ?_
  refine lv_aload_n hx hb dL_law_452 rfl (lv_at hl 3 rfl) ?_
  refine lv_iload_n hx hb dL_law_453 rfl (lv_at hl 0 rfl) ?_
  refine lv_iconst (v := 1) hx hb dL_law_454 (by decide) ?_
  refine lv_iadd hx hb dL_law_455 ?_
  refine va_sld hx hb hX hbl hbA hS (L_in (j := 1) hi C.2.2.2.2 (by decide)) dL_law_456 ?_
  refine lv_aload_n hx hb dL_law_457 rfl (lv_at hl 3 rfl) ?_
  refine lv_iload_n hx hb dL_law_458 rfl (lv_at hl 0 rfl) ?_
  refine lv_iconst (v := 2) hx hb dL_law_459 (by decide) ?_
  refine lv_iadd hx hb dL_law_460 ?_
  refine va_sld hx hb hX hbl hbA hS (L_in (j := 2) hi C.2.2.2.2 (by decide)) dL_law_461 ?_
  refine L_m C hI1 hR1.N.2 hl.1 [.int (xs (nI i + 1).toNatClampNeg), .int (xs (nI i + 2).toNatClampNeg)] (.int r) ld_X8_show lk_X8_show rfl rfl (by show _ ≤ 2000; decide) rfl rfl (Nat.le_of_ble_eq_true rfl) rfl rfl dL_law_462 (ctX8_show ew) (fun v u q => q) rfl (fun H2 hI2 => ?_)
  exact lv_icmp_eq (tgt := 1617) hx hb dL_law_465 (by decide) (fun _ => kk H2 x1 w1 hI2 hR1) (fun q => absurd rfl q)
theorem lc_5 {p : Program} {e : Env} {s : State} {m : MethodId} {below : List Frame} {meth : Method} {c : Code} {b L : Nat} {xs : Nat → Int32} {l : Launch} {G : va_G} {cl : Nat → ClassId} {bx bm : Nat} {sa : Nat → Nat} (C : LC p s m meth c b L xs l G cl bx bm sa) {i : Nat} (hi : i + 6 ≤ L) {H : Heap} {x w : Wd} (hI : LI s l G cl bx bm sa H x w) (hR : Rel x w) {ls : Array Slot} (hl : lv_has ls 4 [(3, .int (nI i)), (2, .ref bm), (1, .ref bx), (0, .ref b)]) {Z : State → Prop} (kk : ∀ (H1 : Heap) (x1 w1 : Wd), LI s l G cl bx bm sa H1 x1 w1 → Rel x1 w1 → W p l e room_1 s m #[Value.ref b] below meth c H1 [] 170 (170 * 1280) Z (F0 m 1617 ls [])) : W p l e room_1 s m #[Value.ref b] below meth c H [] 170 (170 * 1280) Z (F0 m 470 ls []) := by
  obtain ⟨hx, hb, hr, hml, hown, hts, hX, hbl, hlocks, hgv⟩ := C.1
  have hbA : ¬ oldS s b := Nat.not_le.mpr hbl
  have hS := hI.1.1.2.2.1
  obtain ⟨CC, hrel⟩ := hR
  obtain ⟨r, x1, w1, ex, ew, hR1⟩ := C_holds hrel (xs (nI i + 1).toNatClampNeg)
  refine lv_aload_n hx hb dL_law_470 rfl (lv_at hl 2 rfl) ?_
  refine lv_aload_n hx hb dL_law_471 rfl (lv_at hl 3 rfl) ?_
  refine lv_iload_n hx hb dL_law_472 rfl (lv_at hl 0 rfl) ?_
  refine lv_iconst (v := 1) hx hb dL_law_473 (by decide) ?_
  refine lv_iadd hx hb dL_law_474 ?_
  refine va_sld hx hb hX hbl hbA hS (L_in (j := 1) hi C.2.2.2.2 (by decide)) dL_law_475 ?_
  refine L_x C hI hR1.N.1 hl.1 [.int (xs (nI i + 1).toNatClampNeg)] (.int r) ld_X7_holds lk_X7_holds rfl rfl (by show _ ≤ 2000; decide) rfl rfl (Nat.le_of_ble_eq_true rfl) rfl rfl dL_law_476 (ctX7_holds ex) (fun v u q => q) rfl (fun H1 hI1 => ?_)
  have hS := hI1.1.1.2.2.1
  refine lv_aload_n hx hb dL_law_479 rfl (lv_at hl 1 rfl) ?_
  refine lv_aload_n hx hb dL_law_480 rfl (lv_at hl 3 rfl) ?_
  refine lv_iload_n hx hb dL_law_481 rfl (lv_at hl 0 rfl) ?_
  refine lv_iconst (v := 1) hx hb dL_law_482 (by decide) ?_
  refine lv_iadd hx hb dL_law_483 ?_
  refine va_sld hx hb hX hbl hbA hS (L_in (j := 1) hi C.2.2.2.2 (by decide)) dL_law_484 ?_
  refine L_m C hI1 hR1.N.2 hl.1 [.int (xs (nI i + 1).toNatClampNeg)] (.int r) ld_X8_holds lk_X8_holds rfl rfl (by show _ ≤ 2000; decide) rfl rfl (Nat.le_of_ble_eq_true rfl) rfl rfl dL_law_485 (ctX8_holds ew) (fun v u q => q) rfl (fun H2 hI2 => ?_)
  exact lv_icmp_eq (tgt := 1617) hx hb dL_law_488 (by decide) (fun _ => kk H2 x1 w1 hI2 hR1) (fun q => absurd rfl q)
theorem lc_6 {p : Program} {e : Env} {s : State} {m : MethodId} {below : List Frame} {meth : Method} {c : Code} {b L : Nat} {xs : Nat → Int32} {l : Launch} {G : va_G} {cl : Nat → ClassId} {bx bm : Nat} {sa : Nat → Nat} (C : LC p s m meth c b L xs l G cl bx bm sa) {i : Nat} (hi : i + 6 ≤ L) {H : Heap} {x w : Wd} (hI : LI s l G cl bx bm sa H x w) (hR : Rel x w) {ls : Array Slot} (hl : lv_has ls 4 [(3, .int (nI i)), (2, .ref bm), (1, .ref bx), (0, .ref b)]) {Z : State → Prop} (kk : ∀ (H1 : Heap) (x1 w1 : Wd), LI s l G cl bx bm sa H1 x1 w1 → Rel x1 w1 → W p l e room_1 s m #[Value.ref b] below meth c H1 [] 170 (170 * 1280) Z (F0 m 1617 ls [])) : W p l e room_1 s m #[Value.ref b] below meth c H [] 170 (170 * 1280) Z (F0 m 493 ls []) := by
  obtain ⟨hx, hb, hr, hml, hown, hts, hX, hbl, hlocks, hgv⟩ := C.1
  have hbA : ¬ oldS s b := Nat.not_le.mpr hbl
  have hS := hI.1.1.2.2.1
  obtain ⟨CC, hrel⟩ := hR
  obtain ⟨r, x1, w1, ex, ew, hR1⟩ := C_says hrel (xs (nI i + 1).toNatClampNeg) (xs (nI i + 2).toNatClampNeg)
  refine lv_aload_n hx hb dL_law_493 rfl (lv_at hl 2 rfl) ?_
  refine lv_aload_n hx hb dL_law_494 rfl (lv_at hl 3 rfl) ?_
  refine lv_iload_n hx hb dL_law_495 rfl (lv_at hl 0 rfl) ?_
  refine lv_iconst (v := 1) hx hb dL_law_496 (by decide) ?_
  refine lv_iadd hx hb dL_law_497 ?_
  refine va_sld hx hb hX hbl hbA hS (L_in (j := 1) hi C.2.2.2.2 (by decide)) dL_law_498 ?_
  refine lv_aload_n hx hb dL_law_499 rfl (lv_at hl 3 rfl) ?_
  refine lv_iload_n hx hb dL_law_500 rfl (lv_at hl 0 rfl) ?_
  refine lv_iconst (v := 2) hx hb dL_law_501 (by decide) ?_
  refine lv_iadd hx hb dL_law_502 ?_
  refine va_sld hx hb hX hbl hbA hS (L_in (j := 2) hi C.2.2.2.2 (by decide)) dL_law_503 ?_
  refine L_x C hI hR1.N.1 hl.1 [.int (xs (nI i + 1).toNatClampNeg), .int (xs (nI i + 2).toNatClampNeg)] (.int r) ld_X7_says lk_X7_says rfl rfl (by show _ ≤ 2000; decide) rfl rfl (Nat.le_of_ble_eq_true rfl) rfl rfl dL_law_504 (ctX7_says ex) (fun v u q => q) rfl (fun H1 hI1 => ?_)
  have hS := hI1.1.1.2.2.1
  refine lv_aload_n hx hb dL_law_507 rfl (lv_at hl 1 rfl) ?_
  refine lv_aload_n hx hb dL_law_508 rfl (lv_at hl 3 rfl) ?_
  refine lv_iload_n hx hb dL_law_509 rfl (lv_at hl 0 rfl) ?_
  refine lv_iconst (v := 1) hx hb dL_law_510 (by decide) ?_
  refine lv_iadd hx hb dL_law_511 ?_
  refine va_sld hx hb hX hbl hbA hS (L_in (j := 1) hi C.2.2.2.2 (by decide)) dL_law_512 ?_
  refine lv_aload_n hx hb dL_law_513 rfl (lv_at hl 3 rfl) ?_
  refine lv_iload_n hx hb dL_law_514 rfl (lv_at hl 0 rfl) ?_
  refine lv_iconst (v := 2) hx hb dL_law_515 (by decide) ?_
  refine lv_iadd hx hb dL_law_516 ?_
  refine va_sld hx hb hX hbl hbA hS (L_in (j := 2) hi C.2.2.2.2 (by decide)) dL_law_517 ?_
  refine L_m C hI1 hR1.N.2 hl.1 [.int (xs (nI i + 1).toNatClampNeg), .int (xs (nI i + 2).toNatClampNeg)] (.int r) ld_X8_says lk_X8_says rfl rfl (by show _ ≤ 2000; decide) rfl rfl (Nat.le_of_ble_eq_true rfl) rfl rfl dL_law_518 (ctX8_says ew) (fun v u q => q) rfl (fun H2 hI2 => ?_)
  exact lv_icmp_eq (tgt := 1617) hx hb dL_law_521 (by decide) (fun _ => kk H2 x1 w1 hI2 hR1) (fun q => absurd rfl q)
theorem lc_7 {p : Program} {e : Env} {s : State} {m : MethodId} {below : List Frame} {meth : Method} {c : Code} {b L : Nat} {xs : Nat → Int32} {l : Launch} {G : va_G} {cl : Nat → ClassId} {bx bm : Nat} {sa : Nat → Nat} (C : LC p s m meth c b L xs l G cl bx bm sa) {i : Nat} (hi : i + 6 ≤ L) {H : Heap} {x w : Wd} (hI : LI s l G cl bx bm sa H x w) (hR : Rel x w) {ls : Array Slot} (hl : lv_has ls 4 [(3, .int (nI i)), (2, .ref bm), (1, .ref bx), (0, .ref b)]) {Z : State → Prop} (kk : ∀ (H1 : Heap) (x1 w1 : Wd), LI s l G cl bx bm sa H1 x1 w1 → Rel x1 w1 → W p l e room_1 s m #[Value.ref b] below meth c H1 [] 170 (170 * 1280) Z (F0 m 1617 ls [])) : W p l e room_1 s m #[Value.ref b] below meth c H [] 170 (170 * 1280) Z (F0 m 526 ls []) := by
  obtain ⟨hx, hb, hr, hml, hown, hts, hX, hbl, hlocks, hgv⟩ := C.1
  have hbA : ¬ oldS s b := Nat.not_le.mpr hbl
  have hS := hI.1.1.2.2.1
  obtain ⟨CC, hrel⟩ := hR
  obtain ⟨r, x1, w1, ex, ew, hR1⟩ := C_person hrel (xs (nI i + 1).toNatClampNeg)
  refine lv_aload_n hx hb dL_law_526 rfl (lv_at hl 2 rfl) ?_
  refine lv_aload_n hx hb dL_law_527 rfl (lv_at hl 3 rfl) ?_
  refine lv_iload_n hx hb dL_law_528 rfl (lv_at hl 0 rfl) ?_
  refine lv_iconst (v := 1) hx hb dL_law_529 (by decide) ?_
  refine lv_iadd hx hb dL_law_530 ?_
  refine va_sld hx hb hX hbl hbA hS (L_in (j := 1) hi C.2.2.2.2 (by decide)) dL_law_531 ?_
  refine L_x C hI hR1.N.1 hl.1 [.int (xs (nI i + 1).toNatClampNeg)] (.int r) ld_X7_person lk_X7_person rfl rfl (by show _ ≤ 2000; decide) rfl rfl (Nat.le_of_ble_eq_true rfl) rfl rfl dL_law_532 (ctX7_person ex) (fun v u q => q) rfl (fun H1 hI1 => ?_)
  have hS := hI1.1.1.2.2.1
  refine lv_aload_n hx hb dL_law_535 rfl (lv_at hl 1 rfl) ?_
  refine lv_aload_n hx hb dL_law_536 rfl (lv_at hl 3 rfl) ?_
  refine lv_iload_n hx hb dL_law_537 rfl (lv_at hl 0 rfl) ?_
  refine lv_iconst (v := 1) hx hb dL_law_538 (by decide) ?_
  refine lv_iadd hx hb dL_law_539 ?_
  refine va_sld hx hb hX hbl hbA hS (L_in (j := 1) hi C.2.2.2.2 (by decide)) dL_law_540 ?_
  refine L_m C hI1 hR1.N.2 hl.1 [.int (xs (nI i + 1).toNatClampNeg)] (.int r) ld_X8_person lk_X8_person rfl rfl (by show _ ≤ 2000; decide) rfl rfl (Nat.le_of_ble_eq_true rfl) rfl rfl dL_law_541 (ctX8_person ew) (fun v u q => q) rfl (fun H2 hI2 => ?_)
  exact lv_icmp_eq (tgt := 1617) hx hb dL_law_544 (by decide) (fun _ => kk H2 x1 w1 hI2 hR1) (fun q => absurd rfl q)
theorem lc_8 {p : Program} {e : Env} {s : State} {m : MethodId} {below : List Frame} {meth : Method} {c : Code} {b L : Nat} {xs : Nat → Int32} {l : Launch} {G : va_G} {cl : Nat → ClassId} {bx bm : Nat} {sa : Nat → Nat} (C : LC p s m meth c b L xs l G cl bx bm sa) {i : Nat} (hi : i + 6 ≤ L) {H : Heap} {x w : Wd} (hI : LI s l G cl bx bm sa H x w) (hR : Rel x w) {ls : Array Slot} (hl : lv_has ls 4 [(3, .int (nI i)), (2, .ref bm), (1, .ref bx), (0, .ref b)]) {Z : State → Prop} (kk : ∀ (H1 : Heap) (x1 w1 : Wd), LI s l G cl bx bm sa H1 x1 w1 → Rel x1 w1 → W p l e room_1 s m #[Value.ref b] below meth c H1 [] 170 (170 * 1280) Z (F0 m 1617 ls [])) : W p l e room_1 s m #[Value.ref b] below meth c H [] 170 (170 * 1280) Z (F0 m 549 ls []) := by
  obtain ⟨hx, hb, hr, hml, hown, hts, hX, hbl, hlocks, hgv⟩ := C.1
  have hbA : ¬ oldS s b := Nat.not_le.mpr hbl
  have hS := hI.1.1.2.2.1
  obtain ⟨CC, hrel⟩ := hR
  obtain ⟨r, x1, w1, ex, ew, hR1⟩ := C_garment hrel (xs (nI i + 1).toNatClampNeg) (xs (nI i + 2).toNatClampNeg)
  refine lv_aload_n hx hb dL_law_549 rfl (lv_at hl 2 rfl) ?_
  refine lv_aload_n hx hb dL_law_550 rfl (lv_at hl 3 rfl) ?_
  refine lv_iload_n hx hb dL_law_551 rfl (lv_at hl 0 rfl) ?_
  refine lv_iconst (v := 1) hx hb dL_law_552 (by decide) ?_
  refine lv_iadd hx hb dL_law_553 ?_
  refine va_sld hx hb hX hbl hbA hS (L_in (j := 1) hi C.2.2.2.2 (by decide)) dL_law_554 ?_
  refine lv_aload_n hx hb dL_law_555 rfl (lv_at hl 3 rfl) ?_
  refine lv_iload_n hx hb dL_law_556 rfl (lv_at hl 0 rfl) ?_
  refine lv_iconst (v := 2) hx hb dL_law_557 (by decide) ?_
  refine lv_iadd hx hb dL_law_558 ?_
  refine va_sld hx hb hX hbl hbA hS (L_in (j := 2) hi C.2.2.2.2 (by decide)) dL_law_559 ?_
  refine L_x C hI hR1.N.1 hl.1 [.int (xs (nI i + 1).toNatClampNeg), .int (xs (nI i + 2).toNatClampNeg)] (.int r) ld_X7_garment lk_X7_garment rfl rfl (by show _ ≤ 2000; decide) rfl rfl (Nat.le_of_ble_eq_true rfl) rfl rfl dL_law_560 (ctX7_garment ex) (fun v u q => q) rfl (fun H1 hI1 => ?_)
  have hS := hI1.1.1.2.2.1
  refine lv_aload_n hx hb dL_law_563 rfl (lv_at hl 1 rfl) ?_
  refine lv_aload_n hx hb dL_law_564 rfl (lv_at hl 3 rfl) ?_
  refine lv_iload_n hx hb dL_law_565 rfl (lv_at hl 0 rfl) ?_
  refine lv_iconst (v := 1) hx hb dL_law_566 (by decide) ?_
  refine lv_iadd hx hb dL_law_567 ?_
  refine va_sld hx hb hX hbl hbA hS (L_in (j := 1) hi C.2.2.2.2 (by decide)) dL_law_568 ?_
  refine lv_aload_n hx hb dL_law_569 rfl (lv_at hl 3 rfl) ?_
  refine lv_iload_n hx hb dL_law_570 rfl (lv_at hl 0 rfl) ?_
  refine lv_iconst (v := 2) hx hb dL_law_571 (by decide) ?_
  refine lv_iadd hx hb dL_law_572 ?_
  refine va_sld hx hb hX hbl hbA hS (L_in (j := 2) hi C.2.2.2.2 (by decide)) dL_law_573 ?_
  refine L_m C hI1 hR1.N.2 hl.1 [.int (xs (nI i + 1).toNatClampNeg), .int (xs (nI i + 2).toNatClampNeg)] (.int r) ld_X8_garment lk_X8_garment rfl rfl (by show _ ≤ 2000; decide) rfl rfl (Nat.le_of_ble_eq_true rfl) rfl rfl dL_law_574 (ctX8_garment ew) (fun v u q => q) rfl (fun H2 hI2 => ?_)
  exact lv_icmp_eq (tgt := 1617) hx hb dL_law_577 (by decide) (fun _ => kk H2 x1 w1 hI2 hR1) (fun q => absurd rfl q)
theorem lc_9 {p : Program} {e : Env} {s : State} {m : MethodId} {below : List Frame} {meth : Method} {c : Code} {b L : Nat} {xs : Nat → Int32} {l : Launch} {G : va_G} {cl : Nat → ClassId} {bx bm : Nat} {sa : Nat → Nat} (C : LC p s m meth c b L xs l G cl bx bm sa) {i : Nat} (hi : i + 6 ≤ L) {H : Heap} {x w : Wd} (hI : LI s l G cl bx bm sa H x w) (hR : Rel x w) {ls : Array Slot} (hl : lv_has ls 4 [(3, .int (nI i)), (2, .ref bm), (1, .ref bx), (0, .ref b)]) {Z : State → Prop} (kk : ∀ (H1 : Heap) (x1 w1 : Wd), LI s l G cl bx bm sa H1 x1 w1 → Rel x1 w1 → W p l e room_1 s m #[Value.ref b] below meth c H1 [] 170 (170 * 1280) Z (F0 m 1617 ls [])) : W p l e room_1 s m #[Value.ref b] below meth c H [] 170 (170 * 1280) Z (F0 m 582 ls []) := by
  obtain ⟨hx, hb, hr, hml, hown, hts, hX, hbl, hlocks, hgv⟩ := C.1
  have hbA : ¬ oldS s b := Nat.not_le.mpr hbl
  have hS := hI.1.1.2.2.1
  obtain ⟨CC, hrel⟩ := hR
  obtain ⟨r, x1, w1, ex, ew, hR1⟩ := C_own hrel (xs (nI i + 1).toNatClampNeg) (xs (nI i + 2).toNatClampNeg) (xs (nI i + 3).toNatClampNeg)
  refine lv_aload_n hx hb dL_law_582 rfl (lv_at hl 2 rfl) ?_
  refine lv_aload_n hx hb dL_law_583 rfl (lv_at hl 3 rfl) ?_
  refine lv_iload_n hx hb dL_law_584 rfl (lv_at hl 0 rfl) ?_
  refine lv_iconst (v := 1) hx hb dL_law_585 (by decide) ?_
  refine lv_iadd hx hb dL_law_586 ?_
  refine va_sld hx hb hX hbl hbA hS (L_in (j := 1) hi C.2.2.2.2 (by decide)) dL_law_587 ?_
  refine lv_aload_n hx hb dL_law_588 rfl (lv_at hl 3 rfl) ?_
  refine lv_iload_n hx hb dL_law_589 rfl (lv_at hl 0 rfl) ?_
  refine lv_iconst (v := 2) hx hb dL_law_590 (by decide) ?_
  refine lv_iadd hx hb dL_law_591 ?_
  refine va_sld hx hb hX hbl hbA hS (L_in (j := 2) hi C.2.2.2.2 (by decide)) dL_law_592 ?_
  refine lv_aload_n hx hb dL_law_593 rfl (lv_at hl 3 rfl) ?_
  refine lv_iload_n hx hb dL_law_594 rfl (lv_at hl 0 rfl) ?_
  refine lv_iconst (v := 3) hx hb dL_law_595 (by decide) ?_
  refine lv_iadd hx hb dL_law_596 ?_
  refine va_sld hx hb hX hbl hbA hS (L_in (j := 3) hi C.2.2.2.2 (by decide)) dL_law_597 ?_
  refine L_x C hI hR1.N.1 hl.1 [.int (xs (nI i + 1).toNatClampNeg), .int (xs (nI i + 2).toNatClampNeg), .int (xs (nI i + 3).toNatClampNeg)] (.int r) ld_X7_own lk_X7_own rfl rfl (by show _ ≤ 2000; decide) rfl rfl (Nat.le_of_ble_eq_true rfl) rfl rfl dL_law_598 (ctX7_own ex) (fun v u q => q) rfl (fun H1 hI1 => ?_)
  have hS := hI1.1.1.2.2.1
  refine lv_aload_n hx hb dL_law_601 rfl (lv_at hl 1 rfl) ?_
  refine lv_aload_n hx hb dL_law_602 rfl (lv_at hl 3 rfl) ?_
  refine lv_iload_n hx hb dL_law_603 rfl (lv_at hl 0 rfl) ?_
  refine lv_iconst (v := 1) hx hb dL_law_604 (by decide) ?_
  refine lv_iadd hx hb dL_law_605 ?_
  refine va_sld hx hb hX hbl hbA hS (L_in (j := 1) hi C.2.2.2.2 (by decide)) dL_law_606 ?_
  refine lv_aload_n hx hb dL_law_607 rfl (lv_at hl 3 rfl) ?_
  refine lv_iload_n hx hb dL_law_608 rfl (lv_at hl 0 rfl) ?_
  refine lv_iconst (v := 2) hx hb dL_law_609 (by decide) ?_
  refine lv_iadd hx hb dL_law_610 ?_
  refine va_sld hx hb hX hbl hbA hS (L_in (j := 2) hi C.2.2.2.2 (by decide)) dL_law_611 ?_
  refine lv_aload_n hx hb dL_law_612 rfl (lv_at hl 3 rfl) ?_
  refine lv_iload_n hx hb dL_law_613 rfl (lv_at hl 0 rfl) ?_
  refine lv_iconst (v := 3) hx hb dL_law_614 (by decide) ?_
  refine lv_iadd hx hb dL_law_615 ?_
  refine va_sld hx hb hX hbl hbA hS (L_in (j := 3) hi C.2.2.2.2 (by decide)) dL_law_616 ?_
  refine L_m C hI1 hR1.N.2 hl.1 [.int (xs (nI i + 1).toNatClampNeg), .int (xs (nI i + 2).toNatClampNeg), .int (xs (nI i + 3).toNatClampNeg)] (.int r) ld_X8_own lk_X8_own rfl rfl (by show _ ≤ 2000; decide) rfl rfl (Nat.le_of_ble_eq_true rfl) rfl rfl dL_law_617 (ctX8_own ew) (fun v u q => q) rfl (fun H2 hI2 => ?_)
  exact lv_icmp_eq (tgt := 1617) hx hb dL_law_620 (by decide) (fun _ => kk H2 x1 w1 hI2 hR1) (fun q => absurd rfl q)
theorem lc_10 {p : Program} {e : Env} {s : State} {m : MethodId} {below : List Frame} {meth : Method} {c : Code} {b L : Nat} {xs : Nat → Int32} {l : Launch} {G : va_G} {cl : Nat → ClassId} {bx bm : Nat} {sa : Nat → Nat} (C : LC p s m meth c b L xs l G cl bx bm sa) {i : Nat} (hi : i + 6 ≤ L) {H : Heap} {x w : Wd} (hI : LI s l G cl bx bm sa H x w) (hR : Rel x w) {ls : Array Slot} (hl : lv_has ls 4 [(3, .int (nI i)), (2, .ref bm), (1, .ref bx), (0, .ref b)]) {Z : State → Prop} (kk : ∀ (H1 : Heap) (x1 w1 : Wd), LI s l G cl bx bm sa H1 x1 w1 → Rel x1 w1 → W p l e room_1 s m #[Value.ref b] below meth c H1 [] 170 (170 * 1280) Z (F0 m 1617 ls [])) : W p l e room_1 s m #[Value.ref b] below meth c H [] 170 (170 * 1280) Z (F0 m 625 ls []) := by
  obtain ⟨hx, hb, hr, hml, hown, hts, hX, hbl, hlocks, hgv⟩ := C.1
  have hbA : ¬ oldS s b := Nat.not_le.mpr hbl
  have hS := hI.1.1.2.2.1
  obtain ⟨CC, hrel⟩ := hR
  obtain ⟨r, x1, w1, ex, ew, hR1⟩ := C_habit hrel (xs (nI i + 1).toNatClampNeg) (xs (nI i + 2).toNatClampNeg) (xs (nI i + 3).toNatClampNeg) (xs (nI i + 4).toNatClampNeg)
  refine lv_aload_n hx hb dL_law_625 rfl (lv_at hl 2 rfl) ?_
  refine lv_aload_n hx hb dL_law_626 rfl (lv_at hl 3 rfl) ?_
  refine lv_iload_n hx hb dL_law_627 rfl (lv_at hl 0 rfl) ?_
  refine lv_iconst (v := 1) hx hb dL_law_628 (by decide) ?_
  refine lv_iadd hx hb dL_law_629 ?_
  refine va_sld hx hb hX hbl hbA hS (L_in (j := 1) hi C.2.2.2.2 (by decide)) dL_law_630 ?_
  refine lv_aload_n hx hb dL_law_631 rfl (lv_at hl 3 rfl) ?_
  refine lv_iload_n hx hb dL_law_632 rfl (lv_at hl 0 rfl) ?_
  refine lv_iconst (v := 2) hx hb dL_law_633 (by decide) ?_
  refine lv_iadd hx hb dL_law_634 ?_
  refine va_sld hx hb hX hbl hbA hS (L_in (j := 2) hi C.2.2.2.2 (by decide)) dL_law_635 ?_
  refine lv_aload_n hx hb dL_law_636 rfl (lv_at hl 3 rfl) ?_
  refine lv_iload_n hx hb dL_law_637 rfl (lv_at hl 0 rfl) ?_
  refine lv_iconst (v := 3) hx hb dL_law_638 (by decide) ?_
  refine lv_iadd hx hb dL_law_639 ?_
  refine va_sld hx hb hX hbl hbA hS (L_in (j := 3) hi C.2.2.2.2 (by decide)) dL_law_640 ?_
  refine lv_aload_n hx hb dL_law_641 rfl (lv_at hl 3 rfl) ?_
  refine lv_iload_n hx hb dL_law_642 rfl (lv_at hl 0 rfl) ?_
  refine lv_iconst (v := 4) hx hb dL_law_643 (by decide) ?_
  refine lv_iadd hx hb dL_law_644 ?_
  refine va_sld hx hb hX hbl hbA hS (L_in (j := 4) hi C.2.2.2.2 (by decide)) dL_law_645 ?_
  refine L_x C hI hR1.N.1 hl.1 [.int (xs (nI i + 1).toNatClampNeg), .int (xs (nI i + 2).toNatClampNeg), .int (xs (nI i + 3).toNatClampNeg), .int (xs (nI i + 4).toNatClampNeg)] (.int r) ld_X7_habit lk_X7_habit rfl rfl (by show _ ≤ 2000; decide) rfl rfl (Nat.le_of_ble_eq_true rfl) rfl rfl dL_law_646 (ctX7_habit ex) (fun v u q => q) rfl (fun H1 hI1 => ?_)
  have hS := hI1.1.1.2.2.1
  refine lv_aload_n hx hb dL_law_649 rfl (lv_at hl 1 rfl) ?_
  refine lv_aload_n hx hb dL_law_650 rfl (lv_at hl 3 rfl) ?_
  refine lv_iload_n hx hb dL_law_651 rfl (lv_at hl 0 rfl) ?_
  refine lv_iconst (v := 1) hx hb dL_law_652 (by decide) ?_
  refine lv_iadd hx hb dL_law_653 ?_
  refine va_sld hx hb hX hbl hbA hS (L_in (j := 1) hi C.2.2.2.2 (by decide)) dL_law_654 ?_
  refine lv_aload_n hx hb dL_law_655 rfl (lv_at hl 3 rfl) ?_
  refine lv_iload_n hx hb dL_law_656 rfl (lv_at hl 0 rfl) ?_
  refine lv_iconst (v := 2) hx hb dL_law_657 (by decide) ?_
  refine lv_iadd hx hb dL_law_658 ?_
  refine va_sld hx hb hX hbl hbA hS (L_in (j := 2) hi C.2.2.2.2 (by decide)) dL_law_659 ?_
  refine lv_aload_n hx hb dL_law_660 rfl (lv_at hl 3 rfl) ?_
  refine lv_iload_n hx hb dL_law_661 rfl (lv_at hl 0 rfl) ?_
  refine lv_iconst (v := 3) hx hb dL_law_662 (by decide) ?_
  refine lv_iadd hx hb dL_law_663 ?_
  refine va_sld hx hb hX hbl hbA hS (L_in (j := 3) hi C.2.2.2.2 (by decide)) dL_law_664 ?_
  refine lv_aload_n hx hb dL_law_665 rfl (lv_at hl 3 rfl) ?_
  refine lv_iload_n hx hb dL_law_666 rfl (lv_at hl 0 rfl) ?_
  refine lv_iconst (v := 4) hx hb dL_law_667 (by decide) ?_
  refine lv_iadd hx hb dL_law_668 ?_
  refine va_sld hx hb hX hbl hbA hS (L_in (j := 4) hi C.2.2.2.2 (by decide)) dL_law_669 ?_
  refine L_m C hI1 hR1.N.2 hl.1 [.int (xs (nI i + 1).toNatClampNeg), .int (xs (nI i + 2).toNatClampNeg), .int (xs (nI i + 3).toNatClampNeg), .int (xs (nI i + 4).toNatClampNeg)] (.int r) ld_X8_habit lk_X8_habit rfl rfl (by show _ ≤ 2000; decide) rfl rfl (Nat.le_of_ble_eq_true rfl) rfl rfl dL_law_670 (ctX8_habit ew) (fun v u q => q) rfl (fun H2 hI2 => ?_)
  exact lv_icmp_eq (tgt := 1617) hx hb dL_law_673 (by decide) (fun _ => kk H2 x1 w1 hI2 hR1) (fun q => absurd rfl q)
theorem lc_11 {p : Program} {e : Env} {s : State} {m : MethodId} {below : List Frame} {meth : Method} {c : Code} {b L : Nat} {xs : Nat → Int32} {l : Launch} {G : va_G} {cl : Nat → ClassId} {bx bm : Nat} {sa : Nat → Nat} (C : LC p s m meth c b L xs l G cl bx bm sa) {i : Nat} (hi : i + 6 ≤ L) {H : Heap} {x w : Wd} (hI : LI s l G cl bx bm sa H x w) (hR : Rel x w) {ls : Array Slot} (hl : lv_has ls 4 [(3, .int (nI i)), (2, .ref bm), (1, .ref bx), (0, .ref b)]) {Z : State → Prop} (kk : ∀ (H1 : Heap) (x1 w1 : Wd), LI s l G cl bx bm sa H1 x1 w1 → Rel x1 w1 → W p l e room_1 s m #[Value.ref b] below meth c H1 [] 170 (170 * 1280) Z (F0 m 1617 ls [])) : W p l e room_1 s m #[Value.ref b] below meth c H [] 170 (170 * 1280) Z (F0 m 678 ls []) := by
  obtain ⟨hx, hb, hr, hml, hown, hts, hX, hbl, hlocks, hgv⟩ := C.1
  have hbA : ¬ oldS s b := Nat.not_le.mpr hbl
  have hS := hI.1.1.2.2.1
  obtain ⟨CC, hrel⟩ := hR
  obtain ⟨r, x1, w1, ex, ew, hR1⟩ := C_wear hrel (xs (nI i + 1).toNatClampNeg) (xs (nI i + 2).toNatClampNeg)
  refine lv_aload_n hx hb dL_law_678 rfl (lv_at hl 2 rfl) ?_
  refine lv_aload_n hx hb dL_law_679 rfl (lv_at hl 3 rfl) ?_
  refine lv_iload_n hx hb dL_law_680 rfl (lv_at hl 0 rfl) ?_
  refine lv_iconst (v := 1) hx hb dL_law_681 (by decide) ?_
  refine lv_iadd hx hb dL_law_682 ?_
  refine va_sld hx hb hX hbl hbA hS (L_in (j := 1) hi C.2.2.2.2 (by decide)) dL_law_683 ?_
  refine lv_aload_n hx hb dL_law_684 rfl (lv_at hl 3 rfl) ?_
  refine lv_iload_n hx hb dL_law_685 rfl (lv_at hl 0 rfl) ?_
  refine lv_iconst (v := 2) hx hb dL_law_686 (by decide) ?_
  refine lv_iadd hx hb dL_law_687 ?_
  refine va_sld hx hb hX hbl hbA hS (L_in (j := 2) hi C.2.2.2.2 (by decide)) dL_law_688 ?_
  refine L_x C hI hR1.N.1 hl.1 [.int (xs (nI i + 1).toNatClampNeg), .int (xs (nI i + 2).toNatClampNeg)] (.int r) ld_X7_wear lk_X7_wear rfl rfl (by show _ ≤ 2000; decide) rfl rfl (Nat.le_of_ble_eq_true rfl) rfl rfl dL_law_689 (ctX7_wear ex) (fun v u q => q) rfl (fun H1 hI1 => ?_)
  have hS := hI1.1.1.2.2.1
  refine lv_aload_n hx hb dL_law_692 rfl (lv_at hl 1 rfl) ?_
  refine lv_aload_n hx hb dL_law_693 rfl (lv_at hl 3 rfl) ?_
  refine lv_iload_n hx hb dL_law_694 rfl (lv_at hl 0 rfl) ?_
  refine lv_iconst (v := 1) hx hb dL_law_695 (by decide) ?_
  refine lv_iadd hx hb dL_law_696 ?_
  refine va_sld hx hb hX hbl hbA hS (L_in (j := 1) hi C.2.2.2.2 (by decide)) dL_law_697 ?_
  refine lv_aload_n hx hb dL_law_698 rfl (lv_at hl 3 rfl) ?_
  refine lv_iload_n hx hb dL_law_699 rfl (lv_at hl 0 rfl) ?_
  refine lv_iconst (v := 2) hx hb dL_law_700 (by decide) ?_
  refine lv_iadd hx hb dL_law_701 ?_
  refine va_sld hx hb hX hbl hbA hS (L_in (j := 2) hi C.2.2.2.2 (by decide)) dL_law_702 ?_
  refine L_m C hI1 hR1.N.2 hl.1 [.int (xs (nI i + 1).toNatClampNeg), .int (xs (nI i + 2).toNatClampNeg)] (.int r) ld_X8_wear lk_X8_wear rfl rfl (by show _ ≤ 2000; decide) rfl rfl (Nat.le_of_ble_eq_true rfl) rfl rfl dL_law_703 (ctX8_wear ew) (fun v u q => q) rfl (fun H2 hI2 => ?_)
  exact lv_icmp_eq (tgt := 1617) hx hb dL_law_706 (by decide) (fun _ => kk H2 x1 w1 hI2 hR1) (fun q => absurd rfl q)
theorem lc_12 {p : Program} {e : Env} {s : State} {m : MethodId} {below : List Frame} {meth : Method} {c : Code} {b L : Nat} {xs : Nat → Int32} {l : Launch} {G : va_G} {cl : Nat → ClassId} {bx bm : Nat} {sa : Nat → Nat} (C : LC p s m meth c b L xs l G cl bx bm sa) {i : Nat} (hi : i + 6 ≤ L) {H : Heap} {x w : Wd} (hI : LI s l G cl bx bm sa H x w) (hR : Rel x w) {ls : Array Slot} (hl : lv_has ls 4 [(3, .int (nI i)), (2, .ref bm), (1, .ref bx), (0, .ref b)]) {Z : State → Prop} (kk : ∀ (H1 : Heap) (x1 w1 : Wd), LI s l G cl bx bm sa H1 x1 w1 → Rel x1 w1 → W p l e room_1 s m #[Value.ref b] below meth c H1 [] 170 (170 * 1280) Z (F0 m 1617 ls [])) : W p l e room_1 s m #[Value.ref b] below meth c H [] 170 (170 * 1280) Z (F0 m 711 ls []) := by
  obtain ⟨hx, hb, hr, hml, hown, hts, hX, hbl, hlocks, hgv⟩ := C.1
  have hbA : ¬ oldS s b := Nat.not_le.mpr hbl
  have hS := hI.1.1.2.2.1
  obtain ⟨CC, hrel⟩ := hR
  obtain ⟨r, x1, w1, ex, ew, hR1⟩ := C_will hrel (xs (nI i + 1).toNatClampNeg) (xs (nI i + 2).toNatClampNeg)
  refine lv_aload_n hx hb dL_law_711 rfl (lv_at hl 2 rfl) ?_
  refine lv_aload_n hx hb dL_law_712 rfl (lv_at hl 3 rfl) ?_
  refine lv_iload_n hx hb dL_law_713 rfl (lv_at hl 0 rfl) ?_
  refine lv_iconst (v := 1) hx hb dL_law_714 (by decide) ?_
  refine lv_iadd hx hb dL_law_715 ?_
  refine va_sld hx hb hX hbl hbA hS (L_in (j := 1) hi C.2.2.2.2 (by decide)) dL_law_716 ?_
  refine lv_aload_n hx hb dL_law_717 rfl (lv_at hl 3 rfl) ?_
  refine lv_iload_n hx hb dL_law_718 rfl (lv_at hl 0 rfl) ?_
  refine lv_iconst (v := 2) hx hb dL_law_719 (by decide) ?_
  refine lv_iadd hx hb dL_law_720 ?_
  refine va_sld hx hb hX hbl hbA hS (L_in (j := 2) hi C.2.2.2.2 (by decide)) dL_law_721 ?_
  refine L_x C hI hR1.N.1 hl.1 [.int (xs (nI i + 1).toNatClampNeg), .int (xs (nI i + 2).toNatClampNeg)] (.int r) ld_X7_will lk_X7_will rfl rfl (by show _ ≤ 2000; decide) rfl rfl (Nat.le_of_ble_eq_true rfl) rfl rfl dL_law_722 (ctX7_will ex) (fun v u q => q) rfl (fun H1 hI1 => ?_)
  have hS := hI1.1.1.2.2.1
  refine lv_aload_n hx hb dL_law_725 rfl (lv_at hl 1 rfl) ?_
  refine lv_aload_n hx hb dL_law_726 rfl (lv_at hl 3 rfl) ?_
  refine lv_iload_n hx hb dL_law_727 rfl (lv_at hl 0 rfl) ?_
  refine lv_iconst (v := 1) hx hb dL_law_728 (by decide) ?_
  refine lv_iadd hx hb dL_law_729 ?_
  refine va_sld hx hb hX hbl hbA hS (L_in (j := 1) hi C.2.2.2.2 (by decide)) dL_law_730 ?_
  refine lv_aload_n hx hb dL_law_731 rfl (lv_at hl 3 rfl) ?_
  refine lv_iload_n hx hb dL_law_732 rfl (lv_at hl 0 rfl) ?_
  refine lv_iconst (v := 2) hx hb dL_law_733 (by decide) ?_
  refine lv_iadd hx hb dL_law_734 ?_
  refine va_sld hx hb hX hbl hbA hS (L_in (j := 2) hi C.2.2.2.2 (by decide)) dL_law_735 ?_
  refine L_m C hI1 hR1.N.2 hl.1 [.int (xs (nI i + 1).toNatClampNeg), .int (xs (nI i + 2).toNatClampNeg)] (.int r) ld_X8_will lk_X8_will rfl rfl (by show _ ≤ 2000; decide) rfl rfl (Nat.le_of_ble_eq_true rfl) rfl rfl dL_law_736 (ctX8_will ew) (fun v u q => q) rfl (fun H2 hI2 => ?_)
  exact lv_icmp_eq (tgt := 1617) hx hb dL_law_739 (by decide) (fun _ => kk H2 x1 w1 hI2 hR1) (fun q => absurd rfl q)
theorem lc_13 {p : Program} {e : Env} {s : State} {m : MethodId} {below : List Frame} {meth : Method} {c : Code} {b L : Nat} {xs : Nat → Int32} {l : Launch} {G : va_G} {cl : Nat → ClassId} {bx bm : Nat} {sa : Nat → Nat} (C : LC p s m meth c b L xs l G cl bx bm sa) {i : Nat} (hi : i + 6 ≤ L) {H : Heap} {x w : Wd} (hI : LI s l G cl bx bm sa H x w) (hR : Rel x w) {ls : Array Slot} (hl : lv_has ls 4 [(3, .int (nI i)), (2, .ref bm), (1, .ref bx), (0, .ref b)]) {Z : State → Prop} (kk : ∀ (H1 : Heap) (x1 w1 : Wd), LI s l G cl bx bm sa H1 x1 w1 → Rel x1 w1 → W p l e room_1 s m #[Value.ref b] below meth c H1 [] 170 (170 * 1280) Z (F0 m 1617 ls [])) : W p l e room_1 s m #[Value.ref b] below meth c H [] 170 (170 * 1280) Z (F0 m 744 ls []) := by
  obtain ⟨hx, hb, hr, hml, hown, hts, hX, hbl, hlocks, hgv⟩ := C.1
  have hbA : ¬ oldS s b := Nat.not_le.mpr hbl
  have hS := hI.1.1.2.2.1
  obtain ⟨CC, hrel⟩ := hR
  obtain ⟨r, x1, w1, ex, ew, hR1⟩ := C_garmentOf hrel (xs (nI i + 1).toNatClampNeg) (xs (nI i + 2).toNatClampNeg)
  refine lv_aload_n hx hb dL_law_744 rfl (lv_at hl 2 rfl) ?_
  refine lv_aload_n hx hb dL_law_745 rfl (lv_at hl 3 rfl) ?_
  refine lv_iload_n hx hb dL_law_746 rfl (lv_at hl 0 rfl) ?_
  refine lv_iconst (v := 1) hx hb dL_law_747 (by decide) ?_
  refine lv_iadd hx hb dL_law_748 ?_
  refine va_sld hx hb hX hbl hbA hS (L_in (j := 1) hi C.2.2.2.2 (by decide)) dL_law_749 ?_
  refine lv_aload_n hx hb dL_law_750 rfl (lv_at hl 3 rfl) ?_
  refine lv_iload_n hx hb dL_law_751 rfl (lv_at hl 0 rfl) ?_
  refine lv_iconst (v := 2) hx hb dL_law_752 (by decide) ?_
  refine lv_iadd hx hb dL_law_753 ?_
  refine va_sld hx hb hX hbl hbA hS (L_in (j := 2) hi C.2.2.2.2 (by decide)) dL_law_754 ?_
  refine L_x C hI hR1.N.1 hl.1 [.int (xs (nI i + 1).toNatClampNeg), .int (xs (nI i + 2).toNatClampNeg)] (.int r) ld_X7_garmentOf lk_X7_garmentOf rfl rfl (by show _ ≤ 2000; decide) rfl rfl (Nat.le_of_ble_eq_true rfl) rfl rfl dL_law_755 (ctX7_garmentOf ex) (fun v u q => q) rfl (fun H1 hI1 => ?_)
  have hS := hI1.1.1.2.2.1
  refine lv_aload_n hx hb dL_law_758 rfl (lv_at hl 1 rfl) ?_
  refine lv_aload_n hx hb dL_law_759 rfl (lv_at hl 3 rfl) ?_
  refine lv_iload_n hx hb dL_law_760 rfl (lv_at hl 0 rfl) ?_
  refine lv_iconst (v := 1) hx hb dL_law_761 (by decide) ?_
  refine lv_iadd hx hb dL_law_762 ?_
  refine va_sld hx hb hX hbl hbA hS (L_in (j := 1) hi C.2.2.2.2 (by decide)) dL_law_763 ?_
  refine lv_aload_n hx hb dL_law_764 rfl (lv_at hl 3 rfl) ?_
  refine lv_iload_n hx hb dL_law_765 rfl (lv_at hl 0 rfl) ?_
  refine lv_iconst (v := 2) hx hb dL_law_766 (by decide) ?_
  refine lv_iadd hx hb dL_law_767 ?_
  refine va_sld hx hb hX hbl hbA hS (L_in (j := 2) hi C.2.2.2.2 (by decide)) dL_law_768 ?_
  refine L_m C hI1 hR1.N.2 hl.1 [.int (xs (nI i + 1).toNatClampNeg), .int (xs (nI i + 2).toNatClampNeg)] (.int r) ld_X8_garmentOf lk_X8_garmentOf rfl rfl (by show _ ≤ 2000; decide) rfl rfl (Nat.le_of_ble_eq_true rfl) rfl rfl dL_law_769 (ctX8_garmentOf ew) (fun v u q => q) rfl (fun H2 hI2 => ?_)
  exact lv_icmp_eq (tgt := 1617) hx hb dL_law_772 (by decide) (fun _ => kk H2 x1 w1 hI2 hR1) (fun q => absurd rfl q)
theorem lc_14 {p : Program} {e : Env} {s : State} {m : MethodId} {below : List Frame} {meth : Method} {c : Code} {b L : Nat} {xs : Nat → Int32} {l : Launch} {G : va_G} {cl : Nat → ClassId} {bx bm : Nat} {sa : Nat → Nat} (C : LC p s m meth c b L xs l G cl bx bm sa) {i : Nat} (hi : i + 6 ≤ L) {H : Heap} {x w : Wd} (hI : LI s l G cl bx bm sa H x w) (hR : Rel x w) {ls : Array Slot} (hl : lv_has ls 4 [(3, .int (nI i)), (2, .ref bm), (1, .ref bx), (0, .ref b)]) {Z : State → Prop} (kk : ∀ (H1 : Heap) (x1 w1 : Wd), LI s l G cl bx bm sa H1 x1 w1 → Rel x1 w1 → W p l e room_1 s m #[Value.ref b] below meth c H1 [] 170 (170 * 1280) Z (F0 m 1617 ls [])) : W p l e room_1 s m #[Value.ref b] below meth c H [] 170 (170 * 1280) Z (F0 m 777 ls []) := by
  obtain ⟨hx, hb, hr, hml, hown, hts, hX, hbl, hlocks, hgv⟩ := C.1
  have hbA : ¬ oldS s b := Nat.not_le.mpr hbl
  have hS := hI.1.1.2.2.1
  obtain ⟨CC, hrel⟩ := hR
  obtain ⟨r, x1, w1, ex, ew, hR1⟩ := C_personOf hrel (xs (nI i + 1).toNatClampNeg) (xs (nI i + 2).toNatClampNeg)
  refine lv_aload_n hx hb dL_law_777 rfl (lv_at hl 2 rfl) ?_
  refine lv_aload_n hx hb dL_law_778 rfl (lv_at hl 3 rfl) ?_
  refine lv_iload_n hx hb dL_law_779 rfl (lv_at hl 0 rfl) ?_
  refine lv_iconst (v := 1) hx hb dL_law_780 (by decide) ?_
  refine lv_iadd hx hb dL_law_781 ?_
  refine va_sld hx hb hX hbl hbA hS (L_in (j := 1) hi C.2.2.2.2 (by decide)) dL_law_782 ?_
  refine lv_aload_n hx hb dL_law_783 rfl (lv_at hl 3 rfl) ?_
  refine lv_iload_n hx hb dL_law_784 rfl (lv_at hl 0 rfl) ?_
  refine lv_iconst (v := 2) hx hb dL_law_785 (by decide) ?_
  refine lv_iadd hx hb dL_law_786 ?_
  refine va_sld hx hb hX hbl hbA hS (L_in (j := 2) hi C.2.2.2.2 (by decide)) dL_law_787 ?_
  refine L_x C hI hR1.N.1 hl.1 [.int (xs (nI i + 1).toNatClampNeg), .int (xs (nI i + 2).toNatClampNeg)] (.int r) ld_X7_personOf lk_X7_personOf rfl rfl (by show _ ≤ 2000; decide) rfl rfl (Nat.le_of_ble_eq_true rfl) rfl rfl dL_law_788 (ctX7_personOf ex) (fun v u q => q) rfl (fun H1 hI1 => ?_)
  have hS := hI1.1.1.2.2.1
  refine lv_aload_n hx hb dL_law_791 rfl (lv_at hl 1 rfl) ?_
  refine lv_aload_n hx hb dL_law_792 rfl (lv_at hl 3 rfl) ?_
  refine lv_iload_n hx hb dL_law_793 rfl (lv_at hl 0 rfl) ?_
  refine lv_iconst (v := 1) hx hb dL_law_794 (by decide) ?_
  refine lv_iadd hx hb dL_law_795 ?_
  refine va_sld hx hb hX hbl hbA hS (L_in (j := 1) hi C.2.2.2.2 (by decide)) dL_law_796 ?_
  refine lv_aload_n hx hb dL_law_797 rfl (lv_at hl 3 rfl) ?_
  refine lv_iload_n hx hb dL_law_798 rfl (lv_at hl 0 rfl) ?_
  refine lv_iconst (v := 2) hx hb dL_law_799 (by decide) ?_
  refine lv_iadd hx hb dL_law_800 ?_
  refine va_sld hx hb hX hbl hbA hS (L_in (j := 2) hi C.2.2.2.2 (by decide)) dL_law_801 ?_
  refine L_m C hI1 hR1.N.2 hl.1 [.int (xs (nI i + 1).toNatClampNeg), .int (xs (nI i + 2).toNatClampNeg)] (.int r) ld_X8_personOf lk_X8_personOf rfl rfl (by show _ ≤ 2000; decide) rfl rfl (Nat.le_of_ble_eq_true rfl) rfl rfl dL_law_802 (ctX8_personOf ew) (fun v u q => q) rfl (fun H2 hI2 => ?_)
  exact lv_icmp_eq (tgt := 1617) hx hb dL_law_805 (by decide) (fun _ => kk H2 x1 w1 hI2 hR1) (fun q => absurd rfl q)
theorem lc_15 {p : Program} {e : Env} {s : State} {m : MethodId} {below : List Frame} {meth : Method} {c : Code} {b L : Nat} {xs : Nat → Int32} {l : Launch} {G : va_G} {cl : Nat → ClassId} {bx bm : Nat} {sa : Nat → Nat} (C : LC p s m meth c b L xs l G cl bx bm sa) {i : Nat} (hi : i + 6 ≤ L) {H : Heap} {x w : Wd} (hI : LI s l G cl bx bm sa H x w) (hR : Rel x w) {ls : Array Slot} (hl : lv_has ls 4 [(3, .int (nI i)), (2, .ref bm), (1, .ref bx), (0, .ref b)]) {Z : State → Prop} (kk : ∀ (H1 : Heap) (x1 w1 : Wd), LI s l G cl bx bm sa H1 x1 w1 → Rel x1 w1 → W p l e room_1 s m #[Value.ref b] below meth c H1 [] 170 (170 * 1280) Z (F0 m 1617 ls [])) : W p l e room_1 s m #[Value.ref b] below meth c H [] 170 (170 * 1280) Z (F0 m 810 ls []) := by
  obtain ⟨hx, hb, hr, hml, hown, hts, hX, hbl, hlocks, hgv⟩ := C.1
  have hbA : ¬ oldS s b := Nat.not_le.mpr hbl
  have hS := hI.1.1.2.2.1
  obtain ⟨CC, hrel⟩ := hR
  obtain ⟨r, x1, w1, ex, ew, hR1⟩ := C_wardrobe hrel (xs (nI i + 1).toNatClampNeg)
  refine lv_aload_n hx hb dL_law_810 rfl (lv_at hl 2 rfl) ?_
  refine lv_aload_n hx hb dL_law_811 rfl (lv_at hl 3 rfl) ?_
  refine lv_iload_n hx hb dL_law_812 rfl (lv_at hl 0 rfl) ?_
  refine lv_iconst (v := 1) hx hb dL_law_813 (by decide) ?_
  refine lv_iadd hx hb dL_law_814 ?_
  refine va_sld hx hb hX hbl hbA hS (L_in (j := 1) hi C.2.2.2.2 (by decide)) dL_law_815 ?_
  refine L_x C hI hR1.N.1 hl.1 [.int (xs (nI i + 1).toNatClampNeg)] (.int r) ld_X7_wardrobe lk_X7_wardrobe rfl rfl (by show _ ≤ 2000; decide) rfl rfl (Nat.le_of_ble_eq_true rfl) rfl rfl dL_law_816 (ctX7_wardrobe ex) (fun v u q => q) rfl (fun H1 hI1 => ?_)
  have hS := hI1.1.1.2.2.1
  refine lv_aload_n hx hb dL_law_819 rfl (lv_at hl 1 rfl) ?_
  refine lv_aload_n hx hb dL_law_820 rfl (lv_at hl 3 rfl) ?_
  refine lv_iload_n hx hb dL_law_821 rfl (lv_at hl 0 rfl) ?_
  refine lv_iconst (v := 1) hx hb dL_law_822 (by decide) ?_
  refine lv_iadd hx hb dL_law_823 ?_
  refine va_sld hx hb hX hbl hbA hS (L_in (j := 1) hi C.2.2.2.2 (by decide)) dL_law_824 ?_
  refine L_m C hI1 hR1.N.2 hl.1 [.int (xs (nI i + 1).toNatClampNeg)] (.int r) ld_X8_wardrobe lk_X8_wardrobe rfl rfl (by show _ ≤ 2000; decide) rfl rfl (Nat.le_of_ble_eq_true rfl) rfl rfl dL_law_825 (ctX8_wardrobe ew) (fun v u q => q) rfl (fun H2 hI2 => ?_)
  exact lv_icmp_eq (tgt := 1617) hx hb dL_law_828 (by decide) (fun _ => kk H2 x1 w1 hI2 hR1) (fun q => absurd rfl q)
theorem lc_16 {p : Program} {e : Env} {s : State} {m : MethodId} {below : List Frame} {meth : Method} {c : Code} {b L : Nat} {xs : Nat → Int32} {l : Launch} {G : va_G} {cl : Nat → ClassId} {bx bm : Nat} {sa : Nat → Nat} (C : LC p s m meth c b L xs l G cl bx bm sa) {i : Nat} (hi : i + 6 ≤ L) {H : Heap} {x w : Wd} (hI : LI s l G cl bx bm sa H x w) (hR : Rel x w) {ls : Array Slot} (hl : lv_has ls 4 [(3, .int (nI i)), (2, .ref bm), (1, .ref bx), (0, .ref b)]) {Z : State → Prop} (kk : ∀ (H1 : Heap) (x1 w1 : Wd), LI s l G cl bx bm sa H1 x1 w1 → Rel x1 w1 → W p l e room_1 s m #[Value.ref b] below meth c H1 [] 170 (170 * 1280) Z (F0 m 1617 ls [])) : W p l e room_1 s m #[Value.ref b] below meth c H [] 170 (170 * 1280) Z (F0 m 833 ls []) := by
  obtain ⟨hx, hb, hr, hml, hown, hts, hX, hbl, hlocks, hgv⟩ := C.1
  have hbA : ¬ oldS s b := Nat.not_le.mpr hbl
  have hS := hI.1.1.2.2.1
  obtain ⟨CC, hrel⟩ := hR
  obtain ⟨r, x1, w1, ex, ew, hR1⟩ := C_fault hrel 
  refine lv_aload_n hx hb dL_law_833 rfl (lv_at hl 2 rfl) ?_
  refine L_x C hI hR1.N.1 hl.1 [] (.int r) ld_X7_fault lk_X7_fault rfl rfl (by show _ ≤ 2000; decide) rfl rfl (Nat.le_of_ble_eq_true rfl) rfl rfl dL_law_834 (ctX7_fault ex) (fun v u q => q) rfl (fun H1 hI1 => ?_)
  have hS := hI1.1.1.2.2.1
  refine lv_aload_n hx hb dL_law_837 rfl (lv_at hl 1 rfl) ?_
  refine L_m C hI1 hR1.N.2 hl.1 [] (.int r) ld_X8_fault lk_X8_fault rfl rfl (by show _ ≤ 2000; decide) rfl rfl (Nat.le_of_ble_eq_true rfl) rfl rfl dL_law_838 (ctX8_fault ew) (fun v u q => q) rfl (fun H2 hI2 => ?_)
  exact lv_icmp_eq (tgt := 1617) hx hb dL_law_841 (by decide) (fun _ => kk H2 x1 w1 hI2 hR1) (fun q => absurd rfl q)
theorem lc_17 {p : Program} {e : Env} {s : State} {m : MethodId} {below : List Frame} {meth : Method} {c : Code} {b L : Nat} {xs : Nat → Int32} {l : Launch} {G : va_G} {cl : Nat → ClassId} {bx bm : Nat} {sa : Nat → Nat} (C : LC p s m meth c b L xs l G cl bx bm sa) {i : Nat} (hi : i + 6 ≤ L) {H : Heap} {x w : Wd} (hI : LI s l G cl bx bm sa H x w) (hR : Rel x w) {ls : Array Slot} (hl : lv_has ls 4 [(3, .int (nI i)), (2, .ref bm), (1, .ref bx), (0, .ref b)]) {Z : State → Prop} (kk : ∀ (H1 : Heap) (x1 w1 : Wd), LI s l G cl bx bm sa H1 x1 w1 → Rel x1 w1 → W p l e room_1 s m #[Value.ref b] below meth c H1 [] 170 (170 * 1280) Z (F0 m 1617 ls [])) : W p l e room_1 s m #[Value.ref b] below meth c H [] 170 (170 * 1280) Z (F0 m 846 ls []) := by
  obtain ⟨hx, hb, hr, hml, hown, hts, hX, hbl, hlocks, hgv⟩ := C.1
  have hbA : ¬ oldS s b := Nat.not_le.mpr hbl
  have hS := hI.1.1.2.2.1
  obtain ⟨CC, hrel⟩ := hR
  obtain ⟨r, x1, w1, ex, ew, hR1⟩ := C_does hrel (xs (nI i + 1).toNatClampNeg) (xs (nI i + 2).toNatClampNeg) (xs (nI i + 3).toNatClampNeg)
  refine lv_aload_n hx hb dL_law_846 rfl (lv_at hl 2 rfl) ?_
  refine lv_aload_n hx hb dL_law_847 rfl (lv_at hl 3 rfl) ?_
  refine lv_iload_n hx hb dL_law_848 rfl (lv_at hl 0 rfl) ?_
  refine lv_iconst (v := 1) hx hb dL_law_849 (by decide) ?_
  refine lv_iadd hx hb dL_law_850 ?_
  refine va_sld hx hb hX hbl hbA hS (L_in (j := 1) hi C.2.2.2.2 (by decide)) dL_law_851 ?_
  refine lv_aload_n hx hb dL_law_852 rfl (lv_at hl 3 rfl) ?_
  refine lv_iload_n hx hb dL_law_853 rfl (lv_at hl 0 rfl) ?_
  refine lv_iconst (v := 2) hx hb dL_law_854 (by decide) ?_
  refine lv_iadd hx hb dL_law_855 ?_
  refine va_sld hx hb hX hbl hbA hS (L_in (j := 2) hi C.2.2.2.2 (by decide)) dL_law_856 ?_
  refine lv_aload_n hx hb dL_law_857 rfl (lv_at hl 3 rfl) ?_
  refine lv_iload_n hx hb dL_law_858 rfl (lv_at hl 0 rfl) ?_
  refine lv_iconst (v := 3) hx hb dL_law_859 (by decide) ?_
  refine lv_iadd hx hb dL_law_860 ?_
  refine va_sld hx hb hX hbl hbA hS (L_in (j := 3) hi C.2.2.2.2 (by decide)) dL_law_861 ?_
  refine L_x C hI hR1.N.1 hl.1 [.int (xs (nI i + 1).toNatClampNeg), .int (xs (nI i + 2).toNatClampNeg), .int (xs (nI i + 3).toNatClampNeg)] (.int r) ld_X7_does lk_X7_does rfl rfl (by show _ ≤ 2000; decide) rfl rfl (Nat.le_of_ble_eq_true rfl) rfl rfl dL_law_862 (ctX7_does ex) (fun v u q => q) rfl (fun H1 hI1 => ?_)
  have hS := hI1.1.1.2.2.1
  refine lv_aload_n hx hb dL_law_865 rfl (lv_at hl 1 rfl) ?_
  refine lv_aload_n hx hb dL_law_866 rfl (lv_at hl 3 rfl) ?_
  refine lv_iload_n hx hb dL_law_867 rfl (lv_at hl 0 rfl) ?_
  refine lv_iconst (v := 1) hx hb dL_law_868 (by decide) ?_
  refine lv_iadd hx hb dL_law_869 ?_
  refine va_sld hx hb hX hbl hbA hS (L_in (j := 1) hi C.2.2.2.2 (by decide)) dL_law_870 ?_
  refine lv_aload_n hx hb dL_law_871 rfl (lv_at hl 3 rfl) ?_
  refine lv_iload_n hx hb dL_law_872 rfl (lv_at hl 0 rfl) ?_
  refine lv_iconst (v := 2) hx hb dL_law_873 (by decide) ?_
  refine lv_iadd hx hb dL_law_874 ?_
  refine va_sld hx hb hX hbl hbA hS (L_in (j := 2) hi C.2.2.2.2 (by decide)) dL_law_875 ?_
  refine lv_aload_n hx hb dL_law_876 rfl (lv_at hl 3 rfl) ?_
  refine lv_iload_n hx hb dL_law_877 rfl (lv_at hl 0 rfl) ?_
  refine lv_iconst (v := 3) hx hb dL_law_878 (by decide) ?_
  refine lv_iadd hx hb dL_law_879 ?_
  refine va_sld hx hb hX hbl hbA hS (L_in (j := 3) hi C.2.2.2.2 (by decide)) dL_law_880 ?_
  refine L_m C hI1 hR1.N.2 hl.1 [.int (xs (nI i + 1).toNatClampNeg), .int (xs (nI i + 2).toNatClampNeg), .int (xs (nI i + 3).toNatClampNeg)] (.int r) ld_X8_does lk_X8_does rfl rfl (by show _ ≤ 2000; decide) rfl rfl (Nat.le_of_ble_eq_true rfl) rfl rfl dL_law_881 (ctX8_does ew) (fun v u q => q) rfl (fun H2 hI2 => ?_)
  exact lv_icmp_eq (tgt := 1617) hx hb dL_law_884 (by decide) (fun _ => kk H2 x1 w1 hI2 hR1) (fun q => absurd rfl q)
theorem lc_18 {p : Program} {e : Env} {s : State} {m : MethodId} {below : List Frame} {meth : Method} {c : Code} {b L : Nat} {xs : Nat → Int32} {l : Launch} {G : va_G} {cl : Nat → ClassId} {bx bm : Nat} {sa : Nat → Nat} (C : LC p s m meth c b L xs l G cl bx bm sa) {i : Nat} (hi : i + 6 ≤ L) {H : Heap} {x w : Wd} (hI : LI s l G cl bx bm sa H x w) (hR : Rel x w) {ls : Array Slot} (hl : lv_has ls 4 [(3, .int (nI i)), (2, .ref bm), (1, .ref bx), (0, .ref b)]) {Z : State → Prop} (kk : ∀ (H1 : Heap) (x1 w1 : Wd), LI s l G cl bx bm sa H1 x1 w1 → Rel x1 w1 → W p l e room_1 s m #[Value.ref b] below meth c H1 [] 170 (170 * 1280) Z (F0 m 1617 ls [])) : W p l e room_1 s m #[Value.ref b] below meth c H [] 170 (170 * 1280) Z (F0 m 889 ls []) := by
  obtain ⟨hx, hb, hr, hml, hown, hts, hX, hbl, hlocks, hgv⟩ := C.1
  have hbA : ¬ oldS s b := Nat.not_le.mpr hbl
  have hS := hI.1.1.2.2.1
  obtain ⟨CC, hrel⟩ := hR
  obtain ⟨r, x1, w1, ex, ew, hR1⟩ := C_goes hrel (xs (nI i + 1).toNatClampNeg) (xs (nI i + 2).toNatClampNeg) (xs (nI i + 3).toNatClampNeg)
  refine lv_aload_n hx hb dL_law_889 rfl (lv_at hl 2 rfl) ?_
  refine lv_aload_n hx hb dL_law_890 rfl (lv_at hl 3 rfl) ?_
  refine lv_iload_n hx hb dL_law_891 rfl (lv_at hl 0 rfl) ?_
  refine lv_iconst (v := 1) hx hb dL_law_892 (by decide) ?_
  refine lv_iadd hx hb dL_law_893 ?_
  refine va_sld hx hb hX hbl hbA hS (L_in (j := 1) hi C.2.2.2.2 (by decide)) dL_law_894 ?_
  refine lv_aload_n hx hb dL_law_895 rfl (lv_at hl 3 rfl) ?_
  refine lv_iload_n hx hb dL_law_896 rfl (lv_at hl 0 rfl) ?_
  refine lv_iconst (v := 2) hx hb dL_law_897 (by decide) ?_
  refine lv_iadd hx hb dL_law_898 ?_
  refine va_sld hx hb hX hbl hbA hS (L_in (j := 2) hi C.2.2.2.2 (by decide)) dL_law_899 ?_
  refine lv_aload_n hx hb dL_law_900 rfl (lv_at hl 3 rfl) ?_
  refine lv_iload_n hx hb dL_law_901 rfl (lv_at hl 0 rfl) ?_
  refine lv_iconst (v := 3) hx hb dL_law_902 (by decide) ?_
  refine lv_iadd hx hb dL_law_903 ?_
  refine va_sld hx hb hX hbl hbA hS (L_in (j := 3) hi C.2.2.2.2 (by decide)) dL_law_904 ?_
  refine L_x C hI hR1.N.1 hl.1 [.int (xs (nI i + 1).toNatClampNeg), .int (xs (nI i + 2).toNatClampNeg), .int (xs (nI i + 3).toNatClampNeg)] (.int r) ld_X7_goes lk_X7_goes rfl rfl (by show _ ≤ 2000; decide) rfl rfl (Nat.le_of_ble_eq_true rfl) rfl rfl dL_law_905 (ctX7_goes ex) (fun v u q => q) rfl (fun H1 hI1 => ?_)
  have hS := hI1.1.1.2.2.1
  refine lv_aload_n hx hb dL_law_908 rfl (lv_at hl 1 rfl) ?_
  refine lv_aload_n hx hb dL_law_909 rfl (lv_at hl 3 rfl) ?_
  refine lv_iload_n hx hb dL_law_910 rfl (lv_at hl 0 rfl) ?_
  refine lv_iconst (v := 1) hx hb dL_law_911 (by decide) ?_
  refine lv_iadd hx hb dL_law_912 ?_
  refine va_sld hx hb hX hbl hbA hS (L_in (j := 1) hi C.2.2.2.2 (by decide)) dL_law_913 ?_
  refine lv_aload_n hx hb dL_law_914 rfl (lv_at hl 3 rfl) ?_
  refine lv_iload_n hx hb dL_law_915 rfl (lv_at hl 0 rfl) ?_
  refine lv_iconst (v := 2) hx hb dL_law_916 (by decide) ?_
  refine lv_iadd hx hb dL_law_917 ?_
  refine va_sld hx hb hX hbl hbA hS (L_in (j := 2) hi C.2.2.2.2 (by decide)) dL_law_918 ?_
  refine lv_aload_n hx hb dL_law_919 rfl (lv_at hl 3 rfl) ?_
  refine lv_iload_n hx hb dL_law_920 rfl (lv_at hl 0 rfl) ?_
  refine lv_iconst (v := 3) hx hb dL_law_921 (by decide) ?_
  refine lv_iadd hx hb dL_law_922 ?_
  refine va_sld hx hb hX hbl hbA hS (L_in (j := 3) hi C.2.2.2.2 (by decide)) dL_law_923 ?_
  refine L_m C hI1 hR1.N.2 hl.1 [.int (xs (nI i + 1).toNatClampNeg), .int (xs (nI i + 2).toNatClampNeg), .int (xs (nI i + 3).toNatClampNeg)] (.int r) ld_X8_goes lk_X8_goes rfl rfl (by show _ ≤ 2000; decide) rfl rfl (Nat.le_of_ble_eq_true rfl) rfl rfl dL_law_924 (ctX8_goes ew) (fun v u q => q) rfl (fun H2 hI2 => ?_)
  exact lv_icmp_eq (tgt := 1617) hx hb dL_law_927 (by decide) (fun _ => kk H2 x1 w1 hI2 hR1) (fun q => absurd rfl q)
theorem lc_19 {p : Program} {e : Env} {s : State} {m : MethodId} {below : List Frame} {meth : Method} {c : Code} {b L : Nat} {xs : Nat → Int32} {l : Launch} {G : va_G} {cl : Nat → ClassId} {bx bm : Nat} {sa : Nat → Nat} (C : LC p s m meth c b L xs l G cl bx bm sa) {i : Nat} (hi : i + 6 ≤ L) {H : Heap} {x w : Wd} (hI : LI s l G cl bx bm sa H x w) (hR : Rel x w) {ls : Array Slot} (hl : lv_has ls 4 [(3, .int (nI i)), (2, .ref bm), (1, .ref bx), (0, .ref b)]) {Z : State → Prop} (kk : ∀ (H1 : Heap) (x1 w1 : Wd), LI s l G cl bx bm sa H1 x1 w1 → Rel x1 w1 → W p l e room_1 s m #[Value.ref b] below meth c H1 [] 170 (170 * 1280) Z (F0 m 1617 ls [])) : W p l e room_1 s m #[Value.ref b] below meth c H [] 170 (170 * 1280) Z (F0 m 932 ls []) := by
  obtain ⟨hx, hb, hr, hml, hown, hts, hX, hbl, hlocks, hgv⟩ := C.1
  have hbA : ¬ oldS s b := Nat.not_le.mpr hbl
  have hS := hI.1.1.2.2.1
  obtain ⟨CC, hrel⟩ := hR
  obtain ⟨r, x1, w1, ex, ew, hR1⟩ := C_behind hrel (xs (nI i + 1).toNatClampNeg) (xs (nI i + 2).toNatClampNeg) (xs (nI i + 3).toNatClampNeg) (xs (nI i + 4).toNatClampNeg)
  refine lv_aload_n hx hb dL_law_932 rfl (lv_at hl 2 rfl) ?_
  refine lv_aload_n hx hb dL_law_933 rfl (lv_at hl 3 rfl) ?_
  refine lv_iload_n hx hb dL_law_934 rfl (lv_at hl 0 rfl) ?_
  refine lv_iconst (v := 1) hx hb dL_law_935 (by decide) ?_
  refine lv_iadd hx hb dL_law_936 ?_
  refine va_sld hx hb hX hbl hbA hS (L_in (j := 1) hi C.2.2.2.2 (by decide)) dL_law_937 ?_
  refine lv_aload_n hx hb dL_law_938 rfl (lv_at hl 3 rfl) ?_
  refine lv_iload_n hx hb dL_law_939 rfl (lv_at hl 0 rfl) ?_
  refine lv_iconst (v := 2) hx hb dL_law_940 (by decide) ?_
  refine lv_iadd hx hb dL_law_941 ?_
  refine va_sld hx hb hX hbl hbA hS (L_in (j := 2) hi C.2.2.2.2 (by decide)) dL_law_942 ?_
  refine lv_aload_n hx hb dL_law_943 rfl (lv_at hl 3 rfl) ?_
  refine lv_iload_n hx hb dL_law_944 rfl (lv_at hl 0 rfl) ?_
  refine lv_iconst (v := 3) hx hb dL_law_945 (by decide) ?_
  refine lv_iadd hx hb dL_law_946 ?_
  refine va_sld hx hb hX hbl hbA hS (L_in (j := 3) hi C.2.2.2.2 (by decide)) dL_law_947 ?_
  refine lv_aload_n hx hb dL_law_948 rfl (lv_at hl 3 rfl) ?_
  refine lv_iload_n hx hb dL_law_949 rfl (lv_at hl 0 rfl) ?_
  refine lv_iconst (v := 4) hx hb dL_law_950 (by decide) ?_
  refine lv_iadd hx hb dL_law_951 ?_
  refine va_sld hx hb hX hbl hbA hS (L_in (j := 4) hi C.2.2.2.2 (by decide)) dL_law_952 ?_
  refine L_x C hI hR1.N.1 hl.1 [.int (xs (nI i + 1).toNatClampNeg), .int (xs (nI i + 2).toNatClampNeg), .int (xs (nI i + 3).toNatClampNeg), .int (xs (nI i + 4).toNatClampNeg)] (.int r) ld_X7_behind lk_X7_behind rfl rfl (by show _ ≤ 2000; decide) rfl rfl (Nat.le_of_ble_eq_true rfl) rfl rfl dL_law_953 (ctX7_behind ex) (fun v u q => q) rfl (fun H1 hI1 => ?_)
  have hS := hI1.1.1.2.2.1
  refine lv_aload_n hx hb dL_law_956 rfl (lv_at hl 1 rfl) ?_
  refine lv_aload_n hx hb dL_law_957 rfl (lv_at hl 3 rfl) ?_
  refine lv_iload_n hx hb dL_law_958 rfl (lv_at hl 0 rfl) ?_
  refine lv_iconst (v := 1) hx hb dL_law_959 (by decide) ?_
  refine lv_iadd hx hb dL_law_960 ?_
  refine va_sld hx hb hX hbl hbA hS (L_in (j := 1) hi C.2.2.2.2 (by decide)) dL_law_961 ?_
  refine lv_aload_n hx hb dL_law_962 rfl (lv_at hl 3 rfl) ?_
  refine lv_iload_n hx hb dL_law_963 rfl (lv_at hl 0 rfl) ?_
  refine lv_iconst (v := 2) hx hb dL_law_964 (by decide) ?_
  refine lv_iadd hx hb dL_law_965 ?_
  refine va_sld hx hb hX hbl hbA hS (L_in (j := 2) hi C.2.2.2.2 (by decide)) dL_law_966 ?_
  refine lv_aload_n hx hb dL_law_967 rfl (lv_at hl 3 rfl) ?_
  refine lv_iload_n hx hb dL_law_968 rfl (lv_at hl 0 rfl) ?_
  refine lv_iconst (v := 3) hx hb dL_law_969 (by decide) ?_
  refine lv_iadd hx hb dL_law_970 ?_
  refine va_sld hx hb hX hbl hbA hS (L_in (j := 3) hi C.2.2.2.2 (by decide)) dL_law_971 ?_
  refine lv_aload_n hx hb dL_law_972 rfl (lv_at hl 3 rfl) ?_
  refine lv_iload_n hx hb dL_law_973 rfl (lv_at hl 0 rfl) ?_
  refine lv_iconst (v := 4) hx hb dL_law_974 (by decide) ?_
  refine lv_iadd hx hb dL_law_975 ?_
  refine va_sld hx hb hX hbl hbA hS (L_in (j := 4) hi C.2.2.2.2 (by decide)) dL_law_976 ?_
  refine L_m C hI1 hR1.N.2 hl.1 [.int (xs (nI i + 1).toNatClampNeg), .int (xs (nI i + 2).toNatClampNeg), .int (xs (nI i + 3).toNatClampNeg), .int (xs (nI i + 4).toNatClampNeg)] (.int r) ld_X8_behind lk_X8_behind rfl rfl (by show _ ≤ 2000; decide) rfl rfl (Nat.le_of_ble_eq_true rfl) rfl rfl dL_law_977 (ctX8_behind ew) (fun v u q => q) rfl (fun H2 hI2 => ?_)
  exact lv_icmp_eq (tgt := 1617) hx hb dL_law_980 (by decide) (fun _ => kk H2 x1 w1 hI2 hR1) (fun q => absurd rfl q)
theorem lc_20 {p : Program} {e : Env} {s : State} {m : MethodId} {below : List Frame} {meth : Method} {c : Code} {b L : Nat} {xs : Nat → Int32} {l : Launch} {G : va_G} {cl : Nat → ClassId} {bx bm : Nat} {sa : Nat → Nat} (C : LC p s m meth c b L xs l G cl bx bm sa) {i : Nat} (hi : i + 6 ≤ L) {H : Heap} {x w : Wd} (hI : LI s l G cl bx bm sa H x w) (hR : Rel x w) {ls : Array Slot} (hl : lv_has ls 4 [(3, .int (nI i)), (2, .ref bm), (1, .ref bx), (0, .ref b)]) {Z : State → Prop} (kk : ∀ (H1 : Heap) (x1 w1 : Wd), LI s l G cl bx bm sa H1 x1 w1 → Rel x1 w1 → W p l e room_1 s m #[Value.ref b] below meth c H1 [] 170 (170 * 1280) Z (F0 m 1617 ls [])) : W p l e room_1 s m #[Value.ref b] below meth c H [] 170 (170 * 1280) Z (F0 m 985 ls []) := by
  obtain ⟨hx, hb, hr, hml, hown, hts, hX, hbl, hlocks, hgv⟩ := C.1
  have hbA : ¬ oldS s b := Nat.not_le.mpr hbl
  have hS := hI.1.1.2.2.1
  obtain ⟨CC, hrel⟩ := hR
  obtain ⟨r, x1, w1, ex, ew, hR1⟩ := C_settled hrel 
  refine lv_aload_n hx hb dL_law_985 rfl (lv_at hl 2 rfl) ?_
  refine L_x C hI hR1.N.1 hl.1 [] (.int r) ld_X7_settled lk_X7_settled rfl rfl (by show _ ≤ 2000; decide) rfl rfl (Nat.le_of_ble_eq_true rfl) rfl rfl dL_law_986 (ctX7_settled ex) (fun v u q => q) rfl (fun H1 hI1 => ?_)
  have hS := hI1.1.1.2.2.1
  refine lv_aload_n hx hb dL_law_989 rfl (lv_at hl 1 rfl) ?_
  refine L_m C hI1 hR1.N.2 hl.1 [] (.int r) ld_X8_settled lk_X8_settled rfl rfl (by show _ ≤ 2000; decide) rfl rfl (Nat.le_of_ble_eq_true rfl) rfl rfl dL_law_990 (ctX8_settled ew) (fun v u q => q) rfl (fun H2 hI2 => ?_)
  exact lv_icmp_eq (tgt := 1617) hx hb dL_law_993 (by decide) (fun _ => kk H2 x1 w1 hI2 hR1) (fun q => absurd rfl q)
theorem lc_21 {p : Program} {e : Env} {s : State} {m : MethodId} {below : List Frame} {meth : Method} {c : Code} {b L : Nat} {xs : Nat → Int32} {l : Launch} {G : va_G} {cl : Nat → ClassId} {bx bm : Nat} {sa : Nat → Nat} (C : LC p s m meth c b L xs l G cl bx bm sa) {i : Nat} (hi : i + 6 ≤ L) {H : Heap} {x w : Wd} (hI : LI s l G cl bx bm sa H x w) (hR : Rel x w) {ls : Array Slot} (hl : lv_has ls 4 [(3, .int (nI i)), (2, .ref bm), (1, .ref bx), (0, .ref b)]) {Z : State → Prop} (kk : ∀ (H1 : Heap) (x1 w1 : Wd), LI s l G cl bx bm sa H1 x1 w1 → Rel x1 w1 → W p l e room_1 s m #[Value.ref b] below meth c H1 [] 170 (170 * 1280) Z (F0 m 1617 ls [])) : W p l e room_1 s m #[Value.ref b] below meth c H [] 170 (170 * 1280) Z (F0 m 998 ls []) := by
  obtain ⟨hx, hb, hr, hml, hown, hts, hX, hbl, hlocks, hgv⟩ := C.1
  have hbA : ¬ oldS s b := Nat.not_le.mpr hbl
  have hS := hI.1.1.2.2.1
  obtain ⟨CC, hrel⟩ := hR
  obtain ⟨r, x1, w1, ex, ew, hR1⟩ := C_wins hrel (xs (nI i + 1).toNatClampNeg)
  refine lv_aload_n hx hb dL_law_998 rfl (lv_at hl 2 rfl) ?_
  refine lv_aload_n hx hb dL_law_999 rfl (lv_at hl 3 rfl) ?_
  refine lv_iload_n hx hb dL_law_1000 rfl (lv_at hl 0 rfl) ?_
  refine lv_iconst (v := 1) hx hb dL_law_1001 (by decide) ?_
  refine lv_iadd hx hb dL_law_1002 ?_
  refine va_sld hx hb hX hbl hbA hS (L_in (j := 1) hi C.2.2.2.2 (by decide)) dL_law_1003 ?_
  refine L_x C hI hR1.N.1 hl.1 [.int (xs (nI i + 1).toNatClampNeg)] (.int r) ld_X7_wins lk_X7_wins rfl rfl (by show _ ≤ 2000; decide) rfl rfl (Nat.le_of_ble_eq_true rfl) rfl rfl dL_law_1004 (ctX7_wins ex) (fun v u q => q) rfl (fun H1 hI1 => ?_)
  have hS := hI1.1.1.2.2.1
  refine lv_aload_n hx hb dL_law_1007 rfl (lv_at hl 1 rfl) ?_
  refine lv_aload_n hx hb dL_law_1008 rfl (lv_at hl 3 rfl) ?_
  refine lv_iload_n hx hb dL_law_1009 rfl (lv_at hl 0 rfl) ?_
  refine lv_iconst (v := 1) hx hb dL_law_1010 (by decide) ?_
  refine lv_iadd hx hb dL_law_1011 ?_
  refine va_sld hx hb hX hbl hbA hS (L_in (j := 1) hi C.2.2.2.2 (by decide)) dL_law_1012 ?_
  refine L_m C hI1 hR1.N.2 hl.1 [.int (xs (nI i + 1).toNatClampNeg)] (.int r) ld_X8_wins lk_X8_wins rfl rfl (by show _ ≤ 2000; decide) rfl rfl (Nat.le_of_ble_eq_true rfl) rfl rfl dL_law_1013 (ctX8_wins ew) (fun v u q => q) rfl (fun H2 hI2 => ?_)
  exact lv_icmp_eq (tgt := 1617) hx hb dL_law_1016 (by decide) (fun _ => kk H2 x1 w1 hI2 hR1) (fun q => absurd rfl q)
theorem lc_22 {p : Program} {e : Env} {s : State} {m : MethodId} {below : List Frame} {meth : Method} {c : Code} {b L : Nat} {xs : Nat → Int32} {l : Launch} {G : va_G} {cl : Nat → ClassId} {bx bm : Nat} {sa : Nat → Nat} (C : LC p s m meth c b L xs l G cl bx bm sa) {i : Nat} (hi : i + 6 ≤ L) {H : Heap} {x w : Wd} (hI : LI s l G cl bx bm sa H x w) (hR : Rel x w) {ls : Array Slot} (hl : lv_has ls 4 [(3, .int (nI i)), (2, .ref bm), (1, .ref bx), (0, .ref b)]) {Z : State → Prop} (kk : ∀ (H1 : Heap) (x1 w1 : Wd), LI s l G cl bx bm sa H1 x1 w1 → Rel x1 w1 → W p l e room_1 s m #[Value.ref b] below meth c H1 [] 170 (170 * 1280) Z (F0 m 1617 ls [])) : W p l e room_1 s m #[Value.ref b] below meth c H [] 170 (170 * 1280) Z (F0 m 1021 ls []) := by
  obtain ⟨hx, hb, hr, hml, hown, hts, hX, hbl, hlocks, hgv⟩ := C.1
  have hbA : ¬ oldS s b := Nat.not_le.mpr hbl
  have hS := hI.1.1.2.2.1
  obtain ⟨CC, hrel⟩ := hR
  obtain ⟨r, x1, w1, ex, ew, hR1⟩ := C_like hrel (xs (nI i + 1).toNatClampNeg) (xs (nI i + 2).toNatClampNeg)
  refine lv_aload_n hx hb dL_law_1021 rfl (lv_at hl 2 rfl) ?_
  refine lv_aload_n hx hb dL_law_1022 rfl (lv_at hl 3 rfl) ?_
  refine lv_iload_n hx hb dL_law_1023 rfl (lv_at hl 0 rfl) ?_
  refine lv_iconst (v := 1) hx hb dL_law_1024 (by decide) ?_
  refine lv_iadd hx hb dL_law_1025 ?_
  refine va_sld hx hb hX hbl hbA hS (L_in (j := 1) hi C.2.2.2.2 (by decide)) dL_law_1026 ?_
  refine lv_aload_n hx hb dL_law_1027 rfl (lv_at hl 3 rfl) ?_
  refine lv_iload_n hx hb dL_law_1028 rfl (lv_at hl 0 rfl) ?_
  refine lv_iconst (v := 2) hx hb dL_law_1029 (by decide) ?_
  refine lv_iadd hx hb dL_law_1030 ?_
  refine va_sld hx hb hX hbl hbA hS (L_in (j := 2) hi C.2.2.2.2 (by decide)) dL_law_1031 ?_
  refine L_x C hI hR1.N.1 hl.1 [.int (xs (nI i + 1).toNatClampNeg), .int (xs (nI i + 2).toNatClampNeg)] (.int r) ld_X7_like lk_X7_like rfl rfl (by show _ ≤ 2000; decide) rfl rfl (Nat.le_of_ble_eq_true rfl) rfl rfl dL_law_1032 (ctX7_like ex) (fun v u q => q) rfl (fun H1 hI1 => ?_)
  have hS := hI1.1.1.2.2.1
  refine lv_aload_n hx hb dL_law_1035 rfl (lv_at hl 1 rfl) ?_
  refine lv_aload_n hx hb dL_law_1036 rfl (lv_at hl 3 rfl) ?_
  refine lv_iload_n hx hb dL_law_1037 rfl (lv_at hl 0 rfl) ?_
  refine lv_iconst (v := 1) hx hb dL_law_1038 (by decide) ?_
  refine lv_iadd hx hb dL_law_1039 ?_
  refine va_sld hx hb hX hbl hbA hS (L_in (j := 1) hi C.2.2.2.2 (by decide)) dL_law_1040 ?_
  refine lv_aload_n hx hb dL_law_1041 rfl (lv_at hl 3 rfl) ?_
  refine lv_iload_n hx hb dL_law_1042 rfl (lv_at hl 0 rfl) ?_
  refine lv_iconst (v := 2) hx hb dL_law_1043 (by decide) ?_
  refine lv_iadd hx hb dL_law_1044 ?_
  refine va_sld hx hb hX hbl hbA hS (L_in (j := 2) hi C.2.2.2.2 (by decide)) dL_law_1045 ?_
  refine L_m C hI1 hR1.N.2 hl.1 [.int (xs (nI i + 1).toNatClampNeg), .int (xs (nI i + 2).toNatClampNeg)] (.int r) ld_X8_like lk_X8_like rfl rfl (by show _ ≤ 2000; decide) rfl rfl (Nat.le_of_ble_eq_true rfl) rfl rfl dL_law_1046 (ctX8_like ew) (fun v u q => q) rfl (fun H2 hI2 => ?_)
  exact lv_icmp_eq (tgt := 1617) hx hb dL_law_1049 (by decide) (fun _ => kk H2 x1 w1 hI2 hR1) (fun q => absurd rfl q)
theorem lc_23 {p : Program} {e : Env} {s : State} {m : MethodId} {below : List Frame} {meth : Method} {c : Code} {b L : Nat} {xs : Nat → Int32} {l : Launch} {G : va_G} {cl : Nat → ClassId} {bx bm : Nat} {sa : Nat → Nat} (C : LC p s m meth c b L xs l G cl bx bm sa) {i : Nat} (hi : i + 6 ≤ L) {H : Heap} {x w : Wd} (hI : LI s l G cl bx bm sa H x w) (hR : Rel x w) {ls : Array Slot} (hl : lv_has ls 4 [(3, .int (nI i)), (2, .ref bm), (1, .ref bx), (0, .ref b)]) {Z : State → Prop} (kk : ∀ (H1 : Heap) (x1 w1 : Wd), LI s l G cl bx bm sa H1 x1 w1 → Rel x1 w1 → W p l e room_1 s m #[Value.ref b] below meth c H1 [] 170 (170 * 1280) Z (F0 m 1617 ls [])) : W p l e room_1 s m #[Value.ref b] below meth c H [] 170 (170 * 1280) Z (F0 m 1054 ls []) := by
  obtain ⟨hx, hb, hr, hml, hown, hts, hX, hbl, hlocks, hgv⟩ := C.1
  have hbA : ¬ oldS s b := Nat.not_le.mpr hbl
  have hS := hI.1.1.2.2.1
  obtain ⟨CC, hrel⟩ := hR
  obtain ⟨r, x1, w1, ex, ew, hR1⟩ := C_whose hrel (xs (nI i + 1).toNatClampNeg)
  refine lv_aload_n hx hb dL_law_1054 rfl (lv_at hl 2 rfl) ?_
  refine lv_aload_n hx hb dL_law_1055 rfl (lv_at hl 3 rfl) ?_
  refine lv_iload_n hx hb dL_law_1056 rfl (lv_at hl 0 rfl) ?_
  refine lv_iconst (v := 1) hx hb dL_law_1057 (by decide) ?_
  refine lv_iadd hx hb dL_law_1058 ?_
  refine va_sld hx hb hX hbl hbA hS (L_in (j := 1) hi C.2.2.2.2 (by decide)) dL_law_1059 ?_
  refine L_x C hI hR1.N.1 hl.1 [.int (xs (nI i + 1).toNatClampNeg)] (.int r) ld_X7_whose lk_X7_whose rfl rfl (by show _ ≤ 2000; decide) rfl rfl (Nat.le_of_ble_eq_true rfl) rfl rfl dL_law_1060 (ctX7_whose ex) (fun v u q => q) rfl (fun H1 hI1 => ?_)
  have hS := hI1.1.1.2.2.1
  refine lv_aload_n hx hb dL_law_1063 rfl (lv_at hl 1 rfl) ?_
  refine lv_aload_n hx hb dL_law_1064 rfl (lv_at hl 3 rfl) ?_
  refine lv_iload_n hx hb dL_law_1065 rfl (lv_at hl 0 rfl) ?_
  refine lv_iconst (v := 1) hx hb dL_law_1066 (by decide) ?_
  refine lv_iadd hx hb dL_law_1067 ?_
  refine va_sld hx hb hX hbl hbA hS (L_in (j := 1) hi C.2.2.2.2 (by decide)) dL_law_1068 ?_
  refine L_m C hI1 hR1.N.2 hl.1 [.int (xs (nI i + 1).toNatClampNeg)] (.int r) ld_X8_whose lk_X8_whose rfl rfl (by show _ ≤ 2000; decide) rfl rfl (Nat.le_of_ble_eq_true rfl) rfl rfl dL_law_1069 (ctX8_whose ew) (fun v u q => q) rfl (fun H2 hI2 => ?_)
  exact lv_icmp_eq (tgt := 1617) hx hb dL_law_1072 (by decide) (fun _ => kk H2 x1 w1 hI2 hR1) (fun q => absurd rfl q)
theorem lc_24 {p : Program} {e : Env} {s : State} {m : MethodId} {below : List Frame} {meth : Method} {c : Code} {b L : Nat} {xs : Nat → Int32} {l : Launch} {G : va_G} {cl : Nat → ClassId} {bx bm : Nat} {sa : Nat → Nat} (C : LC p s m meth c b L xs l G cl bx bm sa) {i : Nat} (hi : i + 6 ≤ L) {H : Heap} {x w : Wd} (hI : LI s l G cl bx bm sa H x w) (hR : Rel x w) {ls : Array Slot} (hl : lv_has ls 4 [(3, .int (nI i)), (2, .ref bm), (1, .ref bx), (0, .ref b)]) {Z : State → Prop} (kk : ∀ (H1 : Heap) (x1 w1 : Wd), LI s l G cl bx bm sa H1 x1 w1 → Rel x1 w1 → W p l e room_1 s m #[Value.ref b] below meth c H1 [] 170 (170 * 1280) Z (F0 m 1617 ls [])) : W p l e room_1 s m #[Value.ref b] below meth c H [] 170 (170 * 1280) Z (F0 m 1077 ls []) := by
  obtain ⟨hx, hb, hr, hml, hown, hts, hX, hbl, hlocks, hgv⟩ := C.1
  have hbA : ¬ oldS s b := Nat.not_le.mpr hbl
  have hS := hI.1.1.2.2.1
  obtain ⟨CC, hrel⟩ := hR
  obtain ⟨r, x1, w1, ex, ew, hR1⟩ := C_fits hrel (xs (nI i + 1).toNatClampNeg)
  refine lv_aload_n hx hb dL_law_1077 rfl (lv_at hl 2 rfl) ?_
  refine lv_aload_n hx hb dL_law_1078 rfl (lv_at hl 3 rfl) ?_
  refine lv_iload_n hx hb dL_law_1079 rfl (lv_at hl 0 rfl) ?_
  refine lv_iconst (v := 1) hx hb dL_law_1080 (by decide) ?_
  refine lv_iadd hx hb dL_law_1081 ?_
  refine va_sld hx hb hX hbl hbA hS (L_in (j := 1) hi C.2.2.2.2 (by decide)) dL_law_1082 ?_
  refine L_x C hI hR1.N.1 hl.1 [.int (xs (nI i + 1).toNatClampNeg)] (.int r) ld_X7_fits lk_X7_fits rfl rfl (by show _ ≤ 2000; decide) rfl rfl (Nat.le_of_ble_eq_true rfl) rfl rfl dL_law_1083 (ctX7_fits ex) (fun v u q => q) rfl (fun H1 hI1 => ?_)
  have hS := hI1.1.1.2.2.1
  refine lv_aload_n hx hb dL_law_1086 rfl (lv_at hl 1 rfl) ?_
  refine lv_aload_n hx hb dL_law_1087 rfl (lv_at hl 3 rfl) ?_
  refine lv_iload_n hx hb dL_law_1088 rfl (lv_at hl 0 rfl) ?_
  refine lv_iconst (v := 1) hx hb dL_law_1089 (by decide) ?_
  refine lv_iadd hx hb dL_law_1090 ?_
  refine va_sld hx hb hX hbl hbA hS (L_in (j := 1) hi C.2.2.2.2 (by decide)) dL_law_1091 ?_
  refine L_m C hI1 hR1.N.2 hl.1 [.int (xs (nI i + 1).toNatClampNeg)] (.int r) ld_X8_fits lk_X8_fits rfl rfl (by show _ ≤ 2000; decide) rfl rfl (Nat.le_of_ble_eq_true rfl) rfl rfl dL_law_1092 (ctX8_fits ew) (fun v u q => q) rfl (fun H2 hI2 => ?_)
  exact lv_icmp_eq (tgt := 1617) hx hb dL_law_1095 (by decide) (fun _ => kk H2 x1 w1 hI2 hR1) (fun q => absurd rfl q)
theorem lc_25 {p : Program} {e : Env} {s : State} {m : MethodId} {below : List Frame} {meth : Method} {c : Code} {b L : Nat} {xs : Nat → Int32} {l : Launch} {G : va_G} {cl : Nat → ClassId} {bx bm : Nat} {sa : Nat → Nat} (C : LC p s m meth c b L xs l G cl bx bm sa) {i : Nat} (hi : i + 6 ≤ L) {H : Heap} {x w : Wd} (hI : LI s l G cl bx bm sa H x w) (hR : Rel x w) {ls : Array Slot} (hl : lv_has ls 4 [(3, .int (nI i)), (2, .ref bm), (1, .ref bx), (0, .ref b)]) {Z : State → Prop} (kk : ∀ (H1 : Heap) (x1 w1 : Wd), LI s l G cl bx bm sa H1 x1 w1 → Rel x1 w1 → W p l e room_1 s m #[Value.ref b] below meth c H1 [] 170 (170 * 1280) Z (F0 m 1617 ls [])) : W p l e room_1 s m #[Value.ref b] below meth c H [] 170 (170 * 1280) Z (F0 m 1100 ls []) := by
  obtain ⟨hx, hb, hr, hml, hown, hts, hX, hbl, hlocks, hgv⟩ := C.1
  have hbA : ¬ oldS s b := Nat.not_le.mpr hbl
  have hS := hI.1.1.2.2.1
  obtain ⟨CC, hrel⟩ := hR
  obtain ⟨r, x1, w1, ex, ew, hR1⟩ := C_watch hrel 
  refine lv_aload_n hx hb dL_law_1100 rfl (lv_at hl 2 rfl) ?_
  refine L_x C hI hR1.N.1 hl.1 [] (.int r) ld_X7_watch lk_X7_watch rfl rfl (by show _ ≤ 2000; decide) rfl rfl (Nat.le_of_ble_eq_true rfl) rfl rfl dL_law_1101 (ctX7_watch ex) (fun v u q => q) rfl (fun H1 hI1 => ?_)
  have hS := hI1.1.1.2.2.1
  refine lv_aload_n hx hb dL_law_1104 rfl (lv_at hl 1 rfl) ?_
  refine L_m C hI1 hR1.N.2 hl.1 [] (.int r) ld_X8_watch lk_X8_watch rfl rfl (by show _ ≤ 2000; decide) rfl rfl (Nat.le_of_ble_eq_true rfl) rfl rfl dL_law_1105 (ctX8_watch ew) (fun v u q => q) rfl (fun H2 hI2 => ?_)
  exact lv_icmp_eq (tgt := 1617) hx hb dL_law_1108 (by decide) (fun _ => kk H2 x1 w1 hI2 hR1) (fun q => absurd rfl q)
theorem lc_26 {p : Program} {e : Env} {s : State} {m : MethodId} {below : List Frame} {meth : Method} {c : Code} {b L : Nat} {xs : Nat → Int32} {l : Launch} {G : va_G} {cl : Nat → ClassId} {bx bm : Nat} {sa : Nat → Nat} (C : LC p s m meth c b L xs l G cl bx bm sa) {i : Nat} (hi : i + 6 ≤ L) {H : Heap} {x w : Wd} (hI : LI s l G cl bx bm sa H x w) (hR : Rel x w) {ls : Array Slot} (hl : lv_has ls 4 [(3, .int (nI i)), (2, .ref bm), (1, .ref bx), (0, .ref b)]) {Z : State → Prop} (kk : ∀ (H1 : Heap) (x1 w1 : Wd), LI s l G cl bx bm sa H1 x1 w1 → Rel x1 w1 → W p l e room_1 s m #[Value.ref b] below meth c H1 [] 170 (170 * 1280) Z (F0 m 1617 ls [])) : W p l e room_1 s m #[Value.ref b] below meth c H [] 170 (170 * 1280) Z (F0 m 1113 ls []) := by
  obtain ⟨hx, hb, hr, hml, hown, hts, hX, hbl, hlocks, hgv⟩ := C.1
  have hbA : ¬ oldS s b := Nat.not_le.mpr hbl
  have hS := hI.1.1.2.2.1
  obtain ⟨CC, hrel⟩ := hR
  obtain ⟨r, x1, w1, ex, ew, hR1⟩ := C_dressed hrel (xs (nI i + 1).toNatClampNeg) (xs (nI i + 2).toNatClampNeg) (xs (nI i + 3).toNatClampNeg)
  refine lv_aload_n hx hb dL_law_1113 rfl (lv_at hl 2 rfl) ?_
  refine lv_aload_n hx hb dL_law_1114 rfl (lv_at hl 3 rfl) ?_
  refine lv_iload_n hx hb dL_law_1115 rfl (lv_at hl 0 rfl) ?_
  refine lv_iconst (v := 1) hx hb dL_law_1116 (by decide) ?_
  refine lv_iadd hx hb dL_law_1117 ?_
  refine va_sld hx hb hX hbl hbA hS (L_in (j := 1) hi C.2.2.2.2 (by decide)) dL_law_1118 ?_
  refine lv_aload_n hx hb dL_law_1119 rfl (lv_at hl 3 rfl) ?_
  refine lv_iload_n hx hb dL_law_1120 rfl (lv_at hl 0 rfl) ?_
  refine lv_iconst (v := 2) hx hb dL_law_1121 (by decide) ?_
  refine lv_iadd hx hb dL_law_1122 ?_
  refine va_sld hx hb hX hbl hbA hS (L_in (j := 2) hi C.2.2.2.2 (by decide)) dL_law_1123 ?_
  refine lv_aload_n hx hb dL_law_1124 rfl (lv_at hl 3 rfl) ?_
  refine lv_iload_n hx hb dL_law_1125 rfl (lv_at hl 0 rfl) ?_
  refine lv_iconst (v := 3) hx hb dL_law_1126 (by decide) ?_
  refine lv_iadd hx hb dL_law_1127 ?_
  refine va_sld hx hb hX hbl hbA hS (L_in (j := 3) hi C.2.2.2.2 (by decide)) dL_law_1128 ?_
  refine L_x C hI hR1.N.1 hl.1 [.int (xs (nI i + 1).toNatClampNeg), .int (xs (nI i + 2).toNatClampNeg), .int (xs (nI i + 3).toNatClampNeg)] (.int r) ld_X7_dressed lk_X7_dressed rfl rfl (by show _ ≤ 2000; decide) rfl rfl (Nat.le_of_ble_eq_true rfl) rfl rfl dL_law_1129 (ctX7_dressed ex) (fun v u q => q) rfl (fun H1 hI1 => ?_)
  have hS := hI1.1.1.2.2.1
  refine lv_aload_n hx hb dL_law_1132 rfl (lv_at hl 1 rfl) ?_
  refine lv_aload_n hx hb dL_law_1133 rfl (lv_at hl 3 rfl) ?_
  refine lv_iload_n hx hb dL_law_1134 rfl (lv_at hl 0 rfl) ?_
  refine lv_iconst (v := 1) hx hb dL_law_1135 (by decide) ?_
  refine lv_iadd hx hb dL_law_1136 ?_
  refine va_sld hx hb hX hbl hbA hS (L_in (j := 1) hi C.2.2.2.2 (by decide)) dL_law_1137 ?_
  refine lv_aload_n hx hb dL_law_1138 rfl (lv_at hl 3 rfl) ?_
  refine lv_iload_n hx hb dL_law_1139 rfl (lv_at hl 0 rfl) ?_
  refine lv_iconst (v := 2) hx hb dL_law_1140 (by decide) ?_
  refine lv_iadd hx hb dL_law_1141 ?_
  refine va_sld hx hb hX hbl hbA hS (L_in (j := 2) hi C.2.2.2.2 (by decide)) dL_law_1142 ?_
  refine lv_aload_n hx hb dL_law_1143 rfl (lv_at hl 3 rfl) ?_
  refine lv_iload_n hx hb dL_law_1144 rfl (lv_at hl 0 rfl) ?_
  refine lv_iconst (v := 3) hx hb dL_law_1145 (by decide) ?_
  refine lv_iadd hx hb dL_law_1146 ?_
  refine va_sld hx hb hX hbl hbA hS (L_in (j := 3) hi C.2.2.2.2 (by decide)) dL_law_1147 ?_
  refine L_m C hI1 hR1.N.2 hl.1 [.int (xs (nI i + 1).toNatClampNeg), .int (xs (nI i + 2).toNatClampNeg), .int (xs (nI i + 3).toNatClampNeg)] (.int r) ld_X8_dressed lk_X8_dressed rfl rfl (by show _ ≤ 2000; decide) rfl rfl (Nat.le_of_ble_eq_true rfl) rfl rfl dL_law_1148 (ctX8_dressed ew) (fun v u q => q) rfl (fun H2 hI2 => ?_)
  exact lv_icmp_eq (tgt := 1617) hx hb dL_law_1151 (by decide) (fun _ => kk H2 x1 w1 hI2 hR1) (fun q => absurd rfl q)
theorem lc_27 {p : Program} {e : Env} {s : State} {m : MethodId} {below : List Frame} {meth : Method} {c : Code} {b L : Nat} {xs : Nat → Int32} {l : Launch} {G : va_G} {cl : Nat → ClassId} {bx bm : Nat} {sa : Nat → Nat} (C : LC p s m meth c b L xs l G cl bx bm sa) {i : Nat} (hi : i + 6 ≤ L) {H : Heap} {x w : Wd} (hI : LI s l G cl bx bm sa H x w) (hR : Rel x w) {ls : Array Slot} (hl : lv_has ls 4 [(3, .int (nI i)), (2, .ref bm), (1, .ref bx), (0, .ref b)]) {Z : State → Prop} (kk : ∀ (H1 : Heap) (x1 w1 : Wd), LI s l G cl bx bm sa H1 x1 w1 → Rel x1 w1 → W p l e room_1 s m #[Value.ref b] below meth c H1 [] 170 (170 * 1280) Z (F0 m 1617 ls [])) : W p l e room_1 s m #[Value.ref b] below meth c H [] 170 (170 * 1280) Z (F0 m 1156 ls []) := by
  obtain ⟨hx, hb, hr, hml, hown, hts, hX, hbl, hlocks, hgv⟩ := C.1
  have hbA : ¬ oldS s b := Nat.not_le.mpr hbl
  have hS := hI.1.1.2.2.1
  obtain ⟨CC, hrel⟩ := hR
  obtain ⟨r, x1, w1, ex, ew, hR1⟩ := C_washed hrel (xs (nI i + 1).toNatClampNeg) (xs (nI i + 2).toNatClampNeg)
  refine lv_aload_n hx hb dL_law_1156 rfl (lv_at hl 2 rfl) ?_
  refine lv_aload_n hx hb dL_law_1157 rfl (lv_at hl 3 rfl) ?_
  refine lv_iload_n hx hb dL_law_1158 rfl (lv_at hl 0 rfl) ?_
  refine lv_iconst (v := 1) hx hb dL_law_1159 (by decide) ?_
  refine lv_iadd hx hb dL_law_1160 ?_
  refine va_sld hx hb hX hbl hbA hS (L_in (j := 1) hi C.2.2.2.2 (by decide)) dL_law_1161 ?_
  refine lv_aload_n hx hb dL_law_1162 rfl (lv_at hl 3 rfl) ?_
  refine lv_iload_n hx hb dL_law_1163 rfl (lv_at hl 0 rfl) ?_
  refine lv_iconst (v := 2) hx hb dL_law_1164 (by decide) ?_
  refine lv_iadd hx hb dL_law_1165 ?_
  refine va_sld hx hb hX hbl hbA hS (L_in (j := 2) hi C.2.2.2.2 (by decide)) dL_law_1166 ?_
  refine L_x C hI hR1.N.1 hl.1 [.int (xs (nI i + 1).toNatClampNeg), .int (xs (nI i + 2).toNatClampNeg)] (.int r) ld_X7_washed lk_X7_washed rfl rfl (by show _ ≤ 2000; decide) rfl rfl (Nat.le_of_ble_eq_true rfl) rfl rfl dL_law_1167 (ctX7_washed ex) (fun v u q => q) rfl (fun H1 hI1 => ?_)
  have hS := hI1.1.1.2.2.1
  refine lv_aload_n hx hb dL_law_1170 rfl (lv_at hl 1 rfl) ?_
  refine lv_aload_n hx hb dL_law_1171 rfl (lv_at hl 3 rfl) ?_
  refine lv_iload_n hx hb dL_law_1172 rfl (lv_at hl 0 rfl) ?_
  refine lv_iconst (v := 1) hx hb dL_law_1173 (by decide) ?_
  refine lv_iadd hx hb dL_law_1174 ?_
  refine va_sld hx hb hX hbl hbA hS (L_in (j := 1) hi C.2.2.2.2 (by decide)) dL_law_1175 ?_
  refine lv_aload_n hx hb dL_law_1176 rfl (lv_at hl 3 rfl) ?_
  refine lv_iload_n hx hb dL_law_1177 rfl (lv_at hl 0 rfl) ?_
  refine lv_iconst (v := 2) hx hb dL_law_1178 (by decide) ?_
  refine lv_iadd hx hb dL_law_1179 ?_
  refine va_sld hx hb hX hbl hbA hS (L_in (j := 2) hi C.2.2.2.2 (by decide)) dL_law_1180 ?_
  refine L_m C hI1 hR1.N.2 hl.1 [.int (xs (nI i + 1).toNatClampNeg), .int (xs (nI i + 2).toNatClampNeg)] (.int r) ld_X8_washed lk_X8_washed rfl rfl (by show _ ≤ 2000; decide) rfl rfl (Nat.le_of_ble_eq_true rfl) rfl rfl dL_law_1181 (ctX8_washed ew) (fun v u q => q) rfl (fun H2 hI2 => ?_)
  exact lv_icmp_eq (tgt := 1617) hx hb dL_law_1184 (by decide) (fun _ => kk H2 x1 w1 hI2 hR1) (fun q => absurd rfl q)
theorem lc_28 {p : Program} {e : Env} {s : State} {m : MethodId} {below : List Frame} {meth : Method} {c : Code} {b L : Nat} {xs : Nat → Int32} {l : Launch} {G : va_G} {cl : Nat → ClassId} {bx bm : Nat} {sa : Nat → Nat} (C : LC p s m meth c b L xs l G cl bx bm sa) {i : Nat} (hi : i + 6 ≤ L) {H : Heap} {x w : Wd} (hI : LI s l G cl bx bm sa H x w) (hR : Rel x w) {ls : Array Slot} (hl : lv_has ls 4 [(3, .int (nI i)), (2, .ref bm), (1, .ref bx), (0, .ref b)]) {Z : State → Prop} (kk : ∀ (H1 : Heap) (x1 w1 : Wd), LI s l G cl bx bm sa H1 x1 w1 → Rel x1 w1 → W p l e room_1 s m #[Value.ref b] below meth c H1 [] 170 (170 * 1280) Z (F0 m 1617 ls [])) : W p l e room_1 s m #[Value.ref b] below meth c H [] 170 (170 * 1280) Z (F0 m 1189 ls []) := by
  obtain ⟨hx, hb, hr, hml, hown, hts, hX, hbl, hlocks, hgv⟩ := C.1
  have hbA : ¬ oldS s b := Nat.not_le.mpr hbl
  have hS := hI.1.1.2.2.1
  obtain ⟨CC, hrel⟩ := hR
  obtain ⟨r, x1, w1, ex, ew, hR1⟩ := C_kept hrel (xs (nI i + 1).toNatClampNeg) (xs (nI i + 2).toNatClampNeg)
  refine lv_aload_n hx hb dL_law_1189 rfl (lv_at hl 2 rfl) ?_
  refine lv_aload_n hx hb dL_law_1190 rfl (lv_at hl 3 rfl) ?_
  refine lv_iload_n hx hb dL_law_1191 rfl (lv_at hl 0 rfl) ?_
  refine lv_iconst (v := 1) hx hb dL_law_1192 (by decide) ?_
  refine lv_iadd hx hb dL_law_1193 ?_
  refine va_sld hx hb hX hbl hbA hS (L_in (j := 1) hi C.2.2.2.2 (by decide)) dL_law_1194 ?_
  refine lv_aload_n hx hb dL_law_1195 rfl (lv_at hl 3 rfl) ?_
  refine lv_iload_n hx hb dL_law_1196 rfl (lv_at hl 0 rfl) ?_
  refine lv_iconst (v := 2) hx hb dL_law_1197 (by decide) ?_
  refine lv_iadd hx hb dL_law_1198 ?_
  refine va_sld hx hb hX hbl hbA hS (L_in (j := 2) hi C.2.2.2.2 (by decide)) dL_law_1199 ?_
  refine L_x C hI hR1.N.1 hl.1 [.int (xs (nI i + 1).toNatClampNeg), .int (xs (nI i + 2).toNatClampNeg)] (.int r) ld_X7_kept lk_X7_kept rfl rfl (by show _ ≤ 2000; decide) rfl rfl (Nat.le_of_ble_eq_true rfl) rfl rfl dL_law_1200 (ctX7_kept ex) (fun v u q => q) rfl (fun H1 hI1 => ?_)
  have hS := hI1.1.1.2.2.1
  refine lv_aload_n hx hb dL_law_1203 rfl (lv_at hl 1 rfl) ?_
  refine lv_aload_n hx hb dL_law_1204 rfl (lv_at hl 3 rfl) ?_
  refine lv_iload_n hx hb dL_law_1205 rfl (lv_at hl 0 rfl) ?_
  refine lv_iconst (v := 1) hx hb dL_law_1206 (by decide) ?_
  refine lv_iadd hx hb dL_law_1207 ?_
  refine va_sld hx hb hX hbl hbA hS (L_in (j := 1) hi C.2.2.2.2 (by decide)) dL_law_1208 ?_
  refine lv_aload_n hx hb dL_law_1209 rfl (lv_at hl 3 rfl) ?_
  refine lv_iload_n hx hb dL_law_1210 rfl (lv_at hl 0 rfl) ?_
  refine lv_iconst (v := 2) hx hb dL_law_1211 (by decide) ?_
  refine lv_iadd hx hb dL_law_1212 ?_
  refine va_sld hx hb hX hbl hbA hS (L_in (j := 2) hi C.2.2.2.2 (by decide)) dL_law_1213 ?_
  refine L_m C hI1 hR1.N.2 hl.1 [.int (xs (nI i + 1).toNatClampNeg), .int (xs (nI i + 2).toNatClampNeg)] (.int r) ld_X8_kept lk_X8_kept rfl rfl (by show _ ≤ 2000; decide) rfl rfl (Nat.le_of_ble_eq_true rfl) rfl rfl dL_law_1214 (ctX8_kept ew) (fun v u q => q) rfl (fun H2 hI2 => ?_)
  exact lv_icmp_eq (tgt := 1617) hx hb dL_law_1217 (by decide) (fun _ => kk H2 x1 w1 hI2 hR1) (fun q => absurd rfl q)
theorem lc_29 {p : Program} {e : Env} {s : State} {m : MethodId} {below : List Frame} {meth : Method} {c : Code} {b L : Nat} {xs : Nat → Int32} {l : Launch} {G : va_G} {cl : Nat → ClassId} {bx bm : Nat} {sa : Nat → Nat} (C : LC p s m meth c b L xs l G cl bx bm sa) {i : Nat} (hi : i + 6 ≤ L) {H : Heap} {x w : Wd} (hI : LI s l G cl bx bm sa H x w) (hR : Rel x w) {ls : Array Slot} (hl : lv_has ls 4 [(3, .int (nI i)), (2, .ref bm), (1, .ref bx), (0, .ref b)]) {Z : State → Prop} (kk : ∀ (H1 : Heap) (x1 w1 : Wd), LI s l G cl bx bm sa H1 x1 w1 → Rel x1 w1 → W p l e room_1 s m #[Value.ref b] below meth c H1 [] 170 (170 * 1280) Z (F0 m 1617 ls [])) : W p l e room_1 s m #[Value.ref b] below meth c H [] 170 (170 * 1280) Z (F0 m 1222 ls []) := by
  obtain ⟨hx, hb, hr, hml, hown, hts, hX, hbl, hlocks, hgv⟩ := C.1
  have hbA : ¬ oldS s b := Nat.not_le.mpr hbl
  have hS := hI.1.1.2.2.1
  obtain ⟨CC, hrel⟩ := hR
  obtain ⟨r, x1, w1, ex, ew, hR1⟩ := C_two hrel (xs (nI i + 1).toNatClampNeg) (xs (nI i + 2).toNatClampNeg) (xs (nI i + 3).toNatClampNeg)
  refine lv_aload_n hx hb dL_law_1222 rfl (lv_at hl 2 rfl) ?_
  refine lv_aload_n hx hb dL_law_1223 rfl (lv_at hl 3 rfl) ?_
  refine lv_iload_n hx hb dL_law_1224 rfl (lv_at hl 0 rfl) ?_
  refine lv_iconst (v := 1) hx hb dL_law_1225 (by decide) ?_
  refine lv_iadd hx hb dL_law_1226 ?_
  refine va_sld hx hb hX hbl hbA hS (L_in (j := 1) hi C.2.2.2.2 (by decide)) dL_law_1227 ?_
  refine lv_aload_n hx hb dL_law_1228 rfl (lv_at hl 3 rfl) ?_
  refine lv_iload_n hx hb dL_law_1229 rfl (lv_at hl 0 rfl) ?_
  refine lv_iconst (v := 2) hx hb dL_law_1230 (by decide) ?_
  refine lv_iadd hx hb dL_law_1231 ?_
  refine va_sld hx hb hX hbl hbA hS (L_in (j := 2) hi C.2.2.2.2 (by decide)) dL_law_1232 ?_
  refine lv_aload_n hx hb dL_law_1233 rfl (lv_at hl 3 rfl) ?_
  refine lv_iload_n hx hb dL_law_1234 rfl (lv_at hl 0 rfl) ?_
  refine lv_iconst (v := 3) hx hb dL_law_1235 (by decide) ?_
  refine lv_iadd hx hb dL_law_1236 ?_
  refine va_sld hx hb hX hbl hbA hS (L_in (j := 3) hi C.2.2.2.2 (by decide)) dL_law_1237 ?_
  refine L_x C hI hR1.N.1 hl.1 [.int (xs (nI i + 1).toNatClampNeg), .int (xs (nI i + 2).toNatClampNeg), .int (xs (nI i + 3).toNatClampNeg)] (.int r) ld_X7_two lk_X7_two rfl rfl (by show _ ≤ 2000; decide) rfl rfl (Nat.le_of_ble_eq_true rfl) rfl rfl dL_law_1238 (ctX7_two ex) (fun v u q => q) rfl (fun H1 hI1 => ?_)
  have hS := hI1.1.1.2.2.1
  refine lv_aload_n hx hb dL_law_1241 rfl (lv_at hl 1 rfl) ?_
  refine lv_aload_n hx hb dL_law_1242 rfl (lv_at hl 3 rfl) ?_
  refine lv_iload_n hx hb dL_law_1243 rfl (lv_at hl 0 rfl) ?_
  refine lv_iconst (v := 1) hx hb dL_law_1244 (by decide) ?_
  refine lv_iadd hx hb dL_law_1245 ?_
  refine va_sld hx hb hX hbl hbA hS (L_in (j := 1) hi C.2.2.2.2 (by decide)) dL_law_1246 ?_
  refine lv_aload_n hx hb dL_law_1247 rfl (lv_at hl 3 rfl) ?_
  refine lv_iload_n hx hb dL_law_1248 rfl (lv_at hl 0 rfl) ?_
  refine lv_iconst (v := 2) hx hb dL_law_1249 (by decide) ?_
  refine lv_iadd hx hb dL_law_1250 ?_
  refine va_sld hx hb hX hbl hbA hS (L_in (j := 2) hi C.2.2.2.2 (by decide)) dL_law_1251 ?_
  refine lv_aload_n hx hb dL_law_1252 rfl (lv_at hl 3 rfl) ?_
  refine lv_iload_n hx hb dL_law_1253 rfl (lv_at hl 0 rfl) ?_
  refine lv_iconst (v := 3) hx hb dL_law_1254 (by decide) ?_
  refine lv_iadd hx hb dL_law_1255 ?_
  refine va_sld hx hb hX hbl hbA hS (L_in (j := 3) hi C.2.2.2.2 (by decide)) dL_law_1256 ?_
  refine L_m C hI1 hR1.N.2 hl.1 [.int (xs (nI i + 1).toNatClampNeg), .int (xs (nI i + 2).toNatClampNeg), .int (xs (nI i + 3).toNatClampNeg)] (.int r) ld_X8_two lk_X8_two rfl rfl (by show _ ≤ 2000; decide) rfl rfl (Nat.le_of_ble_eq_true rfl) rfl rfl dL_law_1257 (ctX8_two ew) (fun v u q => q) rfl (fun H2 hI2 => ?_)
  exact lv_icmp_eq (tgt := 1617) hx hb dL_law_1260 (by decide) (fun _ => kk H2 x1 w1 hI2 hR1) (fun q => absurd rfl q)
theorem lc_30 {p : Program} {e : Env} {s : State} {m : MethodId} {below : List Frame} {meth : Method} {c : Code} {b L : Nat} {xs : Nat → Int32} {l : Launch} {G : va_G} {cl : Nat → ClassId} {bx bm : Nat} {sa : Nat → Nat} (C : LC p s m meth c b L xs l G cl bx bm sa) {i : Nat} (hi : i + 6 ≤ L) {H : Heap} {x w : Wd} (hI : LI s l G cl bx bm sa H x w) (hR : Rel x w) {ls : Array Slot} (hl : lv_has ls 4 [(3, .int (nI i)), (2, .ref bm), (1, .ref bx), (0, .ref b)]) {Z : State → Prop} (kk : ∀ (H1 : Heap) (x1 w1 : Wd), LI s l G cl bx bm sa H1 x1 w1 → Rel x1 w1 → W p l e room_1 s m #[Value.ref b] below meth c H1 [] 170 (170 * 1280) Z (F0 m 1617 ls [])) : W p l e room_1 s m #[Value.ref b] below meth c H [] 170 (170 * 1280) Z (F0 m 1265 ls []) := by
  obtain ⟨hx, hb, hr, hml, hown, hts, hX, hbl, hlocks, hgv⟩ := C.1
  have hbA : ¬ oldS s b := Nat.not_le.mpr hbl
  have hS := hI.1.1.2.2.1
  obtain ⟨CC, hrel⟩ := hR
  obtain ⟨r, x1, w1, ex, ew, hR1⟩ := C_alone hrel (xs (nI i + 1).toNatClampNeg)
  refine lv_aload_n hx hb dL_law_1265 rfl (lv_at hl 2 rfl) ?_
  refine lv_aload_n hx hb dL_law_1266 rfl (lv_at hl 3 rfl) ?_
  refine lv_iload_n hx hb dL_law_1267 rfl (lv_at hl 0 rfl) ?_
  refine lv_iconst (v := 1) hx hb dL_law_1268 (by decide) ?_
  refine lv_iadd hx hb dL_law_1269 ?_
  refine va_sld hx hb hX hbl hbA hS (L_in (j := 1) hi C.2.2.2.2 (by decide)) dL_law_1270 ?_
  refine L_x C hI hR1.N.1 hl.1 [.int (xs (nI i + 1).toNatClampNeg)] (.int r) ld_X7_alone lk_X7_alone rfl rfl (by show _ ≤ 2000; decide) rfl rfl (Nat.le_of_ble_eq_true rfl) rfl rfl dL_law_1271 (ctX7_alone ex) (fun v u q => q) rfl (fun H1 hI1 => ?_)
  have hS := hI1.1.1.2.2.1
  refine lv_aload_n hx hb dL_law_1274 rfl (lv_at hl 1 rfl) ?_
  refine lv_aload_n hx hb dL_law_1275 rfl (lv_at hl 3 rfl) ?_
  refine lv_iload_n hx hb dL_law_1276 rfl (lv_at hl 0 rfl) ?_
  refine lv_iconst (v := 1) hx hb dL_law_1277 (by decide) ?_
  refine lv_iadd hx hb dL_law_1278 ?_
  refine va_sld hx hb hX hbl hbA hS (L_in (j := 1) hi C.2.2.2.2 (by decide)) dL_law_1279 ?_
  refine L_m C hI1 hR1.N.2 hl.1 [.int (xs (nI i + 1).toNatClampNeg)] (.int r) ld_X8_alone lk_X8_alone rfl rfl (by show _ ≤ 2000; decide) rfl rfl (Nat.le_of_ble_eq_true rfl) rfl rfl dL_law_1280 (ctX8_alone ew) (fun v u q => q) rfl (fun H2 hI2 => ?_)
  exact lv_icmp_eq (tgt := 1617) hx hb dL_law_1283 (by decide) (fun _ => kk H2 x1 w1 hI2 hR1) (fun q => absurd rfl q)
theorem lc_31 {p : Program} {e : Env} {s : State} {m : MethodId} {below : List Frame} {meth : Method} {c : Code} {b L : Nat} {xs : Nat → Int32} {l : Launch} {G : va_G} {cl : Nat → ClassId} {bx bm : Nat} {sa : Nat → Nat} (C : LC p s m meth c b L xs l G cl bx bm sa) {i : Nat} (hi : i + 6 ≤ L) {H : Heap} {x w : Wd} (hI : LI s l G cl bx bm sa H x w) (hR : Rel x w) {ls : Array Slot} (hl : lv_has ls 4 [(3, .int (nI i)), (2, .ref bm), (1, .ref bx), (0, .ref b)]) {Z : State → Prop} (kk : ∀ (H1 : Heap) (x1 w1 : Wd), LI s l G cl bx bm sa H1 x1 w1 → Rel x1 w1 → W p l e room_1 s m #[Value.ref b] below meth c H1 [] 170 (170 * 1280) Z (F0 m 1617 ls [])) : W p l e room_1 s m #[Value.ref b] below meth c H [] 170 (170 * 1280) Z (F0 m 1288 ls []) := by
  obtain ⟨hx, hb, hr, hml, hown, hts, hX, hbl, hlocks, hgv⟩ := C.1
  have hbA : ¬ oldS s b := Nat.not_le.mpr hbl
  have hS := hI.1.1.2.2.1
  obtain ⟨CC, hrel⟩ := hR
  obtain ⟨r, x1, w1, ex, ew, hR1⟩ := C_home hrel (xs (nI i + 1).toNatClampNeg)
  refine lv_aload_n hx hb dL_law_1288 rfl (lv_at hl 2 rfl) ?_
  refine lv_aload_n hx hb dL_law_1289 rfl (lv_at hl 3 rfl) ?_
  refine lv_iload_n hx hb dL_law_1290 rfl (lv_at hl 0 rfl) ?_
  refine lv_iconst (v := 1) hx hb dL_law_1291 (by decide) ?_
  refine lv_iadd hx hb dL_law_1292 ?_
  refine va_sld hx hb hX hbl hbA hS (L_in (j := 1) hi C.2.2.2.2 (by decide)) dL_law_1293 ?_
  refine L_x C hI hR1.N.1 hl.1 [.int (xs (nI i + 1).toNatClampNeg)] (.int r) ld_X7_home lk_X7_home rfl rfl (by show _ ≤ 2000; decide) rfl rfl (Nat.le_of_ble_eq_true rfl) rfl rfl dL_law_1294 (ctX7_home ex) (fun v u q => q) rfl (fun H1 hI1 => ?_)
  have hS := hI1.1.1.2.2.1
  refine lv_aload_n hx hb dL_law_1297 rfl (lv_at hl 1 rfl) ?_
  refine lv_aload_n hx hb dL_law_1298 rfl (lv_at hl 3 rfl) ?_
  refine lv_iload_n hx hb dL_law_1299 rfl (lv_at hl 0 rfl) ?_
  refine lv_iconst (v := 1) hx hb dL_law_1300 (by decide) ?_
  refine lv_iadd hx hb dL_law_1301 ?_
  refine va_sld hx hb hX hbl hbA hS (L_in (j := 1) hi C.2.2.2.2 (by decide)) dL_law_1302 ?_
  refine L_m C hI1 hR1.N.2 hl.1 [.int (xs (nI i + 1).toNatClampNeg)] (.int r) ld_X8_home lk_X8_home rfl rfl (by show _ ≤ 2000; decide) rfl rfl (Nat.le_of_ble_eq_true rfl) rfl rfl dL_law_1303 (ctX8_home ew) (fun v u q => q) rfl (fun H2 hI2 => ?_)
  exact lv_icmp_eq (tgt := 1617) hx hb dL_law_1306 (by decide) (fun _ => kk H2 x1 w1 hI2 hR1) (fun q => absurd rfl q)
theorem lc_32 {p : Program} {e : Env} {s : State} {m : MethodId} {below : List Frame} {meth : Method} {c : Code} {b L : Nat} {xs : Nat → Int32} {l : Launch} {G : va_G} {cl : Nat → ClassId} {bx bm : Nat} {sa : Nat → Nat} (C : LC p s m meth c b L xs l G cl bx bm sa) {i : Nat} (hi : i + 6 ≤ L) {H : Heap} {x w : Wd} (hI : LI s l G cl bx bm sa H x w) (hR : Rel x w) {ls : Array Slot} (hl : lv_has ls 4 [(3, .int (nI i)), (2, .ref bm), (1, .ref bx), (0, .ref b)]) {Z : State → Prop} (kk : ∀ (H1 : Heap) (x1 w1 : Wd), LI s l G cl bx bm sa H1 x1 w1 → Rel x1 w1 → W p l e room_1 s m #[Value.ref b] below meth c H1 [] 170 (170 * 1280) Z (F0 m 1617 ls [])) : W p l e room_1 s m #[Value.ref b] below meth c H [] 170 (170 * 1280) Z (F0 m 1311 ls []) := by
  obtain ⟨hx, hb, hr, hml, hown, hts, hX, hbl, hlocks, hgv⟩ := C.1
  have hbA : ¬ oldS s b := Nat.not_le.mpr hbl
  have hS := hI.1.1.2.2.1
  obtain ⟨CC, hrel⟩ := hR
  obtain ⟨r, x1, w1, ex, ew, hR1⟩ := C_cure hrel (xs (nI i + 1).toNatClampNeg) (xs (nI i + 2).toNatClampNeg)
  refine lv_aload_n hx hb dL_law_1311 rfl (lv_at hl 2 rfl) ?_
  refine lv_aload_n hx hb dL_law_1312 rfl (lv_at hl 3 rfl) ?_
  refine lv_iload_n hx hb dL_law_1313 rfl (lv_at hl 0 rfl) ?_
  refine lv_iconst (v := 1) hx hb dL_law_1314 (by decide) ?_
  refine lv_iadd hx hb dL_law_1315 ?_
  refine va_sld hx hb hX hbl hbA hS (L_in (j := 1) hi C.2.2.2.2 (by decide)) dL_law_1316 ?_
  refine lv_aload_n hx hb dL_law_1317 rfl (lv_at hl 3 rfl) ?_
  refine lv_iload_n hx hb dL_law_1318 rfl (lv_at hl 0 rfl) ?_
  refine lv_iconst (v := 2) hx hb dL_law_1319 (by decide) ?_
  refine lv_iadd hx hb dL_law_1320 ?_
  refine va_sld hx hb hX hbl hbA hS (L_in (j := 2) hi C.2.2.2.2 (by decide)) dL_law_1321 ?_
  refine L_x C hI hR1.N.1 hl.1 [.int (xs (nI i + 1).toNatClampNeg), .int (xs (nI i + 2).toNatClampNeg)] (.int r) ld_X7_cure lk_X7_cure rfl rfl (by show _ ≤ 2000; decide) rfl rfl (Nat.le_of_ble_eq_true rfl) rfl rfl dL_law_1322 (ctX7_cure ex) (fun v u q => q) rfl (fun H1 hI1 => ?_)
  have hS := hI1.1.1.2.2.1
  refine lv_aload_n hx hb dL_law_1325 rfl (lv_at hl 1 rfl) ?_
  refine lv_aload_n hx hb dL_law_1326 rfl (lv_at hl 3 rfl) ?_
  refine lv_iload_n hx hb dL_law_1327 rfl (lv_at hl 0 rfl) ?_
  refine lv_iconst (v := 1) hx hb dL_law_1328 (by decide) ?_
  refine lv_iadd hx hb dL_law_1329 ?_
  refine va_sld hx hb hX hbl hbA hS (L_in (j := 1) hi C.2.2.2.2 (by decide)) dL_law_1330 ?_
  refine lv_aload_n hx hb dL_law_1331 rfl (lv_at hl 3 rfl) ?_
  refine lv_iload_n hx hb dL_law_1332 rfl (lv_at hl 0 rfl) ?_
  refine lv_iconst (v := 2) hx hb dL_law_1333 (by decide) ?_
  refine lv_iadd hx hb dL_law_1334 ?_
  refine va_sld hx hb hX hbl hbA hS (L_in (j := 2) hi C.2.2.2.2 (by decide)) dL_law_1335 ?_
  refine L_m C hI1 hR1.N.2 hl.1 [.int (xs (nI i + 1).toNatClampNeg), .int (xs (nI i + 2).toNatClampNeg)] (.int r) ld_X8_cure lk_X8_cure rfl rfl (by show _ ≤ 2000; decide) rfl rfl (Nat.le_of_ble_eq_true rfl) rfl rfl dL_law_1336 (ctX8_cure ew) (fun v u q => q) rfl (fun H2 hI2 => ?_)
  exact lv_icmp_eq (tgt := 1617) hx hb dL_law_1339 (by decide) (fun _ => kk H2 x1 w1 hI2 hR1) (fun q => absurd rfl q)
theorem lc_33 {p : Program} {e : Env} {s : State} {m : MethodId} {below : List Frame} {meth : Method} {c : Code} {b L : Nat} {xs : Nat → Int32} {l : Launch} {G : va_G} {cl : Nat → ClassId} {bx bm : Nat} {sa : Nat → Nat} (C : LC p s m meth c b L xs l G cl bx bm sa) {i : Nat} (hi : i + 6 ≤ L) {H : Heap} {x w : Wd} (hI : LI s l G cl bx bm sa H x w) (hR : Rel x w) {ls : Array Slot} (hl : lv_has ls 4 [(3, .int (nI i)), (2, .ref bm), (1, .ref bx), (0, .ref b)]) {Z : State → Prop} (kk : ∀ (H1 : Heap) (x1 w1 : Wd), LI s l G cl bx bm sa H1 x1 w1 → Rel x1 w1 → W p l e room_1 s m #[Value.ref b] below meth c H1 [] 170 (170 * 1280) Z (F0 m 1617 ls [])) : W p l e room_1 s m #[Value.ref b] below meth c H [] 170 (170 * 1280) Z (F0 m 1344 ls []) := by
  obtain ⟨hx, hb, hr, hml, hown, hts, hX, hbl, hlocks, hgv⟩ := C.1
  have hbA : ¬ oldS s b := Nat.not_le.mpr hbl
  have hS := hI.1.1.2.2.1
  obtain ⟨CC, hrel⟩ := hR
  obtain ⟨r, x1, w1, ex, ew, hR1⟩ := C_judge hrel (xs (nI i + 1).toNatClampNeg) (xs (nI i + 2).toNatClampNeg)
  refine lv_aload_n hx hb dL_law_1344 rfl (lv_at hl 2 rfl) ?_
  refine lv_aload_n hx hb dL_law_1345 rfl (lv_at hl 3 rfl) ?_
  refine lv_iload_n hx hb dL_law_1346 rfl (lv_at hl 0 rfl) ?_
  refine lv_iconst (v := 1) hx hb dL_law_1347 (by decide) ?_
  refine lv_iadd hx hb dL_law_1348 ?_
  refine va_sld hx hb hX hbl hbA hS (L_in (j := 1) hi C.2.2.2.2 (by decide)) dL_law_1349 ?_
  refine lv_aload_n hx hb dL_law_1350 rfl (lv_at hl 3 rfl) ?_
  refine lv_iload_n hx hb dL_law_1351 rfl (lv_at hl 0 rfl) ?_
  refine lv_iconst (v := 2) hx hb dL_law_1352 (by decide) ?_
  refine lv_iadd hx hb dL_law_1353 ?_
  refine va_sld hx hb hX hbl hbA hS (L_in (j := 2) hi C.2.2.2.2 (by decide)) dL_law_1354 ?_
  refine L_x C hI hR1.N.1 hl.1 [.int (xs (nI i + 1).toNatClampNeg), .int (xs (nI i + 2).toNatClampNeg)] (.int r) ld_X7_judge lk_X7_judge rfl rfl (by show _ ≤ 2000; decide) rfl rfl (Nat.le_of_ble_eq_true rfl) rfl rfl dL_law_1355 (ctX7_judge ex) (fun v u q => q) rfl (fun H1 hI1 => ?_)
  have hS := hI1.1.1.2.2.1
  refine lv_aload_n hx hb dL_law_1358 rfl (lv_at hl 1 rfl) ?_
  refine lv_aload_n hx hb dL_law_1359 rfl (lv_at hl 3 rfl) ?_
  refine lv_iload_n hx hb dL_law_1360 rfl (lv_at hl 0 rfl) ?_
  refine lv_iconst (v := 1) hx hb dL_law_1361 (by decide) ?_
  refine lv_iadd hx hb dL_law_1362 ?_
  refine va_sld hx hb hX hbl hbA hS (L_in (j := 1) hi C.2.2.2.2 (by decide)) dL_law_1363 ?_
  refine lv_aload_n hx hb dL_law_1364 rfl (lv_at hl 3 rfl) ?_
  refine lv_iload_n hx hb dL_law_1365 rfl (lv_at hl 0 rfl) ?_
  refine lv_iconst (v := 2) hx hb dL_law_1366 (by decide) ?_
  refine lv_iadd hx hb dL_law_1367 ?_
  refine va_sld hx hb hX hbl hbA hS (L_in (j := 2) hi C.2.2.2.2 (by decide)) dL_law_1368 ?_
  refine L_m C hI1 hR1.N.2 hl.1 [.int (xs (nI i + 1).toNatClampNeg), .int (xs (nI i + 2).toNatClampNeg)] (.int r) ld_X8_judge lk_X8_judge rfl rfl (by show _ ≤ 2000; decide) rfl rfl (Nat.le_of_ble_eq_true rfl) rfl rfl dL_law_1369 (ctX8_judge ew) (fun v u q => q) rfl (fun H2 hI2 => ?_)
  exact lv_icmp_eq (tgt := 1617) hx hb dL_law_1372 (by decide) (fun _ => kk H2 x1 w1 hI2 hR1) (fun q => absurd rfl q)
theorem lc_34 {p : Program} {e : Env} {s : State} {m : MethodId} {below : List Frame} {meth : Method} {c : Code} {b L : Nat} {xs : Nat → Int32} {l : Launch} {G : va_G} {cl : Nat → ClassId} {bx bm : Nat} {sa : Nat → Nat} (C : LC p s m meth c b L xs l G cl bx bm sa) {i : Nat} (hi : i + 6 ≤ L) {H : Heap} {x w : Wd} (hI : LI s l G cl bx bm sa H x w) (hR : Rel x w) {ls : Array Slot} (hl : lv_has ls 4 [(3, .int (nI i)), (2, .ref bm), (1, .ref bx), (0, .ref b)]) {Z : State → Prop} (kk : ∀ (H1 : Heap) (x1 w1 : Wd), LI s l G cl bx bm sa H1 x1 w1 → Rel x1 w1 → W p l e room_1 s m #[Value.ref b] below meth c H1 [] 170 (170 * 1280) Z (F0 m 1617 ls [])) : W p l e room_1 s m #[Value.ref b] below meth c H [] 170 (170 * 1280) Z (F0 m 1377 ls []) := by
  obtain ⟨hx, hb, hr, hml, hown, hts, hX, hbl, hlocks, hgv⟩ := C.1
  have hbA : ¬ oldS s b := Nat.not_le.mpr hbl
  have hS := hI.1.1.2.2.1
  obtain ⟨CC, hrel⟩ := hR
  obtain ⟨r, x1, w1, ex, ew, hR1⟩ := C_taught hrel (xs (nI i + 1).toNatClampNeg) (xs (nI i + 2).toNatClampNeg)
  refine lv_aload_n hx hb dL_law_1377 rfl (lv_at hl 2 rfl) ?_
  refine lv_aload_n hx hb dL_law_1378 rfl (lv_at hl 3 rfl) ?_
  refine lv_iload_n hx hb dL_law_1379 rfl (lv_at hl 0 rfl) ?_
  refine lv_iconst (v := 1) hx hb dL_law_1380 (by decide) ?_
  refine lv_iadd hx hb dL_law_1381 ?_
  refine va_sld hx hb hX hbl hbA hS (L_in (j := 1) hi C.2.2.2.2 (by decide)) dL_law_1382 ?_
  refine lv_aload_n hx hb dL_law_1383 rfl (lv_at hl 3 rfl) ?_
  refine lv_iload_n hx hb dL_law_1384 rfl (lv_at hl 0 rfl) ?_
  refine lv_iconst (v := 2) hx hb dL_law_1385 (by decide) ?_
  refine lv_iadd hx hb dL_law_1386 ?_
  refine va_sld hx hb hX hbl hbA hS (L_in (j := 2) hi C.2.2.2.2 (by decide)) dL_law_1387 ?_
  refine L_x C hI hR1.N.1 hl.1 [.int (xs (nI i + 1).toNatClampNeg), .int (xs (nI i + 2).toNatClampNeg)] (.int r) ld_X7_taught lk_X7_taught rfl rfl (by show _ ≤ 2000; decide) rfl rfl (Nat.le_of_ble_eq_true rfl) rfl rfl dL_law_1388 (ctX7_taught ex) (fun v u q => q) rfl (fun H1 hI1 => ?_)
  have hS := hI1.1.1.2.2.1
  refine lv_aload_n hx hb dL_law_1391 rfl (lv_at hl 1 rfl) ?_
  refine lv_aload_n hx hb dL_law_1392 rfl (lv_at hl 3 rfl) ?_
  refine lv_iload_n hx hb dL_law_1393 rfl (lv_at hl 0 rfl) ?_
  refine lv_iconst (v := 1) hx hb dL_law_1394 (by decide) ?_
  refine lv_iadd hx hb dL_law_1395 ?_
  refine va_sld hx hb hX hbl hbA hS (L_in (j := 1) hi C.2.2.2.2 (by decide)) dL_law_1396 ?_
  refine lv_aload_n hx hb dL_law_1397 rfl (lv_at hl 3 rfl) ?_
  refine lv_iload_n hx hb dL_law_1398 rfl (lv_at hl 0 rfl) ?_
  refine lv_iconst (v := 2) hx hb dL_law_1399 (by decide) ?_
  refine lv_iadd hx hb dL_law_1400 ?_
  refine va_sld hx hb hX hbl hbA hS (L_in (j := 2) hi C.2.2.2.2 (by decide)) dL_law_1401 ?_
  refine L_m C hI1 hR1.N.2 hl.1 [.int (xs (nI i + 1).toNatClampNeg), .int (xs (nI i + 2).toNatClampNeg)] (.int r) ld_X8_taught lk_X8_taught rfl rfl (by show _ ≤ 2000; decide) rfl rfl (Nat.le_of_ble_eq_true rfl) rfl rfl dL_law_1402 (ctX8_taught ew) (fun v u q => q) rfl (fun H2 hI2 => ?_)
  exact lv_icmp_eq (tgt := 1617) hx hb dL_law_1405 (by decide) (fun _ => kk H2 x1 w1 hI2 hR1) (fun q => absurd rfl q)
theorem lc_35 {p : Program} {e : Env} {s : State} {m : MethodId} {below : List Frame} {meth : Method} {c : Code} {b L : Nat} {xs : Nat → Int32} {l : Launch} {G : va_G} {cl : Nat → ClassId} {bx bm : Nat} {sa : Nat → Nat} (C : LC p s m meth c b L xs l G cl bx bm sa) {i : Nat} (hi : i + 6 ≤ L) {H : Heap} {x w : Wd} (hI : LI s l G cl bx bm sa H x w) (hR : Rel x w) {ls : Array Slot} (hl : lv_has ls 4 [(3, .int (nI i)), (2, .ref bm), (1, .ref bx), (0, .ref b)]) {Z : State → Prop} (kk : ∀ (H1 : Heap) (x1 w1 : Wd), LI s l G cl bx bm sa H1 x1 w1 → Rel x1 w1 → W p l e room_1 s m #[Value.ref b] below meth c H1 [] 170 (170 * 1280) Z (F0 m 1617 ls [])) : W p l e room_1 s m #[Value.ref b] below meth c H [] 170 (170 * 1280) Z (F0 m 1410 ls []) := by
  obtain ⟨hx, hb, hr, hml, hown, hts, hX, hbl, hlocks, hgv⟩ := C.1
  have hbA : ¬ oldS s b := Nat.not_le.mpr hbl
  have hS := hI.1.1.2.2.1
  obtain ⟨CC, hrel⟩ := hR
  obtain ⟨r, x1, w1, ex, ew, hR1⟩ := C_wash hrel (xs (nI i + 1).toNatClampNeg)
  refine lv_aload_n hx hb dL_law_1410 rfl (lv_at hl 2 rfl) ?_
  refine lv_aload_n hx hb dL_law_1411 rfl (lv_at hl 3 rfl) ?_
  refine lv_iload_n hx hb dL_law_1412 rfl (lv_at hl 0 rfl) ?_
  refine lv_iconst (v := 1) hx hb dL_law_1413 (by decide) ?_
  refine lv_iadd hx hb dL_law_1414 ?_
  refine va_sld hx hb hX hbl hbA hS (L_in (j := 1) hi C.2.2.2.2 (by decide)) dL_law_1415 ?_
  refine L_x C hI hR1.N.1 hl.1 [.int (xs (nI i + 1).toNatClampNeg)] (.int r) ld_X7_wash lk_X7_wash rfl rfl (by show _ ≤ 2000; decide) rfl rfl (Nat.le_of_ble_eq_true rfl) rfl rfl dL_law_1416 (ctX7_wash ex) (fun v u q => q) rfl (fun H1 hI1 => ?_)
  have hS := hI1.1.1.2.2.1
  refine lv_aload_n hx hb dL_law_1419 rfl (lv_at hl 1 rfl) ?_
  refine lv_aload_n hx hb dL_law_1420 rfl (lv_at hl 3 rfl) ?_
  refine lv_iload_n hx hb dL_law_1421 rfl (lv_at hl 0 rfl) ?_
  refine lv_iconst (v := 1) hx hb dL_law_1422 (by decide) ?_
  refine lv_iadd hx hb dL_law_1423 ?_
  refine va_sld hx hb hX hbl hbA hS (L_in (j := 1) hi C.2.2.2.2 (by decide)) dL_law_1424 ?_
  refine L_m C hI1 hR1.N.2 hl.1 [.int (xs (nI i + 1).toNatClampNeg)] (.int r) ld_X8_wash lk_X8_wash rfl rfl (by show _ ≤ 2000; decide) rfl rfl (Nat.le_of_ble_eq_true rfl) rfl rfl dL_law_1425 (ctX8_wash ew) (fun v u q => q) rfl (fun H2 hI2 => ?_)
  exact lv_icmp_eq (tgt := 1617) hx hb dL_law_1428 (by decide) (fun _ => kk H2 x1 w1 hI2 hR1) (fun q => absurd rfl q)
theorem lc_36 {p : Program} {e : Env} {s : State} {m : MethodId} {below : List Frame} {meth : Method} {c : Code} {b L : Nat} {xs : Nat → Int32} {l : Launch} {G : va_G} {cl : Nat → ClassId} {bx bm : Nat} {sa : Nat → Nat} (C : LC p s m meth c b L xs l G cl bx bm sa) {i : Nat} (hi : i + 6 ≤ L) {H : Heap} {x w : Wd} (hI : LI s l G cl bx bm sa H x w) (hR : Rel x w) {ls : Array Slot} (hl : lv_has ls 4 [(3, .int (nI i)), (2, .ref bm), (1, .ref bx), (0, .ref b)]) {Z : State → Prop} (kk : ∀ (H1 : Heap) (x1 w1 : Wd), LI s l G cl bx bm sa H1 x1 w1 → Rel x1 w1 → W p l e room_1 s m #[Value.ref b] below meth c H1 [] 170 (170 * 1280) Z (F0 m 1617 ls [])) : W p l e room_1 s m #[Value.ref b] below meth c H [] 170 (170 * 1280) Z (F0 m 1433 ls []) := by
  obtain ⟨hx, hb, hr, hml, hown, hts, hX, hbl, hlocks, hgv⟩ := C.1
  have hbA : ¬ oldS s b := Nat.not_le.mpr hbl
  have hS := hI.1.1.2.2.1
  obtain ⟨CC, hrel⟩ := hR
  obtain ⟨r, x1, w1, ex, ew, hR1⟩ := C_days hrel (xs (nI i + 1).toNatClampNeg)
  refine lv_aload_n hx hb dL_law_1433 rfl (lv_at hl 2 rfl) ?_
  refine lv_aload_n hx hb dL_law_1434 rfl (lv_at hl 3 rfl) ?_
  refine lv_iload_n hx hb dL_law_1435 rfl (lv_at hl 0 rfl) ?_
  refine lv_iconst (v := 1) hx hb dL_law_1436 (by decide) ?_
  refine lv_iadd hx hb dL_law_1437 ?_
  refine va_sld hx hb hX hbl hbA hS (L_in (j := 1) hi C.2.2.2.2 (by decide)) dL_law_1438 ?_
  refine L_x C hI hR1.N.1 hl.1 [.int (xs (nI i + 1).toNatClampNeg)] (.int r) ld_X7_days lk_X7_days rfl rfl (by show _ ≤ 2000; decide) rfl rfl (Nat.le_of_ble_eq_true rfl) rfl rfl dL_law_1439 (ctX7_days ex) (fun v u q => q) rfl (fun H1 hI1 => ?_)
  have hS := hI1.1.1.2.2.1
  refine lv_aload_n hx hb dL_law_1442 rfl (lv_at hl 1 rfl) ?_
  refine lv_aload_n hx hb dL_law_1443 rfl (lv_at hl 3 rfl) ?_
  refine lv_iload_n hx hb dL_law_1444 rfl (lv_at hl 0 rfl) ?_
  refine lv_iconst (v := 1) hx hb dL_law_1445 (by decide) ?_
  refine lv_iadd hx hb dL_law_1446 ?_
  refine va_sld hx hb hX hbl hbA hS (L_in (j := 1) hi C.2.2.2.2 (by decide)) dL_law_1447 ?_
  refine L_m C hI1 hR1.N.2 hl.1 [.int (xs (nI i + 1).toNatClampNeg)] (.int r) ld_X8_days lk_X8_days rfl rfl (by show _ ≤ 2000; decide) rfl rfl (Nat.le_of_ble_eq_true rfl) rfl rfl dL_law_1448 (ctX8_days ew) (fun v u q => q) rfl (fun H2 hI2 => ?_)
  exact lv_icmp_eq (tgt := 1617) hx hb dL_law_1451 (by decide) (fun _ => kk H2 x1 w1 hI2 hR1) (fun q => absurd rfl q)
theorem lc_37 {p : Program} {e : Env} {s : State} {m : MethodId} {below : List Frame} {meth : Method} {c : Code} {b L : Nat} {xs : Nat → Int32} {l : Launch} {G : va_G} {cl : Nat → ClassId} {bx bm : Nat} {sa : Nat → Nat} (C : LC p s m meth c b L xs l G cl bx bm sa) {i : Nat} (hi : i + 6 ≤ L) {H : Heap} {x w : Wd} (hI : LI s l G cl bx bm sa H x w) (hR : Rel x w) {ls : Array Slot} (hl : lv_has ls 4 [(3, .int (nI i)), (2, .ref bm), (1, .ref bx), (0, .ref b)]) {Z : State → Prop} (kk : ∀ (H1 : Heap) (x1 w1 : Wd), LI s l G cl bx bm sa H1 x1 w1 → Rel x1 w1 → W p l e room_1 s m #[Value.ref b] below meth c H1 [] 170 (170 * 1280) Z (F0 m 1617 ls [])) : W p l e room_1 s m #[Value.ref b] below meth c H [] 170 (170 * 1280) Z (F0 m 1456 ls []) := by
  obtain ⟨hx, hb, hr, hml, hown, hts, hX, hbl, hlocks, hgv⟩ := C.1
  have hbA : ¬ oldS s b := Nat.not_le.mpr hbl
  have hS := hI.1.1.2.2.1
  obtain ⟨CC, hrel⟩ := hR
  obtain ⟨r, x1, w1, ex, ew, hR1⟩ := C_years hrel (xs (nI i + 1).toNatClampNeg)
  refine lv_aload_n hx hb dL_law_1456 rfl (lv_at hl 2 rfl) ?_
  refine lv_aload_n hx hb dL_law_1457 rfl (lv_at hl 3 rfl) ?_
  refine lv_iload_n hx hb dL_law_1458 rfl (lv_at hl 0 rfl) ?_
  refine lv_iconst (v := 1) hx hb dL_law_1459 (by decide) ?_
  refine lv_iadd hx hb dL_law_1460 ?_
  refine va_sld hx hb hX hbl hbA hS (L_in (j := 1) hi C.2.2.2.2 (by decide)) dL_law_1461 ?_
  refine L_x C hI hR1.N.1 hl.1 [.int (xs (nI i + 1).toNatClampNeg)] (.int r) ld_X7_years lk_X7_years rfl rfl (by show _ ≤ 2000; decide) rfl rfl (Nat.le_of_ble_eq_true rfl) rfl rfl dL_law_1462 (ctX7_years ex) (fun v u q => q) rfl (fun H1 hI1 => ?_)
  have hS := hI1.1.1.2.2.1
  refine lv_aload_n hx hb dL_law_1465 rfl (lv_at hl 1 rfl) ?_
  refine lv_aload_n hx hb dL_law_1466 rfl (lv_at hl 3 rfl) ?_
  refine lv_iload_n hx hb dL_law_1467 rfl (lv_at hl 0 rfl) ?_
  refine lv_iconst (v := 1) hx hb dL_law_1468 (by decide) ?_
  refine lv_iadd hx hb dL_law_1469 ?_
  refine va_sld hx hb hX hbl hbA hS (L_in (j := 1) hi C.2.2.2.2 (by decide)) dL_law_1470 ?_
  refine L_m C hI1 hR1.N.2 hl.1 [.int (xs (nI i + 1).toNatClampNeg)] (.int r) ld_X8_years lk_X8_years rfl rfl (by show _ ≤ 2000; decide) rfl rfl (Nat.le_of_ble_eq_true rfl) rfl rfl dL_law_1471 (ctX8_years ew) (fun v u q => q) rfl (fun H2 hI2 => ?_)
  exact lv_icmp_eq (tgt := 1617) hx hb dL_law_1474 (by decide) (fun _ => kk H2 x1 w1 hI2 hR1) (fun q => absurd rfl q)
theorem lc_38 {p : Program} {e : Env} {s : State} {m : MethodId} {below : List Frame} {meth : Method} {c : Code} {b L : Nat} {xs : Nat → Int32} {l : Launch} {G : va_G} {cl : Nat → ClassId} {bx bm : Nat} {sa : Nat → Nat} (C : LC p s m meth c b L xs l G cl bx bm sa) {i : Nat} (hi : i + 6 ≤ L) {H : Heap} {x w : Wd} (hI : LI s l G cl bx bm sa H x w) (hR : Rel x w) {ls : Array Slot} (hl : lv_has ls 4 [(3, .int (nI i)), (2, .ref bm), (1, .ref bx), (0, .ref b)]) {Z : State → Prop} (kk : ∀ (H1 : Heap) (x1 w1 : Wd), LI s l G cl bx bm sa H1 x1 w1 → Rel x1 w1 → W p l e room_1 s m #[Value.ref b] below meth c H1 [] 170 (170 * 1280) Z (F0 m 1617 ls [])) : W p l e room_1 s m #[Value.ref b] below meth c H [] 170 (170 * 1280) Z (F0 m 1479 ls []) := by
  obtain ⟨hx, hb, hr, hml, hown, hts, hX, hbl, hlocks, hgv⟩ := C.1
  have hbA : ¬ oldS s b := Nat.not_le.mpr hbl
  have hS := hI.1.1.2.2.1
  obtain ⟨CC, hrel⟩ := hR
  obtain ⟨r, x1, w1, ex, ew, hR1⟩ := C_seed hrel (xs (nI i + 1).toNatClampNeg)
  refine lv_aload_n hx hb dL_law_1479 rfl (lv_at hl 2 rfl) ?_
  refine lv_aload_n hx hb dL_law_1480 rfl (lv_at hl 3 rfl) ?_
  refine lv_iload_n hx hb dL_law_1481 rfl (lv_at hl 0 rfl) ?_
  refine lv_iconst (v := 1) hx hb dL_law_1482 (by decide) ?_
  refine lv_iadd hx hb dL_law_1483 ?_
  refine va_sld hx hb hX hbl hbA hS (L_in (j := 1) hi C.2.2.2.2 (by decide)) dL_law_1484 ?_
  refine L_x C hI hR1.N.1 hl.1 [.int (xs (nI i + 1).toNatClampNeg)] (.int r) ld_X7_seed lk_X7_seed rfl rfl (by show _ ≤ 2000; decide) rfl rfl (Nat.le_of_ble_eq_true rfl) rfl rfl dL_law_1485 (ctX7_seed ex) (fun v u q => q) rfl (fun H1 hI1 => ?_)
  have hS := hI1.1.1.2.2.1
  refine lv_aload_n hx hb dL_law_1488 rfl (lv_at hl 1 rfl) ?_
  refine lv_aload_n hx hb dL_law_1489 rfl (lv_at hl 3 rfl) ?_
  refine lv_iload_n hx hb dL_law_1490 rfl (lv_at hl 0 rfl) ?_
  refine lv_iconst (v := 1) hx hb dL_law_1491 (by decide) ?_
  refine lv_iadd hx hb dL_law_1492 ?_
  refine va_sld hx hb hX hbl hbA hS (L_in (j := 1) hi C.2.2.2.2 (by decide)) dL_law_1493 ?_
  refine L_m C hI1 hR1.N.2 hl.1 [.int (xs (nI i + 1).toNatClampNeg)] (.int r) ld_X8_seed lk_X8_seed rfl rfl (by show _ ≤ 2000; decide) rfl rfl (Nat.le_of_ble_eq_true rfl) rfl rfl dL_law_1494 (ctX8_seed ew) (fun v u q => q) rfl (fun H2 hI2 => ?_)
  exact lv_icmp_eq (tgt := 1617) hx hb dL_law_1497 (by decide) (fun _ => kk H2 x1 w1 hI2 hR1) (fun q => absurd rfl q)
theorem lc_39 {p : Program} {e : Env} {s : State} {m : MethodId} {below : List Frame} {meth : Method} {c : Code} {b L : Nat} {xs : Nat → Int32} {l : Launch} {G : va_G} {cl : Nat → ClassId} {bx bm : Nat} {sa : Nat → Nat} (C : LC p s m meth c b L xs l G cl bx bm sa) {i : Nat} (hi : i + 6 ≤ L) {H : Heap} {x w : Wd} (hI : LI s l G cl bx bm sa H x w) (hR : Rel x w) {ls : Array Slot} (hl : lv_has ls 4 [(3, .int (nI i)), (2, .ref bm), (1, .ref bx), (0, .ref b)]) {Z : State → Prop} (kk : ∀ (H1 : Heap) (x1 w1 : Wd), LI s l G cl bx bm sa H1 x1 w1 → Rel x1 w1 → W p l e room_1 s m #[Value.ref b] below meth c H1 [] 170 (170 * 1280) Z (F0 m 1617 ls [])) : W p l e room_1 s m #[Value.ref b] below meth c H [] 170 (170 * 1280) Z (F0 m 1502 ls []) := by
  obtain ⟨hx, hb, hr, hml, hown, hts, hX, hbl, hlocks, hgv⟩ := C.1
  have hbA : ¬ oldS s b := Nat.not_le.mpr hbl
  have hS := hI.1.1.2.2.1
  obtain ⟨CC, hrel⟩ := hR
  obtain ⟨r, x1, w1, ex, ew, hR1⟩ := C_act hrel (xs (nI i + 1).toNatClampNeg) (xs (nI i + 2).toNatClampNeg) (xs (nI i + 3).toNatClampNeg)
  refine lv_aload_n hx hb dL_law_1502 rfl (lv_at hl 2 rfl) ?_
  refine lv_aload_n hx hb dL_law_1503 rfl (lv_at hl 3 rfl) ?_
  refine lv_iload_n hx hb dL_law_1504 rfl (lv_at hl 0 rfl) ?_
  refine lv_iconst (v := 1) hx hb dL_law_1505 (by decide) ?_
  refine lv_iadd hx hb dL_law_1506 ?_
  refine va_sld hx hb hX hbl hbA hS (L_in (j := 1) hi C.2.2.2.2 (by decide)) dL_law_1507 ?_
  refine lv_aload_n hx hb dL_law_1508 rfl (lv_at hl 3 rfl) ?_
  refine lv_iload_n hx hb dL_law_1509 rfl (lv_at hl 0 rfl) ?_
  refine lv_iconst (v := 2) hx hb dL_law_1510 (by decide) ?_
  refine lv_iadd hx hb dL_law_1511 ?_
  refine va_sld hx hb hX hbl hbA hS (L_in (j := 2) hi C.2.2.2.2 (by decide)) dL_law_1512 ?_
  refine lv_aload_n hx hb dL_law_1513 rfl (lv_at hl 3 rfl) ?_
  refine lv_iload_n hx hb dL_law_1514 rfl (lv_at hl 0 rfl) ?_
  refine lv_iconst (v := 3) hx hb dL_law_1515 (by decide) ?_
  refine lv_iadd hx hb dL_law_1516 ?_
  refine va_sld hx hb hX hbl hbA hS (L_in (j := 3) hi C.2.2.2.2 (by decide)) dL_law_1517 ?_
  refine L_x C hI hR1.N.1 hl.1 [.int (xs (nI i + 1).toNatClampNeg), .int (xs (nI i + 2).toNatClampNeg), .int (xs (nI i + 3).toNatClampNeg)] (.int r) ld_X7_act lk_X7_act rfl rfl (by show _ ≤ 2000; decide) rfl rfl (Nat.le_of_ble_eq_true rfl) rfl rfl dL_law_1518 (ctX7_act ex) (fun v u q => q) rfl (fun H1 hI1 => ?_)
  have hS := hI1.1.1.2.2.1
  refine lv_aload_n hx hb dL_law_1521 rfl (lv_at hl 1 rfl) ?_
  refine lv_aload_n hx hb dL_law_1522 rfl (lv_at hl 3 rfl) ?_
  refine lv_iload_n hx hb dL_law_1523 rfl (lv_at hl 0 rfl) ?_
  refine lv_iconst (v := 1) hx hb dL_law_1524 (by decide) ?_
  refine lv_iadd hx hb dL_law_1525 ?_
  refine va_sld hx hb hX hbl hbA hS (L_in (j := 1) hi C.2.2.2.2 (by decide)) dL_law_1526 ?_
  refine lv_aload_n hx hb dL_law_1527 rfl (lv_at hl 3 rfl) ?_
  refine lv_iload_n hx hb dL_law_1528 rfl (lv_at hl 0 rfl) ?_
  refine lv_iconst (v := 2) hx hb dL_law_1529 (by decide) ?_
  refine lv_iadd hx hb dL_law_1530 ?_
  refine va_sld hx hb hX hbl hbA hS (L_in (j := 2) hi C.2.2.2.2 (by decide)) dL_law_1531 ?_
  refine lv_aload_n hx hb dL_law_1532 rfl (lv_at hl 3 rfl) ?_
  refine lv_iload_n hx hb dL_law_1533 rfl (lv_at hl 0 rfl) ?_
  refine lv_iconst (v := 3) hx hb dL_law_1534 (by decide) ?_
  refine lv_iadd hx hb dL_law_1535 ?_
  refine va_sld hx hb hX hbl hbA hS (L_in (j := 3) hi C.2.2.2.2 (by decide)) dL_law_1536 ?_
  refine L_m C hI1 hR1.N.2 hl.1 [.int (xs (nI i + 1).toNatClampNeg), .int (xs (nI i + 2).toNatClampNeg), .int (xs (nI i + 3).toNatClampNeg)] (.int r) ld_X8_act lk_X8_act rfl rfl (by show _ ≤ 2000; decide) rfl rfl (Nat.le_of_ble_eq_true rfl) rfl rfl dL_law_1537 (ctX8_act ew) (fun v u q => q) rfl (fun H2 hI2 => ?_)
  exact lv_icmp_eq (tgt := 1617) hx hb dL_law_1540 (by decide) (fun _ => kk H2 x1 w1 hI2 hR1) (fun q => absurd rfl q)
theorem lc_40 {p : Program} {e : Env} {s : State} {m : MethodId} {below : List Frame} {meth : Method} {c : Code} {b L : Nat} {xs : Nat → Int32} {l : Launch} {G : va_G} {cl : Nat → ClassId} {bx bm : Nat} {sa : Nat → Nat} (C : LC p s m meth c b L xs l G cl bx bm sa) {i : Nat} (hi : i + 6 ≤ L) {H : Heap} {x w : Wd} (hI : LI s l G cl bx bm sa H x w) (hR : Rel x w) {ls : Array Slot} (hl : lv_has ls 4 [(3, .int (nI i)), (2, .ref bm), (1, .ref bx), (0, .ref b)]) {Z : State → Prop} (kk : ∀ (H1 : Heap) (x1 w1 : Wd), LI s l G cl bx bm sa H1 x1 w1 → Rel x1 w1 → W p l e room_1 s m #[Value.ref b] below meth c H1 [] 170 (170 * 1280) Z (F0 m 1617 ls [])) : W p l e room_1 s m #[Value.ref b] below meth c H [] 170 (170 * 1280) Z (F0 m 1545 ls []) := by
  obtain ⟨hx, hb, hr, hml, hown, hts, hX, hbl, hlocks, hgv⟩ := C.1
  have hbA : ¬ oldS s b := Nat.not_le.mpr hbl
  have hS := hI.1.1.2.2.1
  obtain ⟨CC, hrel⟩ := hR
  obtain ⟨r, x1, w1, ex, ew, hR1⟩ := C_trace hrel (xs (nI i + 1).toNatClampNeg)
  refine lv_aload_n hx hb dL_law_1545 rfl (lv_at hl 2 rfl) ?_
  refine lv_aload_n hx hb dL_law_1546 rfl (lv_at hl 3 rfl) ?_
  refine lv_iload_n hx hb dL_law_1547 rfl (lv_at hl 0 rfl) ?_
  refine lv_iconst (v := 1) hx hb dL_law_1548 (by decide) ?_
  refine lv_iadd hx hb dL_law_1549 ?_
  refine va_sld hx hb hX hbl hbA hS (L_in (j := 1) hi C.2.2.2.2 (by decide)) dL_law_1550 ?_
  refine L_x C hI hR1.N.1 hl.1 [.int (xs (nI i + 1).toNatClampNeg)] (.int r) ld_X7_trace lk_X7_trace rfl rfl (by show _ ≤ 2000; decide) rfl rfl (Nat.le_of_ble_eq_true rfl) rfl rfl dL_law_1551 (ctX7_trace ex) (fun v u q => q) rfl (fun H1 hI1 => ?_)
  have hS := hI1.1.1.2.2.1
  refine lv_aload_n hx hb dL_law_1554 rfl (lv_at hl 1 rfl) ?_
  refine lv_aload_n hx hb dL_law_1555 rfl (lv_at hl 3 rfl) ?_
  refine lv_iload_n hx hb dL_law_1556 rfl (lv_at hl 0 rfl) ?_
  refine lv_iconst (v := 1) hx hb dL_law_1557 (by decide) ?_
  refine lv_iadd hx hb dL_law_1558 ?_
  refine va_sld hx hb hX hbl hbA hS (L_in (j := 1) hi C.2.2.2.2 (by decide)) dL_law_1559 ?_
  refine L_m C hI1 hR1.N.2 hl.1 [.int (xs (nI i + 1).toNatClampNeg)] (.int r) ld_X8_trace lk_X8_trace rfl rfl (by show _ ≤ 2000; decide) rfl rfl (Nat.le_of_ble_eq_true rfl) rfl rfl dL_law_1560 (ctX8_trace ew) (fun v u q => q) rfl (fun H2 hI2 => ?_)
  exact lv_icmp_eq (tgt := 1617) hx hb dL_law_1563 (by decide) (fun _ => kk H2 x1 w1 hI2 hR1) (fun q => absurd rfl q)
theorem lc_41 {p : Program} {e : Env} {s : State} {m : MethodId} {below : List Frame} {meth : Method} {c : Code} {b L : Nat} {xs : Nat → Int32} {l : Launch} {G : va_G} {cl : Nat → ClassId} {bx bm : Nat} {sa : Nat → Nat} (C : LC p s m meth c b L xs l G cl bx bm sa) {i : Nat} (hi : i + 6 ≤ L) {H : Heap} {x w : Wd} (hI : LI s l G cl bx bm sa H x w) (hR : Rel x w) {ls : Array Slot} (hl : lv_has ls 4 [(3, .int (nI i)), (2, .ref bm), (1, .ref bx), (0, .ref b)]) {Z : State → Prop} (kk : ∀ (H1 : Heap) (x1 w1 : Wd), LI s l G cl bx bm sa H1 x1 w1 → Rel x1 w1 → W p l e room_1 s m #[Value.ref b] below meth c H1 [] 170 (170 * 1280) Z (F0 m 1617 ls [])) : W p l e room_1 s m #[Value.ref b] below meth c H [] 170 (170 * 1280) Z (F0 m 1568 ls []) := by
  obtain ⟨hx, hb, hr, hml, hown, hts, hX, hbl, hlocks, hgv⟩ := C.1
  have hbA : ¬ oldS s b := Nat.not_le.mpr hbl
  have hS := hI.1.1.2.2.1
  obtain ⟨CC, hrel⟩ := hR
  obtain ⟨r, x1, w1, ex, ew, hR1⟩ := C_image hrel 
  refine lv_aload_n hx hb dL_law_1568 rfl (lv_at hl 2 rfl) ?_
  refine L_x C hI hR1.N.1 hl.1 [] (.int r) ld_X7_image lk_X7_image rfl rfl (by show _ ≤ 2000; decide) rfl rfl (Nat.le_of_ble_eq_true rfl) rfl rfl dL_law_1569 (ctX7_image ex) (fun v u q => q) rfl (fun H1 hI1 => ?_)
  have hS := hI1.1.1.2.2.1
  refine lv_aload_n hx hb dL_law_1572 rfl (lv_at hl 1 rfl) ?_
  refine L_m C hI1 hR1.N.2 hl.1 [] (.int r) ld_X8_image lk_X8_image rfl rfl (by show _ ≤ 2000; decide) rfl rfl (Nat.le_of_ble_eq_true rfl) rfl rfl dL_law_1573 (ctX8_image ew) (fun v u q => q) rfl (fun H2 hI2 => ?_)
  exact lv_icmp_eq (tgt := 1617) hx hb dL_law_1576 (by decide) (fun _ => kk H2 x1 w1 hI2 hR1) (fun q => absurd rfl q)
theorem lc_42 {p : Program} {e : Env} {s : State} {m : MethodId} {below : List Frame} {meth : Method} {c : Code} {b L : Nat} {xs : Nat → Int32} {l : Launch} {G : va_G} {cl : Nat → ClassId} {bx bm : Nat} {sa : Nat → Nat} (C : LC p s m meth c b L xs l G cl bx bm sa) {i : Nat} (hi : i + 6 ≤ L) {H : Heap} {x w : Wd} (hI : LI s l G cl bx bm sa H x w) (hR : Rel x w) {ls : Array Slot} (hl : lv_has ls 4 [(3, .int (nI i)), (2, .ref bm), (1, .ref bx), (0, .ref b)]) {Z : State → Prop} (kk : ∀ (H1 : Heap) (x1 w1 : Wd), LI s l G cl bx bm sa H1 x1 w1 → Rel x1 w1 → W p l e room_1 s m #[Value.ref b] below meth c H1 [] 170 (170 * 1280) Z (F0 m 1617 ls [])) : W p l e room_1 s m #[Value.ref b] below meth c H [] 170 (170 * 1280) Z (F0 m 1581 ls []) := by
  obtain ⟨hx, hb, hr, hml, hown, hts, hX, hbl, hlocks, hgv⟩ := C.1
  have hbA : ¬ oldS s b := Nat.not_le.mpr hbl
  have hS := hI.1.1.2.2.1
  obtain ⟨CC, hrel⟩ := hR
  obtain ⟨r, x1, w1, ex, ew, hR1⟩ := C_restore hrel 
  refine lv_aload_n hx hb dL_law_1581 rfl (lv_at hl 2 rfl) ?_
  refine L_x C hI hR1.N.1 hl.1 [] (.int r) ld_X7_restore lk_X7_restore rfl rfl (by show _ ≤ 2000; decide) rfl rfl (Nat.le_of_ble_eq_true rfl) rfl rfl dL_law_1582 (ctX7_restore ex) (fun v u q => q) rfl (fun H1 hI1 => ?_)
  have hS := hI1.1.1.2.2.1
  refine lv_aload_n hx hb dL_law_1585 rfl (lv_at hl 1 rfl) ?_
  refine L_m C hI1 hR1.N.2 hl.1 [] (.int r) ld_X8_restore lk_X8_restore rfl rfl (by show _ ≤ 2000; decide) rfl rfl (Nat.le_of_ble_eq_true rfl) rfl rfl dL_law_1586 (ctX8_restore ew) (fun v u q => q) rfl (fun H2 hI2 => ?_)
  exact lv_icmp_eq (tgt := 1617) hx hb dL_law_1589 (by decide) (fun _ => kk H2 x1 w1 hI2 hR1) (fun q => absurd rfl q)
theorem lc_43 {p : Program} {e : Env} {s : State} {m : MethodId} {below : List Frame} {meth : Method} {c : Code} {b L : Nat} {xs : Nat → Int32} {l : Launch} {G : va_G} {cl : Nat → ClassId} {bx bm : Nat} {sa : Nat → Nat} (C : LC p s m meth c b L xs l G cl bx bm sa) {i : Nat} (hi : i + 6 ≤ L) {H : Heap} {x w : Wd} (hI : LI s l G cl bx bm sa H x w) (hR : Rel x w) {ls : Array Slot} (hl : lv_has ls 4 [(3, .int (nI i)), (2, .ref bm), (1, .ref bx), (0, .ref b)]) {Z : State → Prop} (kk : ∀ (H1 : Heap) (x1 w1 : Wd), LI s l G cl bx bm sa H1 x1 w1 → Rel x1 w1 → W p l e room_1 s m #[Value.ref b] below meth c H1 [] 170 (170 * 1280) Z (F0 m 1617 ls [])) : W p l e room_1 s m #[Value.ref b] below meth c H [] 170 (170 * 1280) Z (F0 m 1594 ls []) := by
  obtain ⟨hx, hb, hr, hml, hown, hts, hX, hbl, hlocks, hgv⟩ := C.1
  have hbA : ¬ oldS s b := Nat.not_le.mpr hbl
  have hS := hI.1.1.2.2.1
  obtain ⟨CC, hrel⟩ := hR
  obtain ⟨r, x1, w1, ex, ew, hR1⟩ := C_status hrel (xs (nI i + 1).toNatClampNeg)
  refine lv_aload_n hx hb dL_law_1594 rfl (lv_at hl 2 rfl) ?_
  refine lv_aload_n hx hb dL_law_1595 rfl (lv_at hl 3 rfl) ?_
  refine lv_iload_n hx hb dL_law_1596 rfl (lv_at hl 0 rfl) ?_
  refine lv_iconst (v := 1) hx hb dL_law_1597 (by decide) ?_
  refine lv_iadd hx hb dL_law_1598 ?_
  refine va_sld hx hb hX hbl hbA hS (L_in (j := 1) hi C.2.2.2.2 (by decide)) dL_law_1599 ?_
  refine L_x C hI hR1.N.1 hl.1 [.int (xs (nI i + 1).toNatClampNeg)] (.int r) ld_X7_status lk_X7_status rfl rfl (by show _ ≤ 2000; decide) rfl rfl (Nat.le_of_ble_eq_true rfl) rfl rfl dL_law_1600 (ctX7_status ex) (fun v u q => q) rfl (fun H1 hI1 => ?_)
  have hS := hI1.1.1.2.2.1
  refine lv_aload_n hx hb dL_law_1603 rfl (lv_at hl 1 rfl) ?_
  refine lv_aload_n hx hb dL_law_1604 rfl (lv_at hl 3 rfl) ?_
  refine lv_iload_n hx hb dL_law_1605 rfl (lv_at hl 0 rfl) ?_
  refine lv_iconst (v := 1) hx hb dL_law_1606 (by decide) ?_
  refine lv_iadd hx hb dL_law_1607 ?_
  refine va_sld hx hb hX hbl hbA hS (L_in (j := 1) hi C.2.2.2.2 (by decide)) dL_law_1608 ?_
  refine L_m C hI1 hR1.N.2 hl.1 [.int (xs (nI i + 1).toNatClampNeg)] (.int r) ld_X8_status lk_X8_status rfl rfl (by show _ ≤ 2000; decide) rfl rfl (Nat.le_of_ble_eq_true rfl) rfl rfl dL_law_1609 (ctX8_status ew) (fun v u q => q) rfl (fun H2 hI2 => ?_)
  exact lv_icmp_eq (tgt := 1617) hx hb dL_law_1612 (by decide) (fun _ => kk H2 x1 w1 hI2 hR1) (fun q => absurd rfl q)
