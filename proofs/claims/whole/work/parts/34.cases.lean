/-! the law's cases -/
theorem jad {i j : Int} {L : Nat} (h0 : 0 ≤ i) (h1 : i + 3 < L) (hL : L ≤ 256) (hj : 0 ≤ j) (hj2 : j ≤ 3) : 0 ≤ jadd i j ∧ jadd i j < L := by
  unfold jadd
  rw [i32_eq (by omega) (by omega)]
  omega
def lg (xs : Nat → Int32) (i j : Int) : Int := (xs (jadd i j).toNat).toInt
theorem in1 {as : List Int} : ∀ v ∈ as.map (fun n => (.inl n : mV)), ∃ n, v = .inl n := fun v hv => by
  obtain ⟨n, -, rfl⟩ := List.mem_map.mp hv
  exact ⟨n, rfl⟩
theorem LC_0 {l : Launch} {i : Int} {hX hM : mH} {L : Nat} {xs : Nat → Int32} {rv : Int} {hX' : mH} {hM' : mH} (h0 : 0 ≤ i) (h1 : i + 3 < L) (hL : L ≤ 256) (hfX : fX8_write 0 (lg xs i 1) hX = some (rv, hX')) (hfM : fX9_write 0 (lg xs i 1) hM = some (rv, hM')) (kk : LWP l 1104 [] i hX' hM' L xs) : LWP l 188 [] i hX hM L xs := by
  refine LWP_x dl_188 ?_
  refine LWP_s dl_189 ?_
  refine LWP_i dl_190 ?_
  refine LWP_const dl_191 ⟨by decide, by decide⟩ ?_
  refine LWP_add dl_192 ?_
  refine LWP_ld dl_193 (jad h0 h1 hL (by decide) (by decide)).1 (jad h0 h1 hL (by decide) (by decide)).2 ?_
  refine LWP_cX (d := 100) (as := [.inl (lg xs i 1)]) (EX8_write (by decide) rfl hfX) (by decide) vkX8_write dl_194 (mg_in (tb2 (i := 100) rfl) rfl) rfl (in1 (as := [lg xs i 1])) (Or.inl ⟨_, rfl⟩) rfl (Nat.le_of_ble_eq_true rfl) ?_
  refine LWP_m dl_197 ?_
  refine LWP_s dl_198 ?_
  refine LWP_i dl_199 ?_
  refine LWP_const dl_200 ⟨by decide, by decide⟩ ?_
  refine LWP_add dl_201 ?_
  refine LWP_ld dl_202 (jad h0 h1 hL (by decide) (by decide)).1 (jad h0 h1 hL (by decide) (by decide)).2 ?_
  refine LWP_cM (d := 100) (as := [.inl (lg xs i 1)]) (EX9_write (by decide) rfl hfM) (by decide) vkX9_write dl_203 (mg_in (tb5 (i := 47) rfl) rfl) rfl (in1 (as := [lg xs i 1])) (Or.inl ⟨_, rfl⟩) rfl (Nat.le_of_ble_eq_true rfl) ?_
  exact LWP_eq dl_206 rfl kk
theorem LC_1 {l : Launch} {i : Int} {hX hM : mH} {L : Nat} {xs : Nat → Int32} {rv : Int} {hX' : mH} {hM' : mH} (h0 : 0 ≤ i) (h1 : i + 3 < L) (hL : L ≤ 256) (hfX : fX8_erase 0  hX = some (rv, hX')) (hfM : fX9_erase 0  hM = some (rv, hM')) (kk : LWP l 1104 [] i hX' hM' L xs) : LWP l 211 [] i hX hM L xs := by
  refine LWP_x dl_211 ?_
  refine LWP_cX (d := 100) (as := []) (EX8_erase (by decide) rfl hfX) (by decide) vkX8_erase dl_212 (mg_in (tb2 (i := 104) rfl) rfl) rfl (in1 (as := [])) (Or.inl ⟨_, rfl⟩) rfl (Nat.le_of_ble_eq_true rfl) ?_
  refine LWP_m dl_215 ?_
  refine LWP_cM (d := 100) (as := []) (EX9_erase (by decide) rfl hfM) (by decide) vkX9_erase dl_216 (mg_in (tb5 (i := 55) rfl) rfl) rfl (in1 (as := [])) (Or.inl ⟨_, rfl⟩) rfl (Nat.le_of_ble_eq_true rfl) ?_
  exact LWP_eq dl_219 rfl kk
theorem LC_2 {l : Launch} {i : Int} {hX hM : mH} {L : Nat} {xs : Nat → Int32} {rv : Int} {hX' : mH} {hM' : mH} (h0 : 0 ≤ i) (h1 : i + 3 < L) (hL : L ≤ 256) (hfX : fX8_fault 0  hX = some (rv, hX')) (hfM : fX9_fault 0  hM = some (rv, hM')) (kk : LWP l 1104 [] i hX' hM' L xs) : LWP l 224 [] i hX hM L xs := by
  refine LWP_x dl_224 ?_
  refine LWP_cX (d := 100) (as := []) (EX8_fault (by decide) rfl hfX) (by decide) vkX8_fault dl_225 (mg_in (tb2 (i := 108) rfl) rfl) rfl (in1 (as := [])) (Or.inl ⟨_, rfl⟩) rfl (Nat.le_of_ble_eq_true rfl) ?_
  refine LWP_m dl_228 ?_
  refine LWP_cM (d := 100) (as := []) (EX9_fault (by decide) rfl hfM) (by decide) vkX9_fault dl_229 (mg_in (tb5 (i := 59) rfl) rfl) rfl (in1 (as := [])) (Or.inl ⟨_, rfl⟩) rfl (Nat.le_of_ble_eq_true rfl) ?_
  exact LWP_eq dl_232 rfl kk
theorem LC_3 {l : Launch} {i : Int} {hX hM : mH} {L : Nat} {xs : Nat → Int32} {rv : Int} {hX' : mH} {hM' : mH} (h0 : 0 ≤ i) (h1 : i + 3 < L) (hL : L ≤ 256) (hfX : fX8_calendar 0  hX = some (rv, hX')) (hfM : fX9_calendar 0  hM = some (rv, hM')) (kk : LWP l 1104 [] i hX' hM' L xs) : LWP l 237 [] i hX hM L xs := by
  refine LWP_x dl_237 ?_
  refine LWP_cX (d := 100) (as := []) (EX8_calendar (by decide) rfl hfX) (by decide) vkX8_calendar dl_238 (mg_in (tb2 (i := 237) rfl) rfl) rfl (in1 (as := [])) (Or.inl ⟨_, rfl⟩) rfl (Nat.le_of_ble_eq_true rfl) ?_
  refine LWP_m dl_241 ?_
  refine LWP_cM (d := 100) (as := []) (EX9_calendar (by decide) rfl hfM) (by decide) vkX9_calendar dl_242 (mg_in (tb5 (i := 116) rfl) rfl) rfl (in1 (as := [])) (Or.inl ⟨_, rfl⟩) rfl (Nat.le_of_ble_eq_true rfl) ?_
  exact LWP_eq dl_245 rfl kk
theorem LC_4 {l : Launch} {i : Int} {hX hM : mH} {L : Nat} {xs : Nat → Int32} {rv : Int} {hX' : mH} (h0 : 0 ≤ i) (h1 : i + 3 < L) (hL : L ≤ 256) (hfX : fX8_day 0 (lg xs i 1) (lg xs i 2) hX = some (rv, hX')) (hfM : fX9_day 0 (lg xs i 1) (lg xs i 2) hM = some rv) (kk : LWP l 1104 [] i hX' hM L xs) : LWP l 250 [] i hX hM L xs := by
  refine LWP_x dl_250 ?_
  refine LWP_s dl_251 ?_
  refine LWP_i dl_252 ?_
  refine LWP_const dl_253 ⟨by decide, by decide⟩ ?_
  refine LWP_add dl_254 ?_
  refine LWP_ld dl_255 (jad h0 h1 hL (by decide) (by decide)).1 (jad h0 h1 hL (by decide) (by decide)).2 ?_
  refine LWP_s dl_256 ?_
  refine LWP_i dl_257 ?_
  refine LWP_const dl_258 ⟨by decide, by decide⟩ ?_
  refine LWP_add dl_259 ?_
  refine LWP_ld dl_260 (jad h0 h1 hL (by decide) (by decide)).1 (jad h0 h1 hL (by decide) (by decide)).2 ?_
  refine LWP_cX (d := 100) (as := [.inl (lg xs i 1), .inl (lg xs i 2)]) (EX8_day (by decide) rfl hfX) (by decide) vkX8_day dl_261 (mg_in (tb3 (i := 1) rfl) rfl) rfl (in1 (as := [lg xs i 1, lg xs i 2])) (Or.inl ⟨_, rfl⟩) rfl (Nat.le_of_ble_eq_true rfl) ?_
  refine LWP_m dl_264 ?_
  refine LWP_s dl_265 ?_
  refine LWP_i dl_266 ?_
  refine LWP_const dl_267 ⟨by decide, by decide⟩ ?_
  refine LWP_add dl_268 ?_
  refine LWP_ld dl_269 (jad h0 h1 hL (by decide) (by decide)).1 (jad h0 h1 hL (by decide) (by decide)).2 ?_
  refine LWP_s dl_270 ?_
  refine LWP_i dl_271 ?_
  refine LWP_const dl_272 ⟨by decide, by decide⟩ ?_
  refine LWP_add dl_273 ?_
  refine LWP_ld dl_274 (jad h0 h1 hL (by decide) (by decide)).1 (jad h0 h1 hL (by decide) (by decide)).2 ?_
  refine LWP_cM (d := 100) (as := [.inl (lg xs i 1), .inl (lg xs i 2)]) (EX9_day (by decide) rfl hfM) (by decide) vkX9_day dl_275 (mg_in (tb5 (i := 138) rfl) rfl) rfl (in1 (as := [lg xs i 1, lg xs i 2])) (Or.inl ⟨_, rfl⟩) rfl (Nat.le_of_ble_eq_true rfl) ?_
  exact LWP_eq dl_278 rfl kk
theorem LC_5 {l : Launch} {i : Int} {hX hM : mH} {L : Nat} {xs : Nat → Int32} {rv : Int} (h0 : 0 ≤ i) (h1 : i + 3 < L) (hL : L ≤ 256) (hfX : fX8_work 0 (lg xs i 1) (lg xs i 2) hX = some rv) (hfM : fX9_work 0 (lg xs i 1) (lg xs i 2) hM = some rv) (kk : LWP l 1104 [] i hX hM L xs) : LWP l 283 [] i hX hM L xs := by
  refine LWP_x dl_283 ?_
  refine LWP_s dl_284 ?_
  refine LWP_i dl_285 ?_
  refine LWP_const dl_286 ⟨by decide, by decide⟩ ?_
  refine LWP_add dl_287 ?_
  refine LWP_ld dl_288 (jad h0 h1 hL (by decide) (by decide)).1 (jad h0 h1 hL (by decide) (by decide)).2 ?_
  refine LWP_s dl_289 ?_
  refine LWP_i dl_290 ?_
  refine LWP_const dl_291 ⟨by decide, by decide⟩ ?_
  refine LWP_add dl_292 ?_
  refine LWP_ld dl_293 (jad h0 h1 hL (by decide) (by decide)).1 (jad h0 h1 hL (by decide) (by decide)).2 ?_
  refine LWP_cX (d := 100) (as := [.inl (lg xs i 1), .inl (lg xs i 2)]) (EX8_work (by decide) rfl hfX) (by decide) vkX8_work dl_294 (mg_in (tb3 (i := 37) rfl) rfl) rfl (in1 (as := [lg xs i 1, lg xs i 2])) (Or.inl ⟨_, rfl⟩) rfl (Nat.le_of_ble_eq_true rfl) ?_
  refine LWP_m dl_297 ?_
  refine LWP_s dl_298 ?_
  refine LWP_i dl_299 ?_
  refine LWP_const dl_300 ⟨by decide, by decide⟩ ?_
  refine LWP_add dl_301 ?_
  refine LWP_ld dl_302 (jad h0 h1 hL (by decide) (by decide)).1 (jad h0 h1 hL (by decide) (by decide)).2 ?_
  refine LWP_s dl_303 ?_
  refine LWP_i dl_304 ?_
  refine LWP_const dl_305 ⟨by decide, by decide⟩ ?_
  refine LWP_add dl_306 ?_
  refine LWP_ld dl_307 (jad h0 h1 hL (by decide) (by decide)).1 (jad h0 h1 hL (by decide) (by decide)).2 ?_
  refine LWP_cM (d := 100) (as := [.inl (lg xs i 1), .inl (lg xs i 2)]) (EX9_work (by decide) rfl hfM) (by decide) vkX9_work dl_308 (mg_in (tb5 (i := 150) rfl) rfl) rfl (in1 (as := [lg xs i 1, lg xs i 2])) (Or.inl ⟨_, rfl⟩) rfl (Nat.le_of_ble_eq_true rfl) ?_
  exact LWP_eq dl_311 rfl kk
theorem LC_6 {l : Launch} {i : Int} {hX hM : mH} {L : Nat} {xs : Nat → Int32} {rv : Int} (h0 : 0 ≤ i) (h1 : i + 3 < L) (hL : L ≤ 256) (hfX : fX8_as 0 (lg xs i 1) (lg xs i 2) hX = some rv) (hfM : fX9_as 0 (lg xs i 1) (lg xs i 2) hM = some rv) (kk : LWP l 1104 [] i hX hM L xs) : LWP l 316 [] i hX hM L xs := by
  refine LWP_x dl_316 ?_
  refine LWP_s dl_317 ?_
  refine LWP_i dl_318 ?_
  refine LWP_const dl_319 ⟨by decide, by decide⟩ ?_
  refine LWP_add dl_320 ?_
  refine LWP_ld dl_321 (jad h0 h1 hL (by decide) (by decide)).1 (jad h0 h1 hL (by decide) (by decide)).2 ?_
  refine LWP_s dl_322 ?_
  refine LWP_i dl_323 ?_
  refine LWP_const dl_324 ⟨by decide, by decide⟩ ?_
  refine LWP_add dl_325 ?_
  refine LWP_ld dl_326 (jad h0 h1 hL (by decide) (by decide)).1 (jad h0 h1 hL (by decide) (by decide)).2 ?_
  refine LWP_cX (d := 100) (as := [.inl (lg xs i 1), .inl (lg xs i 2)]) (EX8_as (by decide) rfl hfX) (by decide) vkX8_as dl_327 (mg_in (tb3 (i := 45) rfl) rfl) rfl (in1 (as := [lg xs i 1, lg xs i 2])) (Or.inl ⟨_, rfl⟩) rfl (Nat.le_of_ble_eq_true rfl) ?_
  refine LWP_m dl_330 ?_
  refine LWP_s dl_331 ?_
  refine LWP_i dl_332 ?_
  refine LWP_const dl_333 ⟨by decide, by decide⟩ ?_
  refine LWP_add dl_334 ?_
  refine LWP_ld dl_335 (jad h0 h1 hL (by decide) (by decide)).1 (jad h0 h1 hL (by decide) (by decide)).2 ?_
  refine LWP_s dl_336 ?_
  refine LWP_i dl_337 ?_
  refine LWP_const dl_338 ⟨by decide, by decide⟩ ?_
  refine LWP_add dl_339 ?_
  refine LWP_ld dl_340 (jad h0 h1 hL (by decide) (by decide)).1 (jad h0 h1 hL (by decide) (by decide)).2 ?_
  refine LWP_cM (d := 100) (as := [.inl (lg xs i 1), .inl (lg xs i 2)]) (EX9_as (by decide) rfl hfM) (by decide) vkX9_as dl_341 (mg_in (tb5 (i := 158) rfl) rfl) rfl (in1 (as := [lg xs i 1, lg xs i 2])) (Or.inl ⟨_, rfl⟩) rfl (Nat.le_of_ble_eq_true rfl) ?_
  exact LWP_eq dl_344 rfl kk
theorem LC_7 {l : Launch} {i : Int} {hX hM : mH} {L : Nat} {xs : Nat → Int32} {rv : Int} {hX' : mH} (h0 : 0 ≤ i) (h1 : i + 3 < L) (hL : L ≤ 256) (hfX : fX8_orders 0  hX = some (rv, hX')) (hfM : fX9_orders 0  hM = some rv) (kk : LWP l 1104 [] i hX' hM L xs) : LWP l 349 [] i hX hM L xs := by
  refine LWP_x dl_349 ?_
  refine LWP_cX (d := 100) (as := []) (EX8_orders (by decide) rfl hfX) (by decide) vkX8_orders dl_350 (mg_in (tb3 (i := 57) rfl) rfl) rfl (in1 (as := [])) (Or.inl ⟨_, rfl⟩) rfl (Nat.le_of_ble_eq_true rfl) ?_
  refine LWP_m dl_353 ?_
  refine LWP_cM (d := 100) (as := []) (EX9_orders (by decide) rfl hfM) (by decide) vkX9_orders dl_354 (mg_in (tb5 (i := 166) rfl) rfl) rfl (in1 (as := [])) (Or.inl ⟨_, rfl⟩) rfl (Nat.le_of_ble_eq_true rfl) ?_
  exact LWP_eq dl_357 rfl kk
theorem LC_8 {l : Launch} {i : Int} {hX hM : mH} {L : Nat} {xs : Nat → Int32} {rv : Int} {hX' : mH} (h0 : 0 ≤ i) (h1 : i + 3 < L) (hL : L ≤ 256) (hfX : fX8_order 0 (lg xs i 1) (lg xs i 2) hX = some (rv, hX')) (hfM : fX9_order 0 (lg xs i 1) (lg xs i 2) hM = some rv) (kk : LWP l 1104 [] i hX' hM L xs) : LWP l 362 [] i hX hM L xs := by
  refine LWP_x dl_362 ?_
  refine LWP_s dl_363 ?_
  refine LWP_i dl_364 ?_
  refine LWP_const dl_365 ⟨by decide, by decide⟩ ?_
  refine LWP_add dl_366 ?_
  refine LWP_ld dl_367 (jad h0 h1 hL (by decide) (by decide)).1 (jad h0 h1 hL (by decide) (by decide)).2 ?_
  refine LWP_s dl_368 ?_
  refine LWP_i dl_369 ?_
  refine LWP_const dl_370 ⟨by decide, by decide⟩ ?_
  refine LWP_add dl_371 ?_
  refine LWP_ld dl_372 (jad h0 h1 hL (by decide) (by decide)).1 (jad h0 h1 hL (by decide) (by decide)).2 ?_
  refine LWP_cX (d := 100) (as := [.inl (lg xs i 1), .inl (lg xs i 2)]) (EX8_order (by decide) rfl hfX) (by decide) vkX8_order dl_373 (mg_in (tb3 (i := 61) rfl) rfl) rfl (in1 (as := [lg xs i 1, lg xs i 2])) (Or.inl ⟨_, rfl⟩) rfl (Nat.le_of_ble_eq_true rfl) ?_
  refine LWP_m dl_376 ?_
  refine LWP_s dl_377 ?_
  refine LWP_i dl_378 ?_
  refine LWP_const dl_379 ⟨by decide, by decide⟩ ?_
  refine LWP_add dl_380 ?_
  refine LWP_ld dl_381 (jad h0 h1 hL (by decide) (by decide)).1 (jad h0 h1 hL (by decide) (by decide)).2 ?_
  refine LWP_s dl_382 ?_
  refine LWP_i dl_383 ?_
  refine LWP_const dl_384 ⟨by decide, by decide⟩ ?_
  refine LWP_add dl_385 ?_
  refine LWP_ld dl_386 (jad h0 h1 hL (by decide) (by decide)).1 (jad h0 h1 hL (by decide) (by decide)).2 ?_
  refine LWP_cM (d := 100) (as := [.inl (lg xs i 1), .inl (lg xs i 2)]) (EX9_order (by decide) rfl hfM) (by decide) vkX9_order dl_387 (mg_in (tb5 (i := 170) rfl) rfl) rfl (in1 (as := [lg xs i 1, lg xs i 2])) (Or.inl ⟨_, rfl⟩) rfl (Nat.le_of_ble_eq_true rfl) ?_
  exact LWP_eq dl_390 rfl kk
theorem LC_9 {l : Launch} {i : Int} {hX hM : mH} {L : Nat} {xs : Nat → Int32} {rv : Int} {hX' : mH} (h0 : 0 ≤ i) (h1 : i + 3 < L) (hL : L ≤ 256) (hfX : fX8_which 0 (lg xs i 1) hX = some (rv, hX')) (hfM : fX9_which 0 (lg xs i 1) hM = some rv) (kk : LWP l 1104 [] i hX' hM L xs) : LWP l 395 [] i hX hM L xs := by
  refine LWP_x dl_395 ?_
  refine LWP_s dl_396 ?_
  refine LWP_i dl_397 ?_
  refine LWP_const dl_398 ⟨by decide, by decide⟩ ?_
  refine LWP_add dl_399 ?_
  refine LWP_ld dl_400 (jad h0 h1 hL (by decide) (by decide)).1 (jad h0 h1 hL (by decide) (by decide)).2 ?_
  refine LWP_cX (d := 100) (as := [.inl (lg xs i 1)]) (EX8_which (by decide) rfl hfX) (by decide) vkX8_which dl_401 (mg_in (tb3 (i := 79) rfl) rfl) rfl (in1 (as := [lg xs i 1])) (Or.inl ⟨_, rfl⟩) rfl (Nat.le_of_ble_eq_true rfl) ?_
  refine LWP_m dl_404 ?_
  refine LWP_s dl_405 ?_
  refine LWP_i dl_406 ?_
  refine LWP_const dl_407 ⟨by decide, by decide⟩ ?_
  refine LWP_add dl_408 ?_
  refine LWP_ld dl_409 (jad h0 h1 hL (by decide) (by decide)).1 (jad h0 h1 hL (by decide) (by decide)).2 ?_
  refine LWP_cM (d := 100) (as := [.inl (lg xs i 1)]) (EX9_which (by decide) rfl hfM) (by decide) vkX9_which dl_410 (mg_in (tb5 (i := 178) rfl) rfl) rfl (in1 (as := [lg xs i 1])) (Or.inl ⟨_, rfl⟩) rfl (Nat.le_of_ble_eq_true rfl) ?_
  exact LWP_eq dl_413 rfl kk
theorem LC_10 {l : Launch} {i : Int} {hX hM : mH} {L : Nat} {xs : Nat → Int32} {rv : Int} {hX' : mH} {hM' : mH} (h0 : 0 ≤ i) (h1 : i + 3 < L) (hL : L ≤ 256) (hfX : fX8_deal 0 (lg xs i 1) hX = some (rv, hX')) (hfM : fX9_deal 0 (lg xs i 1) hM = some (rv, hM')) (kk : LWP l 1104 [] i hX' hM' L xs) : LWP l 418 [] i hX hM L xs := by
  refine LWP_x dl_418 ?_
  refine LWP_s dl_419 ?_
  refine LWP_i dl_420 ?_
  refine LWP_const dl_421 ⟨by decide, by decide⟩ ?_
  refine LWP_add dl_422 ?_
  refine LWP_ld dl_423 (jad h0 h1 hL (by decide) (by decide)).1 (jad h0 h1 hL (by decide) (by decide)).2 ?_
  refine LWP_cX (d := 100) (as := [.inl (lg xs i 1)]) (EX8_deal (by decide) rfl hfX) (by decide) vkX8_deal dl_424 (mg_in (tb3 (i := 91) rfl) rfl) rfl (in1 (as := [lg xs i 1])) (Or.inl ⟨_, rfl⟩) rfl (Nat.le_of_ble_eq_true rfl) ?_
  refine LWP_m dl_427 ?_
  refine LWP_s dl_428 ?_
  refine LWP_i dl_429 ?_
  refine LWP_const dl_430 ⟨by decide, by decide⟩ ?_
  refine LWP_add dl_431 ?_
  refine LWP_ld dl_432 (jad h0 h1 hL (by decide) (by decide)).1 (jad h0 h1 hL (by decide) (by decide)).2 ?_
  refine LWP_cM (d := 100) (as := [.inl (lg xs i 1)]) (EX9_deal (by decide) rfl hfM) (by decide) vkX9_deal dl_433 (mg_in (tb5 (i := 182) rfl) rfl) rfl (in1 (as := [lg xs i 1])) (Or.inl ⟨_, rfl⟩) rfl (Nat.le_of_ble_eq_true rfl) ?_
  exact LWP_eq dl_436 rfl kk
theorem LC_11 {l : Launch} {i : Int} {hX hM : mH} {L : Nat} {xs : Nat → Int32} {rv : Int} {hX' : mH} {hM' : mH} (h0 : 0 ≤ i) (h1 : i + 3 < L) (hL : L ≤ 256) (hfX : fX8_ready 0 (lg xs i 1) hX = some (rv, hX')) (hfM : fX9_ready 0 (lg xs i 1) hM = some (rv, hM')) (kk : LWP l 1104 [] i hX' hM' L xs) : LWP l 441 [] i hX hM L xs := by
  refine LWP_x dl_441 ?_
  refine LWP_s dl_442 ?_
  refine LWP_i dl_443 ?_
  refine LWP_const dl_444 ⟨by decide, by decide⟩ ?_
  refine LWP_add dl_445 ?_
  refine LWP_ld dl_446 (jad h0 h1 hL (by decide) (by decide)).1 (jad h0 h1 hL (by decide) (by decide)).2 ?_
  refine LWP_cX (d := 100) (as := [.inl (lg xs i 1)]) (EX8_ready (by decide) rfl hfX) (by decide) vkX8_ready dl_447 (mg_in (tb3 (i := 153) rfl) rfl) rfl (in1 (as := [lg xs i 1])) (Or.inl ⟨_, rfl⟩) rfl (Nat.le_of_ble_eq_true rfl) ?_
  refine LWP_m dl_450 ?_
  refine LWP_s dl_451 ?_
  refine LWP_i dl_452 ?_
  refine LWP_const dl_453 ⟨by decide, by decide⟩ ?_
  refine LWP_add dl_454 ?_
  refine LWP_ld dl_455 (jad h0 h1 hL (by decide) (by decide)).1 (jad h0 h1 hL (by decide) (by decide)).2 ?_
  refine LWP_cM (d := 100) (as := [.inl (lg xs i 1)]) (EX9_ready (by decide) rfl hfM) (by decide) vkX9_ready dl_456 (mg_in (tb5 (i := 202) rfl) rfl) rfl (in1 (as := [lg xs i 1])) (Or.inl ⟨_, rfl⟩) rfl (Nat.le_of_ble_eq_true rfl) ?_
  exact LWP_eq dl_459 rfl kk
theorem LC_12 {l : Launch} {i : Int} {hX hM : mH} {L : Nat} {xs : Nat → Int32} {rv : Int} {hX' : mH} {hM' : mH} (h0 : 0 ≤ i) (h1 : i + 3 < L) (hL : L ≤ 256) (hfX : fX8_undo 0  hX = some (rv, hX')) (hfM : fX9_undo 0  hM = some (rv, hM')) (kk : LWP l 1104 [] i hX' hM' L xs) : LWP l 464 [] i hX hM L xs := by
  refine LWP_x dl_464 ?_
  refine LWP_cX (d := 100) (as := []) (EX8_undo (by decide) rfl hfX) (by decide) vkX8_undo dl_465 (mg_in (tb3 (i := 167) rfl) rfl) rfl (in1 (as := [])) (Or.inl ⟨_, rfl⟩) rfl (Nat.le_of_ble_eq_true rfl) ?_
  refine LWP_m dl_468 ?_
  refine LWP_cM (d := 100) (as := []) (EX9_undo (by decide) rfl hfM) (by decide) vkX9_undo dl_469 (mg_in (tb5 (i := 213) rfl) rfl) rfl (in1 (as := [])) (Or.inl ⟨_, rfl⟩) rfl (Nat.le_of_ble_eq_true rfl) ?_
  exact LWP_eq dl_472 rfl kk
theorem LC_13 {l : Launch} {i : Int} {hX hM : mH} {L : Nat} {xs : Nat → Int32} {rv : Int} {hX' : mH} {hM' : mH} (h0 : 0 ≤ i) (h1 : i + 3 < L) (hL : L ≤ 256) (hfX : fX8_keep 0 (lg xs i 1) hX = some (rv, hX')) (hfM : fX9_keep 0 (lg xs i 1) hM = some (rv, hM')) (kk : LWP l 1104 [] i hX' hM' L xs) : LWP l 477 [] i hX hM L xs := by
  refine LWP_x dl_477 ?_
  refine LWP_s dl_478 ?_
  refine LWP_i dl_479 ?_
  refine LWP_const dl_480 ⟨by decide, by decide⟩ ?_
  refine LWP_add dl_481 ?_
  refine LWP_ld dl_482 (jad h0 h1 hL (by decide) (by decide)).1 (jad h0 h1 hL (by decide) (by decide)).2 ?_
  refine LWP_cX (d := 100) (as := [.inl (lg xs i 1)]) (EX8_keep (by decide) rfl hfX) (by decide) vkX8_keep dl_483 (mg_in (tb3 (i := 175) rfl) rfl) rfl (in1 (as := [lg xs i 1])) (Or.inl ⟨_, rfl⟩) rfl (Nat.le_of_ble_eq_true rfl) ?_
  refine LWP_m dl_486 ?_
  refine LWP_s dl_487 ?_
  refine LWP_i dl_488 ?_
  refine LWP_const dl_489 ⟨by decide, by decide⟩ ?_
  refine LWP_add dl_490 ?_
  refine LWP_ld dl_491 (jad h0 h1 hL (by decide) (by decide)).1 (jad h0 h1 hL (by decide) (by decide)).2 ?_
  refine LWP_cM (d := 100) (as := [.inl (lg xs i 1)]) (EX9_keep (by decide) rfl hfM) (by decide) vkX9_keep dl_492 (mg_in (tb5 (i := 217) rfl) rfl) rfl (in1 (as := [lg xs i 1])) (Or.inl ⟨_, rfl⟩) rfl (Nat.le_of_ble_eq_true rfl) ?_
  exact LWP_eq dl_495 rfl kk
theorem LC_14 {l : Launch} {i : Int} {hX hM : mH} {L : Nat} {xs : Nat → Int32} {rv : Int} {hX' : mH} {hM' : mH} (h0 : 0 ≤ i) (h1 : i + 3 < L) (hL : L ≤ 256) (hfX : fX8_back 0 (lg xs i 1) hX = some (rv, hX')) (hfM : fX9_back 0 (lg xs i 1) hM = some (rv, hM')) (kk : LWP l 1104 [] i hX' hM' L xs) : LWP l 500 [] i hX hM L xs := by
  refine LWP_x dl_500 ?_
  refine LWP_s dl_501 ?_
  refine LWP_i dl_502 ?_
  refine LWP_const dl_503 ⟨by decide, by decide⟩ ?_
  refine LWP_add dl_504 ?_
  refine LWP_ld dl_505 (jad h0 h1 hL (by decide) (by decide)).1 (jad h0 h1 hL (by decide) (by decide)).2 ?_
  refine LWP_cX (d := 100) (as := [.inl (lg xs i 1)]) (EX8_back (by decide) rfl hfX) (by decide) vkX8_back dl_506 (mg_in (tb3 (i := 183) rfl) rfl) rfl (in1 (as := [lg xs i 1])) (Or.inl ⟨_, rfl⟩) rfl (Nat.le_of_ble_eq_true rfl) ?_
  refine LWP_m dl_509 ?_
  refine LWP_s dl_510 ?_
  refine LWP_i dl_511 ?_
  refine LWP_const dl_512 ⟨by decide, by decide⟩ ?_
  refine LWP_add dl_513 ?_
  refine LWP_ld dl_514 (jad h0 h1 hL (by decide) (by decide)).1 (jad h0 h1 hL (by decide) (by decide)).2 ?_
  refine LWP_cM (d := 100) (as := [.inl (lg xs i 1)]) (EX9_back (by decide) rfl hfM) (by decide) vkX9_back dl_515 (mg_in (tb5 (i := 221) rfl) rfl) rfl (in1 (as := [lg xs i 1])) (Or.inl ⟨_, rfl⟩) rfl (Nat.le_of_ble_eq_true rfl) ?_
  exact LWP_eq dl_518 rfl kk
theorem LC_15 {l : Launch} {i : Int} {hX hM : mH} {L : Nat} {xs : Nat → Int32} {rv : Int} {hX' : mH} {hM' : mH} (h0 : 0 ≤ i) (h1 : i + 3 < L) (hL : L ≤ 256) (hfX : fX8_odds 0 (lg xs i 1) (lg xs i 2) hX = some (rv, hX')) (hfM : fX9_odds 0 (lg xs i 1) (lg xs i 2) hM = some (rv, hM')) (kk : LWP l 1104 [] i hX' hM' L xs) : LWP l 523 [] i hX hM L xs := by
  refine LWP_x dl_523 ?_
  refine LWP_s dl_524 ?_
  refine LWP_i dl_525 ?_
  refine LWP_const dl_526 ⟨by decide, by decide⟩ ?_
  refine LWP_add dl_527 ?_
  refine LWP_ld dl_528 (jad h0 h1 hL (by decide) (by decide)).1 (jad h0 h1 hL (by decide) (by decide)).2 ?_
  refine LWP_s dl_529 ?_
  refine LWP_i dl_530 ?_
  refine LWP_const dl_531 ⟨by decide, by decide⟩ ?_
  refine LWP_add dl_532 ?_
  refine LWP_ld dl_533 (jad h0 h1 hL (by decide) (by decide)).1 (jad h0 h1 hL (by decide) (by decide)).2 ?_
  refine LWP_cX (d := 100) (as := [.inl (lg xs i 1), .inl (lg xs i 2)]) (EX8_odds (by decide) rfl hfX) (by decide) vkX8_odds dl_534 (mg_in (tb3 (i := 187) rfl) rfl) rfl (in1 (as := [lg xs i 1, lg xs i 2])) (Or.inl ⟨_, rfl⟩) rfl (Nat.le_of_ble_eq_true rfl) ?_
  refine LWP_m dl_537 ?_
  refine LWP_s dl_538 ?_
  refine LWP_i dl_539 ?_
  refine LWP_const dl_540 ⟨by decide, by decide⟩ ?_
  refine LWP_add dl_541 ?_
  refine LWP_ld dl_542 (jad h0 h1 hL (by decide) (by decide)).1 (jad h0 h1 hL (by decide) (by decide)).2 ?_
  refine LWP_s dl_543 ?_
  refine LWP_i dl_544 ?_
  refine LWP_const dl_545 ⟨by decide, by decide⟩ ?_
  refine LWP_add dl_546 ?_
  refine LWP_ld dl_547 (jad h0 h1 hL (by decide) (by decide)).1 (jad h0 h1 hL (by decide) (by decide)).2 ?_
  refine LWP_cM (d := 100) (as := [.inl (lg xs i 1), .inl (lg xs i 2)]) (EX9_odds (by decide) rfl hfM) (by decide) vkX9_odds dl_548 (mg_in (tb5 (i := 225) rfl) rfl) rfl (in1 (as := [lg xs i 1, lg xs i 2])) (Or.inl ⟨_, rfl⟩) rfl (Nat.le_of_ble_eq_true rfl) ?_
  exact LWP_eq dl_551 rfl kk
theorem LC_16 {l : Launch} {i : Int} {hX hM : mH} {L : Nat} {xs : Nat → Int32} {rv : Int} {hX' : mH} {hM' : mH} (h0 : 0 ≤ i) (h1 : i + 3 < L) (hL : L ≤ 256) (hfX : fX8_mean 0 (lg xs i 1) hX = some (rv, hX')) (hfM : fX9_mean 0 (lg xs i 1) hM = some (rv, hM')) (kk : LWP l 1104 [] i hX' hM' L xs) : LWP l 556 [] i hX hM L xs := by
  refine LWP_x dl_556 ?_
  refine LWP_s dl_557 ?_
  refine LWP_i dl_558 ?_
  refine LWP_const dl_559 ⟨by decide, by decide⟩ ?_
  refine LWP_add dl_560 ?_
  refine LWP_ld dl_561 (jad h0 h1 hL (by decide) (by decide)).1 (jad h0 h1 hL (by decide) (by decide)).2 ?_
  refine LWP_cX (d := 100) (as := [.inl (lg xs i 1)]) (EX8_mean (by decide) rfl hfX) (by decide) vkX8_mean dl_562 (mg_in (tb3 (i := 239) rfl) rfl) rfl (in1 (as := [lg xs i 1])) (Or.inl ⟨_, rfl⟩) rfl (Nat.le_of_ble_eq_true rfl) ?_
  refine LWP_m dl_565 ?_
  refine LWP_s dl_566 ?_
  refine LWP_i dl_567 ?_
  refine LWP_const dl_568 ⟨by decide, by decide⟩ ?_
  refine LWP_add dl_569 ?_
  refine LWP_ld dl_570 (jad h0 h1 hL (by decide) (by decide)).1 (jad h0 h1 hL (by decide) (by decide)).2 ?_
  refine LWP_cM (d := 100) (as := [.inl (lg xs i 1)]) (EX9_mean (by decide) rfl hfM) (by decide) vkX9_mean dl_571 (mg_in (tb6 (i := 2) rfl) rfl) rfl (in1 (as := [lg xs i 1])) (Or.inl ⟨_, rfl⟩) rfl (Nat.le_of_ble_eq_true rfl) ?_
  exact LWP_eq dl_574 rfl kk
theorem LC_17 {l : Launch} {i : Int} {hX hM : mH} {L : Nat} {xs : Nat → Int32} {rv : Int} {hX' : mH} {hM' : mH} (h0 : 0 ≤ i) (h1 : i + 3 < L) (hL : L ≤ 256) (hfX : fX8_safe 0  hX = some (rv, hX')) (hfM : fX9_safe 0  hM = some (rv, hM')) (kk : LWP l 1104 [] i hX' hM' L xs) : LWP l 579 [] i hX hM L xs := by
  refine LWP_x dl_579 ?_
  refine LWP_cX (d := 100) (as := []) (EX8_safe (by decide) rfl hfX) (by decide) vkX8_safe dl_580 (mg_in (tb4 (i := 3) rfl) rfl) rfl (in1 (as := [])) (Or.inl ⟨_, rfl⟩) rfl (Nat.le_of_ble_eq_true rfl) ?_
  refine LWP_m dl_583 ?_
  refine LWP_cM (d := 100) (as := []) (EX9_safe (by decide) rfl hfM) (by decide) vkX9_safe dl_584 (mg_in (tb6 (i := 10) rfl) rfl) rfl (in1 (as := [])) (Or.inl ⟨_, rfl⟩) rfl (Nat.le_of_ble_eq_true rfl) ?_
  exact LWP_eq dl_587 rfl kk
theorem LC_18 {l : Launch} {i : Int} {hX hM : mH} {L : Nat} {xs : Nat → Int32} {rv : Int} {hX' : mH} {hM' : mH} (h0 : 0 ≤ i) (h1 : i + 3 < L) (hL : L ≤ 256) (hfX : fX8_best 0 (lg xs i 1) hX = some (rv, hX')) (hfM : fX9_best 0 (lg xs i 1) hM = some (rv, hM')) (kk : LWP l 1104 [] i hX' hM' L xs) : LWP l 592 [] i hX hM L xs := by
  refine LWP_x dl_592 ?_
  refine LWP_s dl_593 ?_
  refine LWP_i dl_594 ?_
  refine LWP_const dl_595 ⟨by decide, by decide⟩ ?_
  refine LWP_add dl_596 ?_
  refine LWP_ld dl_597 (jad h0 h1 hL (by decide) (by decide)).1 (jad h0 h1 hL (by decide) (by decide)).2 ?_
  refine LWP_cX (d := 100) (as := [.inl (lg xs i 1)]) (EX8_best (by decide) rfl hfX) (by decide) vkX8_best dl_598 (mg_in (tb4 (i := 11) rfl) rfl) rfl (in1 (as := [lg xs i 1])) (Or.inl ⟨_, rfl⟩) rfl (Nat.le_of_ble_eq_true rfl) ?_
  refine LWP_m dl_601 ?_
  refine LWP_s dl_602 ?_
  refine LWP_i dl_603 ?_
  refine LWP_const dl_604 ⟨by decide, by decide⟩ ?_
  refine LWP_add dl_605 ?_
  refine LWP_ld dl_606 (jad h0 h1 hL (by decide) (by decide)).1 (jad h0 h1 hL (by decide) (by decide)).2 ?_
  refine LWP_cM (d := 100) (as := [.inl (lg xs i 1)]) (EX9_best (by decide) rfl hfM) (by decide) vkX9_best dl_607 (mg_in (tb6 (i := 14) rfl) rfl) rfl (in1 (as := [lg xs i 1])) (Or.inl ⟨_, rfl⟩) rfl (Nat.le_of_ble_eq_true rfl) ?_
  exact LWP_eq dl_610 rfl kk
theorem LC_19 {l : Launch} {i : Int} {hX hM : mH} {L : Nat} {xs : Nat → Int32} {rv : Int} {hX' : mH} {hM' : mH} (h0 : 0 ≤ i) (h1 : i + 3 < L) (hL : L ≤ 256) (hfX : fX8_worst 0 (lg xs i 1) hX = some (rv, hX')) (hfM : fX9_worst 0 (lg xs i 1) hM = some (rv, hM')) (kk : LWP l 1104 [] i hX' hM' L xs) : LWP l 615 [] i hX hM L xs := by
  refine LWP_x dl_615 ?_
  refine LWP_s dl_616 ?_
  refine LWP_i dl_617 ?_
  refine LWP_const dl_618 ⟨by decide, by decide⟩ ?_
  refine LWP_add dl_619 ?_
  refine LWP_ld dl_620 (jad h0 h1 hL (by decide) (by decide)).1 (jad h0 h1 hL (by decide) (by decide)).2 ?_
  refine LWP_cX (d := 100) (as := [.inl (lg xs i 1)]) (EX8_worst (by decide) rfl hfX) (by decide) vkX8_worst dl_621 (mg_in (tb4 (i := 15) rfl) rfl) rfl (in1 (as := [lg xs i 1])) (Or.inl ⟨_, rfl⟩) rfl (Nat.le_of_ble_eq_true rfl) ?_
  refine LWP_m dl_624 ?_
  refine LWP_s dl_625 ?_
  refine LWP_i dl_626 ?_
  refine LWP_const dl_627 ⟨by decide, by decide⟩ ?_
  refine LWP_add dl_628 ?_
  refine LWP_ld dl_629 (jad h0 h1 hL (by decide) (by decide)).1 (jad h0 h1 hL (by decide) (by decide)).2 ?_
  refine LWP_cM (d := 100) (as := [.inl (lg xs i 1)]) (EX9_worst (by decide) rfl hfM) (by decide) vkX9_worst dl_630 (mg_in (tb6 (i := 22) rfl) rfl) rfl (in1 (as := [lg xs i 1])) (Or.inl ⟨_, rfl⟩) rfl (Nat.le_of_ble_eq_true rfl) ?_
  exact LWP_eq dl_633 rfl kk
theorem LC_20 {l : Launch} {i : Int} {hX hM : mH} {L : Nat} {xs : Nat → Int32} {rv : Int} {hX' : mH} {hM' : mH} (h0 : 0 ≤ i) (h1 : i + 3 < L) (hL : L ≤ 256) (hfX : fX8_makeReady 0 (lg xs i 1) (lg xs i 2) hX = some (rv, hX')) (hfM : fX9_makeReady 0 (lg xs i 1) (lg xs i 2) hM = some (rv, hM')) (kk : LWP l 1104 [] i hX' hM' L xs) : LWP l 638 [] i hX hM L xs := by
  refine LWP_x dl_638 ?_
  refine LWP_s dl_639 ?_
  refine LWP_i dl_640 ?_
  refine LWP_const dl_641 ⟨by decide, by decide⟩ ?_
  refine LWP_add dl_642 ?_
  refine LWP_ld dl_643 (jad h0 h1 hL (by decide) (by decide)).1 (jad h0 h1 hL (by decide) (by decide)).2 ?_
  refine LWP_s dl_644 ?_
  refine LWP_i dl_645 ?_
  refine LWP_const dl_646 ⟨by decide, by decide⟩ ?_
  refine LWP_add dl_647 ?_
  refine LWP_ld dl_648 (jad h0 h1 hL (by decide) (by decide)).1 (jad h0 h1 hL (by decide) (by decide)).2 ?_
  refine LWP_cX (d := 100) (as := [.inl (lg xs i 1), .inl (lg xs i 2)]) (EX8_makeReady (by decide) rfl hfX) (by decide) vkX8_makeReady dl_649 (mg_in (tb4 (i := 19) rfl) rfl) rfl (in1 (as := [lg xs i 1, lg xs i 2])) (Or.inl ⟨_, rfl⟩) rfl (Nat.le_of_ble_eq_true rfl) ?_
  refine LWP_m dl_652 ?_
  refine LWP_s dl_653 ?_
  refine LWP_i dl_654 ?_
  refine LWP_const dl_655 ⟨by decide, by decide⟩ ?_
  refine LWP_add dl_656 ?_
  refine LWP_ld dl_657 (jad h0 h1 hL (by decide) (by decide)).1 (jad h0 h1 hL (by decide) (by decide)).2 ?_
  refine LWP_s dl_658 ?_
  refine LWP_i dl_659 ?_
  refine LWP_const dl_660 ⟨by decide, by decide⟩ ?_
  refine LWP_add dl_661 ?_
  refine LWP_ld dl_662 (jad h0 h1 hL (by decide) (by decide)).1 (jad h0 h1 hL (by decide) (by decide)).2 ?_
  refine LWP_cM (d := 100) (as := [.inl (lg xs i 1), .inl (lg xs i 2)]) (EX9_makeReady (by decide) rfl hfM) (by decide) vkX9_makeReady dl_663 (mg_in (tb6 (i := 26) rfl) rfl) rfl (in1 (as := [lg xs i 1, lg xs i 2])) (Or.inl ⟨_, rfl⟩) rfl (Nat.le_of_ble_eq_true rfl) ?_
  exact LWP_eq dl_666 rfl kk
theorem LC_21 {l : Launch} {i : Int} {hX hM : mH} {L : Nat} {xs : Nat → Int32} {rv : Int} {hX' : mH} (h0 : 0 ≤ i) (h1 : i + 3 < L) (hL : L ≤ 256) (hfX : fX8_fair 0 (lg xs i 1) (lg xs i 2) (lg xs i 3) hX = some (rv, hX')) (hfM : fX9_fair 0 (lg xs i 1) (lg xs i 2) (lg xs i 3) hM = some rv) (kk : LWP l 1104 [] i hX' hM L xs) : LWP l 671 [] i hX hM L xs := by
  refine LWP_x dl_671 ?_
  refine LWP_s dl_672 ?_
  refine LWP_i dl_673 ?_
  refine LWP_const dl_674 ⟨by decide, by decide⟩ ?_
  refine LWP_add dl_675 ?_
  refine LWP_ld dl_676 (jad h0 h1 hL (by decide) (by decide)).1 (jad h0 h1 hL (by decide) (by decide)).2 ?_
  refine LWP_s dl_677 ?_
  refine LWP_i dl_678 ?_
  refine LWP_const dl_679 ⟨by decide, by decide⟩ ?_
  refine LWP_add dl_680 ?_
  refine LWP_ld dl_681 (jad h0 h1 hL (by decide) (by decide)).1 (jad h0 h1 hL (by decide) (by decide)).2 ?_
  refine LWP_s dl_682 ?_
  refine LWP_i dl_683 ?_
  refine LWP_const dl_684 ⟨by decide, by decide⟩ ?_
  refine LWP_add dl_685 ?_
  refine LWP_ld dl_686 (jad h0 h1 hL (by decide) (by decide)).1 (jad h0 h1 hL (by decide) (by decide)).2 ?_
  refine LWP_cX (d := 100) (as := [.inl (lg xs i 1), .inl (lg xs i 2), .inl (lg xs i 3)]) (EX8_fair (by decide) rfl hfX) (by decide) vkX8_fair dl_687 (mg_in (tb4 (i := 28) rfl) rfl) rfl (in1 (as := [lg xs i 1, lg xs i 2, lg xs i 3])) (Or.inl ⟨_, rfl⟩) rfl (Nat.le_of_ble_eq_true rfl) ?_
  refine LWP_m dl_690 ?_
  refine LWP_s dl_691 ?_
  refine LWP_i dl_692 ?_
  refine LWP_const dl_693 ⟨by decide, by decide⟩ ?_
  refine LWP_add dl_694 ?_
  refine LWP_ld dl_695 (jad h0 h1 hL (by decide) (by decide)).1 (jad h0 h1 hL (by decide) (by decide)).2 ?_
  refine LWP_s dl_696 ?_
  refine LWP_i dl_697 ?_
  refine LWP_const dl_698 ⟨by decide, by decide⟩ ?_
  refine LWP_add dl_699 ?_
  refine LWP_ld dl_700 (jad h0 h1 hL (by decide) (by decide)).1 (jad h0 h1 hL (by decide) (by decide)).2 ?_
  refine LWP_s dl_701 ?_
  refine LWP_i dl_702 ?_
  refine LWP_const dl_703 ⟨by decide, by decide⟩ ?_
  refine LWP_add dl_704 ?_
  refine LWP_ld dl_705 (jad h0 h1 hL (by decide) (by decide)).1 (jad h0 h1 hL (by decide) (by decide)).2 ?_
  refine LWP_cM (d := 100) (as := [.inl (lg xs i 1), .inl (lg xs i 2), .inl (lg xs i 3)]) (EX9_fair (by decide) rfl hfM) (by decide) vkX9_fair dl_706 (mg_in (tb6 (i := 31) rfl) rfl) rfl (in1 (as := [lg xs i 1, lg xs i 2, lg xs i 3])) (Or.inl ⟨_, rfl⟩) rfl (Nat.le_of_ble_eq_true rfl) ?_
  exact LWP_eq dl_709 rfl kk
theorem LC_22 {l : Launch} {i : Int} {hX hM : mH} {L : Nat} {xs : Nat → Int32} {rv : Int} {hX' : mH} (h0 : 0 ≤ i) (h1 : i + 3 < L) (hL : L ≤ 256) (hfX : fX8_beside 0 (lg xs i 1) (lg xs i 2) (lg xs i 3) hX = some (rv, hX')) (hfM : fX9_beside 0 (lg xs i 1) (lg xs i 2) (lg xs i 3) hM = some rv) (kk : LWP l 1104 [] i hX' hM L xs) : LWP l 714 [] i hX hM L xs := by
  refine LWP_x dl_714 ?_
  refine LWP_s dl_715 ?_
  refine LWP_i dl_716 ?_
  refine LWP_const dl_717 ⟨by decide, by decide⟩ ?_
  refine LWP_add dl_718 ?_
  refine LWP_ld dl_719 (jad h0 h1 hL (by decide) (by decide)).1 (jad h0 h1 hL (by decide) (by decide)).2 ?_
  refine LWP_s dl_720 ?_
  refine LWP_i dl_721 ?_
  refine LWP_const dl_722 ⟨by decide, by decide⟩ ?_
  refine LWP_add dl_723 ?_
  refine LWP_ld dl_724 (jad h0 h1 hL (by decide) (by decide)).1 (jad h0 h1 hL (by decide) (by decide)).2 ?_
  refine LWP_s dl_725 ?_
  refine LWP_i dl_726 ?_
  refine LWP_const dl_727 ⟨by decide, by decide⟩ ?_
  refine LWP_add dl_728 ?_
  refine LWP_ld dl_729 (jad h0 h1 hL (by decide) (by decide)).1 (jad h0 h1 hL (by decide) (by decide)).2 ?_
  refine LWP_cX (d := 100) (as := [.inl (lg xs i 1), .inl (lg xs i 2), .inl (lg xs i 3)]) (EX8_beside (by decide) rfl hfX) (by decide) vkX8_beside dl_730 (mg_in (tb4 (i := 36) rfl) rfl) rfl (in1 (as := [lg xs i 1, lg xs i 2, lg xs i 3])) (Or.inl ⟨_, rfl⟩) rfl (Nat.le_of_ble_eq_true rfl) ?_
  refine LWP_m dl_733 ?_
  refine LWP_s dl_734 ?_
  refine LWP_i dl_735 ?_
  refine LWP_const dl_736 ⟨by decide, by decide⟩ ?_
  refine LWP_add dl_737 ?_
  refine LWP_ld dl_738 (jad h0 h1 hL (by decide) (by decide)).1 (jad h0 h1 hL (by decide) (by decide)).2 ?_
  refine LWP_s dl_739 ?_
  refine LWP_i dl_740 ?_
  refine LWP_const dl_741 ⟨by decide, by decide⟩ ?_
  refine LWP_add dl_742 ?_
  refine LWP_ld dl_743 (jad h0 h1 hL (by decide) (by decide)).1 (jad h0 h1 hL (by decide) (by decide)).2 ?_
  refine LWP_s dl_744 ?_
  refine LWP_i dl_745 ?_
  refine LWP_const dl_746 ⟨by decide, by decide⟩ ?_
  refine LWP_add dl_747 ?_
  refine LWP_ld dl_748 (jad h0 h1 hL (by decide) (by decide)).1 (jad h0 h1 hL (by decide) (by decide)).2 ?_
  refine LWP_cM (d := 100) (as := [.inl (lg xs i 1), .inl (lg xs i 2), .inl (lg xs i 3)]) (EX9_beside (by decide) rfl hfM) (by decide) vkX9_beside dl_749 (mg_in (tb6 (i := 36) rfl) rfl) rfl (in1 (as := [lg xs i 1, lg xs i 2, lg xs i 3])) (Or.inl ⟨_, rfl⟩) rfl (Nat.le_of_ble_eq_true rfl) ?_
  exact LWP_eq dl_752 rfl kk
theorem LC_23 {l : Launch} {i : Int} {hX hM : mH} {L : Nat} {xs : Nat → Int32} {rv : Int} {hX' : mH} (h0 : 0 ≤ i) (h1 : i + 3 < L) (hL : L ≤ 256) (hfX : fX8_across 0 (lg xs i 1) (lg xs i 2) (lg xs i 3) hX = some (rv, hX')) (hfM : fX9_across 0 (lg xs i 1) (lg xs i 2) (lg xs i 3) hM = some rv) (kk : LWP l 1104 [] i hX' hM L xs) : LWP l 757 [] i hX hM L xs := by
  refine LWP_x dl_757 ?_
  refine LWP_s dl_758 ?_
  refine LWP_i dl_759 ?_
  refine LWP_const dl_760 ⟨by decide, by decide⟩ ?_
  refine LWP_add dl_761 ?_
  refine LWP_ld dl_762 (jad h0 h1 hL (by decide) (by decide)).1 (jad h0 h1 hL (by decide) (by decide)).2 ?_
  refine LWP_s dl_763 ?_
  refine LWP_i dl_764 ?_
  refine LWP_const dl_765 ⟨by decide, by decide⟩ ?_
  refine LWP_add dl_766 ?_
  refine LWP_ld dl_767 (jad h0 h1 hL (by decide) (by decide)).1 (jad h0 h1 hL (by decide) (by decide)).2 ?_
  refine LWP_s dl_768 ?_
  refine LWP_i dl_769 ?_
  refine LWP_const dl_770 ⟨by decide, by decide⟩ ?_
  refine LWP_add dl_771 ?_
  refine LWP_ld dl_772 (jad h0 h1 hL (by decide) (by decide)).1 (jad h0 h1 hL (by decide) (by decide)).2 ?_
  refine LWP_cX (d := 100) (as := [.inl (lg xs i 1), .inl (lg xs i 2), .inl (lg xs i 3)]) (EX8_across (by decide) rfl hfX) (by decide) vkX8_across dl_773 (mg_in (tb4 (i := 43) rfl) rfl) rfl (in1 (as := [lg xs i 1, lg xs i 2, lg xs i 3])) (Or.inl ⟨_, rfl⟩) rfl (Nat.le_of_ble_eq_true rfl) ?_
  refine LWP_m dl_776 ?_
  refine LWP_s dl_777 ?_
  refine LWP_i dl_778 ?_
  refine LWP_const dl_779 ⟨by decide, by decide⟩ ?_
  refine LWP_add dl_780 ?_
  refine LWP_ld dl_781 (jad h0 h1 hL (by decide) (by decide)).1 (jad h0 h1 hL (by decide) (by decide)).2 ?_
  refine LWP_s dl_782 ?_
  refine LWP_i dl_783 ?_
  refine LWP_const dl_784 ⟨by decide, by decide⟩ ?_
  refine LWP_add dl_785 ?_
  refine LWP_ld dl_786 (jad h0 h1 hL (by decide) (by decide)).1 (jad h0 h1 hL (by decide) (by decide)).2 ?_
  refine LWP_s dl_787 ?_
  refine LWP_i dl_788 ?_
  refine LWP_const dl_789 ⟨by decide, by decide⟩ ?_
  refine LWP_add dl_790 ?_
  refine LWP_ld dl_791 (jad h0 h1 hL (by decide) (by decide)).1 (jad h0 h1 hL (by decide) (by decide)).2 ?_
  refine LWP_cM (d := 100) (as := [.inl (lg xs i 1), .inl (lg xs i 2), .inl (lg xs i 3)]) (EX9_across (by decide) rfl hfM) (by decide) vkX9_across dl_792 (mg_in (tb6 (i := 40) rfl) rfl) rfl (in1 (as := [lg xs i 1, lg xs i 2, lg xs i 3])) (Or.inl ⟨_, rfl⟩) rfl (Nat.le_of_ble_eq_true rfl) ?_
  exact LWP_eq dl_795 rfl kk
theorem LC_24 {l : Launch} {i : Int} {hX hM : mH} {L : Nat} {xs : Nat → Int32} {rv : Int} {hX' : mH} (h0 : 0 ≤ i) (h1 : i + 3 < L) (hL : L ≤ 256) (hfX : fX8_waits 0 (lg xs i 1) hX = some (rv, hX')) (hfM : fX9_waits 0 (lg xs i 1) hM = some rv) (kk : LWP l 1104 [] i hX' hM L xs) : LWP l 800 [] i hX hM L xs := by
  refine LWP_x dl_800 ?_
  refine LWP_s dl_801 ?_
  refine LWP_i dl_802 ?_
  refine LWP_const dl_803 ⟨by decide, by decide⟩ ?_
  refine LWP_add dl_804 ?_
  refine LWP_ld dl_805 (jad h0 h1 hL (by decide) (by decide)).1 (jad h0 h1 hL (by decide) (by decide)).2 ?_
  refine LWP_cX (d := 100) (as := [.inl (lg xs i 1)]) (EX8_waits (by decide) rfl hfX) (by decide) vkX8_waits dl_806 (mg_in (tb4 (i := 47) rfl) rfl) rfl (in1 (as := [lg xs i 1])) (Or.inl ⟨_, rfl⟩) rfl (Nat.le_of_ble_eq_true rfl) ?_
  refine LWP_m dl_809 ?_
  refine LWP_s dl_810 ?_
  refine LWP_i dl_811 ?_
  refine LWP_const dl_812 ⟨by decide, by decide⟩ ?_
  refine LWP_add dl_813 ?_
  refine LWP_ld dl_814 (jad h0 h1 hL (by decide) (by decide)).1 (jad h0 h1 hL (by decide) (by decide)).2 ?_
  refine LWP_cM (d := 100) (as := [.inl (lg xs i 1)]) (EX9_waits (by decide) rfl hfM) (by decide) vkX9_waits dl_815 (mg_in (tb6 (i := 44) rfl) rfl) rfl (in1 (as := [lg xs i 1])) (Or.inl ⟨_, rfl⟩) rfl (Nat.le_of_ble_eq_true rfl) ?_
  exact LWP_eq dl_818 rfl kk
theorem LC_25 {l : Launch} {i : Int} {hX hM : mH} {L : Nat} {xs : Nat → Int32} {rv : Int} {hX' : mH} {hM' : mH} (h0 : 0 ≤ i) (h1 : i + 3 < L) (hL : L ≤ 256) (hfX : fX8_bet 0 (lg xs i 1) (lg xs i 2) (lg xs i 3) hX = some (rv, hX')) (hfM : fX9_bet 0 (lg xs i 1) (lg xs i 2) (lg xs i 3) hM = some (rv, hM')) (kk : LWP l 1104 [] i hX' hM' L xs) : LWP l 823 [] i hX hM L xs := by
  refine LWP_x dl_823 ?_
  refine LWP_s dl_824 ?_
  refine LWP_i dl_825 ?_
  refine LWP_const dl_826 ⟨by decide, by decide⟩ ?_
  refine LWP_add dl_827 ?_
  refine LWP_ld dl_828 (jad h0 h1 hL (by decide) (by decide)).1 (jad h0 h1 hL (by decide) (by decide)).2 ?_
  refine LWP_s dl_829 ?_
  refine LWP_i dl_830 ?_
  refine LWP_const dl_831 ⟨by decide, by decide⟩ ?_
  refine LWP_add dl_832 ?_
  refine LWP_ld dl_833 (jad h0 h1 hL (by decide) (by decide)).1 (jad h0 h1 hL (by decide) (by decide)).2 ?_
  refine LWP_s dl_834 ?_
  refine LWP_i dl_835 ?_
  refine LWP_const dl_836 ⟨by decide, by decide⟩ ?_
  refine LWP_add dl_837 ?_
  refine LWP_ld dl_838 (jad h0 h1 hL (by decide) (by decide)).1 (jad h0 h1 hL (by decide) (by decide)).2 ?_
  refine LWP_cX (d := 100) (as := [.inl (lg xs i 1), .inl (lg xs i 2), .inl (lg xs i 3)]) (EX8_bet (by decide) rfl hfX) (by decide) vkX8_bet dl_839 (mg_in (tb4 (i := 55) rfl) rfl) rfl (in1 (as := [lg xs i 1, lg xs i 2, lg xs i 3])) (Or.inl ⟨_, rfl⟩) rfl (Nat.le_of_ble_eq_true rfl) ?_
  refine LWP_m dl_842 ?_
  refine LWP_s dl_843 ?_
  refine LWP_i dl_844 ?_
  refine LWP_const dl_845 ⟨by decide, by decide⟩ ?_
  refine LWP_add dl_846 ?_
  refine LWP_ld dl_847 (jad h0 h1 hL (by decide) (by decide)).1 (jad h0 h1 hL (by decide) (by decide)).2 ?_
  refine LWP_s dl_848 ?_
  refine LWP_i dl_849 ?_
  refine LWP_const dl_850 ⟨by decide, by decide⟩ ?_
  refine LWP_add dl_851 ?_
  refine LWP_ld dl_852 (jad h0 h1 hL (by decide) (by decide)).1 (jad h0 h1 hL (by decide) (by decide)).2 ?_
  refine LWP_s dl_853 ?_
  refine LWP_i dl_854 ?_
  refine LWP_const dl_855 ⟨by decide, by decide⟩ ?_
  refine LWP_add dl_856 ?_
  refine LWP_ld dl_857 (jad h0 h1 hL (by decide) (by decide)).1 (jad h0 h1 hL (by decide) (by decide)).2 ?_
  refine LWP_cM (d := 100) (as := [.inl (lg xs i 1), .inl (lg xs i 2), .inl (lg xs i 3)]) (EX9_bet (by decide) rfl hfM) (by decide) vkX9_bet dl_858 (mg_in (tb6 (i := 48) rfl) rfl) rfl (in1 (as := [lg xs i 1, lg xs i 2, lg xs i 3])) (Or.inl ⟨_, rfl⟩) rfl (Nat.le_of_ble_eq_true rfl) ?_
  exact LWP_eq dl_861 rfl kk
theorem LC_26 {l : Launch} {i : Int} {hX hM : mH} {L : Nat} {xs : Nat → Int32} {rv : Int} {hX' : mH} {hM' : mH} (h0 : 0 ≤ i) (h1 : i + 3 < L) (hL : L ≤ 256) (hfX : fX8_call 0  hX = some (rv, hX')) (hfM : fX9_call 0  hM = some (rv, hM')) (kk : LWP l 1104 [] i hX' hM' L xs) : LWP l 866 [] i hX hM L xs := by
  refine LWP_x dl_866 ?_
  refine LWP_cX (d := 100) (as := []) (EX8_call (by decide) rfl hfX) (by decide) vkX8_call dl_867 (mg_in (tb4 (i := 63) rfl) rfl) rfl (in1 (as := [])) (Or.inl ⟨_, rfl⟩) rfl (Nat.le_of_ble_eq_true rfl) ?_
  refine LWP_m dl_870 ?_
  refine LWP_cM (d := 100) (as := []) (EX9_call (by decide) rfl hfM) (by decide) vkX9_call dl_871 (mg_in (tb6 (i := 53) rfl) rfl) rfl (in1 (as := [])) (Or.inl ⟨_, rfl⟩) rfl (Nat.le_of_ble_eq_true rfl) ?_
  exact LWP_eq dl_874 rfl kk
theorem LC_27 {l : Launch} {i : Int} {hX hM : mH} {L : Nat} {xs : Nat → Int32} {rv : Int} {hX' : mH} (h0 : 0 ≤ i) (h1 : i + 3 < L) (hL : L ≤ 256) (hfX : fX8_sure 0 (lg xs i 1) hX = some (rv, hX')) (hfM : fX9_sure 0 (lg xs i 1) hM = some rv) (kk : LWP l 1104 [] i hX' hM L xs) : LWP l 879 [] i hX hM L xs := by
  refine LWP_x dl_879 ?_
  refine LWP_s dl_880 ?_
  refine LWP_i dl_881 ?_
  refine LWP_const dl_882 ⟨by decide, by decide⟩ ?_
  refine LWP_add dl_883 ?_
  refine LWP_ld dl_884 (jad h0 h1 hL (by decide) (by decide)).1 (jad h0 h1 hL (by decide) (by decide)).2 ?_
  refine LWP_cX (d := 100) (as := [.inl (lg xs i 1)]) (EX8_sure (by decide) rfl hfX) (by decide) vkX8_sure dl_885 (mg_in (tb4 (i := 67) rfl) rfl) rfl (in1 (as := [lg xs i 1])) (Or.inl ⟨_, rfl⟩) rfl (Nat.le_of_ble_eq_true rfl) ?_
  refine LWP_m dl_888 ?_
  refine LWP_s dl_889 ?_
  refine LWP_i dl_890 ?_
  refine LWP_const dl_891 ⟨by decide, by decide⟩ ?_
  refine LWP_add dl_892 ?_
  refine LWP_ld dl_893 (jad h0 h1 hL (by decide) (by decide)).1 (jad h0 h1 hL (by decide) (by decide)).2 ?_
  refine LWP_cM (d := 100) (as := [.inl (lg xs i 1)]) (EX9_sure (by decide) rfl hfM) (by decide) vkX9_sure dl_894 (mg_in (tb6 (i := 57) rfl) rfl) rfl (in1 (as := [lg xs i 1])) (Or.inl ⟨_, rfl⟩) rfl (Nat.le_of_ble_eq_true rfl) ?_
  exact LWP_eq dl_897 rfl kk
theorem LC_28 {l : Launch} {i : Int} {hX hM : mH} {L : Nat} {xs : Nat → Int32} {rv : Int} {hX' : mH} {hM' : mH} (h0 : 0 ≤ i) (h1 : i + 3 < L) (hL : L ≤ 256) (hfX : fX8_known 0 (lg xs i 1) (lg xs i 2) (lg xs i 3) hX = some (rv, hX')) (hfM : fX9_known 0 (lg xs i 1) (lg xs i 2) (lg xs i 3) hM = some (rv, hM')) (kk : LWP l 1104 [] i hX' hM' L xs) : LWP l 902 [] i hX hM L xs := by
  refine LWP_x dl_902 ?_
  refine LWP_s dl_903 ?_
  refine LWP_i dl_904 ?_
  refine LWP_const dl_905 ⟨by decide, by decide⟩ ?_
  refine LWP_add dl_906 ?_
  refine LWP_ld dl_907 (jad h0 h1 hL (by decide) (by decide)).1 (jad h0 h1 hL (by decide) (by decide)).2 ?_
  refine LWP_s dl_908 ?_
  refine LWP_i dl_909 ?_
  refine LWP_const dl_910 ⟨by decide, by decide⟩ ?_
  refine LWP_add dl_911 ?_
  refine LWP_ld dl_912 (jad h0 h1 hL (by decide) (by decide)).1 (jad h0 h1 hL (by decide) (by decide)).2 ?_
  refine LWP_s dl_913 ?_
  refine LWP_i dl_914 ?_
  refine LWP_const dl_915 ⟨by decide, by decide⟩ ?_
  refine LWP_add dl_916 ?_
  refine LWP_ld dl_917 (jad h0 h1 hL (by decide) (by decide)).1 (jad h0 h1 hL (by decide) (by decide)).2 ?_
  refine LWP_cX (d := 100) (as := [.inl (lg xs i 1), .inl (lg xs i 2), .inl (lg xs i 3)]) (EX8_known (by decide) rfl hfX) (by decide) vkX8_known dl_918 (mg_in (tb4 (i := 87) rfl) rfl) rfl (in1 (as := [lg xs i 1, lg xs i 2, lg xs i 3])) (Or.inl ⟨_, rfl⟩) rfl (Nat.le_of_ble_eq_true rfl) ?_
  refine LWP_m dl_921 ?_
  refine LWP_s dl_922 ?_
  refine LWP_i dl_923 ?_
  refine LWP_const dl_924 ⟨by decide, by decide⟩ ?_
  refine LWP_add dl_925 ?_
  refine LWP_ld dl_926 (jad h0 h1 hL (by decide) (by decide)).1 (jad h0 h1 hL (by decide) (by decide)).2 ?_
  refine LWP_s dl_927 ?_
  refine LWP_i dl_928 ?_
  refine LWP_const dl_929 ⟨by decide, by decide⟩ ?_
  refine LWP_add dl_930 ?_
  refine LWP_ld dl_931 (jad h0 h1 hL (by decide) (by decide)).1 (jad h0 h1 hL (by decide) (by decide)).2 ?_
  refine LWP_s dl_932 ?_
  refine LWP_i dl_933 ?_
  refine LWP_const dl_934 ⟨by decide, by decide⟩ ?_
  refine LWP_add dl_935 ?_
  refine LWP_ld dl_936 (jad h0 h1 hL (by decide) (by decide)).1 (jad h0 h1 hL (by decide) (by decide)).2 ?_
  refine LWP_cM (d := 100) (as := [.inl (lg xs i 1), .inl (lg xs i 2), .inl (lg xs i 3)]) (EX9_known (by decide) rfl hfM) (by decide) vkX9_known dl_937 (mg_in (tb6 (i := 65) rfl) rfl) rfl (in1 (as := [lg xs i 1, lg xs i 2, lg xs i 3])) (Or.inl ⟨_, rfl⟩) rfl (Nat.le_of_ble_eq_true rfl) ?_
  exact LWP_eq dl_940 rfl kk
theorem LC_29 {l : Launch} {i : Int} {hX hM : mH} {L : Nat} {xs : Nat → Int32} {rv : Int} {hX' : mH} {hM' : mH} (h0 : 0 ≤ i) (h1 : i + 3 < L) (hL : L ≤ 256) (hfX : fX8_forget 0  hX = some (rv, hX')) (hfM : fX9_forget 0  hM = some (rv, hM')) (kk : LWP l 1104 [] i hX' hM' L xs) : LWP l 945 [] i hX hM L xs := by
  refine LWP_x dl_945 ?_
  refine LWP_cX (d := 100) (as := []) (EX8_forget (by decide) rfl hfX) (by decide) vkX8_forget dl_946 (mg_in (tb4 (i := 95) rfl) rfl) rfl (in1 (as := [])) (Or.inl ⟨_, rfl⟩) rfl (Nat.le_of_ble_eq_true rfl) ?_
  refine LWP_m dl_949 ?_
  refine LWP_cM (d := 100) (as := []) (EX9_forget (by decide) rfl hfM) (by decide) vkX9_forget dl_950 (mg_in (tb6 (i := 69) rfl) rfl) rfl (in1 (as := [])) (Or.inl ⟨_, rfl⟩) rfl (Nat.le_of_ble_eq_true rfl) ?_
  exact LWP_eq dl_953 rfl kk
theorem LC_30 {l : Launch} {i : Int} {hX hM : mH} {L : Nat} {xs : Nat → Int32} {rv : Int} {hX' : mH} (h0 : 0 ≤ i) (h1 : i + 3 < L) (hL : L ≤ 256) (hfX : fX8_fit 0 (lg xs i 1) hX = some (rv, hX')) (hfM : fX9_fit 0 (lg xs i 1) hM = some rv) (kk : LWP l 1104 [] i hX' hM L xs) : LWP l 958 [] i hX hM L xs := by
  refine LWP_x dl_958 ?_
  refine LWP_s dl_959 ?_
  refine LWP_i dl_960 ?_
  refine LWP_const dl_961 ⟨by decide, by decide⟩ ?_
  refine LWP_add dl_962 ?_
  refine LWP_ld dl_963 (jad h0 h1 hL (by decide) (by decide)).1 (jad h0 h1 hL (by decide) (by decide)).2 ?_
  refine LWP_cX (d := 100) (as := [.inl (lg xs i 1)]) (EX8_fit (by decide) rfl hfX) (by decide) vkX8_fit dl_964 (mg_in (tb4 (i := 99) rfl) rfl) rfl (in1 (as := [lg xs i 1])) (Or.inl ⟨_, rfl⟩) rfl (Nat.le_of_ble_eq_true rfl) ?_
  refine LWP_m dl_967 ?_
  refine LWP_s dl_968 ?_
  refine LWP_i dl_969 ?_
  refine LWP_const dl_970 ⟨by decide, by decide⟩ ?_
  refine LWP_add dl_971 ?_
  refine LWP_ld dl_972 (jad h0 h1 hL (by decide) (by decide)).1 (jad h0 h1 hL (by decide) (by decide)).2 ?_
  refine LWP_cM (d := 100) (as := [.inl (lg xs i 1)]) (EX9_fit (by decide) rfl hfM) (by decide) vkX9_fit dl_973 (mg_in (tb6 (i := 73) rfl) rfl) rfl (in1 (as := [lg xs i 1])) (Or.inl ⟨_, rfl⟩) rfl (Nat.le_of_ble_eq_true rfl) ?_
  exact LWP_eq dl_976 rfl kk
theorem LC_31 {l : Launch} {i : Int} {hX hM : mH} {L : Nat} {xs : Nat → Int32} {rv : Int} {hX' : mH} (h0 : 0 ≤ i) (h1 : i + 3 < L) (hL : L ≤ 256) (hfX : fX8_at 0 (lg xs i 1) hX = some (rv, hX')) (hfM : fX9_at 0 (lg xs i 1) hM = some rv) (kk : LWP l 1104 [] i hX' hM L xs) : LWP l 981 [] i hX hM L xs := by
  refine LWP_x dl_981 ?_
  refine LWP_s dl_982 ?_
  refine LWP_i dl_983 ?_
  refine LWP_const dl_984 ⟨by decide, by decide⟩ ?_
  refine LWP_add dl_985 ?_
  refine LWP_ld dl_986 (jad h0 h1 hL (by decide) (by decide)).1 (jad h0 h1 hL (by decide) (by decide)).2 ?_
  refine LWP_cX (d := 100) (as := [.inl (lg xs i 1)]) (EX8_at (by decide) rfl hfX) (by decide) vkX8_at dl_987 (mg_in (tb4 (i := 122) rfl) rfl) rfl (in1 (as := [lg xs i 1])) (Or.inl ⟨_, rfl⟩) rfl (Nat.le_of_ble_eq_true rfl) ?_
  refine LWP_m dl_990 ?_
  refine LWP_s dl_991 ?_
  refine LWP_i dl_992 ?_
  refine LWP_const dl_993 ⟨by decide, by decide⟩ ?_
  refine LWP_add dl_994 ?_
  refine LWP_ld dl_995 (jad h0 h1 hL (by decide) (by decide)).1 (jad h0 h1 hL (by decide) (by decide)).2 ?_
  refine LWP_cM (d := 100) (as := [.inl (lg xs i 1)]) (EX9_at (by decide) rfl hfM) (by decide) vkX9_at dl_996 (mg_in (tb6 (i := 86) rfl) rfl) rfl (in1 (as := [lg xs i 1])) (Or.inl ⟨_, rfl⟩) rfl (Nat.le_of_ble_eq_true rfl) ?_
  exact LWP_eq dl_999 rfl kk
theorem LC_32 {l : Launch} {i : Int} {hX hM : mH} {L : Nat} {xs : Nat → Int32} {rv : Int} {hX' : mH} (h0 : 0 ≤ i) (h1 : i + 3 < L) (hL : L ≤ 256) (hfX : fX8_doubt 0 (lg xs i 1) (lg xs i 2) hX = some (rv, hX')) (hfM : fX9_doubt 0 (lg xs i 1) (lg xs i 2) hM = some rv) (kk : LWP l 1104 [] i hX' hM L xs) : LWP l 1004 [] i hX hM L xs := by
  refine LWP_x dl_1004 ?_
  refine LWP_s dl_1005 ?_
  refine LWP_i dl_1006 ?_
  refine LWP_const dl_1007 ⟨by decide, by decide⟩ ?_
  refine LWP_add dl_1008 ?_
  refine LWP_ld dl_1009 (jad h0 h1 hL (by decide) (by decide)).1 (jad h0 h1 hL (by decide) (by decide)).2 ?_
  refine LWP_s dl_1010 ?_
  refine LWP_i dl_1011 ?_
  refine LWP_const dl_1012 ⟨by decide, by decide⟩ ?_
  refine LWP_add dl_1013 ?_
  refine LWP_ld dl_1014 (jad h0 h1 hL (by decide) (by decide)).1 (jad h0 h1 hL (by decide) (by decide)).2 ?_
  refine LWP_cX (d := 100) (as := [.inl (lg xs i 1), .inl (lg xs i 2)]) (EX8_doubt (by decide) rfl hfX) (by decide) vkX8_doubt dl_1015 (mg_in (tb4 (i := 132) rfl) rfl) rfl (in1 (as := [lg xs i 1, lg xs i 2])) (Or.inr ⟨_, rfl⟩) rfl (Nat.le_of_ble_eq_true rfl) ?_
  refine LWP_m dl_1018 ?_
  refine LWP_s dl_1019 ?_
  refine LWP_i dl_1020 ?_
  refine LWP_const dl_1021 ⟨by decide, by decide⟩ ?_
  refine LWP_add dl_1022 ?_
  refine LWP_ld dl_1023 (jad h0 h1 hL (by decide) (by decide)).1 (jad h0 h1 hL (by decide) (by decide)).2 ?_
  refine LWP_s dl_1024 ?_
  refine LWP_i dl_1025 ?_
  refine LWP_const dl_1026 ⟨by decide, by decide⟩ ?_
  refine LWP_add dl_1027 ?_
  refine LWP_ld dl_1028 (jad h0 h1 hL (by decide) (by decide)).1 (jad h0 h1 hL (by decide) (by decide)).2 ?_
  refine LWP_cM (d := 100) (as := [.inl (lg xs i 1), .inl (lg xs i 2)]) (EX9_doubt (by decide) rfl hfM) (by decide) vkX9_doubt dl_1029 (mg_in (tb6 (i := 90) rfl) rfl) rfl (in1 (as := [lg xs i 1, lg xs i 2])) (Or.inr ⟨_, rfl⟩) rfl (Nat.le_of_ble_eq_true rfl) ?_
  refine LWP_cmp dl_1032 ?_
  exact LWP_eq0 dl_1033 rfl (by unfold kcmp; rw [if_neg (Int.lt_irrefl _), if_pos rfl]) kk
theorem LC_33 {l : Launch} {i : Int} {hX hM : mH} {L : Nat} {xs : Nat → Int32} {rv : Int} (h0 : 0 ≤ i) (h1 : i + 3 < L) (hL : L ≤ 256) (hfX : fX8_loose 0 (lg xs i 1) (lg xs i 2) (lg xs i 3) hX = some rv) (hfM : fX9_loose 0 (lg xs i 1) (lg xs i 2) (lg xs i 3) hM = some rv) (kk : LWP l 1104 [] i hX hM L xs) : LWP l 1038 [] i hX hM L xs := by
  refine LWP_x dl_1038 ?_
  refine LWP_s dl_1039 ?_
  refine LWP_i dl_1040 ?_
  refine LWP_const dl_1041 ⟨by decide, by decide⟩ ?_
  refine LWP_add dl_1042 ?_
  refine LWP_ld dl_1043 (jad h0 h1 hL (by decide) (by decide)).1 (jad h0 h1 hL (by decide) (by decide)).2 ?_
  refine LWP_s dl_1044 ?_
  refine LWP_i dl_1045 ?_
  refine LWP_const dl_1046 ⟨by decide, by decide⟩ ?_
  refine LWP_add dl_1047 ?_
  refine LWP_ld dl_1048 (jad h0 h1 hL (by decide) (by decide)).1 (jad h0 h1 hL (by decide) (by decide)).2 ?_
  refine LWP_s dl_1049 ?_
  refine LWP_i dl_1050 ?_
  refine LWP_const dl_1051 ⟨by decide, by decide⟩ ?_
  refine LWP_add dl_1052 ?_
  refine LWP_ld dl_1053 (jad h0 h1 hL (by decide) (by decide)).1 (jad h0 h1 hL (by decide) (by decide)).2 ?_
  refine LWP_cX (d := 100) (as := [.inl (lg xs i 1), .inl (lg xs i 2), .inl (lg xs i 3)]) (EX8_loose (by decide) rfl hfX) (by decide) vkX8_loose dl_1054 (mg_in (tb4 (i := 149) rfl) rfl) rfl (in1 (as := [lg xs i 1, lg xs i 2, lg xs i 3])) (Or.inl ⟨_, rfl⟩) rfl (Nat.le_of_ble_eq_true rfl) ?_
  refine LWP_m dl_1057 ?_
  refine LWP_s dl_1058 ?_
  refine LWP_i dl_1059 ?_
  refine LWP_const dl_1060 ⟨by decide, by decide⟩ ?_
  refine LWP_add dl_1061 ?_
  refine LWP_ld dl_1062 (jad h0 h1 hL (by decide) (by decide)).1 (jad h0 h1 hL (by decide) (by decide)).2 ?_
  refine LWP_s dl_1063 ?_
  refine LWP_i dl_1064 ?_
  refine LWP_const dl_1065 ⟨by decide, by decide⟩ ?_
  refine LWP_add dl_1066 ?_
  refine LWP_ld dl_1067 (jad h0 h1 hL (by decide) (by decide)).1 (jad h0 h1 hL (by decide) (by decide)).2 ?_
  refine LWP_s dl_1068 ?_
  refine LWP_i dl_1069 ?_
  refine LWP_const dl_1070 ⟨by decide, by decide⟩ ?_
  refine LWP_add dl_1071 ?_
  refine LWP_ld dl_1072 (jad h0 h1 hL (by decide) (by decide)).1 (jad h0 h1 hL (by decide) (by decide)).2 ?_
  refine LWP_cM (d := 100) (as := [.inl (lg xs i 1), .inl (lg xs i 2), .inl (lg xs i 3)]) (EX9_loose (by decide) rfl hfM) (by decide) vkX9_loose dl_1073 (mg_in (tb6 (i := 100) rfl) rfl) rfl (in1 (as := [lg xs i 1, lg xs i 2, lg xs i 3])) (Or.inl ⟨_, rfl⟩) rfl (Nat.le_of_ble_eq_true rfl) ?_
  exact LWP_eq dl_1076 rfl kk
theorem LC_34 {l : Launch} {i : Int} {hX hM : mH} {L : Nat} {xs : Nat → Int32} {rv : Int} (h0 : 0 ≤ i) (h1 : i + 3 < L) (hL : L ≤ 256) (hfX : fX8_count 0 (lg xs i 1) hX = some rv) (hfM : fX9_count 0 (lg xs i 1) hM = some rv) (kk : LWP l 1104 [] i hX hM L xs) : LWP l 1081 [] i hX hM L xs := by
  refine LWP_x dl_1081 ?_
  refine LWP_s dl_1082 ?_
  refine LWP_i dl_1083 ?_
  refine LWP_const dl_1084 ⟨by decide, by decide⟩ ?_
  refine LWP_add dl_1085 ?_
  refine LWP_ld dl_1086 (jad h0 h1 hL (by decide) (by decide)).1 (jad h0 h1 hL (by decide) (by decide)).2 ?_
  refine LWP_cX (d := 100) (as := [.inl (lg xs i 1)]) (EX8_count (by decide) rfl hfX) (by decide) vkX8_count dl_1087 (mg_in (tb4 (i := 167) rfl) rfl) rfl (in1 (as := [lg xs i 1])) (Or.inl ⟨_, rfl⟩) rfl (Nat.le_of_ble_eq_true rfl) ?_
  refine LWP_m dl_1090 ?_
  refine LWP_s dl_1091 ?_
  refine LWP_i dl_1092 ?_
  refine LWP_const dl_1093 ⟨by decide, by decide⟩ ?_
  refine LWP_add dl_1094 ?_
  refine LWP_ld dl_1095 (jad h0 h1 hL (by decide) (by decide)).1 (jad h0 h1 hL (by decide) (by decide)).2 ?_
  refine LWP_cM (d := 100) (as := [.inl (lg xs i 1)]) (EX9_count (by decide) rfl hfM) (by decide) vkX9_count dl_1096 (mg_in (tb6 (i := 108) rfl) rfl) rfl (in1 (as := [lg xs i 1])) (Or.inl ⟨_, rfl⟩) rfl (Nat.le_of_ble_eq_true rfl) ?_
  exact LWP_eq dl_1099 rfl kk
def PS_0 (Rel : mH → mH → Prop) : Prop := ∀ hX hM : mH, Rel hX hM → ∀ a : Int, inI a → ∃ (rv : Int) (hX' : mH) (hM' : mH), fX8_write 0 a hX = some (rv, hX') ∧ fX9_write 0 a hM = some (rv, hM') ∧ Rel hX' hM'
def PS_1 (Rel : mH → mH → Prop) : Prop := ∀ hX hM : mH, Rel hX hM → ∃ (rv : Int) (hX' : mH) (hM' : mH), fX8_erase 0  hX = some (rv, hX') ∧ fX9_erase 0  hM = some (rv, hM') ∧ Rel hX' hM'
def PS_2 (Rel : mH → mH → Prop) : Prop := ∀ hX hM : mH, Rel hX hM → ∃ (rv : Int) (hX' : mH) (hM' : mH), fX8_fault 0  hX = some (rv, hX') ∧ fX9_fault 0  hM = some (rv, hM') ∧ Rel hX' hM'
def PS_3 (Rel : mH → mH → Prop) : Prop := ∀ hX hM : mH, Rel hX hM → ∃ (rv : Int) (hX' : mH) (hM' : mH), fX8_calendar 0  hX = some (rv, hX') ∧ fX9_calendar 0  hM = some (rv, hM') ∧ Rel hX' hM'
def PS_4 (Rel : mH → mH → Prop) : Prop := ∀ hX hM : mH, Rel hX hM → ∀ a : Int, inI a → ∀ b : Int, inI b → ∃ (rv : Int) (hX' : mH), fX8_day 0 a b hX = some (rv, hX') ∧ fX9_day 0 a b hM = some rv ∧ Rel hX' hM
def PS_5 (Rel : mH → mH → Prop) : Prop := ∀ hX hM : mH, Rel hX hM → ∀ a : Int, inI a → ∀ b : Int, inI b → ∃ (rv : Int), fX8_work 0 a b hX = some rv ∧ fX9_work 0 a b hM = some rv ∧ Rel hX hM
def PS_6 (Rel : mH → mH → Prop) : Prop := ∀ hX hM : mH, Rel hX hM → ∀ a : Int, inI a → ∀ b : Int, inI b → ∃ (rv : Int), fX8_as 0 a b hX = some rv ∧ fX9_as 0 a b hM = some rv ∧ Rel hX hM
def PS_7 (Rel : mH → mH → Prop) : Prop := ∀ hX hM : mH, Rel hX hM → ∃ (rv : Int) (hX' : mH), fX8_orders 0  hX = some (rv, hX') ∧ fX9_orders 0  hM = some rv ∧ Rel hX' hM
def PS_8 (Rel : mH → mH → Prop) : Prop := ∀ hX hM : mH, Rel hX hM → ∀ a : Int, inI a → ∀ b : Int, inI b → ∃ (rv : Int) (hX' : mH), fX8_order 0 a b hX = some (rv, hX') ∧ fX9_order 0 a b hM = some rv ∧ Rel hX' hM
def PS_9 (Rel : mH → mH → Prop) : Prop := ∀ hX hM : mH, Rel hX hM → ∀ a : Int, inI a → ∃ (rv : Int) (hX' : mH), fX8_which 0 a hX = some (rv, hX') ∧ fX9_which 0 a hM = some rv ∧ Rel hX' hM
def PS_10 (Rel : mH → mH → Prop) : Prop := ∀ hX hM : mH, Rel hX hM → ∀ a : Int, inI a → ∃ (rv : Int) (hX' : mH) (hM' : mH), fX8_deal 0 a hX = some (rv, hX') ∧ fX9_deal 0 a hM = some (rv, hM') ∧ Rel hX' hM'
def PS_11 (Rel : mH → mH → Prop) : Prop := ∀ hX hM : mH, Rel hX hM → ∀ a : Int, inI a → ∃ (rv : Int) (hX' : mH) (hM' : mH), fX8_ready 0 a hX = some (rv, hX') ∧ fX9_ready 0 a hM = some (rv, hM') ∧ Rel hX' hM'
def PS_12 (Rel : mH → mH → Prop) : Prop := ∀ hX hM : mH, Rel hX hM → ∃ (rv : Int) (hX' : mH) (hM' : mH), fX8_undo 0  hX = some (rv, hX') ∧ fX9_undo 0  hM = some (rv, hM') ∧ Rel hX' hM'
def PS_13 (Rel : mH → mH → Prop) : Prop := ∀ hX hM : mH, Rel hX hM → ∀ a : Int, inI a → ∃ (rv : Int) (hX' : mH) (hM' : mH), fX8_keep 0 a hX = some (rv, hX') ∧ fX9_keep 0 a hM = some (rv, hM') ∧ Rel hX' hM'
def PS_14 (Rel : mH → mH → Prop) : Prop := ∀ hX hM : mH, Rel hX hM → ∀ a : Int, inI a → ∃ (rv : Int) (hX' : mH) (hM' : mH), fX8_back 0 a hX = some (rv, hX') ∧ fX9_back 0 a hM = some (rv, hM') ∧ Rel hX' hM'
def PS_15 (Rel : mH → mH → Prop) : Prop := ∀ hX hM : mH, Rel hX hM → ∀ a : Int, inI a → ∀ b : Int, inI b → ∃ (rv : Int) (hX' : mH) (hM' : mH), fX8_odds 0 a b hX = some (rv, hX') ∧ fX9_odds 0 a b hM = some (rv, hM') ∧ Rel hX' hM'
def PS_16 (Rel : mH → mH → Prop) : Prop := ∀ hX hM : mH, Rel hX hM → ∀ a : Int, inI a → ∃ (rv : Int) (hX' : mH) (hM' : mH), fX8_mean 0 a hX = some (rv, hX') ∧ fX9_mean 0 a hM = some (rv, hM') ∧ Rel hX' hM'
def PS_17 (Rel : mH → mH → Prop) : Prop := ∀ hX hM : mH, Rel hX hM → ∃ (rv : Int) (hX' : mH) (hM' : mH), fX8_safe 0  hX = some (rv, hX') ∧ fX9_safe 0  hM = some (rv, hM') ∧ Rel hX' hM'
def PS_18 (Rel : mH → mH → Prop) : Prop := ∀ hX hM : mH, Rel hX hM → ∀ a : Int, inI a → ∃ (rv : Int) (hX' : mH) (hM' : mH), fX8_best 0 a hX = some (rv, hX') ∧ fX9_best 0 a hM = some (rv, hM') ∧ Rel hX' hM'
def PS_19 (Rel : mH → mH → Prop) : Prop := ∀ hX hM : mH, Rel hX hM → ∀ a : Int, inI a → ∃ (rv : Int) (hX' : mH) (hM' : mH), fX8_worst 0 a hX = some (rv, hX') ∧ fX9_worst 0 a hM = some (rv, hM') ∧ Rel hX' hM'
def PS_20 (Rel : mH → mH → Prop) : Prop := ∀ hX hM : mH, Rel hX hM → ∀ a : Int, inI a → ∀ b : Int, inI b → ∃ (rv : Int) (hX' : mH) (hM' : mH), fX8_makeReady 0 a b hX = some (rv, hX') ∧ fX9_makeReady 0 a b hM = some (rv, hM') ∧ Rel hX' hM'
def PS_21 (Rel : mH → mH → Prop) : Prop := ∀ hX hM : mH, Rel hX hM → ∀ a : Int, inI a → ∀ b : Int, inI b → ∀ c : Int, inI c → ∃ (rv : Int) (hX' : mH), fX8_fair 0 a b c hX = some (rv, hX') ∧ fX9_fair 0 a b c hM = some rv ∧ Rel hX' hM
def PS_22 (Rel : mH → mH → Prop) : Prop := ∀ hX hM : mH, Rel hX hM → ∀ a : Int, inI a → ∀ b : Int, inI b → ∀ c : Int, inI c → ∃ (rv : Int) (hX' : mH), fX8_beside 0 a b c hX = some (rv, hX') ∧ fX9_beside 0 a b c hM = some rv ∧ Rel hX' hM
def PS_23 (Rel : mH → mH → Prop) : Prop := ∀ hX hM : mH, Rel hX hM → ∀ a : Int, inI a → ∀ b : Int, inI b → ∀ c : Int, inI c → ∃ (rv : Int) (hX' : mH), fX8_across 0 a b c hX = some (rv, hX') ∧ fX9_across 0 a b c hM = some rv ∧ Rel hX' hM
def PS_24 (Rel : mH → mH → Prop) : Prop := ∀ hX hM : mH, Rel hX hM → ∀ a : Int, inI a → ∃ (rv : Int) (hX' : mH), fX8_waits 0 a hX = some (rv, hX') ∧ fX9_waits 0 a hM = some rv ∧ Rel hX' hM
def PS_25 (Rel : mH → mH → Prop) : Prop := ∀ hX hM : mH, Rel hX hM → ∀ a : Int, inI a → ∀ b : Int, inI b → ∀ c : Int, inI c → ∃ (rv : Int) (hX' : mH) (hM' : mH), fX8_bet 0 a b c hX = some (rv, hX') ∧ fX9_bet 0 a b c hM = some (rv, hM') ∧ Rel hX' hM'
def PS_26 (Rel : mH → mH → Prop) : Prop := ∀ hX hM : mH, Rel hX hM → ∃ (rv : Int) (hX' : mH) (hM' : mH), fX8_call 0  hX = some (rv, hX') ∧ fX9_call 0  hM = some (rv, hM') ∧ Rel hX' hM'
def PS_27 (Rel : mH → mH → Prop) : Prop := ∀ hX hM : mH, Rel hX hM → ∀ a : Int, inI a → ∃ (rv : Int) (hX' : mH), fX8_sure 0 a hX = some (rv, hX') ∧ fX9_sure 0 a hM = some rv ∧ Rel hX' hM
def PS_28 (Rel : mH → mH → Prop) : Prop := ∀ hX hM : mH, Rel hX hM → ∀ a : Int, inI a → ∀ b : Int, inI b → ∀ c : Int, inI c → ∃ (rv : Int) (hX' : mH) (hM' : mH), fX8_known 0 a b c hX = some (rv, hX') ∧ fX9_known 0 a b c hM = some (rv, hM') ∧ Rel hX' hM'
def PS_29 (Rel : mH → mH → Prop) : Prop := ∀ hX hM : mH, Rel hX hM → ∃ (rv : Int) (hX' : mH) (hM' : mH), fX8_forget 0  hX = some (rv, hX') ∧ fX9_forget 0  hM = some (rv, hM') ∧ Rel hX' hM'
def PS_30 (Rel : mH → mH → Prop) : Prop := ∀ hX hM : mH, Rel hX hM → ∀ a : Int, inI a → ∃ (rv : Int) (hX' : mH), fX8_fit 0 a hX = some (rv, hX') ∧ fX9_fit 0 a hM = some rv ∧ Rel hX' hM
def PS_31 (Rel : mH → mH → Prop) : Prop := ∀ hX hM : mH, Rel hX hM → ∀ a : Int, inI a → ∃ (rv : Int) (hX' : mH), fX8_at 0 a hX = some (rv, hX') ∧ fX9_at 0 a hM = some rv ∧ Rel hX' hM
def PS_32 (Rel : mH → mH → Prop) : Prop := ∀ hX hM : mH, Rel hX hM → ∀ a : Int, inI a → ∀ b : Int, inI b → ∃ (rv : Int) (hX' : mH), fX8_doubt 0 a b hX = some (rv, hX') ∧ fX9_doubt 0 a b hM = some rv ∧ Rel hX' hM
def PS_33 (Rel : mH → mH → Prop) : Prop := ∀ hX hM : mH, Rel hX hM → ∀ a : Int, inI a → ∀ b : Int, inI b → ∀ c : Int, inI c → ∃ (rv : Int), fX8_loose 0 a b c hX = some rv ∧ fX9_loose 0 a b c hM = some rv ∧ Rel hX hM
def PS_34 (Rel : mH → mH → Prop) : Prop := ∀ hX hM : mH, Rel hX hM → ∀ a : Int, inI a → ∃ (rv : Int), fX8_count 0 a hX = some rv ∧ fX9_count 0 a hM = some rv ∧ Rel hX hM
theorem law_body {Rel : mH → mH → Prop} (H0 : PS_0 Rel) (H1 : PS_1 Rel) (H2 : PS_2 Rel) (H3 : PS_3 Rel) (H4 : PS_4 Rel) (H5 : PS_5 Rel) (H6 : PS_6 Rel) (H7 : PS_7 Rel) (H8 : PS_8 Rel) (H9 : PS_9 Rel) (H10 : PS_10 Rel) (H11 : PS_11 Rel) (H12 : PS_12 Rel) (H13 : PS_13 Rel) (H14 : PS_14 Rel) (H15 : PS_15 Rel) (H16 : PS_16 Rel) (H17 : PS_17 Rel) (H18 : PS_18 Rel) (H19 : PS_19 Rel) (H20 : PS_20 Rel) (H21 : PS_21 Rel) (H22 : PS_22 Rel) (H23 : PS_23 Rel) (H24 : PS_24 Rel) (H25 : PS_25 Rel) (H26 : PS_26 Rel) (H27 : PS_27 Rel) (H28 : PS_28 Rel) (H29 : PS_29 Rel) (H30 : PS_30 Rel) (H31 : PS_31 Rel) (H32 : PS_32 Rel) (H33 : PS_33 Rel) (H34 : PS_34 Rel) {l : Launch} {i : Int} {hX hM : mH} {L : Nat} {xs : Nat → Int32} (hR : Rel hX hM) (h0 : 0 ≤ i) (h1 : i + 3 < L) (hL : L ≤ 256) (kk : ∀ hX' hM', Rel hX' hM' → LWP l 1104 [] i hX' hM' L xs) : LWP l 26 [] i hX hM L xs := by
  refine LWP_s dl_26 ?_
  refine LWP_i dl_27 ?_
  refine LWP_ld dl_28 h0 (by omega) ?_
  refine LWP_bip dl_29 ⟨by decide, by decide⟩ (by decide) ?_
  refine LWP_and dl_31 ?_
  have hin : ∀ j : Int, inI (lg xs i j) := fun j => inI_of _
  generalize jand (xs i.toNat).toInt 63 = o
  rcases (show (o < 0 ∨ 34 < o) ∨ o = 0 ∨ o = 1 ∨ o = 2 ∨ o = 3 ∨ o = 4 ∨ o = 5 ∨ o = 6 ∨ o = 7 ∨ o = 8 ∨ o = 9 ∨ o = 10 ∨ o = 11 ∨ o = 12 ∨ o = 13 ∨ o = 14 ∨ o = 15 ∨ o = 16 ∨ o = 17 ∨ o = 18 ∨ o = 19 ∨ o = 20 ∨ o = 21 ∨ o = 22 ∨ o = 23 ∨ o = 24 ∨ o = 25 ∨ o = 26 ∨ o = 27 ∨ o = 28 ∨ o = 29 ∨ o = 30 ∨ o = 31 ∨ o = 32 ∨ o = 33 ∨ o = 34 by omega) with ho | rfl | rfl | rfl | rfl | rfl | rfl | rfl | rfl | rfl | rfl | rfl | rfl | rfl | rfl | rfl | rfl | rfl | rfl | rfl | rfl | rfl | rfl | rfl | rfl | rfl | rfl | rfl | rfl | rfl | rfl | rfl | rfl | rfl | rfl | rfl
  · exact LWP_tabO dl_32 ho rfl (kk _ _ hR)
  · obtain ⟨rv, hX', hM', e1, e2, e3⟩ := H0 hX hM hR _ (hin 1)
    exact LWP_tabI dl_32 (by decide) (by decide) rfl rfl (LC_0 h0 h1 hL e1 e2 (kk _ _ e3))
  · obtain ⟨rv, hX', hM', e1, e2, e3⟩ := H1 hX hM hR 
    exact LWP_tabI dl_32 (by decide) (by decide) rfl rfl (LC_1 h0 h1 hL e1 e2 (kk _ _ e3))
  · obtain ⟨rv, hX', hM', e1, e2, e3⟩ := H2 hX hM hR 
    exact LWP_tabI dl_32 (by decide) (by decide) rfl rfl (LC_2 h0 h1 hL e1 e2 (kk _ _ e3))
  · obtain ⟨rv, hX', hM', e1, e2, e3⟩ := H3 hX hM hR 
    exact LWP_tabI dl_32 (by decide) (by decide) rfl rfl (LC_3 h0 h1 hL e1 e2 (kk _ _ e3))
  · obtain ⟨rv, hX', e1, e2, e3⟩ := H4 hX hM hR _ (hin 1) _ (hin 2)
    exact LWP_tabI dl_32 (by decide) (by decide) rfl rfl (LC_4 h0 h1 hL e1 e2 (kk _ _ e3))
  · obtain ⟨rv, e1, e2, e3⟩ := H5 hX hM hR _ (hin 1) _ (hin 2)
    exact LWP_tabI dl_32 (by decide) (by decide) rfl rfl (LC_5 h0 h1 hL e1 e2 (kk _ _ e3))
  · obtain ⟨rv, e1, e2, e3⟩ := H6 hX hM hR _ (hin 1) _ (hin 2)
    exact LWP_tabI dl_32 (by decide) (by decide) rfl rfl (LC_6 h0 h1 hL e1 e2 (kk _ _ e3))
  · obtain ⟨rv, hX', e1, e2, e3⟩ := H7 hX hM hR 
    exact LWP_tabI dl_32 (by decide) (by decide) rfl rfl (LC_7 h0 h1 hL e1 e2 (kk _ _ e3))
  · obtain ⟨rv, hX', e1, e2, e3⟩ := H8 hX hM hR _ (hin 1) _ (hin 2)
    exact LWP_tabI dl_32 (by decide) (by decide) rfl rfl (LC_8 h0 h1 hL e1 e2 (kk _ _ e3))
  · obtain ⟨rv, hX', e1, e2, e3⟩ := H9 hX hM hR _ (hin 1)
    exact LWP_tabI dl_32 (by decide) (by decide) rfl rfl (LC_9 h0 h1 hL e1 e2 (kk _ _ e3))
  · obtain ⟨rv, hX', hM', e1, e2, e3⟩ := H10 hX hM hR _ (hin 1)
    exact LWP_tabI dl_32 (by decide) (by decide) rfl rfl (LC_10 h0 h1 hL e1 e2 (kk _ _ e3))
  · obtain ⟨rv, hX', hM', e1, e2, e3⟩ := H11 hX hM hR _ (hin 1)
    exact LWP_tabI dl_32 (by decide) (by decide) rfl rfl (LC_11 h0 h1 hL e1 e2 (kk _ _ e3))
  · obtain ⟨rv, hX', hM', e1, e2, e3⟩ := H12 hX hM hR 
    exact LWP_tabI dl_32 (by decide) (by decide) rfl rfl (LC_12 h0 h1 hL e1 e2 (kk _ _ e3))
  · obtain ⟨rv, hX', hM', e1, e2, e3⟩ := H13 hX hM hR _ (hin 1)
    exact LWP_tabI dl_32 (by decide) (by decide) rfl rfl (LC_13 h0 h1 hL e1 e2 (kk _ _ e3))
  · obtain ⟨rv, hX', hM', e1, e2, e3⟩ := H14 hX hM hR _ (hin 1)
    exact LWP_tabI dl_32 (by decide) (by decide) rfl rfl (LC_14 h0 h1 hL e1 e2 (kk _ _ e3))
  · obtain ⟨rv, hX', hM', e1, e2, e3⟩ := H15 hX hM hR _ (hin 1) _ (hin 2)
    exact LWP_tabI dl_32 (by decide) (by decide) rfl rfl (LC_15 h0 h1 hL e1 e2 (kk _ _ e3))
  · obtain ⟨rv, hX', hM', e1, e2, e3⟩ := H16 hX hM hR _ (hin 1)
    exact LWP_tabI dl_32 (by decide) (by decide) rfl rfl (LC_16 h0 h1 hL e1 e2 (kk _ _ e3))
  · obtain ⟨rv, hX', hM', e1, e2, e3⟩ := H17 hX hM hR 
    exact LWP_tabI dl_32 (by decide) (by decide) rfl rfl (LC_17 h0 h1 hL e1 e2 (kk _ _ e3))
  · obtain ⟨rv, hX', hM', e1, e2, e3⟩ := H18 hX hM hR _ (hin 1)
    exact LWP_tabI dl_32 (by decide) (by decide) rfl rfl (LC_18 h0 h1 hL e1 e2 (kk _ _ e3))
  · obtain ⟨rv, hX', hM', e1, e2, e3⟩ := H19 hX hM hR _ (hin 1)
    exact LWP_tabI dl_32 (by decide) (by decide) rfl rfl (LC_19 h0 h1 hL e1 e2 (kk _ _ e3))
  · obtain ⟨rv, hX', hM', e1, e2, e3⟩ := H20 hX hM hR _ (hin 1) _ (hin 2)
    exact LWP_tabI dl_32 (by decide) (by decide) rfl rfl (LC_20 h0 h1 hL e1 e2 (kk _ _ e3))
  · obtain ⟨rv, hX', e1, e2, e3⟩ := H21 hX hM hR _ (hin 1) _ (hin 2) _ (hin 3)
    exact LWP_tabI dl_32 (by decide) (by decide) rfl rfl (LC_21 h0 h1 hL e1 e2 (kk _ _ e3))
  · obtain ⟨rv, hX', e1, e2, e3⟩ := H22 hX hM hR _ (hin 1) _ (hin 2) _ (hin 3)
    exact LWP_tabI dl_32 (by decide) (by decide) rfl rfl (LC_22 h0 h1 hL e1 e2 (kk _ _ e3))
  · obtain ⟨rv, hX', e1, e2, e3⟩ := H23 hX hM hR _ (hin 1) _ (hin 2) _ (hin 3)
    exact LWP_tabI dl_32 (by decide) (by decide) rfl rfl (LC_23 h0 h1 hL e1 e2 (kk _ _ e3))
  · obtain ⟨rv, hX', e1, e2, e3⟩ := H24 hX hM hR _ (hin 1)
    exact LWP_tabI dl_32 (by decide) (by decide) rfl rfl (LC_24 h0 h1 hL e1 e2 (kk _ _ e3))
  · obtain ⟨rv, hX', hM', e1, e2, e3⟩ := H25 hX hM hR _ (hin 1) _ (hin 2) _ (hin 3)
    exact LWP_tabI dl_32 (by decide) (by decide) rfl rfl (LC_25 h0 h1 hL e1 e2 (kk _ _ e3))
  · obtain ⟨rv, hX', hM', e1, e2, e3⟩ := H26 hX hM hR 
    exact LWP_tabI dl_32 (by decide) (by decide) rfl rfl (LC_26 h0 h1 hL e1 e2 (kk _ _ e3))
  · obtain ⟨rv, hX', e1, e2, e3⟩ := H27 hX hM hR _ (hin 1)
    exact LWP_tabI dl_32 (by decide) (by decide) rfl rfl (LC_27 h0 h1 hL e1 e2 (kk _ _ e3))
  · obtain ⟨rv, hX', hM', e1, e2, e3⟩ := H28 hX hM hR _ (hin 1) _ (hin 2) _ (hin 3)
    exact LWP_tabI dl_32 (by decide) (by decide) rfl rfl (LC_28 h0 h1 hL e1 e2 (kk _ _ e3))
  · obtain ⟨rv, hX', hM', e1, e2, e3⟩ := H29 hX hM hR 
    exact LWP_tabI dl_32 (by decide) (by decide) rfl rfl (LC_29 h0 h1 hL e1 e2 (kk _ _ e3))
  · obtain ⟨rv, hX', e1, e2, e3⟩ := H30 hX hM hR _ (hin 1)
    exact LWP_tabI dl_32 (by decide) (by decide) rfl rfl (LC_30 h0 h1 hL e1 e2 (kk _ _ e3))
  · obtain ⟨rv, hX', e1, e2, e3⟩ := H31 hX hM hR _ (hin 1)
    exact LWP_tabI dl_32 (by decide) (by decide) rfl rfl (LC_31 h0 h1 hL e1 e2 (kk _ _ e3))
  · obtain ⟨rv, hX', e1, e2, e3⟩ := H32 hX hM hR _ (hin 1) _ (hin 2)
    exact LWP_tabI dl_32 (by decide) (by decide) rfl rfl (LC_32 h0 h1 hL e1 e2 (kk _ _ e3))
  · obtain ⟨rv, e1, e2, e3⟩ := H33 hX hM hR _ (hin 1) _ (hin 2) _ (hin 3)
    exact LWP_tabI dl_32 (by decide) (by decide) rfl rfl (LC_33 h0 h1 hL e1 e2 (kk _ _ e3))
  · obtain ⟨rv, e1, e2, e3⟩ := H34 hX hM hR _ (hin 1)
    exact LWP_tabI dl_32 (by decide) (by decide) rfl rfl (LC_34 h0 h1 hL e1 e2 (kk _ _ e3))
theorem law_loop {Rel : mH → mH → Prop} (H0 : PS_0 Rel) (H1 : PS_1 Rel) (H2 : PS_2 Rel) (H3 : PS_3 Rel) (H4 : PS_4 Rel) (H5 : PS_5 Rel) (H6 : PS_6 Rel) (H7 : PS_7 Rel) (H8 : PS_8 Rel) (H9 : PS_9 Rel) (H10 : PS_10 Rel) (H11 : PS_11 Rel) (H12 : PS_12 Rel) (H13 : PS_13 Rel) (H14 : PS_14 Rel) (H15 : PS_15 Rel) (H16 : PS_16 Rel) (H17 : PS_17 Rel) (H18 : PS_18 Rel) (H19 : PS_19 Rel) (H20 : PS_20 Rel) (H21 : PS_21 Rel) (H22 : PS_22 Rel) (H23 : PS_23 Rel) (H24 : PS_24 Rel) (H25 : PS_25 Rel) (H26 : PS_26 Rel) (H27 : PS_27 Rel) (H28 : PS_28 Rel) (H29 : PS_29 Rel) (H30 : PS_30 Rel) (H31 : PS_31 Rel) (H32 : PS_32 Rel) (H33 : PS_33 Rel) (H34 : PS_34 Rel) {l : Launch} {L : Nat} {xs : Nat → Int32} (hL : L ≤ 256) : ∀ (n : Nat) (i : Int) (hX hM : mH), Rel hX hM → 0 ≤ i → i ≤ 256 → (L : Int) - i < n → LWP l 18 [] i hX hM L xs := by
  intro n
  induction n with
  | zero =>
    intro i hX hM hR h0 h256 hn
    refine LWP_i dl_18 ?_
    refine LWP_s dl_19 ?_
    refine LWP_len hL dl_20 ?_
    refine LWP_const dl_21 ⟨by decide, by decide⟩ ?_
    refine LWP_sub dl_22 ?_
    refine LWP_gt dl_23 rfl (fun c => ?_) (fun c => ?_)
    · exfalso
      unfold jsub at c
      rw [i32_eq (by omega) (by omega)] at c
      omega
    · refine LWP_const dl_1110 ⟨by decide, by decide⟩ ?_
      exact LWP_end dl_1111
  | succ n ih =>
    intro i hX hM hR h0 h256 hn
    refine LWP_i dl_18 ?_
    refine LWP_s dl_19 ?_
    refine LWP_len hL dl_20 ?_
    refine LWP_const dl_21 ⟨by decide, by decide⟩ ?_
    refine LWP_sub dl_22 ?_
    refine LWP_gt dl_23 rfl (fun c => ?_) (fun c => ?_)
    · unfold jsub at c
      rw [i32_eq (by omega) (by omega)] at c
      refine law_body H0 H1 H2 H3 H4 H5 H6 H7 H8 H9 H10 H11 H12 H13 H14 H15 H16 H17 H18 H19 H20 H21 H22 H23 H24 H25 H26 H27 H28 H29 H30 H31 H32 H33 H34 hR h0 (by omega) hL (fun hX' hM' hR' => ?_)
      refine LWP_inc dl_1104 ?_
      refine LWP_goto dl_1107 rfl ?_
      have e : jadd i 4 = i + 4 := by
        unfold jadd
        exact i32_eq (by omega) (by omega)
      rw [e]
      exact ih (i + 4) hX' hM' hR' (by omega) (by omega) (by omega)
    · refine LWP_const dl_1110 ⟨by decide, by decide⟩ ?_
      exact LWP_end dl_1111
