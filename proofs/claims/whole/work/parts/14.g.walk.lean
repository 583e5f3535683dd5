theorem okL_law_b1504 {N d : Nat} {L : Nat} {xs : Nat → Int32} {k18 : Int32 → FF → Option (Int32 × FF)} {l3 : Int32} {F : FF} {res : Int32 × FF} (hL : L < 2 ^ 31) (hk18 : ∀ (x3 : Int32) (F : FF), k18 x3 F = some res → FV cL_law 4 RL (d + 10) (some .boolean) (some (L, xs)) 18 [.float 1000, .ref 0, .ref 82, .int x3] [] F (RI res)) (h : fL_law_b1504 N L xs k18 l3 F = some res) : FV cL_law 4 RL (d + 10) (some .boolean) (some (L, xs)) 1504 [.float 1000, .ref 0, .ref 82, .int l3] [] F (RI res) := by
  unfold fL_law_b1504 at h
  refine V_iinc dL_law_1504 (v := l3 + 6) rfl (by rw [ci_6]) rfl (ls' := [.float 1000, .ref 0, .ref 82, .int (l3 + 6)]) rfl rfl ?_
  refine V_goto dL_law_1507 rfl ?_
  exact hk18 (l3 + 6) F h
theorem okL_law_L18 {N d : Nat} {L : Nat} {xs : Nat → Int32} {res : Int32 × FF} (hL : L < 2 ^ 31) : ∀ (n : Nat) (l3 : Int32) (F : FF), fL_law_L18 N L xs n l3 F = some res → FV cL_law 4 RL (d + 10) (some .boolean) (some (L, xs)) 18 [.float 1000, .ref 0, .ref 82, .int l3] [] F (RI res) := by
  intro n
  induction n with
  | zero =>
    intro l3 F h
    rw [fL_law_L18.eq_1] at h
    cases h
  | succ n ih =>
    intro l3 F h
    rw [fL_law_L18.eq_2] at h
    refine V_iload_n dL_law_18 rfl rfl rfl ?_
    refine V_sload_n dL_law_19 rfl rfl rfl ?_
    refine V_slen rfl dL_law_20 rfl ?_
    refine V_bipush dL_law_21 cb_6 rfl ?_
    refine V_isub dL_law_23 rfl ?_
    refine A_icmp_gt dL_law_24 rfl rfl h (fun h => ?_) (fun h => ?_)
    · refine V_iconst dL_law_1510 ci_1 rfl ?_
      exact A_creturn dL_law_1511 rfl (by decide) h
    · refine V_sload_n dL_law_27 rfl rfl rfl ?_
      refine V_iload_n dL_law_28 rfl rfl rfl ?_
      refine A_sld rfl hL dL_law_29 rfl h fun v1 h => ?_
      refine V_bipush dL_law_30 cb_63 rfl ?_
      refine V_iand dL_law_32 rfl ?_
      refine A_if h (fun c h => ?_) (fun c0 h => ?_)
      · rw [c]
        refine V_tableIn dL_law_33 (by decide) (by decide) rfl rfl ?_
        refine V_aload_n dL_law_216 rfl rfl rfl ?_
        refine V_sload_n dL_law_217 rfl rfl rfl ?_
        refine V_iload_n dL_law_218 rfl rfl rfl ?_
        refine V_iconst dL_law_219 ci_1 rfl ?_
        refine V_iadd dL_law_220 rfl ?_
        refine A_sld rfl hL dL_law_221 rfl h fun v2 h => ?_
        refine A_callC (ci := 6) eI dL_law_222 cl_L_13 (by decide) rfl rfl (As := [.int v2]) (st := []) rfl rfl (Nat.le_of_ble_eq_true rfl) rfl h (fun _ _ h => cp_X6_feed (d := d + 8) h) fun v3 F1 h => ?_
        refine V_aload_n dL_law_225 rfl rfl rfl ?_
        refine V_sload_n dL_law_226 rfl rfl rfl ?_
        refine V_iload_n dL_law_227 rfl rfl rfl ?_
        refine V_iconst dL_law_228 ci_1 rfl ?_
        refine V_iadd dL_law_229 rfl ?_
        refine A_sld rfl hL dL_law_230 rfl h fun v4 h => ?_
        refine A_callC (ci := 7) eI dL_law_231 cl_L_17 (by decide) rfl rfl (As := [.int v4]) (st := [.int v3]) rfl rfl (Nat.le_of_ble_eq_true rfl) rfl h (fun _ _ h => cp_X7_feed (d := d + 8) h) fun v5 F2 h => ?_
        refine A_icmp_eq dL_law_234 rfl rfl h (fun h => ?_) (fun h => ?_)
        · exact okL_law_b1504 hL (fun x3 F h => ih x3 F h) h
        · refine V_iconst dL_law_237 ci_0 rfl ?_
          exact A_creturn dL_law_238 rfl (by decide) h
      refine A_if h (fun c h => ?_) (fun c1 h => ?_)
      · rw [c]
        refine V_tableIn dL_law_33 (by decide) (by decide) rfl rfl ?_
        refine V_aload_n dL_law_239 rfl rfl rfl ?_
        refine V_sload_n dL_law_240 rfl rfl rfl ?_
        refine V_iload_n dL_law_241 rfl rfl rfl ?_
        refine V_iconst dL_law_242 ci_1 rfl ?_
        refine V_iadd dL_law_243 rfl ?_
        refine A_sld rfl hL dL_law_244 rfl h fun v6 h => ?_
        refine A_callC (ci := 6) eI dL_law_245 cl_L_18 (by decide) rfl rfl (As := [.int v6]) (st := []) rfl rfl (Nat.le_of_ble_eq_true rfl) rfl h (fun _ _ h => cp_X6_end (d := d + 8) h) fun v7 F3 h => ?_
        refine V_aload_n dL_law_248 rfl rfl rfl ?_
        refine V_sload_n dL_law_249 rfl rfl rfl ?_
        refine V_iload_n dL_law_250 rfl rfl rfl ?_
        refine V_iconst dL_law_251 ci_1 rfl ?_
        refine V_iadd dL_law_252 rfl ?_
        refine A_sld rfl hL dL_law_253 rfl h fun v8 h => ?_
        refine A_callC (ci := 7) eI dL_law_254 cl_L_21 (by decide) rfl rfl (As := [.int v8]) (st := [.int v7]) rfl rfl (Nat.le_of_ble_eq_true rfl) rfl h (fun _ _ h => cp_X7_end (d := d + 8) h) fun v9 F4 h => ?_
        refine A_icmp_eq dL_law_257 rfl rfl h (fun h => ?_) (fun h => ?_)
        · exact okL_law_b1504 hL (fun x3 F h => ih x3 F h) h
        · refine V_iconst dL_law_260 ci_0 rfl ?_
          exact A_creturn dL_law_261 rfl (by decide) h
      refine A_if h (fun c h => ?_) (fun c2 h => ?_)
      · rw [c]
        refine V_tableIn dL_law_33 (by decide) (by decide) rfl rfl ?_
        refine V_aload_n dL_law_262 rfl rfl rfl ?_
        refine A_callC (ci := 6) eI dL_law_263 cl_L_22 (by decide) rfl rfl (As := []) (st := []) rfl rfl (Nat.le_of_ble_eq_true rfl) rfl h (fun _ _ h => cp_X6_text (d := d) h) fun v10 F5 h => ?_
        refine V_aload_n dL_law_266 rfl rfl rfl ?_
        refine A_callC (ci := 7) eI dL_law_267 cl_L_26 (by decide) rfl rfl (As := []) (st := [.int v10]) rfl rfl (Nat.le_of_ble_eq_true rfl) rfl h (fun _ _ h => cp_X7_text (d := d + 3) h) fun v11 F6 h => ?_
        refine A_icmp_eq dL_law_270 rfl rfl h (fun h => ?_) (fun h => ?_)
        · exact okL_law_b1504 hL (fun x3 F h => ih x3 F h) h
        · refine V_iconst dL_law_273 ci_0 rfl ?_
          exact A_creturn dL_law_274 rfl (by decide) h
      refine A_if h (fun c h => ?_) (fun c3 h => ?_)
      · rw [c]
        refine V_tableIn dL_law_33 (by decide) (by decide) rfl rfl ?_
        refine V_aload_n dL_law_275 rfl rfl rfl ?_
        refine P_callV (ci := 6) dL_law_276 cl_L_27 (by decide) rfl rfl (cq_X6_fault (d := d + 9)) (As := []) (st := []) rfl rfl (Nat.le_of_ble_eq_true rfl) rfl ?_
        refine V_aload_n dL_law_279 rfl rfl rfl ?_
        refine P_callV (ci := 7) dL_law_280 cl_L_30 (by decide) rfl rfl (cq_X7_fault (d := d + 9)) (As := []) (st := [.int (pX6_fault F)]) rfl rfl (Nat.le_of_ble_eq_true rfl) rfl ?_
        refine A_icmp_eq dL_law_283 rfl rfl h (fun h => ?_) (fun h => ?_)
        · exact okL_law_b1504 hL (fun x3 F h => ih x3 F h) h
        · refine V_iconst dL_law_286 ci_0 rfl ?_
          exact A_creturn dL_law_287 rfl (by decide) h
      refine A_if h (fun c h => ?_) (fun c4 h => ?_)
      · rw [c]
        refine V_tableIn dL_law_33 (by decide) (by decide) rfl rfl ?_
        refine V_aload_n dL_law_288 rfl rfl rfl ?_
        refine V_sload_n dL_law_289 rfl rfl rfl ?_
        refine V_iload_n dL_law_290 rfl rfl rfl ?_
        refine V_iconst dL_law_291 ci_1 rfl ?_
        refine V_iadd dL_law_292 rfl ?_
        refine A_sld rfl hL dL_law_293 rfl h fun v12 h => ?_
        refine A_callC (ci := 6) eI dL_law_294 cl_L_31 (by decide) rfl rfl (As := [.int v12]) (st := []) rfl rfl (Nat.le_of_ble_eq_true rfl) rfl h (fun _ _ h => cp_X6_rule (d := d + 7) h) fun v13 F7 h => ?_
        refine V_aload_n dL_law_297 rfl rfl rfl ?_
        refine V_sload_n dL_law_298 rfl rfl rfl ?_
        refine V_iload_n dL_law_299 rfl rfl rfl ?_
        refine V_iconst dL_law_300 ci_1 rfl ?_
        refine V_iadd dL_law_301 rfl ?_
        refine A_sld rfl hL dL_law_302 rfl h fun v14 h => ?_
        refine A_callC (ci := 7) eI dL_law_303 cl_L_34 (by decide) rfl rfl (As := [.int v14]) (st := [.int v13]) rfl rfl (Nat.le_of_ble_eq_true rfl) rfl h (fun _ _ h => cp_X7_rule (d := d + 8) h) fun v15 F8 h => ?_
        refine A_icmp_eq dL_law_306 rfl rfl h (fun h => ?_) (fun h => ?_)
        · exact okL_law_b1504 hL (fun x3 F h => ih x3 F h) h
        · refine V_iconst dL_law_309 ci_0 rfl ?_
          exact A_creturn dL_law_310 rfl (by decide) h
      refine A_if h (fun c h => ?_) (fun c5 h => ?_)
      · rw [c]
        refine V_tableIn dL_law_33 (by decide) (by decide) rfl rfl ?_
        refine V_aload_n dL_law_311 rfl rfl rfl ?_
        refine V_sload_n dL_law_312 rfl rfl rfl ?_
        refine V_iload_n dL_law_313 rfl rfl rfl ?_
        refine V_iconst dL_law_314 ci_1 rfl ?_
        refine V_iadd dL_law_315 rfl ?_
        refine A_sld rfl hL dL_law_316 rfl h fun v16 h => ?_
        refine V_sload_n dL_law_317 rfl rfl rfl ?_
        refine V_iload_n dL_law_318 rfl rfl rfl ?_
        refine V_iconst dL_law_319 ci_2 rfl ?_
        refine V_iadd dL_law_320 rfl ?_
        refine A_sld rfl hL dL_law_321 rfl h fun v17 h => ?_
        refine A_callC (ci := 6) eI dL_law_322 cl_L_35 (by decide) rfl rfl (As := [.int v16, .int v17]) (st := []) rfl rfl (Nat.le_of_ble_eq_true rfl) rfl h (fun _ _ h => cp_X6_shelf (d := d + 8) h) fun v18 F9 h => ?_
        refine V_aload_n dL_law_325 rfl rfl rfl ?_
        refine V_sload_n dL_law_326 rfl rfl rfl ?_
        refine V_iload_n dL_law_327 rfl rfl rfl ?_
        refine V_iconst dL_law_328 ci_1 rfl ?_
        refine V_iadd dL_law_329 rfl ?_
        refine A_sld rfl hL dL_law_330 rfl h fun v19 h => ?_
        refine V_sload_n dL_law_331 rfl rfl rfl ?_
        refine V_iload_n dL_law_332 rfl rfl rfl ?_
        refine V_iconst dL_law_333 ci_2 rfl ?_
        refine V_iadd dL_law_334 rfl ?_
        refine A_sld rfl hL dL_law_335 rfl h fun v20 h => ?_
        refine A_callC (ci := 7) eI dL_law_336 cl_L_39 (by decide) rfl rfl (As := [.int v19, .int v20]) (st := [.int v18]) rfl rfl (Nat.le_of_ble_eq_true rfl) rfl h (fun _ _ h => cp_X7_shelf (d := d + 7) h) fun v21 F10 h => ?_
        refine A_icmp_eq dL_law_339 rfl rfl h (fun h => ?_) (fun h => ?_)
        · exact okL_law_b1504 hL (fun x3 F h => ih x3 F h) h
        · refine V_iconst dL_law_342 ci_0 rfl ?_
          exact A_creturn dL_law_343 rfl (by decide) h
      refine A_if h (fun c h => ?_) (fun c6 h => ?_)
      · rw [c]
        refine V_tableIn dL_law_33 (by decide) (by decide) rfl rfl ?_
        refine V_aload_n dL_law_344 rfl rfl rfl ?_
        refine V_sload_n dL_law_345 rfl rfl rfl ?_
        refine V_iload_n dL_law_346 rfl rfl rfl ?_
        refine V_iconst dL_law_347 ci_1 rfl ?_
        refine V_iadd dL_law_348 rfl ?_
        refine A_sld rfl hL dL_law_349 rfl h fun v22 h => ?_
        refine V_sload_n dL_law_350 rfl rfl rfl ?_
        refine V_iload_n dL_law_351 rfl rfl rfl ?_
        refine V_iconst dL_law_352 ci_2 rfl ?_
        refine V_iadd dL_law_353 rfl ?_
        refine A_sld rfl hL dL_law_354 rfl h fun v23 h => ?_
        refine A_callC (ci := 6) eI dL_law_355 cl_L_40 (by decide) rfl rfl (As := [.int v22, .int v23]) (st := []) rfl rfl (Nat.le_of_ble_eq_true rfl) rfl h (fun _ _ h => cp_X6_place (d := d + 8) h) fun v24 F11 h => ?_
        refine V_aload_n dL_law_358 rfl rfl rfl ?_
        refine V_sload_n dL_law_359 rfl rfl rfl ?_
        refine V_iload_n dL_law_360 rfl rfl rfl ?_
        refine V_iconst dL_law_361 ci_1 rfl ?_
        refine V_iadd dL_law_362 rfl ?_
        refine A_sld rfl hL dL_law_363 rfl h fun v25 h => ?_
        refine V_sload_n dL_law_364 rfl rfl rfl ?_
        refine V_iload_n dL_law_365 rfl rfl rfl ?_
        refine V_iconst dL_law_366 ci_2 rfl ?_
        refine V_iadd dL_law_367 rfl ?_
        refine A_sld rfl hL dL_law_368 rfl h fun v26 h => ?_
        refine A_callC (ci := 7) eI dL_law_369 cl_L_43 (by decide) rfl rfl (As := [.int v25, .int v26]) (st := [.int v24]) rfl rfl (Nat.le_of_ble_eq_true rfl) rfl h (fun _ _ h => cp_X7_place (d := d + 7) h) fun v27 F12 h => ?_
        refine A_icmp_eq dL_law_372 rfl rfl h (fun h => ?_) (fun h => ?_)
        · exact okL_law_b1504 hL (fun x3 F h => ih x3 F h) h
        · refine V_iconst dL_law_375 ci_0 rfl ?_
          exact A_creturn dL_law_376 rfl (by decide) h
      refine A_if h (fun c h => ?_) (fun c7 h => ?_)
      · rw [c]
        refine V_tableIn dL_law_33 (by decide) (by decide) rfl rfl ?_
        refine V_aload_n dL_law_377 rfl rfl rfl ?_
        refine V_sload_n dL_law_378 rfl rfl rfl ?_
        refine V_iload_n dL_law_379 rfl rfl rfl ?_
        refine V_iconst dL_law_380 ci_1 rfl ?_
        refine V_iadd dL_law_381 rfl ?_
        refine A_sld rfl hL dL_law_382 rfl h fun v28 h => ?_
        refine A_callC (ci := 6) eI dL_law_383 cl_L_44 (by decide) rfl rfl (As := [.int v28]) (st := []) rfl rfl (Nat.le_of_ble_eq_true rfl) rfl h (fun _ _ h => cp_X6_want (d := d + 8) h) fun v29 F13 h => ?_
        refine V_aload_n dL_law_386 rfl rfl rfl ?_
        refine V_sload_n dL_law_387 rfl rfl rfl ?_
        refine V_iload_n dL_law_388 rfl rfl rfl ?_
        refine V_iconst dL_law_389 ci_1 rfl ?_
        refine V_iadd dL_law_390 rfl ?_
        refine A_sld rfl hL dL_law_391 rfl h fun v30 h => ?_
        refine A_callC (ci := 7) eI dL_law_392 cl_L_47 (by decide) rfl rfl (As := [.int v30]) (st := [.int v29]) rfl rfl (Nat.le_of_ble_eq_true rfl) rfl h (fun _ _ h => cp_X7_want (d := d + 7) h) fun v31 F14 h => ?_
        refine A_icmp_eq dL_law_395 rfl rfl h (fun h => ?_) (fun h => ?_)
        · exact okL_law_b1504 hL (fun x3 F h => ih x3 F h) h
        · refine V_iconst dL_law_398 ci_0 rfl ?_
          exact A_creturn dL_law_399 rfl (by decide) h
      refine A_if h (fun c h => ?_) (fun c8 h => ?_)
      · rw [c]
        refine V_tableIn dL_law_33 (by decide) (by decide) rfl rfl ?_
        refine V_aload_n dL_law_400 rfl rfl rfl ?_
        refine V_sload_n dL_law_401 rfl rfl rfl ?_
        refine V_iload_n dL_law_402 rfl rfl rfl ?_
        refine V_iconst dL_law_403 ci_1 rfl ?_
        refine V_iadd dL_law_404 rfl ?_
        refine A_sld rfl hL dL_law_405 rfl h fun v32 h => ?_
        refine V_sload_n dL_law_406 rfl rfl rfl ?_
        refine V_iload_n dL_law_407 rfl rfl rfl ?_
        refine V_iconst dL_law_408 ci_2 rfl ?_
        refine V_iadd dL_law_409 rfl ?_
        refine A_sld rfl hL dL_law_410 rfl h fun v33 h => ?_
        refine A_callC (ci := 6) eI dL_law_411 cl_L_48 (by decide) rfl rfl (As := [.int v32, .int v33]) (st := []) rfl rfl (Nat.le_of_ble_eq_true rfl) rfl h (fun _ _ h => cp_X6_alter (d := d + 8) h) fun v34 F15 h => ?_
        refine V_aload_n dL_law_414 rfl rfl rfl ?_
        refine V_sload_n dL_law_415 rfl rfl rfl ?_
        refine V_iload_n dL_law_416 rfl rfl rfl ?_
        refine V_iconst dL_law_417 ci_1 rfl ?_
        refine V_iadd dL_law_418 rfl ?_
        refine A_sld rfl hL dL_law_419 rfl h fun v35 h => ?_
        refine V_sload_n dL_law_420 rfl rfl rfl ?_
        refine V_iload_n dL_law_421 rfl rfl rfl ?_
        refine V_iconst dL_law_422 ci_2 rfl ?_
        refine V_iadd dL_law_423 rfl ?_
        refine A_sld rfl hL dL_law_424 rfl h fun v36 h => ?_
        refine A_callC (ci := 7) eI dL_law_425 cl_L_51 (by decide) rfl rfl (As := [.int v35, .int v36]) (st := [.int v34]) rfl rfl (Nat.le_of_ble_eq_true rfl) rfl h (fun _ _ h => cp_X7_alter (d := d + 7) h) fun v37 F16 h => ?_
        refine A_icmp_eq dL_law_428 rfl rfl h (fun h => ?_) (fun h => ?_)
        · exact okL_law_b1504 hL (fun x3 F h => ih x3 F h) h
        · refine V_iconst dL_law_431 ci_0 rfl ?_
          exact A_creturn dL_law_432 rfl (by decide) h
      refine A_if h (fun c h => ?_) (fun c9 h => ?_)
      · rw [c]
        refine V_tableIn dL_law_33 (by decide) (by decide) rfl rfl ?_
        refine V_aload_n dL_law_433 rfl rfl rfl ?_
        refine V_sload_n dL_law_434 rfl rfl rfl ?_
        refine V_iload_n dL_law_435 rfl rfl rfl ?_
        refine V_iconst dL_law_436 ci_1 rfl ?_
        refine V_iadd dL_law_437 rfl ?_
        refine A_sld rfl hL dL_law_438 rfl h fun v38 h => ?_
        refine A_callC (ci := 6) eI dL_law_439 cl_L_52 (by decide) rfl rfl (As := [.int v38]) (st := []) rfl rfl (Nat.le_of_ble_eq_true rfl) rfl h (fun _ _ h => cp_X6_put (d := d + 7) h) fun v39 F17 h => ?_
        refine V_aload_n dL_law_442 rfl rfl rfl ?_
        refine V_sload_n dL_law_443 rfl rfl rfl ?_
        refine V_iload_n dL_law_444 rfl rfl rfl ?_
        refine V_iconst dL_law_445 ci_1 rfl ?_
        refine V_iadd dL_law_446 rfl ?_
        refine A_sld rfl hL dL_law_447 rfl h fun v40 h => ?_
        refine A_callC (ci := 7) eI dL_law_448 cl_L_55 (by decide) rfl rfl (As := [.int v40]) (st := [.int v39]) rfl rfl (Nat.le_of_ble_eq_true rfl) rfl h (fun _ _ h => cp_X7_put (d := d + 8) h) fun v41 F18 h => ?_
        refine A_icmp_eq dL_law_451 rfl rfl h (fun h => ?_) (fun h => ?_)
        · exact okL_law_b1504 hL (fun x3 F h => ih x3 F h) h
        · refine V_iconst dL_law_454 ci_0 rfl ?_
          exact A_creturn dL_law_455 rfl (by decide) h
      refine A_if h (fun c h => ?_) (fun c10 h => ?_)
      · rw [c]
        refine V_tableIn dL_law_33 (by decide) (by decide) rfl rfl ?_
        refine V_aload_n dL_law_456 rfl rfl rfl ?_
        refine V_sload_n dL_law_457 rfl rfl rfl ?_
        refine V_iload_n dL_law_458 rfl rfl rfl ?_
        refine V_iconst dL_law_459 ci_1 rfl ?_
        refine V_iadd dL_law_460 rfl ?_
        refine A_sld rfl hL dL_law_461 rfl h fun v42 h => ?_
        refine A_callC (ci := 6) eI dL_law_462 cl_L_56 (by decide) rfl rfl (As := [.int v42]) (st := []) rfl rfl (Nat.le_of_ble_eq_true rfl) rfl h (fun _ _ h => cp_X6_cut (d := d + 8) h) fun v43 F19 h => ?_
        refine V_aload_n dL_law_465 rfl rfl rfl ?_
        refine V_sload_n dL_law_466 rfl rfl rfl ?_
        refine V_iload_n dL_law_467 rfl rfl rfl ?_
        refine V_iconst dL_law_468 ci_1 rfl ?_
        refine V_iadd dL_law_469 rfl ?_
        refine A_sld rfl hL dL_law_470 rfl h fun v44 h => ?_
        refine A_callC (ci := 7) eI dL_law_471 cl_L_59 (by decide) rfl rfl (As := [.int v44]) (st := [.int v43]) rfl rfl (Nat.le_of_ble_eq_true rfl) rfl h (fun _ _ h => cp_X7_cut (d := d + 8) h) fun v45 F20 h => ?_
        refine A_icmp_eq dL_law_474 rfl rfl h (fun h => ?_) (fun h => ?_)
        · exact okL_law_b1504 hL (fun x3 F h => ih x3 F h) h
        · refine V_iconst dL_law_477 ci_0 rfl ?_
          exact A_creturn dL_law_478 rfl (by decide) h
      refine A_if h (fun c h => ?_) (fun c11 h => ?_)
      · rw [c]
        refine V_tableIn dL_law_33 (by decide) (by decide) rfl rfl ?_
        refine V_aload_n dL_law_479 rfl rfl rfl ?_
        refine V_sload_n dL_law_480 rfl rfl rfl ?_
        refine V_iload_n dL_law_481 rfl rfl rfl ?_
        refine V_iconst dL_law_482 ci_1 rfl ?_
        refine V_iadd dL_law_483 rfl ?_
        refine A_sld rfl hL dL_law_484 rfl h fun v46 h => ?_
        refine V_sload_n dL_law_485 rfl rfl rfl ?_
        refine V_iload_n dL_law_486 rfl rfl rfl ?_
        refine V_iconst dL_law_487 ci_2 rfl ?_
        refine V_iadd dL_law_488 rfl ?_
        refine A_sld rfl hL dL_law_489 rfl h fun v47 h => ?_
        refine V_sload_n dL_law_490 rfl rfl rfl ?_
        refine V_iload_n dL_law_491 rfl rfl rfl ?_
        refine V_iconst dL_law_492 ci_3 rfl ?_
        refine V_iadd dL_law_493 rfl ?_
        refine A_sld rfl hL dL_law_494 rfl h fun v48 h => ?_
        refine A_callC (ci := 6) eI dL_law_495 cl_L_60 (by decide) rfl rfl (As := [.int v46, .int v47, .int v48]) (st := []) rfl rfl (Nat.le_of_ble_eq_true rfl) rfl h (fun _ _ h => cp_X6_stand (d := d + 8) h) fun v49 F21 h => ?_
        refine V_aload_n dL_law_498 rfl rfl rfl ?_
        refine V_sload_n dL_law_499 rfl rfl rfl ?_
        refine V_iload_n dL_law_500 rfl rfl rfl ?_
        refine V_iconst dL_law_501 ci_1 rfl ?_
        refine V_iadd dL_law_502 rfl ?_
        refine A_sld rfl hL dL_law_503 rfl h fun v50 h => ?_
        refine V_sload_n dL_law_504 rfl rfl rfl ?_
        refine V_iload_n dL_law_505 rfl rfl rfl ?_
        refine V_iconst dL_law_506 ci_2 rfl ?_
        refine V_iadd dL_law_507 rfl ?_
        refine A_sld rfl hL dL_law_508 rfl h fun v51 h => ?_
        refine V_sload_n dL_law_509 rfl rfl rfl ?_
        refine V_iload_n dL_law_510 rfl rfl rfl ?_
        refine V_iconst dL_law_511 ci_3 rfl ?_
        refine V_iadd dL_law_512 rfl ?_
        refine A_sld rfl hL dL_law_513 rfl h fun v52 h => ?_
        refine A_callC (ci := 7) eI dL_law_514 cl_L_64 (by decide) rfl rfl (As := [.int v50, .int v51, .int v52]) (st := [.int v49]) rfl rfl (Nat.le_of_ble_eq_true rfl) rfl h (fun _ _ h => cp_X7_stand (d := d + 7) h) fun v53 F22 h => ?_
        refine A_icmp_eq dL_law_517 rfl rfl h (fun h => ?_) (fun h => ?_)
        · exact okL_law_b1504 hL (fun x3 F h => ih x3 F h) h
        · refine V_iconst dL_law_520 ci_0 rfl ?_
          exact A_creturn dL_law_521 rfl (by decide) h
      refine A_if h (fun c h => ?_) (fun c12 h => ?_)
      · rw [c]
        refine V_tableIn dL_law_33 (by decide) (by decide) rfl rfl ?_
        refine V_aload_n dL_law_522 rfl rfl rfl ?_
        refine V_sload_n dL_law_523 rfl rfl rfl ?_
        refine V_iload_n dL_law_524 rfl rfl rfl ?_
        refine V_iconst dL_law_525 ci_1 rfl ?_
        refine V_iadd dL_law_526 rfl ?_
        refine A_sld rfl hL dL_law_527 rfl h fun v54 h => ?_
        refine V_sload_n dL_law_528 rfl rfl rfl ?_
        refine V_iload_n dL_law_529 rfl rfl rfl ?_
        refine V_iconst dL_law_530 ci_2 rfl ?_
        refine V_iadd dL_law_531 rfl ?_
        refine A_sld rfl hL dL_law_532 rfl h fun v55 h => ?_
        refine A_callC (ci := 6) eI dL_law_533 cl_L_65 (by decide) rfl rfl (As := [.int v54, .int v55]) (st := []) rfl rfl (Nat.le_of_ble_eq_true rfl) rfl h (fun _ _ h => cp_X6_set (d := d + 8) h) fun v56 F23 h => ?_
        refine V_aload_n dL_law_536 rfl rfl rfl ?_
        refine V_sload_n dL_law_537 rfl rfl rfl ?_
        refine V_iload_n dL_law_538 rfl rfl rfl ?_
        refine V_iconst dL_law_539 ci_1 rfl ?_
        refine V_iadd dL_law_540 rfl ?_
        refine A_sld rfl hL dL_law_541 rfl h fun v57 h => ?_
        refine V_sload_n dL_law_542 rfl rfl rfl ?_
        refine V_iload_n dL_law_543 rfl rfl rfl ?_
        refine V_iconst dL_law_544 ci_2 rfl ?_
        refine V_iadd dL_law_545 rfl ?_
        refine A_sld rfl hL dL_law_546 rfl h fun v58 h => ?_
        refine A_callC (ci := 7) eI dL_law_547 cl_L_68 (by decide) rfl rfl (As := [.int v57, .int v58]) (st := [.int v56]) rfl rfl (Nat.le_of_ble_eq_true rfl) rfl h (fun _ _ h => cp_X7_set (d := d + 7) h) fun v59 F24 h => ?_
        refine A_icmp_eq dL_law_550 rfl rfl h (fun h => ?_) (fun h => ?_)
        · exact okL_law_b1504 hL (fun x3 F h => ih x3 F h) h
        · refine V_iconst dL_law_553 ci_0 rfl ?_
          exact A_creturn dL_law_554 rfl (by decide) h
      refine A_if h (fun c h => ?_) (fun c13 h => ?_)
      · rw [c]
        refine V_tableIn dL_law_33 (by decide) (by decide) rfl rfl ?_
        refine V_aload_n dL_law_555 rfl rfl rfl ?_
        refine V_sload_n dL_law_556 rfl rfl rfl ?_
        refine V_iload_n dL_law_557 rfl rfl rfl ?_
        refine V_iconst dL_law_558 ci_1 rfl ?_
        refine V_iadd dL_law_559 rfl ?_
        refine A_sld rfl hL dL_law_560 rfl h fun v60 h => ?_
        refine A_callC (ci := 6) eI dL_law_561 cl_L_69 (by decide) rfl rfl (As := [.int v60]) (st := []) rfl rfl (Nat.le_of_ble_eq_true rfl) rfl h (fun _ _ h => cp_X6_add (d := d + 8) h) fun v61 F25 h => ?_
        refine V_aload_n dL_law_564 rfl rfl rfl ?_
        refine V_sload_n dL_law_565 rfl rfl rfl ?_
        refine V_iload_n dL_law_566 rfl rfl rfl ?_
        refine V_iconst dL_law_567 ci_1 rfl ?_
        refine V_iadd dL_law_568 rfl ?_
        refine A_sld rfl hL dL_law_569 rfl h fun v62 h => ?_
        refine A_callC (ci := 7) eI dL_law_570 cl_L_72 (by decide) rfl rfl (As := [.int v62]) (st := [.int v61]) rfl rfl (Nat.le_of_ble_eq_true rfl) rfl h (fun _ _ h => cp_X7_add (d := d + 6) h) fun v63 F26 h => ?_
        refine A_icmp_eq dL_law_573 rfl rfl h (fun h => ?_) (fun h => ?_)
        · exact okL_law_b1504 hL (fun x3 F h => ih x3 F h) h
        · refine V_iconst dL_law_576 ci_0 rfl ?_
          exact A_creturn dL_law_577 rfl (by decide) h
      refine A_if h (fun c h => ?_) (fun c14 h => ?_)
      · rw [c]
        refine V_tableIn dL_law_33 (by decide) (by decide) rfl rfl ?_
        refine V_aload_n dL_law_578 rfl rfl rfl ?_
        refine V_sload_n dL_law_579 rfl rfl rfl ?_
        refine V_iload_n dL_law_580 rfl rfl rfl ?_
        refine V_iconst dL_law_581 ci_1 rfl ?_
        refine V_iadd dL_law_582 rfl ?_
        refine A_sld rfl hL dL_law_583 rfl h fun v64 h => ?_
        refine A_callC (ci := 6) eI dL_law_584 cl_L_73 (by decide) rfl rfl (As := [.int v64]) (st := []) rfl rfl (Nat.le_of_ble_eq_true rfl) rfl h (fun _ _ h => cp_X6_drop (d := d + 8) h) fun v65 F27 h => ?_
        refine V_aload_n dL_law_587 rfl rfl rfl ?_
        refine V_sload_n dL_law_588 rfl rfl rfl ?_
        refine V_iload_n dL_law_589 rfl rfl rfl ?_
        refine V_iconst dL_law_590 ci_1 rfl ?_
        refine V_iadd dL_law_591 rfl ?_
        refine A_sld rfl hL dL_law_592 rfl h fun v66 h => ?_
        refine A_callC (ci := 7) eI dL_law_593 cl_L_76 (by decide) rfl rfl (As := [.int v66]) (st := [.int v65]) rfl rfl (Nat.le_of_ble_eq_true rfl) rfl h (fun _ _ h => cp_X7_drop (d := d + 8) h) fun v67 F28 h => ?_
        refine A_icmp_eq dL_law_596 rfl rfl h (fun h => ?_) (fun h => ?_)
        · exact okL_law_b1504 hL (fun x3 F h => ih x3 F h) h
        · refine V_iconst dL_law_599 ci_0 rfl ?_
          exact A_creturn dL_law_600 rfl (by decide) h
      refine A_if h (fun c h => ?_) (fun c15 h => ?_)
      · rw [c]
        refine V_tableIn dL_law_33 (by decide) (by decide) rfl rfl ?_
        refine V_aload_n dL_law_601 rfl rfl rfl ?_
        refine V_sload_n dL_law_602 rfl rfl rfl ?_
        refine V_iload_n dL_law_603 rfl rfl rfl ?_
        refine V_iconst dL_law_604 ci_1 rfl ?_
        refine V_iadd dL_law_605 rfl ?_
        refine A_sld rfl hL dL_law_606 rfl h fun v68 h => ?_
        refine A_callC (ci := 6) eI dL_law_607 cl_L_77 (by decide) rfl rfl (As := [.int v68]) (st := []) rfl rfl (Nat.le_of_ble_eq_true rfl) rfl h (fun _ _ h => cp_X6_take (d := d + 6) h) fun v69 F29 h => ?_
        refine V_aload_n dL_law_610 rfl rfl rfl ?_
        refine V_sload_n dL_law_611 rfl rfl rfl ?_
        refine V_iload_n dL_law_612 rfl rfl rfl ?_
        refine V_iconst dL_law_613 ci_1 rfl ?_
        refine V_iadd dL_law_614 rfl ?_
        refine A_sld rfl hL dL_law_615 rfl h fun v70 h => ?_
        refine A_callC (ci := 7) eI dL_law_616 cl_L_80 (by decide) rfl rfl (As := [.int v70]) (st := [.int v69]) rfl rfl (Nat.le_of_ble_eq_true rfl) rfl h (fun _ _ h => cp_X7_take (d := d + 7) h) fun v71 F30 h => ?_
        refine A_icmp_eq dL_law_619 rfl rfl h (fun h => ?_) (fun h => ?_)
        · exact okL_law_b1504 hL (fun x3 F h => ih x3 F h) h
        · refine V_iconst dL_law_622 ci_0 rfl ?_
          exact A_creturn dL_law_623 rfl (by decide) h
      refine A_if h (fun c h => ?_) (fun c16 h => ?_)
      · rw [c]
        refine V_tableIn dL_law_33 (by decide) (by decide) rfl rfl ?_
        refine V_aload_n dL_law_624 rfl rfl rfl ?_
        refine V_sload_n dL_law_625 rfl rfl rfl ?_
        refine V_iload_n dL_law_626 rfl rfl rfl ?_
        refine V_iconst dL_law_627 ci_1 rfl ?_
        refine V_iadd dL_law_628 rfl ?_
        refine A_sld rfl hL dL_law_629 rfl h fun v72 h => ?_
        refine A_callC (ci := 6) eI dL_law_630 cl_L_81 (by decide) rfl rfl (As := [.int v72]) (st := []) rfl rfl (Nat.le_of_ble_eq_true rfl) rfl h (fun _ _ h => cp_X6_steps (d := d + 5) h) fun v73 F31 h => ?_
        refine V_aload_n dL_law_633 rfl rfl rfl ?_
        refine V_sload_n dL_law_634 rfl rfl rfl ?_
        refine V_iload_n dL_law_635 rfl rfl rfl ?_
        refine V_iconst dL_law_636 ci_1 rfl ?_
        refine V_iadd dL_law_637 rfl ?_
        refine A_sld rfl hL dL_law_638 rfl h fun v74 h => ?_
        refine A_callC (ci := 7) eI dL_law_639 cl_L_84 (by decide) rfl rfl (As := [.int v74]) (st := [.int v73]) rfl rfl (Nat.le_of_ble_eq_true rfl) rfl h (fun _ _ h => cp_X7_steps (d := d + 6) h) fun v75 F32 h => ?_
        refine A_icmp_eq dL_law_642 rfl rfl h (fun h => ?_) (fun h => ?_)
        · exact okL_law_b1504 hL (fun x3 F h => ih x3 F h) h
        · refine V_iconst dL_law_645 ci_0 rfl ?_
          exact A_creturn dL_law_646 rfl (by decide) h
      refine A_if h (fun c h => ?_) (fun c17 h => ?_)
      · rw [c]
        refine V_tableIn dL_law_33 (by decide) (by decide) rfl rfl ?_
        refine V_aload_n dL_law_647 rfl rfl rfl ?_
        refine V_sload_n dL_law_648 rfl rfl rfl ?_
        refine V_iload_n dL_law_649 rfl rfl rfl ?_
        refine V_iconst dL_law_650 ci_1 rfl ?_
        refine V_iadd dL_law_651 rfl ?_
        refine A_sld rfl hL dL_law_652 rfl h fun v76 h => ?_
        refine V_sload_n dL_law_653 rfl rfl rfl ?_
        refine V_iload_n dL_law_654 rfl rfl rfl ?_
        refine V_iconst dL_law_655 ci_2 rfl ?_
        refine V_iadd dL_law_656 rfl ?_
        refine A_sld rfl hL dL_law_657 rfl h fun v77 h => ?_
        refine A_callC (ci := 6) eI dL_law_658 cl_L_85 (by decide) rfl rfl (As := [.int v76, .int v77]) (st := []) rfl rfl (Nat.le_of_ble_eq_true rfl) rfl h (fun _ _ h => cp_X6_runs (d := d + 4) h) fun v78 F33 h => ?_
        refine V_aload_n dL_law_661 rfl rfl rfl ?_
        refine V_sload_n dL_law_662 rfl rfl rfl ?_
        refine V_iload_n dL_law_663 rfl rfl rfl ?_
        refine V_iconst dL_law_664 ci_1 rfl ?_
        refine V_iadd dL_law_665 rfl ?_
        refine A_sld rfl hL dL_law_666 rfl h fun v79 h => ?_
        refine V_sload_n dL_law_667 rfl rfl rfl ?_
        refine V_iload_n dL_law_668 rfl rfl rfl ?_
        refine V_iconst dL_law_669 ci_2 rfl ?_
        refine V_iadd dL_law_670 rfl ?_
        refine A_sld rfl hL dL_law_671 rfl h fun v80 h => ?_
        refine A_callC (ci := 7) eI dL_law_672 cl_L_88 (by decide) rfl rfl (As := [.int v79, .int v80]) (st := [.int v78]) rfl rfl (Nat.le_of_ble_eq_true rfl) rfl h (fun _ _ h => cp_X7_runs (d := d + 5) h) fun v81 F34 h => ?_
        refine A_icmp_eq dL_law_675 rfl rfl h (fun h => ?_) (fun h => ?_)
        · exact okL_law_b1504 hL (fun x3 F h => ih x3 F h) h
        · refine V_iconst dL_law_678 ci_0 rfl ?_
          exact A_creturn dL_law_679 rfl (by decide) h
      refine A_if h (fun c h => ?_) (fun c18 h => ?_)
      · rw [c]
        refine V_tableIn dL_law_33 (by decide) (by decide) rfl rfl ?_
        refine V_aload_n dL_law_680 rfl rfl rfl ?_
        refine V_sload_n dL_law_681 rfl rfl rfl ?_
        refine V_iload_n dL_law_682 rfl rfl rfl ?_
        refine V_iconst dL_law_683 ci_1 rfl ?_
        refine V_iadd dL_law_684 rfl ?_
        refine A_sld rfl hL dL_law_685 rfl h fun v82 h => ?_
        refine V_sload_n dL_law_686 rfl rfl rfl ?_
        refine V_iload_n dL_law_687 rfl rfl rfl ?_
        refine V_iconst dL_law_688 ci_2 rfl ?_
        refine V_iadd dL_law_689 rfl ?_
        refine A_sld rfl hL dL_law_690 rfl h fun v83 h => ?_
        refine A_callC (ci := 6) eI dL_law_691 cl_L_89 (by decide) rfl rfl (As := [.int v82, .int v83]) (st := []) rfl rfl (Nat.le_of_ble_eq_true rfl) rfl h (fun _ _ h => cp_X6_paid (d := d + 5) h) fun v84 F35 h => ?_
        refine V_aload_n dL_law_694 rfl rfl rfl ?_
        refine V_sload_n dL_law_695 rfl rfl rfl ?_
        refine V_iload_n dL_law_696 rfl rfl rfl ?_
        refine V_iconst dL_law_697 ci_1 rfl ?_
        refine V_iadd dL_law_698 rfl ?_
        refine A_sld rfl hL dL_law_699 rfl h fun v85 h => ?_
        refine V_sload_n dL_law_700 rfl rfl rfl ?_
        refine V_iload_n dL_law_701 rfl rfl rfl ?_
        refine V_iconst dL_law_702 ci_2 rfl ?_
        refine V_iadd dL_law_703 rfl ?_
        refine A_sld rfl hL dL_law_704 rfl h fun v86 h => ?_
        refine A_callC (ci := 7) eI dL_law_705 cl_L_92 (by decide) rfl rfl (As := [.int v85, .int v86]) (st := [.int v84]) rfl rfl (Nat.le_of_ble_eq_true rfl) rfl h (fun _ _ h => cp_X7_paid (d := d + 5) h) fun v87 F36 h => ?_
        refine A_icmp_eq dL_law_708 rfl rfl h (fun h => ?_) (fun h => ?_)
        · exact okL_law_b1504 hL (fun x3 F h => ih x3 F h) h
        · refine V_iconst dL_law_711 ci_0 rfl ?_
          exact A_creturn dL_law_712 rfl (by decide) h
      refine A_if h (fun c h => ?_) (fun c19 h => ?_)
      · rw [c]
        refine V_tableIn dL_law_33 (by decide) (by decide) rfl rfl ?_
        refine V_aload_n dL_law_713 rfl rfl rfl ?_
        refine V_sload_n dL_law_714 rfl rfl rfl ?_
        refine V_iload_n dL_law_715 rfl rfl rfl ?_
        refine V_iconst dL_law_716 ci_1 rfl ?_
        refine V_iadd dL_law_717 rfl ?_
        refine A_sld rfl hL dL_law_718 rfl h fun v88 h => ?_
        refine V_sload_n dL_law_719 rfl rfl rfl ?_
        refine V_iload_n dL_law_720 rfl rfl rfl ?_
        refine V_iconst dL_law_721 ci_2 rfl ?_
        refine V_iadd dL_law_722 rfl ?_
        refine A_sld rfl hL dL_law_723 rfl h fun v89 h => ?_
        refine V_sload_n dL_law_724 rfl rfl rfl ?_
        refine V_iload_n dL_law_725 rfl rfl rfl ?_
        refine V_iconst dL_law_726 ci_3 rfl ?_
        refine V_iadd dL_law_727 rfl ?_
        refine A_sld rfl hL dL_law_728 rfl h fun v90 h => ?_
        refine A_callC (ci := 6) eI dL_law_729 cl_L_93 (by decide) rfl rfl (As := [.int v88, .int v89, .int v90]) (st := []) rfl rfl (Nat.le_of_ble_eq_true rfl) rfl h (fun _ _ h => cp_X6_ahead (d := d + 5) h) fun v91 F37 h => ?_
        refine V_aload_n dL_law_732 rfl rfl rfl ?_
        refine V_sload_n dL_law_733 rfl rfl rfl ?_
        refine V_iload_n dL_law_734 rfl rfl rfl ?_
        refine V_iconst dL_law_735 ci_1 rfl ?_
        refine V_iadd dL_law_736 rfl ?_
        refine A_sld rfl hL dL_law_737 rfl h fun v92 h => ?_
        refine V_sload_n dL_law_738 rfl rfl rfl ?_
        refine V_iload_n dL_law_739 rfl rfl rfl ?_
        refine V_iconst dL_law_740 ci_2 rfl ?_
        refine V_iadd dL_law_741 rfl ?_
        refine A_sld rfl hL dL_law_742 rfl h fun v93 h => ?_
        refine V_sload_n dL_law_743 rfl rfl rfl ?_
        refine V_iload_n dL_law_744 rfl rfl rfl ?_
        refine V_iconst dL_law_745 ci_3 rfl ?_
        refine V_iadd dL_law_746 rfl ?_
        refine A_sld rfl hL dL_law_747 rfl h fun v94 h => ?_
        refine A_callC (ci := 7) eI dL_law_748 cl_L_96 (by decide) rfl rfl (As := [.int v92, .int v93, .int v94]) (st := [.int v91]) rfl rfl (Nat.le_of_ble_eq_true rfl) rfl h (fun _ _ h => cp_X7_ahead (d := d + 5) h) fun v95 F38 h => ?_
        refine A_icmp_eq dL_law_751 rfl rfl h (fun h => ?_) (fun h => ?_)
        · exact okL_law_b1504 hL (fun x3 F h => ih x3 F h) h
        · refine V_iconst dL_law_754 ci_0 rfl ?_
          exact A_creturn dL_law_755 rfl (by decide) h
      refine A_if h (fun c h => ?_) (fun c20 h => ?_)
      · rw [c]
        refine V_tableIn dL_law_33 (by decide) (by decide) rfl rfl ?_
        refine V_aload_n dL_law_756 rfl rfl rfl ?_
        refine V_sload_n dL_law_757 rfl rfl rfl ?_
        refine V_iload_n dL_law_758 rfl rfl rfl ?_
        refine V_iconst dL_law_759 ci_1 rfl ?_
        refine V_iadd dL_law_760 rfl ?_
        refine A_sld rfl hL dL_law_761 rfl h fun v96 h => ?_
        refine V_sload_n dL_law_762 rfl rfl rfl ?_
        refine V_iload_n dL_law_763 rfl rfl rfl ?_
        refine V_iconst dL_law_764 ci_2 rfl ?_
        refine V_iadd dL_law_765 rfl ?_
        refine A_sld rfl hL dL_law_766 rfl h fun v97 h => ?_
        refine A_callC (ci := 6) eI dL_law_767 cl_L_97 (by decide) rfl rfl (As := [.int v96, .int v97]) (st := []) rfl rfl (Nat.le_of_ble_eq_true rfl) rfl h (fun _ _ h => cp_X6_when (d := d + 6) h) fun v98 F39 h => ?_
        refine V_aload_n dL_law_770 rfl rfl rfl ?_
        refine V_sload_n dL_law_771 rfl rfl rfl ?_
        refine V_iload_n dL_law_772 rfl rfl rfl ?_
        refine V_iconst dL_law_773 ci_1 rfl ?_
        refine V_iadd dL_law_774 rfl ?_
        refine A_sld rfl hL dL_law_775 rfl h fun v99 h => ?_
        refine V_sload_n dL_law_776 rfl rfl rfl ?_
        refine V_iload_n dL_law_777 rfl rfl rfl ?_
        refine V_iconst dL_law_778 ci_2 rfl ?_
        refine V_iadd dL_law_779 rfl ?_
        refine A_sld rfl hL dL_law_780 rfl h fun v100 h => ?_
        refine A_callC (ci := 7) eI dL_law_781 cl_L_100 (by decide) rfl rfl (As := [.int v99, .int v100]) (st := [.int v98]) rfl rfl (Nat.le_of_ble_eq_true rfl) rfl h (fun _ _ h => cp_X7_when (d := d + 6) h) fun v101 F40 h => ?_
        refine A_icmp_eq dL_law_784 rfl rfl h (fun h => ?_) (fun h => ?_)
        · exact okL_law_b1504 hL (fun x3 F h => ih x3 F h) h
        · refine V_iconst dL_law_787 ci_0 rfl ?_
          exact A_creturn dL_law_788 rfl (by decide) h
      refine A_if h (fun c h => ?_) (fun c21 h => ?_)
      · rw [c]
        refine V_tableIn dL_law_33 (by decide) (by decide) rfl rfl ?_
        refine V_aload_n dL_law_789 rfl rfl rfl ?_
        refine A_callC (ci := 6) eI dL_law_790 cl_L_101 (by decide) rfl rfl (As := []) (st := []) rfl rfl (Nat.le_of_ble_eq_true rfl) rfl h (fun _ _ h => cp_X6_again (d := d + 5) h) fun v102 F41 h => ?_
        refine V_aload_n dL_law_793 rfl rfl rfl ?_
        refine A_callC (ci := 7) eI dL_law_794 cl_L_104 (by decide) rfl rfl (As := []) (st := [.int v102]) rfl rfl (Nat.le_of_ble_eq_true rfl) rfl h (fun _ _ h => cp_X7_again (d := d + 6) h) fun v103 F42 h => ?_
        refine A_icmp_eq dL_law_797 rfl rfl h (fun h => ?_) (fun h => ?_)
        · exact okL_law_b1504 hL (fun x3 F h => ih x3 F h) h
        · refine V_iconst dL_law_800 ci_0 rfl ?_
          exact A_creturn dL_law_801 rfl (by decide) h
      refine A_if h (fun c h => ?_) (fun c22 h => ?_)
      · rw [c]
        refine V_tableIn dL_law_33 (by decide) (by decide) rfl rfl ?_
        refine V_aload_n dL_law_802 rfl rfl rfl ?_
        refine V_sload_n dL_law_803 rfl rfl rfl ?_
        refine V_iload_n dL_law_804 rfl rfl rfl ?_
        refine V_iconst dL_law_805 ci_1 rfl ?_
        refine V_iadd dL_law_806 rfl ?_
        refine A_sld rfl hL dL_law_807 rfl h fun v104 h => ?_
        refine V_sload_n dL_law_808 rfl rfl rfl ?_
        refine V_iload_n dL_law_809 rfl rfl rfl ?_
        refine V_iconst dL_law_810 ci_2 rfl ?_
        refine V_iadd dL_law_811 rfl ?_
        refine A_sld rfl hL dL_law_812 rfl h fun v105 h => ?_
        refine A_callC (ci := 6) eI dL_law_813 cl_L_105 (by decide) rfl rfl (As := [.int v104, .int v105]) (st := []) rfl rfl (Nat.le_of_ble_eq_true rfl) rfl h (fun _ _ h => cp_X6_order (d := d + 4) h) fun v106 F43 h => ?_
        refine V_aload_n dL_law_816 rfl rfl rfl ?_
        refine V_sload_n dL_law_817 rfl rfl rfl ?_
        refine V_iload_n dL_law_818 rfl rfl rfl ?_
        refine V_iconst dL_law_819 ci_1 rfl ?_
        refine V_iadd dL_law_820 rfl ?_
        refine A_sld rfl hL dL_law_821 rfl h fun v107 h => ?_
        refine V_sload_n dL_law_822 rfl rfl rfl ?_
        refine V_iload_n dL_law_823 rfl rfl rfl ?_
        refine V_iconst dL_law_824 ci_2 rfl ?_
        refine V_iadd dL_law_825 rfl ?_
        refine A_sld rfl hL dL_law_826 rfl h fun v108 h => ?_
        refine A_callC (ci := 7) eI dL_law_827 cl_L_108 (by decide) rfl rfl (As := [.int v107, .int v108]) (st := [.int v106]) rfl rfl (Nat.le_of_ble_eq_true rfl) rfl h (fun _ _ h => cp_X7_order (d := d + 5) h) fun v109 F44 h => ?_
        refine A_icmp_eq dL_law_830 rfl rfl h (fun h => ?_) (fun h => ?_)
        · exact okL_law_b1504 hL (fun x3 F h => ih x3 F h) h
        · refine V_iconst dL_law_833 ci_0 rfl ?_
          exact A_creturn dL_law_834 rfl (by decide) h
      refine A_if h (fun c h => ?_) (fun c23 h => ?_)
      · rw [c]
        refine V_tableIn dL_law_33 (by decide) (by decide) rfl rfl ?_
        refine V_aload_n dL_law_835 rfl rfl rfl ?_
        refine V_sload_n dL_law_836 rfl rfl rfl ?_
        refine V_iload_n dL_law_837 rfl rfl rfl ?_
        refine V_iconst dL_law_838 ci_1 rfl ?_
        refine V_iadd dL_law_839 rfl ?_
        refine A_sld rfl hL dL_law_840 rfl h fun v110 h => ?_
        refine V_sload_n dL_law_841 rfl rfl rfl ?_
        refine V_iload_n dL_law_842 rfl rfl rfl ?_
        refine V_iconst dL_law_843 ci_2 rfl ?_
        refine V_iadd dL_law_844 rfl ?_
        refine A_sld rfl hL dL_law_845 rfl h fun v111 h => ?_
        refine V_sload_n dL_law_846 rfl rfl rfl ?_
        refine V_iload_n dL_law_847 rfl rfl rfl ?_
        refine V_iconst dL_law_848 ci_3 rfl ?_
        refine V_iadd dL_law_849 rfl ?_
        refine A_sld rfl hL dL_law_850 rfl h fun v112 h => ?_
        refine A_callC (ci := 6) eI dL_law_851 cl_L_109 (by decide) rfl rfl (As := [.int v110, .int v111, .int v112]) (st := []) rfl rfl (Nat.le_of_ble_eq_true rfl) rfl h (fun _ _ h => cp_X6_kind (d := d + 5) h) fun v113 F45 h => ?_
        refine V_aload_n dL_law_854 rfl rfl rfl ?_
        refine V_sload_n dL_law_855 rfl rfl rfl ?_
        refine V_iload_n dL_law_856 rfl rfl rfl ?_
        refine V_iconst dL_law_857 ci_1 rfl ?_
        refine V_iadd dL_law_858 rfl ?_
        refine A_sld rfl hL dL_law_859 rfl h fun v114 h => ?_
        refine V_sload_n dL_law_860 rfl rfl rfl ?_
        refine V_iload_n dL_law_861 rfl rfl rfl ?_
        refine V_iconst dL_law_862 ci_2 rfl ?_
        refine V_iadd dL_law_863 rfl ?_
        refine A_sld rfl hL dL_law_864 rfl h fun v115 h => ?_
        refine V_sload_n dL_law_865 rfl rfl rfl ?_
        refine V_iload_n dL_law_866 rfl rfl rfl ?_
        refine V_iconst dL_law_867 ci_3 rfl ?_
        refine V_iadd dL_law_868 rfl ?_
        refine A_sld rfl hL dL_law_869 rfl h fun v116 h => ?_
        refine A_callC (ci := 7) eI dL_law_870 cl_L_112 (by decide) rfl rfl (As := [.int v114, .int v115, .int v116]) (st := [.int v113]) rfl rfl (Nat.le_of_ble_eq_true rfl) rfl h (fun _ _ h => cp_X7_kind (d := d + 5) h) fun v117 F46 h => ?_
        refine A_icmp_eq dL_law_873 rfl rfl h (fun h => ?_) (fun h => ?_)
        · exact okL_law_b1504 hL (fun x3 F h => ih x3 F h) h
        · refine V_iconst dL_law_876 ci_0 rfl ?_
          exact A_creturn dL_law_877 rfl (by decide) h
      refine A_if h (fun c h => ?_) (fun c24 h => ?_)
      · rw [c]
        refine V_tableIn dL_law_33 (by decide) (by decide) rfl rfl ?_
        refine V_aload_n dL_law_878 rfl rfl rfl ?_
        refine V_sload_n dL_law_879 rfl rfl rfl ?_
        refine V_iload_n dL_law_880 rfl rfl rfl ?_
        refine V_iconst dL_law_881 ci_1 rfl ?_
        refine V_iadd dL_law_882 rfl ?_
        refine A_sld rfl hL dL_law_883 rfl h fun v118 h => ?_
        refine V_sload_n dL_law_884 rfl rfl rfl ?_
        refine V_iload_n dL_law_885 rfl rfl rfl ?_
        refine V_iconst dL_law_886 ci_2 rfl ?_
        refine V_iadd dL_law_887 rfl ?_
        refine A_sld rfl hL dL_law_888 rfl h fun v119 h => ?_
        refine V_sload_n dL_law_889 rfl rfl rfl ?_
        refine V_iload_n dL_law_890 rfl rfl rfl ?_
        refine V_iconst dL_law_891 ci_3 rfl ?_
        refine V_iadd dL_law_892 rfl ?_
        refine A_sld rfl hL dL_law_893 rfl h fun v120 h => ?_
        refine A_callC (ci := 6) eI dL_law_894 cl_L_113 (by decide) rfl rfl (As := [.int v118, .int v119, .int v120]) (st := []) rfl rfl (Nat.le_of_ble_eq_true rfl) rfl h (fun _ _ h => cp_X6_first (d := d + 5) h) fun v121 F47 h => ?_
        refine V_aload_n dL_law_897 rfl rfl rfl ?_
        refine V_sload_n dL_law_898 rfl rfl rfl ?_
        refine V_iload_n dL_law_899 rfl rfl rfl ?_
        refine V_iconst dL_law_900 ci_1 rfl ?_
        refine V_iadd dL_law_901 rfl ?_
        refine A_sld rfl hL dL_law_902 rfl h fun v122 h => ?_
        refine V_sload_n dL_law_903 rfl rfl rfl ?_
        refine V_iload_n dL_law_904 rfl rfl rfl ?_
        refine V_iconst dL_law_905 ci_2 rfl ?_
        refine V_iadd dL_law_906 rfl ?_
        refine A_sld rfl hL dL_law_907 rfl h fun v123 h => ?_
        refine V_sload_n dL_law_908 rfl rfl rfl ?_
        refine V_iload_n dL_law_909 rfl rfl rfl ?_
        refine V_iconst dL_law_910 ci_3 rfl ?_
        refine V_iadd dL_law_911 rfl ?_
        refine A_sld rfl hL dL_law_912 rfl h fun v124 h => ?_
        refine A_callC (ci := 7) eI dL_law_913 cl_L_116 (by decide) rfl rfl (As := [.int v122, .int v123, .int v124]) (st := [.int v121]) rfl rfl (Nat.le_of_ble_eq_true rfl) rfl h (fun _ _ h => cp_X7_first (d := d + 5) h) fun v125 F48 h => ?_
        refine A_icmp_eq dL_law_916 rfl rfl h (fun h => ?_) (fun h => ?_)
        · exact okL_law_b1504 hL (fun x3 F h => ih x3 F h) h
        · refine V_iconst dL_law_919 ci_0 rfl ?_
          exact A_creturn dL_law_920 rfl (by decide) h
      refine A_if h (fun c h => ?_) (fun c25 h => ?_)
      · rw [c]
        refine V_tableIn dL_law_33 (by decide) (by decide) rfl rfl ?_
        refine V_aload_n dL_law_921 rfl rfl rfl ?_
        refine V_sload_n dL_law_922 rfl rfl rfl ?_
        refine V_iload_n dL_law_923 rfl rfl rfl ?_
        refine V_iconst dL_law_924 ci_1 rfl ?_
        refine V_iadd dL_law_925 rfl ?_
        refine A_sld rfl hL dL_law_926 rfl h fun v126 h => ?_
        refine V_sload_n dL_law_927 rfl rfl rfl ?_
        refine V_iload_n dL_law_928 rfl rfl rfl ?_
        refine V_iconst dL_law_929 ci_2 rfl ?_
        refine V_iadd dL_law_930 rfl ?_
        refine A_sld rfl hL dL_law_931 rfl h fun v127 h => ?_
        refine A_callC (ci := 6) eI dL_law_932 cl_L_117 (by decide) rfl rfl (As := [.int v126, .int v127]) (st := []) rfl rfl (Nat.le_of_ble_eq_true rfl) rfl h (fun _ _ h => cp_X6_swap (d := d + 3) h) fun v128 F49 h => ?_
        refine V_aload_n dL_law_935 rfl rfl rfl ?_
        refine V_sload_n dL_law_936 rfl rfl rfl ?_
        refine V_iload_n dL_law_937 rfl rfl rfl ?_
        refine V_iconst dL_law_938 ci_1 rfl ?_
        refine V_iadd dL_law_939 rfl ?_
        refine A_sld rfl hL dL_law_940 rfl h fun v129 h => ?_
        refine V_sload_n dL_law_941 rfl rfl rfl ?_
        refine V_iload_n dL_law_942 rfl rfl rfl ?_
        refine V_iconst dL_law_943 ci_2 rfl ?_
        refine V_iadd dL_law_944 rfl ?_
        refine A_sld rfl hL dL_law_945 rfl h fun v130 h => ?_
        refine A_callC (ci := 7) eI dL_law_946 cl_L_120 (by decide) rfl rfl (As := [.int v129, .int v130]) (st := [.int v128]) rfl rfl (Nat.le_of_ble_eq_true rfl) rfl h (fun _ _ h => cp_X7_swap (d := d + 5) h) fun v131 F50 h => ?_
        refine A_icmp_eq dL_law_949 rfl rfl h (fun h => ?_) (fun h => ?_)
        · exact okL_law_b1504 hL (fun x3 F h => ih x3 F h) h
        · refine V_iconst dL_law_952 ci_0 rfl ?_
          exact A_creturn dL_law_953 rfl (by decide) h
      refine A_if h (fun c h => ?_) (fun c26 h => ?_)
      · rw [c]
        refine V_tableIn dL_law_33 (by decide) (by decide) rfl rfl ?_
        refine V_aload_n dL_law_954 rfl rfl rfl ?_
        refine V_sload_n dL_law_955 rfl rfl rfl ?_
        refine V_iload_n dL_law_956 rfl rfl rfl ?_
        refine V_iconst dL_law_957 ci_1 rfl ?_
        refine V_iadd dL_law_958 rfl ?_
        refine A_sld rfl hL dL_law_959 rfl h fun v132 h => ?_
        refine V_sload_n dL_law_960 rfl rfl rfl ?_
        refine V_iload_n dL_law_961 rfl rfl rfl ?_
        refine V_iconst dL_law_962 ci_2 rfl ?_
        refine V_iadd dL_law_963 rfl ?_
        refine A_sld rfl hL dL_law_964 rfl h fun v133 h => ?_
        refine A_callC (ci := 6) eI dL_law_965 cl_L_121 (by decide) rfl rfl (As := [.int v132, .int v133]) (st := []) rfl rfl (Nat.le_of_ble_eq_true rfl) rfl h (fun _ _ h => cp_X6_lose (d := d + 3) h) fun v134 F51 h => ?_
        refine V_aload_n dL_law_968 rfl rfl rfl ?_
        refine V_sload_n dL_law_969 rfl rfl rfl ?_
        refine V_iload_n dL_law_970 rfl rfl rfl ?_
        refine V_iconst dL_law_971 ci_1 rfl ?_
        refine V_iadd dL_law_972 rfl ?_
        refine A_sld rfl hL dL_law_973 rfl h fun v135 h => ?_
        refine V_sload_n dL_law_974 rfl rfl rfl ?_
        refine V_iload_n dL_law_975 rfl rfl rfl ?_
        refine V_iconst dL_law_976 ci_2 rfl ?_
        refine V_iadd dL_law_977 rfl ?_
        refine A_sld rfl hL dL_law_978 rfl h fun v136 h => ?_
        refine A_callC (ci := 7) eI dL_law_979 cl_L_124 (by decide) rfl rfl (As := [.int v135, .int v136]) (st := [.int v134]) rfl rfl (Nat.le_of_ble_eq_true rfl) rfl h (fun _ _ h => cp_X7_lose (d := d + 5) h) fun v137 F52 h => ?_
        refine A_icmp_eq dL_law_982 rfl rfl h (fun h => ?_) (fun h => ?_)
        · exact okL_law_b1504 hL (fun x3 F h => ih x3 F h) h
        · refine V_iconst dL_law_985 ci_0 rfl ?_
          exact A_creturn dL_law_986 rfl (by decide) h
      refine A_if h (fun c h => ?_) (fun c27 h => ?_)
      · rw [c]
        refine V_tableIn dL_law_33 (by decide) (by decide) rfl rfl ?_
        refine V_aload_n dL_law_987 rfl rfl rfl ?_
        refine V_sload_n dL_law_988 rfl rfl rfl ?_
        refine V_iload_n dL_law_989 rfl rfl rfl ?_
        refine V_iconst dL_law_990 ci_1 rfl ?_
        refine V_iadd dL_law_991 rfl ?_
        refine A_sld rfl hL dL_law_992 rfl h fun v138 h => ?_
        refine V_sload_n dL_law_993 rfl rfl rfl ?_
        refine V_iload_n dL_law_994 rfl rfl rfl ?_
        refine V_iconst dL_law_995 ci_2 rfl ?_
        refine V_iadd dL_law_996 rfl ?_
        refine A_sld rfl hL dL_law_997 rfl h fun v139 h => ?_
        refine V_sload_n dL_law_998 rfl rfl rfl ?_
        refine V_iload_n dL_law_999 rfl rfl rfl ?_
        refine V_iconst dL_law_1000 ci_3 rfl ?_
        refine V_iadd dL_law_1001 rfl ?_
        refine A_sld rfl hL dL_law_1002 rfl h fun v140 h => ?_
        refine V_sload_n dL_law_1003 rfl rfl rfl ?_
        refine V_iload_n dL_law_1004 rfl rfl rfl ?_
        refine V_iconst dL_law_1005 ci_4 rfl ?_
        refine V_iadd dL_law_1006 rfl ?_
        refine A_sld rfl hL dL_law_1007 rfl h fun v141 h => ?_
        refine V_sload_n dL_law_1008 rfl rfl rfl ?_
        refine V_iload_n dL_law_1009 rfl rfl rfl ?_
        refine V_iconst dL_law_1010 ci_5 rfl ?_
        refine V_iadd dL_law_1011 rfl ?_
        refine A_sld rfl hL dL_law_1012 rfl h fun v142 h => ?_
        refine A_callC (ci := 6) eJ dL_law_1013 cl_L_125 (by decide) rfl rfl (As := [.int v138, .int v139, .int v140, .int v141, .int v142]) (st := []) rfl rfl (Nat.le_of_ble_eq_true rfl) rfl h (fun _ _ h => cp_X6_luck (d := d + 5) h) fun v143 F53 h => ?_
        refine V_aload_n dL_law_1016 rfl rfl rfl ?_
        refine V_sload_n dL_law_1017 rfl rfl rfl ?_
        refine V_iload_n dL_law_1018 rfl rfl rfl ?_
        refine V_iconst dL_law_1019 ci_1 rfl ?_
        refine V_iadd dL_law_1020 rfl ?_
        refine A_sld rfl hL dL_law_1021 rfl h fun v144 h => ?_
        refine V_sload_n dL_law_1022 rfl rfl rfl ?_
        refine V_iload_n dL_law_1023 rfl rfl rfl ?_
        refine V_iconst dL_law_1024 ci_2 rfl ?_
        refine V_iadd dL_law_1025 rfl ?_
        refine A_sld rfl hL dL_law_1026 rfl h fun v145 h => ?_
        refine V_sload_n dL_law_1027 rfl rfl rfl ?_
        refine V_iload_n dL_law_1028 rfl rfl rfl ?_
        refine V_iconst dL_law_1029 ci_3 rfl ?_
        refine V_iadd dL_law_1030 rfl ?_
        refine A_sld rfl hL dL_law_1031 rfl h fun v146 h => ?_
        refine V_sload_n dL_law_1032 rfl rfl rfl ?_
        refine V_iload_n dL_law_1033 rfl rfl rfl ?_
        refine V_iconst dL_law_1034 ci_4 rfl ?_
        refine V_iadd dL_law_1035 rfl ?_
        refine A_sld rfl hL dL_law_1036 rfl h fun v147 h => ?_
        refine V_sload_n dL_law_1037 rfl rfl rfl ?_
        refine V_iload_n dL_law_1038 rfl rfl rfl ?_
        refine V_iconst dL_law_1039 ci_5 rfl ?_
        refine V_iadd dL_law_1040 rfl ?_
        refine A_sld rfl hL dL_law_1041 rfl h fun v148 h => ?_
        refine A_callC (ci := 7) eJ dL_law_1042 cl_L_129 (by decide) rfl rfl (As := [.int v144, .int v145, .int v146, .int v147, .int v148]) (st := [.long v143]) rfl rfl (Nat.le_of_ble_eq_true rfl) rfl h (fun _ _ h => cp_X7_luck (d := d + 5) h) fun v149 F54 h => ?_
        refine V_lcmp dL_law_1045 rfl ?_
        refine A_if_eq dL_law_1046 rfl rfl h (fun h => ?_) (fun h => ?_)
        · exact okL_law_b1504 hL (fun x3 F h => ih x3 F h) h
        · refine V_iconst dL_law_1049 ci_0 rfl ?_
          exact A_creturn dL_law_1050 rfl (by decide) h
      refine A_if h (fun c h => ?_) (fun c28 h => ?_)
      · rw [c]
        refine V_tableIn dL_law_33 (by decide) (by decide) rfl rfl ?_
        refine V_aload_n dL_law_1051 rfl rfl rfl ?_
        refine V_sload_n dL_law_1052 rfl rfl rfl ?_
        refine V_iload_n dL_law_1053 rfl rfl rfl ?_
        refine V_iconst dL_law_1054 ci_1 rfl ?_
        refine V_iadd dL_law_1055 rfl ?_
        refine A_sld rfl hL dL_law_1056 rfl h fun v150 h => ?_
        refine V_sload_n dL_law_1057 rfl rfl rfl ?_
        refine V_iload_n dL_law_1058 rfl rfl rfl ?_
        refine V_iconst dL_law_1059 ci_2 rfl ?_
        refine V_iadd dL_law_1060 rfl ?_
        refine A_sld rfl hL dL_law_1061 rfl h fun v151 h => ?_
        refine V_sload_n dL_law_1062 rfl rfl rfl ?_
        refine V_iload_n dL_law_1063 rfl rfl rfl ?_
        refine V_iconst dL_law_1064 ci_3 rfl ?_
        refine V_iadd dL_law_1065 rfl ?_
        refine A_sld rfl hL dL_law_1066 rfl h fun v152 h => ?_
        refine A_callC (ci := 6) eJ dL_law_1067 cl_L_130 (by decide) rfl rfl (As := [.int v150, .int v151, .int v152]) (st := []) rfl rfl (Nat.le_of_ble_eq_true rfl) rfl h (fun _ _ h => cp_X6_mean (d := d + 5) h) fun v153 F55 h => ?_
        refine V_aload_n dL_law_1070 rfl rfl rfl ?_
        refine V_sload_n dL_law_1071 rfl rfl rfl ?_
        refine V_iload_n dL_law_1072 rfl rfl rfl ?_
        refine V_iconst dL_law_1073 ci_1 rfl ?_
        refine V_iadd dL_law_1074 rfl ?_
        refine A_sld rfl hL dL_law_1075 rfl h fun v154 h => ?_
        refine V_sload_n dL_law_1076 rfl rfl rfl ?_
        refine V_iload_n dL_law_1077 rfl rfl rfl ?_
        refine V_iconst dL_law_1078 ci_2 rfl ?_
        refine V_iadd dL_law_1079 rfl ?_
        refine A_sld rfl hL dL_law_1080 rfl h fun v155 h => ?_
        refine V_sload_n dL_law_1081 rfl rfl rfl ?_
        refine V_iload_n dL_law_1082 rfl rfl rfl ?_
        refine V_iconst dL_law_1083 ci_3 rfl ?_
        refine V_iadd dL_law_1084 rfl ?_
        refine A_sld rfl hL dL_law_1085 rfl h fun v156 h => ?_
        refine A_callC (ci := 7) eJ dL_law_1086 cl_L_134 (by decide) rfl rfl (As := [.int v154, .int v155, .int v156]) (st := [.long v153]) rfl rfl (Nat.le_of_ble_eq_true rfl) rfl h (fun _ _ h => cp_X7_mean (d := d + 5) h) fun v157 F56 h => ?_
        refine V_lcmp dL_law_1089 rfl ?_
        refine A_if_eq dL_law_1090 rfl rfl h (fun h => ?_) (fun h => ?_)
        · exact okL_law_b1504 hL (fun x3 F h => ih x3 F h) h
        · refine V_iconst dL_law_1093 ci_0 rfl ?_
          exact A_creturn dL_law_1094 rfl (by decide) h
      refine A_if h (fun c h => ?_) (fun c29 h => ?_)
      · rw [c]
        refine V_tableIn dL_law_33 (by decide) (by decide) rfl rfl ?_
        refine V_aload_n dL_law_1095 rfl rfl rfl ?_
        refine V_sload_n dL_law_1096 rfl rfl rfl ?_
        refine V_iload_n dL_law_1097 rfl rfl rfl ?_
        refine V_iconst dL_law_1098 ci_1 rfl ?_
        refine V_iadd dL_law_1099 rfl ?_
        refine A_sld rfl hL dL_law_1100 rfl h fun v158 h => ?_
        refine V_sload_n dL_law_1101 rfl rfl rfl ?_
        refine V_iload_n dL_law_1102 rfl rfl rfl ?_
        refine V_iconst dL_law_1103 ci_2 rfl ?_
        refine V_iadd dL_law_1104 rfl ?_
        refine A_sld rfl hL dL_law_1105 rfl h fun v159 h => ?_
        refine V_sload_n dL_law_1106 rfl rfl rfl ?_
        refine V_iload_n dL_law_1107 rfl rfl rfl ?_
        refine V_iconst dL_law_1108 ci_3 rfl ?_
        refine V_iadd dL_law_1109 rfl ?_
        refine A_sld rfl hL dL_law_1110 rfl h fun v160 h => ?_
        refine A_callC (ci := 6) eI dL_law_1111 cl_L_135 (by decide) rfl rfl (As := [.int v158, .int v159, .int v160]) (st := []) rfl rfl (Nat.le_of_ble_eq_true rfl) rfl h (fun _ _ h => cp_X6_see (d := d + 8) h) fun v161 F57 h => ?_
        refine V_aload_n dL_law_1114 rfl rfl rfl ?_
        refine V_sload_n dL_law_1115 rfl rfl rfl ?_
        refine V_iload_n dL_law_1116 rfl rfl rfl ?_
        refine V_iconst dL_law_1117 ci_1 rfl ?_
        refine V_iadd dL_law_1118 rfl ?_
        refine A_sld rfl hL dL_law_1119 rfl h fun v162 h => ?_
        refine V_sload_n dL_law_1120 rfl rfl rfl ?_
        refine V_iload_n dL_law_1121 rfl rfl rfl ?_
        refine V_iconst dL_law_1122 ci_2 rfl ?_
        refine V_iadd dL_law_1123 rfl ?_
        refine A_sld rfl hL dL_law_1124 rfl h fun v163 h => ?_
        refine V_sload_n dL_law_1125 rfl rfl rfl ?_
        refine V_iload_n dL_law_1126 rfl rfl rfl ?_
        refine V_iconst dL_law_1127 ci_3 rfl ?_
        refine V_iadd dL_law_1128 rfl ?_
        refine A_sld rfl hL dL_law_1129 rfl h fun v164 h => ?_
        refine A_callC (ci := 7) eI dL_law_1130 cl_L_138 (by decide) rfl rfl (As := [.int v162, .int v163, .int v164]) (st := [.int v161]) rfl rfl (Nat.le_of_ble_eq_true rfl) rfl h (fun _ _ h => cp_X7_see (d := d + 7) h) fun v165 F58 h => ?_
        refine A_icmp_eq dL_law_1133 rfl rfl h (fun h => ?_) (fun h => ?_)
        · exact okL_law_b1504 hL (fun x3 F h => ih x3 F h) h
        · refine V_iconst dL_law_1136 ci_0 rfl ?_
          exact A_creturn dL_law_1137 rfl (by decide) h
      refine A_if h (fun c h => ?_) (fun c30 h => ?_)
      · rw [c]
        refine V_tableIn dL_law_33 (by decide) (by decide) rfl rfl ?_
        refine V_aload_n dL_law_1138 rfl rfl rfl ?_
        refine V_sload_n dL_law_1139 rfl rfl rfl ?_
        refine V_iload_n dL_law_1140 rfl rfl rfl ?_
        refine V_iconst dL_law_1141 ci_1 rfl ?_
        refine V_iadd dL_law_1142 rfl ?_
        refine A_sld rfl hL dL_law_1143 rfl h fun v166 h => ?_
        refine A_callC (ci := 6) eI dL_law_1144 cl_L_139 (by decide) rfl rfl (As := [.int v166]) (st := []) rfl rfl (Nat.le_of_ble_eq_true rfl) rfl h (fun _ _ h => cp_X6_forget (d := d + 8) h) fun v167 F59 h => ?_
        refine V_aload_n dL_law_1147 rfl rfl rfl ?_
        refine V_sload_n dL_law_1148 rfl rfl rfl ?_
        refine V_iload_n dL_law_1149 rfl rfl rfl ?_
        refine V_iconst dL_law_1150 ci_1 rfl ?_
        refine V_iadd dL_law_1151 rfl ?_
        refine A_sld rfl hL dL_law_1152 rfl h fun v168 h => ?_
        refine A_callC (ci := 7) eI dL_law_1153 cl_L_142 (by decide) rfl rfl (As := [.int v168]) (st := [.int v167]) rfl rfl (Nat.le_of_ble_eq_true rfl) rfl h (fun _ _ h => cp_X7_forget (d := d + 8) h) fun v169 F60 h => ?_
        refine A_icmp_eq dL_law_1156 rfl rfl h (fun h => ?_) (fun h => ?_)
        · exact okL_law_b1504 hL (fun x3 F h => ih x3 F h) h
        · refine V_iconst dL_law_1159 ci_0 rfl ?_
          exact A_creturn dL_law_1160 rfl (by decide) h
      refine A_if h (fun c h => ?_) (fun c31 h => ?_)
      · rw [c]
        refine V_tableIn dL_law_33 (by decide) (by decide) rfl rfl ?_
        refine V_aload_n dL_law_1161 rfl rfl rfl ?_
        refine V_sload_n dL_law_1162 rfl rfl rfl ?_
        refine V_iload_n dL_law_1163 rfl rfl rfl ?_
        refine V_iconst dL_law_1164 ci_1 rfl ?_
        refine V_iadd dL_law_1165 rfl ?_
        refine A_sld rfl hL dL_law_1166 rfl h fun v170 h => ?_
        refine A_callC (ci := 6) eI dL_law_1167 cl_L_143 (by decide) rfl rfl (As := [.int v170]) (st := []) rfl rfl (Nat.le_of_ble_eq_true rfl) rfl h (fun _ _ h => cp_X6_kinds (d := d + 4) h) fun v171 F61 h => ?_
        refine V_aload_n dL_law_1170 rfl rfl rfl ?_
        refine V_sload_n dL_law_1171 rfl rfl rfl ?_
        refine V_iload_n dL_law_1172 rfl rfl rfl ?_
        refine V_iconst dL_law_1173 ci_1 rfl ?_
        refine V_iadd dL_law_1174 rfl ?_
        refine A_sld rfl hL dL_law_1175 rfl h fun v172 h => ?_
        refine A_callC (ci := 7) eI dL_law_1176 cl_L_146 (by decide) rfl rfl (As := [.int v172]) (st := [.int v171]) rfl rfl (Nat.le_of_ble_eq_true rfl) rfl h (fun _ _ h => cp_X7_kinds (d := d + 4) h) fun v173 F62 h => ?_
        refine A_icmp_eq dL_law_1179 rfl rfl h (fun h => ?_) (fun h => ?_)
        · exact okL_law_b1504 hL (fun x3 F h => ih x3 F h) h
        · refine V_iconst dL_law_1182 ci_0 rfl ?_
          exact A_creturn dL_law_1183 rfl (by decide) h
      refine A_if h (fun c h => ?_) (fun c32 h => ?_)
      · rw [c]
        refine V_tableIn dL_law_33 (by decide) (by decide) rfl rfl ?_
        refine V_aload_n dL_law_1184 rfl rfl rfl ?_
        refine V_sload_n dL_law_1185 rfl rfl rfl ?_
        refine V_iload_n dL_law_1186 rfl rfl rfl ?_
        refine V_iconst dL_law_1187 ci_1 rfl ?_
        refine V_iadd dL_law_1188 rfl ?_
        refine A_sld rfl hL dL_law_1189 rfl h fun v174 h => ?_
        refine A_callC (ci := 6) eI dL_law_1190 cl_L_147 (by decide) rfl rfl (As := [.int v174]) (st := []) rfl rfl (Nat.le_of_ble_eq_true rfl) rfl h (fun _ _ h => cp_X6_books (d := d + 3) h) fun v175 F63 h => ?_
        refine V_aload_n dL_law_1193 rfl rfl rfl ?_
        refine V_sload_n dL_law_1194 rfl rfl rfl ?_
        refine V_iload_n dL_law_1195 rfl rfl rfl ?_
        refine V_iconst dL_law_1196 ci_1 rfl ?_
        refine V_iadd dL_law_1197 rfl ?_
        refine A_sld rfl hL dL_law_1198 rfl h fun v176 h => ?_
        refine A_callC (ci := 7) eI dL_law_1199 cl_L_150 (by decide) rfl rfl (As := [.int v176]) (st := [.int v175]) rfl rfl (Nat.le_of_ble_eq_true rfl) rfl h (fun _ _ h => cp_X7_books (d := d + 4) h) fun v177 F64 h => ?_
        refine A_icmp_eq dL_law_1202 rfl rfl h (fun h => ?_) (fun h => ?_)
        · exact okL_law_b1504 hL (fun x3 F h => ih x3 F h) h
        · refine V_iconst dL_law_1205 ci_0 rfl ?_
          exact A_creturn dL_law_1206 rfl (by decide) h
      refine A_if h (fun c h => ?_) (fun c33 h => ?_)
      · rw [c]
        refine V_tableIn dL_law_33 (by decide) (by decide) rfl rfl ?_
        refine V_aload_n dL_law_1207 rfl rfl rfl ?_
        refine V_sload_n dL_law_1208 rfl rfl rfl ?_
        refine V_iload_n dL_law_1209 rfl rfl rfl ?_
        refine V_iconst dL_law_1210 ci_1 rfl ?_
        refine V_iadd dL_law_1211 rfl ?_
        refine A_sld rfl hL dL_law_1212 rfl h fun v178 h => ?_
        refine V_sload_n dL_law_1213 rfl rfl rfl ?_
        refine V_iload_n dL_law_1214 rfl rfl rfl ?_
        refine V_iconst dL_law_1215 ci_2 rfl ?_
        refine V_iadd dL_law_1216 rfl ?_
        refine A_sld rfl hL dL_law_1217 rfl h fun v179 h => ?_
        refine A_callC (ci := 6) eI dL_law_1218 cl_L_151 (by decide) rfl rfl (As := [.int v178, .int v179]) (st := []) rfl rfl (Nat.le_of_ble_eq_true rfl) rfl h (fun _ _ h => cp_X6_ask (d := d + 3) h) fun v180 F65 h => ?_
        refine V_aload_n dL_law_1221 rfl rfl rfl ?_
        refine V_sload_n dL_law_1222 rfl rfl rfl ?_
        refine V_iload_n dL_law_1223 rfl rfl rfl ?_
        refine V_iconst dL_law_1224 ci_1 rfl ?_
        refine V_iadd dL_law_1225 rfl ?_
        refine A_sld rfl hL dL_law_1226 rfl h fun v181 h => ?_
        refine V_sload_n dL_law_1227 rfl rfl rfl ?_
        refine V_iload_n dL_law_1228 rfl rfl rfl ?_
        refine V_iconst dL_law_1229 ci_2 rfl ?_
        refine V_iadd dL_law_1230 rfl ?_
        refine A_sld rfl hL dL_law_1231 rfl h fun v182 h => ?_
        refine A_callC (ci := 7) eI dL_law_1232 cl_L_154 (by decide) rfl rfl (As := [.int v181, .int v182]) (st := [.int v180]) rfl rfl (Nat.le_of_ble_eq_true rfl) rfl h (fun _ _ h => cp_X7_ask (d := d + 4) h) fun v183 F66 h => ?_
        refine A_icmp_eq dL_law_1235 rfl rfl h (fun h => ?_) (fun h => ?_)
        · exact okL_law_b1504 hL (fun x3 F h => ih x3 F h) h
        · refine V_iconst dL_law_1238 ci_0 rfl ?_
          exact A_creturn dL_law_1239 rfl (by decide) h
      refine A_if h (fun c h => ?_) (fun c34 h => ?_)
      · rw [c]
        refine V_tableIn dL_law_33 (by decide) (by decide) rfl rfl ?_
        refine V_aload_n dL_law_1240 rfl rfl rfl ?_
        refine V_sload_n dL_law_1241 rfl rfl rfl ?_
        refine V_iload_n dL_law_1242 rfl rfl rfl ?_
        refine V_iconst dL_law_1243 ci_1 rfl ?_
        refine V_iadd dL_law_1244 rfl ?_
        refine A_sld rfl hL dL_law_1245 rfl h fun v184 h => ?_
        refine V_sload_n dL_law_1246 rfl rfl rfl ?_
        refine V_iload_n dL_law_1247 rfl rfl rfl ?_
        refine V_iconst dL_law_1248 ci_2 rfl ?_
        refine V_iadd dL_law_1249 rfl ?_
        refine A_sld rfl hL dL_law_1250 rfl h fun v185 h => ?_
        refine V_sload_n dL_law_1251 rfl rfl rfl ?_
        refine V_iload_n dL_law_1252 rfl rfl rfl ?_
        refine V_iconst dL_law_1253 ci_3 rfl ?_
        refine V_iadd dL_law_1254 rfl ?_
        refine A_sld rfl hL dL_law_1255 rfl h fun v186 h => ?_
        refine A_callC (ci := 6) eI dL_law_1256 cl_L_155 (by decide) rfl rfl (As := [.int v184, .int v185, .int v186]) (st := []) rfl rfl (Nat.le_of_ble_eq_true rfl) rfl h (fun _ _ h => cp_X6_drift (d := d + 6) h) fun v187 F67 h => ?_
        refine V_aload_n dL_law_1259 rfl rfl rfl ?_
        refine V_sload_n dL_law_1260 rfl rfl rfl ?_
        refine V_iload_n dL_law_1261 rfl rfl rfl ?_
        refine V_iconst dL_law_1262 ci_1 rfl ?_
        refine V_iadd dL_law_1263 rfl ?_
        refine A_sld rfl hL dL_law_1264 rfl h fun v188 h => ?_
        refine V_sload_n dL_law_1265 rfl rfl rfl ?_
        refine V_iload_n dL_law_1266 rfl rfl rfl ?_
        refine V_iconst dL_law_1267 ci_2 rfl ?_
        refine V_iadd dL_law_1268 rfl ?_
        refine A_sld rfl hL dL_law_1269 rfl h fun v189 h => ?_
        refine V_sload_n dL_law_1270 rfl rfl rfl ?_
        refine V_iload_n dL_law_1271 rfl rfl rfl ?_
        refine V_iconst dL_law_1272 ci_3 rfl ?_
        refine V_iadd dL_law_1273 rfl ?_
        refine A_sld rfl hL dL_law_1274 rfl h fun v190 h => ?_
        refine A_callC (ci := 7) eI dL_law_1275 cl_L_158 (by decide) rfl rfl (As := [.int v188, .int v189, .int v190]) (st := [.int v187]) rfl rfl (Nat.le_of_ble_eq_true rfl) rfl h (fun _ _ h => cp_X7_drift (d := d + 7) h) fun v191 F68 h => ?_
        refine A_icmp_eq dL_law_1278 rfl rfl h (fun h => ?_) (fun h => ?_)
        · exact okL_law_b1504 hL (fun x3 F h => ih x3 F h) h
        · refine V_iconst dL_law_1281 ci_0 rfl ?_
          exact A_creturn dL_law_1282 rfl (by decide) h
      refine A_if h (fun c h => ?_) (fun c35 h => ?_)
      · rw [c]
        refine V_tableIn dL_law_33 (by decide) (by decide) rfl rfl ?_
        refine V_aload_n dL_law_1283 rfl rfl rfl ?_
        refine V_sload_n dL_law_1284 rfl rfl rfl ?_
        refine V_iload_n dL_law_1285 rfl rfl rfl ?_
        refine V_iconst dL_law_1286 ci_1 rfl ?_
        refine V_iadd dL_law_1287 rfl ?_
        refine A_sld rfl hL dL_law_1288 rfl h fun v192 h => ?_
        refine A_callC (ci := 6) eI dL_law_1289 cl_L_159 (by decide) rfl rfl (As := [.int v192]) (st := []) rfl rfl (Nat.le_of_ble_eq_true rfl) rfl h (fun _ _ h => cp_X6_keep (d := d + 6) h) fun v193 F69 h => ?_
        refine V_aload_n dL_law_1292 rfl rfl rfl ?_
        refine V_sload_n dL_law_1293 rfl rfl rfl ?_
        refine V_iload_n dL_law_1294 rfl rfl rfl ?_
        refine V_iconst dL_law_1295 ci_1 rfl ?_
        refine V_iadd dL_law_1296 rfl ?_
        refine A_sld rfl hL dL_law_1297 rfl h fun v194 h => ?_
        refine A_callC (ci := 7) eI dL_law_1298 cl_L_162 (by decide) rfl rfl (As := [.int v194]) (st := [.int v193]) rfl rfl (Nat.le_of_ble_eq_true rfl) rfl h (fun _ _ h => cp_X7_keep (d := d + 8) h) fun v195 F70 h => ?_
        refine A_icmp_eq dL_law_1301 rfl rfl h (fun h => ?_) (fun h => ?_)
        · exact okL_law_b1504 hL (fun x3 F h => ih x3 F h) h
        · refine V_iconst dL_law_1304 ci_0 rfl ?_
          exact A_creturn dL_law_1305 rfl (by decide) h
      refine A_if h (fun c h => ?_) (fun c36 h => ?_)
      · rw [c]
        refine V_tableIn dL_law_33 (by decide) (by decide) rfl rfl ?_
        refine V_aload_n dL_law_1306 rfl rfl rfl ?_
        refine V_sload_n dL_law_1307 rfl rfl rfl ?_
        refine V_iload_n dL_law_1308 rfl rfl rfl ?_
        refine V_iconst dL_law_1309 ci_1 rfl ?_
        refine V_iadd dL_law_1310 rfl ?_
        refine A_sld rfl hL dL_law_1311 rfl h fun v196 h => ?_
        refine A_callC (ci := 6) eI dL_law_1312 cl_L_163 (by decide) rfl rfl (As := [.int v196]) (st := []) rfl rfl (Nat.le_of_ble_eq_true rfl) rfl h (fun _ _ h => cp_X6_back (d := d + 6) h) fun v197 F71 h => ?_
        refine V_aload_n dL_law_1315 rfl rfl rfl ?_
        refine V_sload_n dL_law_1316 rfl rfl rfl ?_
        refine V_iload_n dL_law_1317 rfl rfl rfl ?_
        refine V_iconst dL_law_1318 ci_1 rfl ?_
        refine V_iadd dL_law_1319 rfl ?_
        refine A_sld rfl hL dL_law_1320 rfl h fun v198 h => ?_
        refine A_callC (ci := 7) eI dL_law_1321 cl_L_166 (by decide) rfl rfl (As := [.int v198]) (st := [.int v197]) rfl rfl (Nat.le_of_ble_eq_true rfl) rfl h (fun _ _ h => cp_X7_back (d := d + 8) h) fun v199 F72 h => ?_
        refine A_icmp_eq dL_law_1324 rfl rfl h (fun h => ?_) (fun h => ?_)
        · exact okL_law_b1504 hL (fun x3 F h => ih x3 F h) h
        · refine V_iconst dL_law_1327 ci_0 rfl ?_
          exact A_creturn dL_law_1328 rfl (by decide) h
      refine A_if h (fun c h => ?_) (fun c37 h => ?_)
      · rw [c]
        refine V_tableIn dL_law_33 (by decide) (by decide) rfl rfl ?_
        refine V_aload_n dL_law_1329 rfl rfl rfl ?_
        refine V_sload_n dL_law_1330 rfl rfl rfl ?_
        refine V_iload_n dL_law_1331 rfl rfl rfl ?_
        refine V_iconst dL_law_1332 ci_1 rfl ?_
        refine V_iadd dL_law_1333 rfl ?_
        refine A_sld rfl hL dL_law_1334 rfl h fun v200 h => ?_
        refine V_sload_n dL_law_1335 rfl rfl rfl ?_
        refine V_iload_n dL_law_1336 rfl rfl rfl ?_
        refine V_iconst dL_law_1337 ci_2 rfl ?_
        refine V_iadd dL_law_1338 rfl ?_
        refine A_sld rfl hL dL_law_1339 rfl h fun v201 h => ?_
        refine V_sload_n dL_law_1340 rfl rfl rfl ?_
        refine V_iload_n dL_law_1341 rfl rfl rfl ?_
        refine V_iconst dL_law_1342 ci_3 rfl ?_
        refine V_iadd dL_law_1343 rfl ?_
        refine A_sld rfl hL dL_law_1344 rfl h fun v202 h => ?_
        refine A_callC (ci := 6) eI dL_law_1345 cl_L_167 (by decide) rfl rfl (As := [.int v200, .int v201, .int v202]) (st := []) rfl rfl (Nat.le_of_ble_eq_true rfl) rfl h (fun _ _ h => cp_X6_sheet (d := d + 8) h) fun v203 F73 h => ?_
        refine V_aload_n dL_law_1348 rfl rfl rfl ?_
        refine V_sload_n dL_law_1349 rfl rfl rfl ?_
        refine V_iload_n dL_law_1350 rfl rfl rfl ?_
        refine V_iconst dL_law_1351 ci_1 rfl ?_
        refine V_iadd dL_law_1352 rfl ?_
        refine A_sld rfl hL dL_law_1353 rfl h fun v204 h => ?_
        refine V_sload_n dL_law_1354 rfl rfl rfl ?_
        refine V_iload_n dL_law_1355 rfl rfl rfl ?_
        refine V_iconst dL_law_1356 ci_2 rfl ?_
        refine V_iadd dL_law_1357 rfl ?_
        refine A_sld rfl hL dL_law_1358 rfl h fun v205 h => ?_
        refine V_sload_n dL_law_1359 rfl rfl rfl ?_
        refine V_iload_n dL_law_1360 rfl rfl rfl ?_
        refine V_iconst dL_law_1361 ci_3 rfl ?_
        refine V_iadd dL_law_1362 rfl ?_
        refine A_sld rfl hL dL_law_1363 rfl h fun v206 h => ?_
        refine A_callC (ci := 7) eI dL_law_1364 cl_L_170 (by decide) rfl rfl (As := [.int v204, .int v205, .int v206]) (st := [.int v203]) rfl rfl (Nat.le_of_ble_eq_true rfl) rfl h (fun _ _ h => cp_X7_sheet (d := d + 8) h) fun v207 F74 h => ?_
        refine A_icmp_eq dL_law_1367 rfl rfl h (fun h => ?_) (fun h => ?_)
        · exact okL_law_b1504 hL (fun x3 F h => ih x3 F h) h
        · refine V_iconst dL_law_1370 ci_0 rfl ?_
          exact A_creturn dL_law_1371 rfl (by decide) h
      refine A_if h (fun c h => ?_) (fun c38 h => ?_)
      · rw [c]
        refine V_tableIn dL_law_33 (by decide) (by decide) rfl rfl ?_
        refine V_aload_n dL_law_1372 rfl rfl rfl ?_
        refine V_sload_n dL_law_1373 rfl rfl rfl ?_
        refine V_iload_n dL_law_1374 rfl rfl rfl ?_
        refine V_iconst dL_law_1375 ci_1 rfl ?_
        refine V_iadd dL_law_1376 rfl ?_
        refine A_sld rfl hL dL_law_1377 rfl h fun v208 h => ?_
        refine V_sload_n dL_law_1378 rfl rfl rfl ?_
        refine V_iload_n dL_law_1379 rfl rfl rfl ?_
        refine V_iconst dL_law_1380 ci_2 rfl ?_
        refine V_iadd dL_law_1381 rfl ?_
        refine A_sld rfl hL dL_law_1382 rfl h fun v209 h => ?_
        refine V_sload_n dL_law_1383 rfl rfl rfl ?_
        refine V_iload_n dL_law_1384 rfl rfl rfl ?_
        refine V_iconst dL_law_1385 ci_3 rfl ?_
        refine V_iadd dL_law_1386 rfl ?_
        refine A_sld rfl hL dL_law_1387 rfl h fun v210 h => ?_
        refine A_callC (ci := 6) eI dL_law_1388 cl_L_171 (by decide) rfl rfl (As := [.int v208, .int v209, .int v210]) (st := []) rfl rfl (Nat.le_of_ble_eq_true rfl) rfl h (fun _ _ h => cp_X6_lay (d := d + 8) h) fun v211 F75 h => ?_
        refine V_aload_n dL_law_1391 rfl rfl rfl ?_
        refine V_sload_n dL_law_1392 rfl rfl rfl ?_
        refine V_iload_n dL_law_1393 rfl rfl rfl ?_
        refine V_iconst dL_law_1394 ci_1 rfl ?_
        refine V_iadd dL_law_1395 rfl ?_
        refine A_sld rfl hL dL_law_1396 rfl h fun v212 h => ?_
        refine V_sload_n dL_law_1397 rfl rfl rfl ?_
        refine V_iload_n dL_law_1398 rfl rfl rfl ?_
        refine V_iconst dL_law_1399 ci_2 rfl ?_
        refine V_iadd dL_law_1400 rfl ?_
        refine A_sld rfl hL dL_law_1401 rfl h fun v213 h => ?_
        refine V_sload_n dL_law_1402 rfl rfl rfl ?_
        refine V_iload_n dL_law_1403 rfl rfl rfl ?_
        refine V_iconst dL_law_1404 ci_3 rfl ?_
        refine V_iadd dL_law_1405 rfl ?_
        refine A_sld rfl hL dL_law_1406 rfl h fun v214 h => ?_
        refine A_callC (ci := 7) eI dL_law_1407 cl_L_174 (by decide) rfl rfl (As := [.int v212, .int v213, .int v214]) (st := [.int v211]) rfl rfl (Nat.le_of_ble_eq_true rfl) rfl h (fun _ _ h => cp_X7_lay (d := d + 8) h) fun v215 F76 h => ?_
        refine A_icmp_eq dL_law_1410 rfl rfl h (fun h => ?_) (fun h => ?_)
        · exact okL_law_b1504 hL (fun x3 F h => ih x3 F h) h
        · refine V_iconst dL_law_1413 ci_0 rfl ?_
          exact A_creturn dL_law_1414 rfl (by decide) h
      refine A_if h (fun c h => ?_) (fun c39 h => ?_)
      · rw [c]
        refine V_tableIn dL_law_33 (by decide) (by decide) rfl rfl ?_
        refine V_aload_n dL_law_1415 rfl rfl rfl ?_
        refine V_sload_n dL_law_1416 rfl rfl rfl ?_
        refine V_iload_n dL_law_1417 rfl rfl rfl ?_
        refine V_iconst dL_law_1418 ci_1 rfl ?_
        refine V_iadd dL_law_1419 rfl ?_
        refine A_sld rfl hL dL_law_1420 rfl h fun v216 h => ?_
        refine V_sload_n dL_law_1421 rfl rfl rfl ?_
        refine V_iload_n dL_law_1422 rfl rfl rfl ?_
        refine V_iconst dL_law_1423 ci_2 rfl ?_
        refine V_iadd dL_law_1424 rfl ?_
        refine A_sld rfl hL dL_law_1425 rfl h fun v217 h => ?_
        refine V_sload_n dL_law_1426 rfl rfl rfl ?_
        refine V_iload_n dL_law_1427 rfl rfl rfl ?_
        refine V_iconst dL_law_1428 ci_3 rfl ?_
        refine V_iadd dL_law_1429 rfl ?_
        refine A_sld rfl hL dL_law_1430 rfl h fun v218 h => ?_
        refine V_sload_n dL_law_1431 rfl rfl rfl ?_
        refine V_iload_n dL_law_1432 rfl rfl rfl ?_
        refine V_iconst dL_law_1433 ci_4 rfl ?_
        refine V_iadd dL_law_1434 rfl ?_
        refine A_sld rfl hL dL_law_1435 rfl h fun v219 h => ?_
        refine A_callC (ci := 6) eI dL_law_1436 cl_L_175 (by decide) rfl rfl (As := [.int v216, .int v217, .int v218, .int v219]) (st := []) rfl rfl (Nat.le_of_ble_eq_true rfl) rfl h (fun _ _ h => cp_X6_read (d := d + 7) h) fun v220 F77 h => ?_
        refine V_aload_n dL_law_1439 rfl rfl rfl ?_
        refine V_sload_n dL_law_1440 rfl rfl rfl ?_
        refine V_iload_n dL_law_1441 rfl rfl rfl ?_
        refine V_iconst dL_law_1442 ci_1 rfl ?_
        refine V_iadd dL_law_1443 rfl ?_
        refine A_sld rfl hL dL_law_1444 rfl h fun v221 h => ?_
        refine V_sload_n dL_law_1445 rfl rfl rfl ?_
        refine V_iload_n dL_law_1446 rfl rfl rfl ?_
        refine V_iconst dL_law_1447 ci_2 rfl ?_
        refine V_iadd dL_law_1448 rfl ?_
        refine A_sld rfl hL dL_law_1449 rfl h fun v222 h => ?_
        refine V_sload_n dL_law_1450 rfl rfl rfl ?_
        refine V_iload_n dL_law_1451 rfl rfl rfl ?_
        refine V_iconst dL_law_1452 ci_3 rfl ?_
        refine V_iadd dL_law_1453 rfl ?_
        refine A_sld rfl hL dL_law_1454 rfl h fun v223 h => ?_
        refine V_sload_n dL_law_1455 rfl rfl rfl ?_
        refine V_iload_n dL_law_1456 rfl rfl rfl ?_
        refine V_iconst dL_law_1457 ci_4 rfl ?_
        refine V_iadd dL_law_1458 rfl ?_
        refine A_sld rfl hL dL_law_1459 rfl h fun v224 h => ?_
        refine A_callC (ci := 7) eI dL_law_1460 cl_L_179 (by decide) rfl rfl (As := [.int v221, .int v222, .int v223, .int v224]) (st := [.int v220]) rfl rfl (Nat.le_of_ble_eq_true rfl) rfl h (fun _ _ h => cp_X7_read (d := d + 6) h) fun v225 F78 h => ?_
        refine A_icmp_eq dL_law_1463 rfl rfl h (fun h => ?_) (fun h => ?_)
        · exact okL_law_b1504 hL (fun x3 F h => ih x3 F h) h
        · refine V_iconst dL_law_1466 ci_0 rfl ?_
          exact A_creturn dL_law_1467 rfl (by decide) h
      refine A_if h (fun c h => ?_) (fun c40 h => ?_)
      · rw [c]
        refine V_tableIn dL_law_33 (by decide) (by decide) rfl rfl ?_
        refine V_aload_n dL_law_1468 rfl rfl rfl ?_
        refine P_callV (ci := 6) dL_law_1469 cl_L_180 (by decide) rfl rfl (cq_X6_torn (d := d + 9)) (As := []) (st := []) rfl rfl (Nat.le_of_ble_eq_true rfl) rfl ?_
        refine V_aload_n dL_law_1472 rfl rfl rfl ?_
        refine P_callV (ci := 7) dL_law_1473 cl_L_183 (by decide) rfl rfl (cq_X7_torn (d := d + 9)) (As := []) (st := [.int (pX6_torn F)]) rfl rfl (Nat.le_of_ble_eq_true rfl) rfl ?_
        refine A_icmp_eq dL_law_1476 rfl rfl h (fun h => ?_) (fun h => ?_)
        · exact okL_law_b1504 hL (fun x3 F h => ih x3 F h) h
        · refine V_iconst dL_law_1479 ci_0 rfl ?_
          exact A_creturn dL_law_1480 rfl (by decide) h
      refine A_if h (fun c h => ?_) (fun c41 h => ?_)
      · rw [c]
        refine V_tableIn dL_law_33 (by decide) (by decide) rfl rfl ?_
        refine V_aload_n dL_law_1481 rfl rfl rfl ?_
        refine V_sload_n dL_law_1482 rfl rfl rfl ?_
        refine V_iload_n dL_law_1483 rfl rfl rfl ?_
        refine V_iconst dL_law_1484 ci_1 rfl ?_
        refine V_iadd dL_law_1485 rfl ?_
        refine A_sld rfl hL dL_law_1486 rfl h fun v226 h => ?_
        refine A_callC (ci := 6) eI dL_law_1487 cl_L_184 (by decide) rfl rfl (As := [.int v226]) (st := []) rfl rfl (Nat.le_of_ble_eq_true rfl) rfl h (fun _ _ h => cp_X6_count (d := d + 8) h) fun v227 F79 h => ?_
        refine V_aload_n dL_law_1490 rfl rfl rfl ?_
        refine V_sload_n dL_law_1491 rfl rfl rfl ?_
        refine V_iload_n dL_law_1492 rfl rfl rfl ?_
        refine V_iconst dL_law_1493 ci_1 rfl ?_
        refine V_iadd dL_law_1494 rfl ?_
        refine A_sld rfl hL dL_law_1495 rfl h fun v228 h => ?_
        refine A_callC (ci := 7) eI dL_law_1496 cl_L_187 (by decide) rfl rfl (As := [.int v228]) (st := [.int v227]) rfl rfl (Nat.le_of_ble_eq_true rfl) rfl h (fun _ _ h => cp_X7_count (d := d + 9) h) fun v229 F80 h => ?_
        refine A_icmp_eq dL_law_1499 rfl rfl h (fun h => ?_) (fun h => ?_)
        · exact okL_law_b1504 hL (fun x3 F h => ih x3 F h) h
        · refine V_iconst dL_law_1502 ci_0 rfl ?_
          exact A_creturn dL_law_1503 rfl (by decide) h
      refine V_tableOut dL_law_33 (tb_out42 c0 c1 c2 c3 c4 c5 c6 c7 c8 c9 c10 c11 c12 c13 c14 c15 c16 c17 c18 c19 c20 c21 c22 c23 c24 c25 c26 c27 c28 c29 c30 c31 c32 c33 c34 c35 c36 c37 c38 c39 c40 c41) rfl ?_
      exact okL_law_b1504 hL (fun x3 F h => ih x3 F h) h
theorem okL_law {N d : Nat} {L : Nat} {xs : Nat → Int32} {F : FF} {res : Int32 × FF} (hL : L < 2 ^ 31) (h : fL_law N L xs F = some res) : FV cL_law 4 RL (d + 10) (some .boolean) (some (L, xs)) 16 [.float 1000, .ref 0, .ref 82, .null] [] F (RI res) := by
  unfold fL_law at h
  refine V_iconst dL_law_16 ci_0 rfl ?_
  refine V_istore_n dL_law_17 rfl (by decide) rfl (ls' := [.float 1000, .ref 0, .ref 82, .int 0]) rfl rfl ?_
  exact okL_law_L18 hL _ _ _ h
