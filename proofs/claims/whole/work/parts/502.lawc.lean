theorem lw_le {x : Int32} {i L : Nat} (hx : x = nI i) (hi : i < 2 ^ 20) (hL : L < 2 ^ 20) (c : ¬ nI L - 6 < x) : i + 6 ≤ L := by
  have h6 : (6 : Int32) = nI 6 := rfl
  have e1 : (nI L - 6).toInt = (L : Int) - 6 := by rw [h6]; exact pk_sub_toInt (by omega) (by omega)
  have e2 : x.toInt = (i : Int) := by rw [hx]; exact nI_toInt (by omega)
  rw [Int32.lt_iff_toInt_lt] at c
  omega
theorem lw_in {x : Int32} {i L : Nat} (hx : x = nI i) (h : i + 6 ≤ L) (hL : L < 2 ^ 20) {j : Int32} (hj : 0 ≤ j ∧ j < 6) : vp_in (x + j) L := by
  have j0 : ¬ j < 0 := Int32.not_lt.mpr hj.1
  obtain ⟨a, ha, rfl⟩ := nI_of j0
  have hs : a < 6 := (nI_ltI (a := a) (b := 6) ha (by omega)).mp hj.2
  rw [hx, nI_add]
  exact vp_in_nI (by omega) (by omega)
theorem lw_case_0 {Inv : Mem → Prop} (hp : ∀ (a1 : Int32) (h : Mem), Inv h → f_X9_line a1 h (fun r h1 => f_X10_line a1 h1 (fun r2 h2 => r = r2 ∧ Inv h2))) {L : Nat} {xs : Nat → Int32} {x3 : Int32} {h : Mem} (hI : Inv h) (hin : ∀ j : Int32, (0 ≤ j ∧ j < 6) → vp_in (x3 + j) L) (next : ∀ h2, Inv h2 → LV L xs 1368 [(0, .ref 300), (1, .ref 0), (2, .ref 43), (3, .int x3)] [] h2) : LV L xs 236 [(0, .ref 300), (1, .ref 0), (2, .ref 43), (3, .int x3)] [] h := by
  have hyp0 := hp (xs (x3 + 1).toNatClampNeg) h hI
  refine le_aload_n d_law_236 rfl 1 rfl ?_
  refine le_aload_n d_law_237 rfl 0 rfl ?_
  refine le_iload_n d_law_238 rfl 3 rfl ?_
  refine le_iconst (v := 1) d_law_239 rfl ?_
  refine le_iadd d_law_240 ?_
  refine le_sld d_law_241 (hin 1 (by decide)) ?_
  refine le_cI [.int (xs (x3 + 1).toNatClampNeg)] (rest := []) d_law_242 ok_X9_line lk_L_13 ⟨Nat.le_of_ble_eq_true rfl, Nat.le_of_ble_eq_true rfl⟩ (rfl : gm_cls 0 = 8) vc_8 (by decide) rfl rfl (Nat.le_of_ble_eq_true rfl) (t_X9_line (xs (x3 + 1).toNatClampNeg) h _ hyp0) (fun r1 h1 hyp => ?_)
  refine le_aload_n d_law_245 rfl 2 rfl ?_
  refine le_aload_n d_law_246 rfl 0 rfl ?_
  refine le_iload_n d_law_247 rfl 3 rfl ?_
  refine le_iconst (v := 1) d_law_248 rfl ?_
  refine le_iadd d_law_249 ?_
  refine le_sld d_law_250 (hin 1 (by decide)) ?_
  refine le_cI [.int (xs (x3 + 1).toNatClampNeg)] (rest := [.int r1]) d_law_251 ok_X10_line lk_L_17 ⟨Nat.le_of_ble_eq_true rfl, Nat.le_of_ble_eq_true rfl⟩ (rfl : gm_cls 43 = 9) vc_9 (by decide) rfl rfl (Nat.le_of_ble_eq_true rfl) (t_X10_line (xs (x3 + 1).toNatClampNeg) h1 _ hyp) (fun r2 h2 hyp => ?_)
  exact le_icmp_eq (tgt := 1368) d_law_254 (by decide) hyp.1 (next h2 hyp.2)
theorem lw_case_1 {Inv : Mem → Prop} (hp : ∀ (a1 a2 : Int32) (h : Mem), Inv h → f_X9_of a1 a2 h (fun r h1 => f_X10_of a1 a2 h1 (fun r2 h2 => r = r2 ∧ Inv h2))) {L : Nat} {xs : Nat → Int32} {x3 : Int32} {h : Mem} (hI : Inv h) (hin : ∀ j : Int32, (0 ≤ j ∧ j < 6) → vp_in (x3 + j) L) (next : ∀ h2, Inv h2 → LV L xs 1368 [(0, .ref 300), (1, .ref 0), (2, .ref 43), (3, .int x3)] [] h2) : LV L xs 259 [(0, .ref 300), (1, .ref 0), (2, .ref 43), (3, .int x3)] [] h := by
  have hyp0 := hp (xs (x3 + 1).toNatClampNeg) (xs (x3 + 2).toNatClampNeg) h hI
  refine le_aload_n d_law_259 rfl 1 rfl ?_
  refine le_aload_n d_law_260 rfl 0 rfl ?_
  refine le_iload_n d_law_261 rfl 3 rfl ?_
  refine le_iconst (v := 1) d_law_262 rfl ?_
  refine le_iadd d_law_263 ?_
  refine le_sld d_law_264 (hin 1 (by decide)) ?_
  refine le_aload_n d_law_265 rfl 0 rfl ?_
  refine le_iload_n d_law_266 rfl 3 rfl ?_
  refine le_iconst (v := 2) d_law_267 rfl ?_
  refine le_iadd d_law_268 ?_
  refine le_sld d_law_269 (hin 2 (by decide)) ?_
  refine le_cI [.int (xs (x3 + 1).toNatClampNeg), .int (xs (x3 + 2).toNatClampNeg)] (rest := []) d_law_270 ok_X9_of lk_L_18 ⟨Nat.le_of_ble_eq_true rfl, Nat.le_of_ble_eq_true rfl⟩ (rfl : gm_cls 0 = 8) vc_8 (by decide) rfl rfl (Nat.le_of_ble_eq_true rfl) (t_X9_of (xs (x3 + 1).toNatClampNeg) (xs (x3 + 2).toNatClampNeg) h _ hyp0) (fun r1 h1 hyp => ?_)
  refine le_aload_n d_law_273 rfl 2 rfl ?_
  refine le_aload_n d_law_274 rfl 0 rfl ?_
  refine le_iload_n d_law_275 rfl 3 rfl ?_
  refine le_iconst (v := 1) d_law_276 rfl ?_
  refine le_iadd d_law_277 ?_
  refine le_sld d_law_278 (hin 1 (by decide)) ?_
  refine le_aload_n d_law_279 rfl 0 rfl ?_
  refine le_iload_n d_law_280 rfl 3 rfl ?_
  refine le_iconst (v := 2) d_law_281 rfl ?_
  refine le_iadd d_law_282 ?_
  refine le_sld d_law_283 (hin 2 (by decide)) ?_
  refine le_cI [.int (xs (x3 + 1).toNatClampNeg), .int (xs (x3 + 2).toNatClampNeg)] (rest := [.int r1]) d_law_284 ok_X10_of lk_L_22 ⟨Nat.le_of_ble_eq_true rfl, Nat.le_of_ble_eq_true rfl⟩ (rfl : gm_cls 43 = 9) vc_9 (by decide) rfl rfl (Nat.le_of_ble_eq_true rfl) (t_X10_of (xs (x3 + 1).toNatClampNeg) (xs (x3 + 2).toNatClampNeg) h1 _ hyp) (fun r2 h2 hyp => ?_)
  exact le_icmp_eq (tgt := 1368) d_law_287 (by decide) hyp.1 (next h2 hyp.2)
theorem lw_case_2 {Inv : Mem → Prop} (hp : ∀ (a1 a2 a3 : Int32) (h : Mem), Inv h → f_X9_change a1 a2 a3 h (fun r h1 => f_X10_change a1 a2 a3 h1 (fun r2 h2 => r = r2 ∧ Inv h2))) {L : Nat} {xs : Nat → Int32} {x3 : Int32} {h : Mem} (hI : Inv h) (hin : ∀ j : Int32, (0 ≤ j ∧ j < 6) → vp_in (x3 + j) L) (next : ∀ h2, Inv h2 → LV L xs 1368 [(0, .ref 300), (1, .ref 0), (2, .ref 43), (3, .int x3)] [] h2) : LV L xs 292 [(0, .ref 300), (1, .ref 0), (2, .ref 43), (3, .int x3)] [] h := by
  have hyp0 := hp (xs (x3 + 1).toNatClampNeg) (xs (x3 + 2).toNatClampNeg) (xs (x3 + 3).toNatClampNeg) h hI
  refine le_aload_n d_law_292 rfl 1 rfl ?_
  refine le_aload_n d_law_293 rfl 0 rfl ?_
  refine le_iload_n d_law_294 rfl 3 rfl ?_
  refine le_iconst (v := 1) d_law_295 rfl ?_
  refine le_iadd d_law_296 ?_
  refine le_sld d_law_297 (hin 1 (by decide)) ?_
  refine le_aload_n d_law_298 rfl 0 rfl ?_
  refine le_iload_n d_law_299 rfl 3 rfl ?_
  refine le_iconst (v := 2) d_law_300 rfl ?_
  refine le_iadd d_law_301 ?_
  refine le_sld d_law_302 (hin 2 (by decide)) ?_
  refine le_aload_n d_law_303 rfl 0 rfl ?_
  refine le_iload_n d_law_304 rfl 3 rfl ?_
  refine le_iconst (v := 3) d_law_305 rfl ?_
  refine le_iadd d_law_306 ?_
  refine le_sld d_law_307 (hin 3 (by decide)) ?_
  refine le_cI [.int (xs (x3 + 1).toNatClampNeg), .int (xs (x3 + 2).toNatClampNeg), .int (xs (x3 + 3).toNatClampNeg)] (rest := []) d_law_308 ok_X9_change lk_L_23 ⟨Nat.le_of_ble_eq_true rfl, Nat.le_of_ble_eq_true rfl⟩ (rfl : gm_cls 0 = 8) vc_8 (by decide) rfl rfl (Nat.le_of_ble_eq_true rfl) (t_X9_change (xs (x3 + 1).toNatClampNeg) (xs (x3 + 2).toNatClampNeg) (xs (x3 + 3).toNatClampNeg) h _ hyp0) (fun r1 h1 hyp => ?_)
  refine le_aload_n d_law_311 rfl 2 rfl ?_
  refine le_aload_n d_law_312 rfl 0 rfl ?_
  refine le_iload_n d_law_313 rfl 3 rfl ?_
  refine le_iconst (v := 1) d_law_314 rfl ?_
  refine le_iadd d_law_315 ?_
  refine le_sld d_law_316 (hin 1 (by decide)) ?_
  refine le_aload_n d_law_317 rfl 0 rfl ?_
  refine le_iload_n d_law_318 rfl 3 rfl ?_
  refine le_iconst (v := 2) d_law_319 rfl ?_
  refine le_iadd d_law_320 ?_
  refine le_sld d_law_321 (hin 2 (by decide)) ?_
  refine le_aload_n d_law_322 rfl 0 rfl ?_
  refine le_iload_n d_law_323 rfl 3 rfl ?_
  refine le_iconst (v := 3) d_law_324 rfl ?_
  refine le_iadd d_law_325 ?_
  refine le_sld d_law_326 (hin 3 (by decide)) ?_
  refine le_cI [.int (xs (x3 + 1).toNatClampNeg), .int (xs (x3 + 2).toNatClampNeg), .int (xs (x3 + 3).toNatClampNeg)] (rest := [.int r1]) d_law_327 ok_X10_change lk_L_27 ⟨Nat.le_of_ble_eq_true rfl, Nat.le_of_ble_eq_true rfl⟩ (rfl : gm_cls 43 = 9) vc_9 (by decide) rfl rfl (Nat.le_of_ble_eq_true rfl) (t_X10_change (xs (x3 + 1).toNatClampNeg) (xs (x3 + 2).toNatClampNeg) (xs (x3 + 3).toNatClampNeg) h1 _ hyp) (fun r2 h2 hyp => ?_)
  exact le_icmp_eq (tgt := 1368) d_law_330 (by decide) hyp.1 (next h2 hyp.2)
theorem lw_case_3 {Inv : Mem → Prop} (hp : ∀ (a1 a2 : Int32) (h : Mem), Inv h → f_X9_rule a1 a2 h (fun r h1 => f_X10_rule a1 a2 h1 (fun r2 h2 => r = r2 ∧ Inv h2))) {L : Nat} {xs : Nat → Int32} {x3 : Int32} {h : Mem} (hI : Inv h) (hin : ∀ j : Int32, (0 ≤ j ∧ j < 6) → vp_in (x3 + j) L) (next : ∀ h2, Inv h2 → LV L xs 1368 [(0, .ref 300), (1, .ref 0), (2, .ref 43), (3, .int x3)] [] h2) : LV L xs 335 [(0, .ref 300), (1, .ref 0), (2, .ref 43), (3, .int x3)] [] h := by
  have hyp0 := hp (xs (x3 + 1).toNatClampNeg) (xs (x3 + 2).toNatClampNeg) h hI
  refine le_aload_n d_law_335 rfl 1 rfl ?_
  refine le_aload_n d_law_336 rfl 0 rfl ?_
  refine le_iload_n d_law_337 rfl 3 rfl ?_
  refine le_iconst (v := 1) d_law_338 rfl ?_
  refine le_iadd d_law_339 ?_
  refine le_sld d_law_340 (hin 1 (by decide)) ?_
  refine le_aload_n d_law_341 rfl 0 rfl ?_
  refine le_iload_n d_law_342 rfl 3 rfl ?_
  refine le_iconst (v := 2) d_law_343 rfl ?_
  refine le_iadd d_law_344 ?_
  refine le_sld d_law_345 (hin 2 (by decide)) ?_
  refine le_cI [.int (xs (x3 + 1).toNatClampNeg), .int (xs (x3 + 2).toNatClampNeg)] (rest := []) d_law_346 ok_X9_rule lk_L_28 ⟨Nat.le_of_ble_eq_true rfl, Nat.le_of_ble_eq_true rfl⟩ (rfl : gm_cls 0 = 8) vc_8 (by decide) rfl rfl (Nat.le_of_ble_eq_true rfl) (t_X9_rule (xs (x3 + 1).toNatClampNeg) (xs (x3 + 2).toNatClampNeg) h _ hyp0) (fun r1 h1 hyp => ?_)
  refine le_aload_n d_law_349 rfl 2 rfl ?_
  refine le_aload_n d_law_350 rfl 0 rfl ?_
  refine le_iload_n d_law_351 rfl 3 rfl ?_
  refine le_iconst (v := 1) d_law_352 rfl ?_
  refine le_iadd d_law_353 ?_
  refine le_sld d_law_354 (hin 1 (by decide)) ?_
  refine le_aload_n d_law_355 rfl 0 rfl ?_
  refine le_iload_n d_law_356 rfl 3 rfl ?_
  refine le_iconst (v := 2) d_law_357 rfl ?_
  refine le_iadd d_law_358 ?_
  refine le_sld d_law_359 (hin 2 (by decide)) ?_
  refine le_cI [.int (xs (x3 + 1).toNatClampNeg), .int (xs (x3 + 2).toNatClampNeg)] (rest := [.int r1]) d_law_360 ok_X10_rule lk_L_31 ⟨Nat.le_of_ble_eq_true rfl, Nat.le_of_ble_eq_true rfl⟩ (rfl : gm_cls 43 = 9) vc_9 (by decide) rfl rfl (Nat.le_of_ble_eq_true rfl) (t_X10_rule (xs (x3 + 1).toNatClampNeg) (xs (x3 + 2).toNatClampNeg) h1 _ hyp) (fun r2 h2 hyp => ?_)
  exact le_icmp_eq (tgt := 1368) d_law_363 (by decide) hyp.1 (next h2 hyp.2)
theorem lw_case_4 {Inv : Mem → Prop} (hp : ∀ (a1 : Int32) (h : Mem), Inv h → f_X9_ruled a1 h (fun r h1 => f_X10_ruled a1 h1 (fun r2 h2 => r = r2 ∧ Inv h2))) {L : Nat} {xs : Nat → Int32} {x3 : Int32} {h : Mem} (hI : Inv h) (hin : ∀ j : Int32, (0 ≤ j ∧ j < 6) → vp_in (x3 + j) L) (next : ∀ h2, Inv h2 → LV L xs 1368 [(0, .ref 300), (1, .ref 0), (2, .ref 43), (3, .int x3)] [] h2) : LV L xs 368 [(0, .ref 300), (1, .ref 0), (2, .ref 43), (3, .int x3)] [] h := by
  have hyp0 := hp (xs (x3 + 1).toNatClampNeg) h hI
  refine le_aload_n d_law_368 rfl 1 rfl ?_
  refine le_aload_n d_law_369 rfl 0 rfl ?_
  refine le_iload_n d_law_370 rfl 3 rfl ?_
  refine le_iconst (v := 1) d_law_371 rfl ?_
  refine le_iadd d_law_372 ?_
  refine le_sld d_law_373 (hin 1 (by decide)) ?_
  refine le_cI [.int (xs (x3 + 1).toNatClampNeg)] (rest := []) d_law_374 ok_X9_ruled lk_L_32 ⟨Nat.le_of_ble_eq_true rfl, Nat.le_of_ble_eq_true rfl⟩ (rfl : gm_cls 0 = 8) vc_8 (by decide) rfl rfl (Nat.le_of_ble_eq_true rfl) (t_X9_ruled (xs (x3 + 1).toNatClampNeg) h _ hyp0) (fun r1 h1 hyp => ?_)
  refine le_aload_n d_law_377 rfl 2 rfl ?_
  refine le_aload_n d_law_378 rfl 0 rfl ?_
  refine le_iload_n d_law_379 rfl 3 rfl ?_
  refine le_iconst (v := 1) d_law_380 rfl ?_
  refine le_iadd d_law_381 ?_
  refine le_sld d_law_382 (hin 1 (by decide)) ?_
  refine le_cI [.int (xs (x3 + 1).toNatClampNeg)] (rest := [.int r1]) d_law_383 ok_X10_ruled lk_L_35 ⟨Nat.le_of_ble_eq_true rfl, Nat.le_of_ble_eq_true rfl⟩ (rfl : gm_cls 43 = 9) vc_9 (by decide) rfl rfl (Nat.le_of_ble_eq_true rfl) (t_X10_ruled (xs (x3 + 1).toNatClampNeg) h1 _ hyp) (fun r2 h2 hyp => ?_)
  exact le_icmp_eq (tgt := 1368) d_law_386 (by decide) hyp.1 (next h2 hyp.2)
theorem lw_case_5 {Inv : Mem → Prop} (hp : ∀ (a1 : Int32) (h : Mem), Inv h → f_X9_read a1 h (fun r h1 => f_X10_read a1 h1 (fun r2 h2 => r = r2 ∧ Inv h2))) {L : Nat} {xs : Nat → Int32} {x3 : Int32} {h : Mem} (hI : Inv h) (hin : ∀ j : Int32, (0 ≤ j ∧ j < 6) → vp_in (x3 + j) L) (next : ∀ h2, Inv h2 → LV L xs 1368 [(0, .ref 300), (1, .ref 0), (2, .ref 43), (3, .int x3)] [] h2) : LV L xs 391 [(0, .ref 300), (1, .ref 0), (2, .ref 43), (3, .int x3)] [] h := by
  have hyp0 := hp (xs (x3 + 1).toNatClampNeg) h hI
  refine le_aload_n d_law_391 rfl 1 rfl ?_
  refine le_aload_n d_law_392 rfl 0 rfl ?_
  refine le_iload_n d_law_393 rfl 3 rfl ?_
  refine le_iconst (v := 1) d_law_394 rfl ?_
  refine le_iadd d_law_395 ?_
  refine le_sld d_law_396 (hin 1 (by decide)) ?_
  refine le_cI [.int (xs (x3 + 1).toNatClampNeg)] (rest := []) d_law_397 ok_X9_read lk_L_36 ⟨Nat.le_of_ble_eq_true rfl, Nat.le_of_ble_eq_true rfl⟩ (rfl : gm_cls 0 = 8) vc_8 (by decide) rfl rfl (Nat.le_of_ble_eq_true rfl) (t_X9_read (xs (x3 + 1).toNatClampNeg) h _ hyp0) (fun r1 h1 hyp => ?_)
  refine le_aload_n d_law_400 rfl 2 rfl ?_
  refine le_aload_n d_law_401 rfl 0 rfl ?_
  refine le_iload_n d_law_402 rfl 3 rfl ?_
  refine le_iconst (v := 1) d_law_403 rfl ?_
  refine le_iadd d_law_404 ?_
  refine le_sld d_law_405 (hin 1 (by decide)) ?_
  refine le_cI [.int (xs (x3 + 1).toNatClampNeg)] (rest := [.int r1]) d_law_406 ok_X10_read lk_L_39 ⟨Nat.le_of_ble_eq_true rfl, Nat.le_of_ble_eq_true rfl⟩ (rfl : gm_cls 43 = 9) vc_9 (by decide) rfl rfl (Nat.le_of_ble_eq_true rfl) (t_X10_read (xs (x3 + 1).toNatClampNeg) h1 _ hyp) (fun r2 h2 hyp => ?_)
  exact le_icmp_eq (tgt := 1368) d_law_409 (by decide) hyp.1 (next h2 hyp.2)
theorem lw_case_6 {Inv : Mem → Prop} (hp : ∀ (a1 : Int32) (h : Mem), Inv h → f_X9_go a1 h (fun r h1 => f_X10_go a1 h1 (fun r2 h2 => r = r2 ∧ Inv h2))) {L : Nat} {xs : Nat → Int32} {x3 : Int32} {h : Mem} (hI : Inv h) (hin : ∀ j : Int32, (0 ≤ j ∧ j < 6) → vp_in (x3 + j) L) (next : ∀ h2, Inv h2 → LV L xs 1368 [(0, .ref 300), (1, .ref 0), (2, .ref 43), (3, .int x3)] [] h2) : LV L xs 414 [(0, .ref 300), (1, .ref 0), (2, .ref 43), (3, .int x3)] [] h := by
  have hyp0 := hp (xs (x3 + 1).toNatClampNeg) h hI
  refine le_aload_n d_law_414 rfl 1 rfl ?_
  refine le_aload_n d_law_415 rfl 0 rfl ?_
  refine le_iload_n d_law_416 rfl 3 rfl ?_
  refine le_iconst (v := 1) d_law_417 rfl ?_
  refine le_iadd d_law_418 ?_
  refine le_sld d_law_419 (hin 1 (by decide)) ?_
  refine le_cI [.int (xs (x3 + 1).toNatClampNeg)] (rest := []) d_law_420 ok_X9_go lk_L_40 ⟨Nat.le_of_ble_eq_true rfl, Nat.le_of_ble_eq_true rfl⟩ (rfl : gm_cls 0 = 8) vc_8 (by decide) rfl rfl (Nat.le_of_ble_eq_true rfl) (t_X9_go (xs (x3 + 1).toNatClampNeg) h _ hyp0) (fun r1 h1 hyp => ?_)
  refine le_aload_n d_law_423 rfl 2 rfl ?_
  refine le_aload_n d_law_424 rfl 0 rfl ?_
  refine le_iload_n d_law_425 rfl 3 rfl ?_
  refine le_iconst (v := 1) d_law_426 rfl ?_
  refine le_iadd d_law_427 ?_
  refine le_sld d_law_428 (hin 1 (by decide)) ?_
  refine le_cI [.int (xs (x3 + 1).toNatClampNeg)] (rest := [.int r1]) d_law_429 ok_X10_go lk_L_43 ⟨Nat.le_of_ble_eq_true rfl, Nat.le_of_ble_eq_true rfl⟩ (rfl : gm_cls 43 = 9) vc_9 (by decide) rfl rfl (Nat.le_of_ble_eq_true rfl) (t_X10_go (xs (x3 + 1).toNatClampNeg) h1 _ hyp) (fun r2 h2 hyp => ?_)
  exact le_icmp_eq (tgt := 1368) d_law_432 (by decide) hyp.1 (next h2 hyp.2)
theorem lw_case_7 {Inv : Mem → Prop} (hp : ∀ (h : Mem), Inv h → f_X9_turn  h (fun r h1 => f_X10_turn  h1 (fun r2 h2 => r = r2 ∧ Inv h2))) {L : Nat} {xs : Nat → Int32} {x3 : Int32} {h : Mem} (hI : Inv h) (hin : ∀ j : Int32, (0 ≤ j ∧ j < 6) → vp_in (x3 + j) L) (next : ∀ h2, Inv h2 → LV L xs 1368 [(0, .ref 300), (1, .ref 0), (2, .ref 43), (3, .int x3)] [] h2) : LV L xs 437 [(0, .ref 300), (1, .ref 0), (2, .ref 43), (3, .int x3)] [] h := by
  have hyp0 := hp  h hI
  refine le_aload_n d_law_437 rfl 1 rfl ?_
  refine le_cI [] (rest := []) d_law_438 ok_X9_turn lk_L_44 ⟨Nat.le_of_ble_eq_true rfl, Nat.le_of_ble_eq_true rfl⟩ (rfl : gm_cls 0 = 8) vc_8 (by decide) rfl rfl (Nat.le_of_ble_eq_true rfl) (t_X9_turn  h _ hyp0) (fun r1 h1 hyp => ?_)
  refine le_aload_n d_law_441 rfl 2 rfl ?_
  refine le_cI [] (rest := [.int r1]) d_law_442 ok_X10_turn lk_L_48 ⟨Nat.le_of_ble_eq_true rfl, Nat.le_of_ble_eq_true rfl⟩ (rfl : gm_cls 43 = 9) vc_9 (by decide) rfl rfl (Nat.le_of_ble_eq_true rfl) (t_X10_turn  h1 _ hyp) (fun r2 h2 hyp => ?_)
  exact le_icmp_eq (tgt := 1368) d_law_445 (by decide) hyp.1 (next h2 hyp.2)
theorem lw_case_8 {Inv : Mem → Prop} (hp : ∀ (a1 : Int32) (h : Mem), Inv h → f_X9_now a1 h (fun r h1 => f_X10_now a1 h1 (fun r2 h2 => r = r2 ∧ Inv h2))) {L : Nat} {xs : Nat → Int32} {x3 : Int32} {h : Mem} (hI : Inv h) (hin : ∀ j : Int32, (0 ≤ j ∧ j < 6) → vp_in (x3 + j) L) (next : ∀ h2, Inv h2 → LV L xs 1368 [(0, .ref 300), (1, .ref 0), (2, .ref 43), (3, .int x3)] [] h2) : LV L xs 450 [(0, .ref 300), (1, .ref 0), (2, .ref 43), (3, .int x3)] [] h := by
  have hyp0 := hp (xs (x3 + 1).toNatClampNeg) h hI
  refine le_aload_n d_law_450 rfl 1 rfl ?_
  refine le_aload_n d_law_451 rfl 0 rfl ?_
  refine le_iload_n d_law_452 rfl 3 rfl ?_
  refine le_iconst (v := 1) d_law_453 rfl ?_
  refine le_iadd d_law_454 ?_
  refine le_sld d_law_455 (hin 1 (by decide)) ?_
  refine le_cI [.int (xs (x3 + 1).toNatClampNeg)] (rest := []) d_law_456 ok_X9_now lk_L_49 ⟨Nat.le_of_ble_eq_true rfl, Nat.le_of_ble_eq_true rfl⟩ (rfl : gm_cls 0 = 8) vc_8 (by decide) rfl rfl (Nat.le_of_ble_eq_true rfl) (t_X9_now (xs (x3 + 1).toNatClampNeg) h _ hyp0) (fun r1 h1 hyp => ?_)
  refine le_aload_n d_law_459 rfl 2 rfl ?_
  refine le_aload_n d_law_460 rfl 0 rfl ?_
  refine le_iload_n d_law_461 rfl 3 rfl ?_
  refine le_iconst (v := 1) d_law_462 rfl ?_
  refine le_iadd d_law_463 ?_
  refine le_sld d_law_464 (hin 1 (by decide)) ?_
  refine le_cI [.int (xs (x3 + 1).toNatClampNeg)] (rest := [.int r1]) d_law_465 ok_X10_now lk_L_52 ⟨Nat.le_of_ble_eq_true rfl, Nat.le_of_ble_eq_true rfl⟩ (rfl : gm_cls 43 = 9) vc_9 (by decide) rfl rfl (Nat.le_of_ble_eq_true rfl) (t_X10_now (xs (x3 + 1).toNatClampNeg) h1 _ hyp) (fun r2 h2 hyp => ?_)
  exact le_icmp_eq (tgt := 1368) d_law_468 (by decide) hyp.1 (next h2 hyp.2)
theorem lw_case_9 {Inv : Mem → Prop} (hp : ∀ (a1 : Int32) (h : Mem), Inv h → f_X9_rest a1 h (fun r h1 => f_X10_rest a1 h1 (fun r2 h2 => r = r2 ∧ Inv h2))) {L : Nat} {xs : Nat → Int32} {x3 : Int32} {h : Mem} (hI : Inv h) (hin : ∀ j : Int32, (0 ≤ j ∧ j < 6) → vp_in (x3 + j) L) (next : ∀ h2, Inv h2 → LV L xs 1368 [(0, .ref 300), (1, .ref 0), (2, .ref 43), (3, .int x3)] [] h2) : LV L xs 473 [(0, .ref 300), (1, .ref 0), (2, .ref 43), (3, .int x3)] [] h := by
  have hyp0 := hp (xs (x3 + 1).toNatClampNeg) h hI
  refine le_aload_n d_law_473 rfl 1 rfl ?_
  refine le_aload_n d_law_474 rfl 0 rfl ?_
  refine le_iload_n d_law_475 rfl 3 rfl ?_
  refine le_iconst (v := 1) d_law_476 rfl ?_
  refine le_iadd d_law_477 ?_
  refine le_sld d_law_478 (hin 1 (by decide)) ?_
  refine le_cI [.int (xs (x3 + 1).toNatClampNeg)] (rest := []) d_law_479 ok_X9_rest lk_L_53 ⟨Nat.le_of_ble_eq_true rfl, Nat.le_of_ble_eq_true rfl⟩ (rfl : gm_cls 0 = 8) vc_8 (by decide) rfl rfl (Nat.le_of_ble_eq_true rfl) (t_X9_rest (xs (x3 + 1).toNatClampNeg) h _ hyp0) (fun r1 h1 hyp => ?_)
  refine le_aload_n d_law_482 rfl 2 rfl ?_
  refine le_aload_n d_law_483 rfl 0 rfl ?_
  refine le_iload_n d_law_484 rfl 3 rfl ?_
  refine le_iconst (v := 1) d_law_485 rfl ?_
  refine le_iadd d_law_486 ?_
  refine le_sld d_law_487 (hin 1 (by decide)) ?_
  refine le_cI [.int (xs (x3 + 1).toNatClampNeg)] (rest := [.int r1]) d_law_488 ok_X10_rest lk_L_56 ⟨Nat.le_of_ble_eq_true rfl, Nat.le_of_ble_eq_true rfl⟩ (rfl : gm_cls 43 = 9) vc_9 (by decide) rfl rfl (Nat.le_of_ble_eq_true rfl) (t_X10_rest (xs (x3 + 1).toNatClampNeg) h1 _ hyp) (fun r2 h2 hyp => ?_)
  exact le_icmp_eq (tgt := 1368) d_law_491 (by decide) hyp.1 (next h2 hyp.2)
theorem lw_case_10 {Inv : Mem → Prop} (hp : ∀ (a1 a2 : Int32) (h : Mem), Inv h → f_X9_pace a1 a2 h (fun r h1 => f_X10_pace a1 a2 h1 (fun r2 h2 => r = r2 ∧ Inv h2))) {L : Nat} {xs : Nat → Int32} {x3 : Int32} {h : Mem} (hI : Inv h) (hin : ∀ j : Int32, (0 ≤ j ∧ j < 6) → vp_in (x3 + j) L) (next : ∀ h2, Inv h2 → LV L xs 1368 [(0, .ref 300), (1, .ref 0), (2, .ref 43), (3, .int x3)] [] h2) : LV L xs 496 [(0, .ref 300), (1, .ref 0), (2, .ref 43), (3, .int x3)] [] h := by
  have hyp0 := hp (xs (x3 + 1).toNatClampNeg) (xs (x3 + 2).toNatClampNeg) h hI
  refine le_aload_n d_law_496 rfl 1 rfl ?_
  refine le_aload_n d_law_497 rfl 0 rfl ?_
  refine le_iload_n d_law_498 rfl 3 rfl ?_
  refine le_iconst (v := 1) d_law_499 rfl ?_
  refine le_iadd d_law_500 ?_
  refine le_sld d_law_501 (hin 1 (by decide)) ?_
  refine le_aload_n d_law_502 rfl 0 rfl ?_
  refine le_iload_n d_law_503 rfl 3 rfl ?_
  refine le_iconst (v := 2) d_law_504 rfl ?_
  refine le_iadd d_law_505 ?_
  refine le_sld d_law_506 (hin 2 (by decide)) ?_
  refine le_cI [.int (xs (x3 + 1).toNatClampNeg), .int (xs (x3 + 2).toNatClampNeg)] (rest := []) d_law_507 ok_X9_pace lk_L_57 ⟨Nat.le_of_ble_eq_true rfl, Nat.le_of_ble_eq_true rfl⟩ (rfl : gm_cls 0 = 8) vc_8 (by decide) rfl rfl (Nat.le_of_ble_eq_true rfl) (t_X9_pace (xs (x3 + 1).toNatClampNeg) (xs (x3 + 2).toNatClampNeg) h _ hyp0) (fun r1 h1 hyp => ?_)
  refine le_aload_n d_law_510 rfl 2 rfl ?_
  refine le_aload_n d_law_511 rfl 0 rfl ?_
  refine le_iload_n d_law_512 rfl 3 rfl ?_
  refine le_iconst (v := 1) d_law_513 rfl ?_
  refine le_iadd d_law_514 ?_
  refine le_sld d_law_515 (hin 1 (by decide)) ?_
  refine le_aload_n d_law_516 rfl 0 rfl ?_
  refine le_iload_n d_law_517 rfl 3 rfl ?_
  refine le_iconst (v := 2) d_law_518 rfl ?_
  refine le_iadd d_law_519 ?_
  refine le_sld d_law_520 (hin 2 (by decide)) ?_
  refine le_cI [.int (xs (x3 + 1).toNatClampNeg), .int (xs (x3 + 2).toNatClampNeg)] (rest := [.int r1]) d_law_521 ok_X10_pace lk_L_60 ⟨Nat.le_of_ble_eq_true rfl, Nat.le_of_ble_eq_true rfl⟩ (rfl : gm_cls 43 = 9) vc_9 (by decide) rfl rfl (Nat.le_of_ble_eq_true rfl) (t_X10_pace (xs (x3 + 1).toNatClampNeg) (xs (x3 + 2).toNatClampNeg) h1 _ hyp) (fun r2 h2 hyp => ?_)
  exact le_icmp_eq (tgt := 1368) d_law_524 (by decide) hyp.1 (next h2 hyp.2)
theorem lw_case_11 {Inv : Mem → Prop} (hp : ∀ (h : Mem), Inv h → f_X9_sign  h (fun r h1 => f_X10_sign  h1 (fun r2 h2 => r = r2 ∧ Inv h2))) {L : Nat} {xs : Nat → Int32} {x3 : Int32} {h : Mem} (hI : Inv h) (hin : ∀ j : Int32, (0 ≤ j ∧ j < 6) → vp_in (x3 + j) L) (next : ∀ h2, Inv h2 → LV L xs 1368 [(0, .ref 300), (1, .ref 0), (2, .ref 43), (3, .int x3)] [] h2) : LV L xs 529 [(0, .ref 300), (1, .ref 0), (2, .ref 43), (3, .int x3)] [] h := by
  have hyp0 := hp  h hI
  refine le_aload_n d_law_529 rfl 1 rfl ?_
  refine le_cI [] (rest := []) d_law_530 ok_X9_sign lk_L_61 ⟨Nat.le_of_ble_eq_true rfl, Nat.le_of_ble_eq_true rfl⟩ (rfl : gm_cls 0 = 8) vc_8 (by decide) rfl rfl (Nat.le_of_ble_eq_true rfl) (t_X9_sign  h _ hyp0) (fun r1 h1 hyp => ?_)
  refine le_aload_n d_law_533 rfl 2 rfl ?_
  refine le_cI [] (rest := [.int r1]) d_law_534 ok_X10_sign lk_L_64 ⟨Nat.le_of_ble_eq_true rfl, Nat.le_of_ble_eq_true rfl⟩ (rfl : gm_cls 43 = 9) vc_9 (by decide) rfl rfl (Nat.le_of_ble_eq_true rfl) (t_X10_sign  h1 _ hyp) (fun r2 h2 hyp => ?_)
  exact le_icmp_eq (tgt := 1368) d_law_537 (by decide) hyp.1 (next h2 hyp.2)
theorem lw_case_12 {Inv : Mem → Prop} (hp : ∀ (a1 : Int32) (h : Mem), Inv h → f_X9_round a1 h (fun r h1 => f_X10_round a1 h1 (fun r2 h2 => r = r2 ∧ Inv h2))) {L : Nat} {xs : Nat → Int32} {x3 : Int32} {h : Mem} (hI : Inv h) (hin : ∀ j : Int32, (0 ≤ j ∧ j < 6) → vp_in (x3 + j) L) (next : ∀ h2, Inv h2 → LV L xs 1368 [(0, .ref 300), (1, .ref 0), (2, .ref 43), (3, .int x3)] [] h2) : LV L xs 542 [(0, .ref 300), (1, .ref 0), (2, .ref 43), (3, .int x3)] [] h := by
  have hyp0 := hp (xs (x3 + 1).toNatClampNeg) h hI
  refine le_aload_n d_law_542 rfl 1 rfl ?_
  refine le_aload_n d_law_543 rfl 0 rfl ?_
  refine le_iload_n d_law_544 rfl 3 rfl ?_
  refine le_iconst (v := 1) d_law_545 rfl ?_
  refine le_iadd d_law_546 ?_
  refine le_sld d_law_547 (hin 1 (by decide)) ?_
  refine le_cI [.int (xs (x3 + 1).toNatClampNeg)] (rest := []) d_law_548 ok_X9_round lk_L_65 ⟨Nat.le_of_ble_eq_true rfl, Nat.le_of_ble_eq_true rfl⟩ (rfl : gm_cls 0 = 8) vc_8 (by decide) rfl rfl (Nat.le_of_ble_eq_true rfl) (t_X9_round (xs (x3 + 1).toNatClampNeg) h _ hyp0) (fun r1 h1 hyp => ?_)
  refine le_aload_n d_law_551 rfl 2 rfl ?_
  refine le_aload_n d_law_552 rfl 0 rfl ?_
  refine le_iload_n d_law_553 rfl 3 rfl ?_
  refine le_iconst (v := 1) d_law_554 rfl ?_
  refine le_iadd d_law_555 ?_
  refine le_sld d_law_556 (hin 1 (by decide)) ?_
  refine le_cI [.int (xs (x3 + 1).toNatClampNeg)] (rest := [.int r1]) d_law_557 ok_X10_round lk_L_68 ⟨Nat.le_of_ble_eq_true rfl, Nat.le_of_ble_eq_true rfl⟩ (rfl : gm_cls 43 = 9) vc_9 (by decide) rfl rfl (Nat.le_of_ble_eq_true rfl) (t_X10_round (xs (x3 + 1).toNatClampNeg) h1 _ hyp) (fun r2 h2 hyp => ?_)
  exact le_icmp_eq (tgt := 1368) d_law_560 (by decide) hyp.1 (next h2 hyp.2)
theorem lw_case_13 {Inv : Mem → Prop} (hp : ∀ (h : Mem), Inv h → f_X9_leads  h (fun r h1 => f_X10_leads  h1 (fun r2 h2 => r = r2 ∧ Inv h2))) {L : Nat} {xs : Nat → Int32} {x3 : Int32} {h : Mem} (hI : Inv h) (hin : ∀ j : Int32, (0 ≤ j ∧ j < 6) → vp_in (x3 + j) L) (next : ∀ h2, Inv h2 → LV L xs 1368 [(0, .ref 300), (1, .ref 0), (2, .ref 43), (3, .int x3)] [] h2) : LV L xs 565 [(0, .ref 300), (1, .ref 0), (2, .ref 43), (3, .int x3)] [] h := by
  have hyp0 := hp  h hI
  refine le_aload_n d_law_565 rfl 1 rfl ?_
  refine le_cI [] (rest := []) d_law_566 ok_X9_leads lk_L_69 ⟨Nat.le_of_ble_eq_true rfl, Nat.le_of_ble_eq_true rfl⟩ (rfl : gm_cls 0 = 8) vc_8 (by decide) rfl rfl (Nat.le_of_ble_eq_true rfl) (t_X9_leads  h _ hyp0) (fun r1 h1 hyp => ?_)
  refine le_aload_n d_law_569 rfl 2 rfl ?_
  refine le_cI [] (rest := [.int r1]) d_law_570 ok_X10_leads lk_L_72 ⟨Nat.le_of_ble_eq_true rfl, Nat.le_of_ble_eq_true rfl⟩ (rfl : gm_cls 43 = 9) vc_9 (by decide) rfl rfl (Nat.le_of_ble_eq_true rfl) (t_X10_leads  h1 _ hyp) (fun r2 h2 hyp => ?_)
  exact le_icmp_eq (tgt := 1368) d_law_573 (by decide) hyp.1 (next h2 hyp.2)
theorem lw_case_14 {Inv : Mem → Prop} (hp : ∀ (h : Mem), Inv h → f_X9_found  h (fun r h1 => f_X10_found  h1 (fun r2 h2 => r = r2 ∧ Inv h2))) {L : Nat} {xs : Nat → Int32} {x3 : Int32} {h : Mem} (hI : Inv h) (hin : ∀ j : Int32, (0 ≤ j ∧ j < 6) → vp_in (x3 + j) L) (next : ∀ h2, Inv h2 → LV L xs 1368 [(0, .ref 300), (1, .ref 0), (2, .ref 43), (3, .int x3)] [] h2) : LV L xs 578 [(0, .ref 300), (1, .ref 0), (2, .ref 43), (3, .int x3)] [] h := by
  have hyp0 := hp  h hI
  refine le_aload_n d_law_578 rfl 1 rfl ?_
  refine le_cI [] (rest := []) d_law_579 ok_X9_found lk_L_73 ⟨Nat.le_of_ble_eq_true rfl, Nat.le_of_ble_eq_true rfl⟩ (rfl : gm_cls 0 = 8) vc_8 (by decide) rfl rfl (Nat.le_of_ble_eq_true rfl) (t_X9_found  h _ hyp0) (fun r1 h1 hyp => ?_)
  refine le_aload_n d_law_582 rfl 2 rfl ?_
  refine le_cI [] (rest := [.int r1]) d_law_583 ok_X10_found lk_L_76 ⟨Nat.le_of_ble_eq_true rfl, Nat.le_of_ble_eq_true rfl⟩ (rfl : gm_cls 43 = 9) vc_9 (by decide) rfl rfl (Nat.le_of_ble_eq_true rfl) (t_X10_found  h1 _ hyp) (fun r2 h2 hyp => ?_)
  exact le_icmp_eq (tgt := 1368) d_law_586 (by decide) hyp.1 (next h2 hyp.2)
theorem lw_case_15 {Inv : Mem → Prop} (hp : ∀ (h : Mem), Inv h → f_X9_off  h (fun r h1 => f_X10_off  h1 (fun r2 h2 => r = r2 ∧ Inv h2))) {L : Nat} {xs : Nat → Int32} {x3 : Int32} {h : Mem} (hI : Inv h) (hin : ∀ j : Int32, (0 ≤ j ∧ j < 6) → vp_in (x3 + j) L) (next : ∀ h2, Inv h2 → LV L xs 1368 [(0, .ref 300), (1, .ref 0), (2, .ref 43), (3, .int x3)] [] h2) : LV L xs 591 [(0, .ref 300), (1, .ref 0), (2, .ref 43), (3, .int x3)] [] h := by
  have hyp0 := hp  h hI
  refine le_aload_n d_law_591 rfl 1 rfl ?_
  refine le_cI [] (rest := []) d_law_592 ok_X9_off lk_L_77 ⟨Nat.le_of_ble_eq_true rfl, Nat.le_of_ble_eq_true rfl⟩ (rfl : gm_cls 0 = 8) vc_8 (by decide) rfl rfl (Nat.le_of_ble_eq_true rfl) (t_X9_off  h _ hyp0) (fun r1 h1 hyp => ?_)
  refine le_aload_n d_law_595 rfl 2 rfl ?_
  refine le_cI [] (rest := [.int r1]) d_law_596 ok_X10_off lk_L_80 ⟨Nat.le_of_ble_eq_true rfl, Nat.le_of_ble_eq_true rfl⟩ (rfl : gm_cls 43 = 9) vc_9 (by decide) rfl rfl (Nat.le_of_ble_eq_true rfl) (t_X10_off  h1 _ hyp) (fun r2 h2 hyp => ?_)
  exact le_icmp_eq (tgt := 1368) d_law_599 (by decide) hyp.1 (next h2 hyp.2)
theorem lw_case_16 {Inv : Mem → Prop} (hp : ∀ (h : Mem), Inv h → f_X9_grid  h (fun r h1 => f_X10_grid  h1 (fun r2 h2 => r = r2 ∧ Inv h2))) {L : Nat} {xs : Nat → Int32} {x3 : Int32} {h : Mem} (hI : Inv h) (hin : ∀ j : Int32, (0 ≤ j ∧ j < 6) → vp_in (x3 + j) L) (next : ∀ h2, Inv h2 → LV L xs 1368 [(0, .ref 300), (1, .ref 0), (2, .ref 43), (3, .int x3)] [] h2) : LV L xs 604 [(0, .ref 300), (1, .ref 0), (2, .ref 43), (3, .int x3)] [] h := by
  have hyp0 := hp  h hI
  refine le_aload_n d_law_604 rfl 1 rfl ?_
  refine le_cI [] (rest := []) d_law_605 ok_X9_grid lk_L_81 ⟨Nat.le_of_ble_eq_true rfl, Nat.le_of_ble_eq_true rfl⟩ (rfl : gm_cls 0 = 8) vc_8 (by decide) rfl rfl (Nat.le_of_ble_eq_true rfl) (t_X9_grid  h _ hyp0) (fun r1 h1 hyp => ?_)
  refine le_aload_n d_law_608 rfl 2 rfl ?_
  refine le_cI [] (rest := [.int r1]) d_law_609 ok_X10_grid lk_L_84 ⟨Nat.le_of_ble_eq_true rfl, Nat.le_of_ble_eq_true rfl⟩ (rfl : gm_cls 43 = 9) vc_9 (by decide) rfl rfl (Nat.le_of_ble_eq_true rfl) (t_X10_grid  h1 _ hyp) (fun r2 h2 hyp => ?_)
  exact le_icmp_eq (tgt := 1368) d_law_612 (by decide) hyp.1 (next h2 hyp.2)
theorem lw_case_17 {Inv : Mem → Prop} (hp : ∀ (h : Mem), Inv h → f_X9_worst  h (fun r h1 => f_X10_worst  h1 (fun r2 h2 => r = r2 ∧ Inv h2))) {L : Nat} {xs : Nat → Int32} {x3 : Int32} {h : Mem} (hI : Inv h) (hin : ∀ j : Int32, (0 ≤ j ∧ j < 6) → vp_in (x3 + j) L) (next : ∀ h2, Inv h2 → LV L xs 1368 [(0, .ref 300), (1, .ref 0), (2, .ref 43), (3, .int x3)] [] h2) : LV L xs 617 [(0, .ref 300), (1, .ref 0), (2, .ref 43), (3, .int x3)] [] h := by
  have hyp0 := hp  h hI
  refine le_aload_n d_law_617 rfl 1 rfl ?_
  refine le_cI [] (rest := []) d_law_618 ok_X9_worst lk_L_85 ⟨Nat.le_of_ble_eq_true rfl, Nat.le_of_ble_eq_true rfl⟩ (rfl : gm_cls 0 = 8) vc_8 (by decide) rfl rfl (Nat.le_of_ble_eq_true rfl) (t_X9_worst  h _ hyp0) (fun r1 h1 hyp => ?_)
  refine le_aload_n d_law_621 rfl 2 rfl ?_
  refine le_cI [] (rest := [.int r1]) d_law_622 ok_X10_worst lk_L_88 ⟨Nat.le_of_ble_eq_true rfl, Nat.le_of_ble_eq_true rfl⟩ (rfl : gm_cls 43 = 9) vc_9 (by decide) rfl rfl (Nat.le_of_ble_eq_true rfl) (t_X10_worst  h1 _ hyp) (fun r2 h2 hyp => ?_)
  exact le_icmp_eq (tgt := 1368) d_law_625 (by decide) hyp.1 (next h2 hyp.2)
theorem lw_case_18 {Inv : Mem → Prop} (hp : ∀ (h : Mem), Inv h → f_X9_trips  h (fun r h1 => f_X10_trips_  h1 (fun r2 h2 => r = r2 ∧ Inv h2))) {L : Nat} {xs : Nat → Int32} {x3 : Int32} {h : Mem} (hI : Inv h) (hin : ∀ j : Int32, (0 ≤ j ∧ j < 6) → vp_in (x3 + j) L) (next : ∀ h2, Inv h2 → LV L xs 1368 [(0, .ref 300), (1, .ref 0), (2, .ref 43), (3, .int x3)] [] h2) : LV L xs 630 [(0, .ref 300), (1, .ref 0), (2, .ref 43), (3, .int x3)] [] h := by
  have hyp0 := hp  h hI
  refine le_aload_n d_law_630 rfl 1 rfl ?_
  refine le_cI [] (rest := []) d_law_631 ok_X9_trips lk_L_89 ⟨Nat.le_of_ble_eq_true rfl, Nat.le_of_ble_eq_true rfl⟩ (rfl : gm_cls 0 = 8) vc_8 (by decide) rfl rfl (Nat.le_of_ble_eq_true rfl) (t_X9_trips  h _ hyp0) (fun r1 h1 hyp => ?_)
  refine le_aload_n d_law_634 rfl 2 rfl ?_
  refine le_cI [] (rest := [.int r1]) d_law_635 ok_X10_trips_ lk_L_92 ⟨Nat.le_of_ble_eq_true rfl, Nat.le_of_ble_eq_true rfl⟩ (rfl : gm_cls 43 = 9) vc_9 (by decide) rfl rfl (Nat.le_of_ble_eq_true rfl) (t_X10_trips_  h1 _ hyp) (fun r2 h2 hyp => ?_)
  exact le_icmp_eq (tgt := 1368) d_law_638 (by decide) hyp.1 (next h2 hyp.2)
theorem lw_case_19 {Inv : Mem → Prop} (hp : ∀ (a1 : Int32) (h : Mem), Inv h → f_X9_kindFor a1 h (fun r h1 => f_X10_kindFor a1 h1 (fun r2 h2 => r = r2 ∧ Inv h2))) {L : Nat} {xs : Nat → Int32} {x3 : Int32} {h : Mem} (hI : Inv h) (hin : ∀ j : Int32, (0 ≤ j ∧ j < 6) → vp_in (x3 + j) L) (next : ∀ h2, Inv h2 → LV L xs 1368 [(0, .ref 300), (1, .ref 0), (2, .ref 43), (3, .int x3)] [] h2) : LV L xs 643 [(0, .ref 300), (1, .ref 0), (2, .ref 43), (3, .int x3)] [] h := by
  have hyp0 := hp (xs (x3 + 1).toNatClampNeg) h hI
  refine le_aload_n d_law_643 rfl 1 rfl ?_
  refine le_aload_n d_law_644 rfl 0 rfl ?_
  refine le_iload_n d_law_645 rfl 3 rfl ?_
  refine le_iconst (v := 1) d_law_646 rfl ?_
  refine le_iadd d_law_647 ?_
  refine le_sld d_law_648 (hin 1 (by decide)) ?_
  refine le_cI [.int (xs (x3 + 1).toNatClampNeg)] (rest := []) d_law_649 ok_X9_kindFor lk_L_93 ⟨Nat.le_of_ble_eq_true rfl, Nat.le_of_ble_eq_true rfl⟩ (rfl : gm_cls 0 = 8) vc_8 (by decide) rfl rfl (Nat.le_of_ble_eq_true rfl) (t_X9_kindFor (xs (x3 + 1).toNatClampNeg) h _ hyp0) (fun r1 h1 hyp => ?_)
  refine le_aload_n d_law_652 rfl 2 rfl ?_
  refine le_aload_n d_law_653 rfl 0 rfl ?_
  refine le_iload_n d_law_654 rfl 3 rfl ?_
  refine le_iconst (v := 1) d_law_655 rfl ?_
  refine le_iadd d_law_656 ?_
  refine le_sld d_law_657 (hin 1 (by decide)) ?_
  refine le_cI [.int (xs (x3 + 1).toNatClampNeg)] (rest := [.int r1]) d_law_658 ok_X10_kindFor lk_L_96 ⟨Nat.le_of_ble_eq_true rfl, Nat.le_of_ble_eq_true rfl⟩ (rfl : gm_cls 43 = 9) vc_9 (by decide) rfl rfl (Nat.le_of_ble_eq_true rfl) (t_X10_kindFor (xs (x3 + 1).toNatClampNeg) h1 _ hyp) (fun r2 h2 hyp => ?_)
  exact le_icmp_eq (tgt := 1368) d_law_661 (by decide) hyp.1 (next h2 hyp.2)
theorem lw_case_20 {Inv : Mem → Prop} (hp : ∀ (a1 : Int32) (h : Mem), Inv h → f_X9_ease a1 h (fun r h1 => f_X10_ease a1 h1 (fun r2 h2 => r = r2 ∧ Inv h2))) {L : Nat} {xs : Nat → Int32} {x3 : Int32} {h : Mem} (hI : Inv h) (hin : ∀ j : Int32, (0 ≤ j ∧ j < 6) → vp_in (x3 + j) L) (next : ∀ h2, Inv h2 → LV L xs 1368 [(0, .ref 300), (1, .ref 0), (2, .ref 43), (3, .int x3)] [] h2) : LV L xs 666 [(0, .ref 300), (1, .ref 0), (2, .ref 43), (3, .int x3)] [] h := by
  have hyp0 := hp (xs (x3 + 1).toNatClampNeg) h hI
  refine le_aload_n d_law_666 rfl 1 rfl ?_
  refine le_aload_n d_law_667 rfl 0 rfl ?_
  refine le_iload_n d_law_668 rfl 3 rfl ?_
  refine le_iconst (v := 1) d_law_669 rfl ?_
  refine le_iadd d_law_670 ?_
  refine le_sld d_law_671 (hin 1 (by decide)) ?_
  refine le_cI [.int (xs (x3 + 1).toNatClampNeg)] (rest := []) d_law_672 ok_X9_ease lk_L_97 ⟨Nat.le_of_ble_eq_true rfl, Nat.le_of_ble_eq_true rfl⟩ (rfl : gm_cls 0 = 8) vc_8 (by decide) rfl rfl (Nat.le_of_ble_eq_true rfl) (t_X9_ease (xs (x3 + 1).toNatClampNeg) h _ hyp0) (fun r1 h1 hyp => ?_)
  refine le_aload_n d_law_675 rfl 2 rfl ?_
  refine le_aload_n d_law_676 rfl 0 rfl ?_
  refine le_iload_n d_law_677 rfl 3 rfl ?_
  refine le_iconst (v := 1) d_law_678 rfl ?_
  refine le_iadd d_law_679 ?_
  refine le_sld d_law_680 (hin 1 (by decide)) ?_
  refine le_cI [.int (xs (x3 + 1).toNatClampNeg)] (rest := [.int r1]) d_law_681 ok_X10_ease lk_L_100 ⟨Nat.le_of_ble_eq_true rfl, Nat.le_of_ble_eq_true rfl⟩ (rfl : gm_cls 43 = 9) vc_9 (by decide) rfl rfl (Nat.le_of_ble_eq_true rfl) (t_X10_ease (xs (x3 + 1).toNatClampNeg) h1 _ hyp) (fun r2 h2 hyp => ?_)
  exact le_icmp_eq (tgt := 1368) d_law_684 (by decide) hyp.1 (next h2 hyp.2)
theorem lw_case_21 {Inv : Mem → Prop} (hp : ∀ (h : Mem), Inv h → f_X9_fit  h (fun r h1 => f_X10_fit  h1 (fun r2 h2 => r = r2 ∧ Inv h2))) {L : Nat} {xs : Nat → Int32} {x3 : Int32} {h : Mem} (hI : Inv h) (hin : ∀ j : Int32, (0 ≤ j ∧ j < 6) → vp_in (x3 + j) L) (next : ∀ h2, Inv h2 → LV L xs 1368 [(0, .ref 300), (1, .ref 0), (2, .ref 43), (3, .int x3)] [] h2) : LV L xs 689 [(0, .ref 300), (1, .ref 0), (2, .ref 43), (3, .int x3)] [] h := by
  have hyp0 := hp  h hI
  refine le_aload_n d_law_689 rfl 1 rfl ?_
  refine le_cI [] (rest := []) d_law_690 ok_X9_fit lk_L_101 ⟨Nat.le_of_ble_eq_true rfl, Nat.le_of_ble_eq_true rfl⟩ (rfl : gm_cls 0 = 8) vc_8 (by decide) rfl rfl (Nat.le_of_ble_eq_true rfl) (t_X9_fit  h _ hyp0) (fun r1 h1 hyp => ?_)
  refine le_aload_n d_law_693 rfl 2 rfl ?_
  refine le_cI [] (rest := [.int r1]) d_law_694 ok_X10_fit lk_L_104 ⟨Nat.le_of_ble_eq_true rfl, Nat.le_of_ble_eq_true rfl⟩ (rfl : gm_cls 43 = 9) vc_9 (by decide) rfl rfl (Nat.le_of_ble_eq_true rfl) (t_X10_fit  h1 _ hyp) (fun r2 h2 hyp => ?_)
  exact le_icmp_eq (tgt := 1368) d_law_697 (by decide) hyp.1 (next h2 hyp.2)
theorem lw_case_22 {Inv : Mem → Prop} (hp : ∀ (h : Mem), Inv h → f_X9_kept  h (fun r h1 => f_X10_kept  h1 (fun r2 h2 => r = r2 ∧ Inv h2))) {L : Nat} {xs : Nat → Int32} {x3 : Int32} {h : Mem} (hI : Inv h) (hin : ∀ j : Int32, (0 ≤ j ∧ j < 6) → vp_in (x3 + j) L) (next : ∀ h2, Inv h2 → LV L xs 1368 [(0, .ref 300), (1, .ref 0), (2, .ref 43), (3, .int x3)] [] h2) : LV L xs 702 [(0, .ref 300), (1, .ref 0), (2, .ref 43), (3, .int x3)] [] h := by
  have hyp0 := hp  h hI
  refine le_aload_n d_law_702 rfl 1 rfl ?_
  refine le_cI [] (rest := []) d_law_703 ok_X9_kept lk_L_105 ⟨Nat.le_of_ble_eq_true rfl, Nat.le_of_ble_eq_true rfl⟩ (rfl : gm_cls 0 = 8) vc_8 (by decide) rfl rfl (Nat.le_of_ble_eq_true rfl) (t_X9_kept  h _ hyp0) (fun r1 h1 hyp => ?_)
  refine le_aload_n d_law_706 rfl 2 rfl ?_
  refine le_cI [] (rest := [.int r1]) d_law_707 ok_X10_kept lk_L_108 ⟨Nat.le_of_ble_eq_true rfl, Nat.le_of_ble_eq_true rfl⟩ (rfl : gm_cls 43 = 9) vc_9 (by decide) rfl rfl (Nat.le_of_ble_eq_true rfl) (t_X10_kept  h1 _ hyp) (fun r2 h2 hyp => ?_)
  exact le_icmp_eq (tgt := 1368) d_law_710 (by decide) hyp.1 (next h2 hyp.2)
theorem lw_case_23 {Inv : Mem → Prop} (hp : ∀ (a1 a2 : Int32) (h : Mem), Inv h → f_X9_jump a1 a2 h (fun r h1 => f_X10_jump a1 a2 h1 (fun r2 h2 => r = r2 ∧ Inv h2))) {L : Nat} {xs : Nat → Int32} {x3 : Int32} {h : Mem} (hI : Inv h) (hin : ∀ j : Int32, (0 ≤ j ∧ j < 6) → vp_in (x3 + j) L) (next : ∀ h2, Inv h2 → LV L xs 1368 [(0, .ref 300), (1, .ref 0), (2, .ref 43), (3, .int x3)] [] h2) : LV L xs 715 [(0, .ref 300), (1, .ref 0), (2, .ref 43), (3, .int x3)] [] h := by
  have hyp0 := hp (xs (x3 + 1).toNatClampNeg) (xs (x3 + 2).toNatClampNeg) h hI
  refine le_aload_n d_law_715 rfl 1 rfl ?_
  refine le_aload_n d_law_716 rfl 0 rfl ?_
  refine le_iload_n d_law_717 rfl 3 rfl ?_
  refine le_iconst (v := 1) d_law_718 rfl ?_
  refine le_iadd d_law_719 ?_
  refine le_sld d_law_720 (hin 1 (by decide)) ?_
  refine le_aload_n d_law_721 rfl 0 rfl ?_
  refine le_iload_n d_law_722 rfl 3 rfl ?_
  refine le_iconst (v := 2) d_law_723 rfl ?_
  refine le_iadd d_law_724 ?_
  refine le_sld d_law_725 (hin 2 (by decide)) ?_
  refine le_cI [.int (xs (x3 + 1).toNatClampNeg), .int (xs (x3 + 2).toNatClampNeg)] (rest := []) d_law_726 ok_X9_jump lk_L_109 ⟨Nat.le_of_ble_eq_true rfl, Nat.le_of_ble_eq_true rfl⟩ (rfl : gm_cls 0 = 8) vc_8 (by decide) rfl rfl (Nat.le_of_ble_eq_true rfl) (t_X9_jump (xs (x3 + 1).toNatClampNeg) (xs (x3 + 2).toNatClampNeg) h _ hyp0) (fun r1 h1 hyp => ?_)
  refine le_aload_n d_law_729 rfl 2 rfl ?_
  refine le_aload_n d_law_730 rfl 0 rfl ?_
  refine le_iload_n d_law_731 rfl 3 rfl ?_
  refine le_iconst (v := 1) d_law_732 rfl ?_
  refine le_iadd d_law_733 ?_
  refine le_sld d_law_734 (hin 1 (by decide)) ?_
  refine le_aload_n d_law_735 rfl 0 rfl ?_
  refine le_iload_n d_law_736 rfl 3 rfl ?_
  refine le_iconst (v := 2) d_law_737 rfl ?_
  refine le_iadd d_law_738 ?_
  refine le_sld d_law_739 (hin 2 (by decide)) ?_
  refine le_cI [.int (xs (x3 + 1).toNatClampNeg), .int (xs (x3 + 2).toNatClampNeg)] (rest := [.int r1]) d_law_740 ok_X10_jump lk_L_112 ⟨Nat.le_of_ble_eq_true rfl, Nat.le_of_ble_eq_true rfl⟩ (rfl : gm_cls 43 = 9) vc_9 (by decide) rfl rfl (Nat.le_of_ble_eq_true rfl) (t_X10_jump (xs (x3 + 1).toNatClampNeg) (xs (x3 + 2).toNatClampNeg) h1 _ hyp) (fun r2 h2 hyp => ?_)
  exact le_icmp_eq (tgt := 1368) d_law_743 (by decide) hyp.1 (next h2 hyp.2)
theorem lw_case_24 {Inv : Mem → Prop} (hp : ∀ (a1 a2 : Int32) (h : Mem), Inv h → f_X9_jumped a1 a2 h (fun r h1 => f_X10_jumped a1 a2 h1 (fun r2 h2 => r = r2 ∧ Inv h2))) {L : Nat} {xs : Nat → Int32} {x3 : Int32} {h : Mem} (hI : Inv h) (hin : ∀ j : Int32, (0 ≤ j ∧ j < 6) → vp_in (x3 + j) L) (next : ∀ h2, Inv h2 → LV L xs 1368 [(0, .ref 300), (1, .ref 0), (2, .ref 43), (3, .int x3)] [] h2) : LV L xs 748 [(0, .ref 300), (1, .ref 0), (2, .ref 43), (3, .int x3)] [] h := by
  have hyp0 := hp (xs (x3 + 1).toNatClampNeg) (xs (x3 + 2).toNatClampNeg) h hI
  refine le_aload_n d_law_748 rfl 1 rfl ?_
  refine le_aload_n d_law_749 rfl 0 rfl ?_
  refine le_iload_n d_law_750 rfl 3 rfl ?_
  refine le_iconst (v := 1) d_law_751 rfl ?_
  refine le_iadd d_law_752 ?_
  refine le_sld d_law_753 (hin 1 (by decide)) ?_
  refine le_aload_n d_law_754 rfl 0 rfl ?_
  refine le_iload_n d_law_755 rfl 3 rfl ?_
  refine le_iconst (v := 2) d_law_756 rfl ?_
  refine le_iadd d_law_757 ?_
  refine le_sld d_law_758 (hin 2 (by decide)) ?_
  refine le_cI [.int (xs (x3 + 1).toNatClampNeg), .int (xs (x3 + 2).toNatClampNeg)] (rest := []) d_law_759 ok_X9_jumped lk_L_113 ⟨Nat.le_of_ble_eq_true rfl, Nat.le_of_ble_eq_true rfl⟩ (rfl : gm_cls 0 = 8) vc_8 (by decide) rfl rfl (Nat.le_of_ble_eq_true rfl) (t_X9_jumped (xs (x3 + 1).toNatClampNeg) (xs (x3 + 2).toNatClampNeg) h _ hyp0) (fun r1 h1 hyp => ?_)
  refine le_aload_n d_law_762 rfl 2 rfl ?_
  refine le_aload_n d_law_763 rfl 0 rfl ?_
  refine le_iload_n d_law_764 rfl 3 rfl ?_
  refine le_iconst (v := 1) d_law_765 rfl ?_
  refine le_iadd d_law_766 ?_
  refine le_sld d_law_767 (hin 1 (by decide)) ?_
  refine le_aload_n d_law_768 rfl 0 rfl ?_
  refine le_iload_n d_law_769 rfl 3 rfl ?_
  refine le_iconst (v := 2) d_law_770 rfl ?_
  refine le_iadd d_law_771 ?_
  refine le_sld d_law_772 (hin 2 (by decide)) ?_
  refine le_cI [.int (xs (x3 + 1).toNatClampNeg), .int (xs (x3 + 2).toNatClampNeg)] (rest := [.int r1]) d_law_773 ok_X10_jumped lk_L_116 ⟨Nat.le_of_ble_eq_true rfl, Nat.le_of_ble_eq_true rfl⟩ (rfl : gm_cls 43 = 9) vc_9 (by decide) rfl rfl (Nat.le_of_ble_eq_true rfl) (t_X10_jumped (xs (x3 + 1).toNatClampNeg) (xs (x3 + 2).toNatClampNeg) h1 _ hyp) (fun r2 h2 hyp => ?_)
  exact le_icmp_eq (tgt := 1368) d_law_776 (by decide) hyp.1 (next h2 hyp.2)
theorem lw_case_25 {Inv : Mem → Prop} (hp : ∀ (a1 : Int32) (h : Mem), Inv h → f_X9_fits a1 h (fun r h1 => f_X10_fits a1 h1 (fun r2 h2 => r = r2 ∧ Inv h2))) {L : Nat} {xs : Nat → Int32} {x3 : Int32} {h : Mem} (hI : Inv h) (hin : ∀ j : Int32, (0 ≤ j ∧ j < 6) → vp_in (x3 + j) L) (next : ∀ h2, Inv h2 → LV L xs 1368 [(0, .ref 300), (1, .ref 0), (2, .ref 43), (3, .int x3)] [] h2) : LV L xs 781 [(0, .ref 300), (1, .ref 0), (2, .ref 43), (3, .int x3)] [] h := by
  have hyp0 := hp (xs (x3 + 1).toNatClampNeg) h hI
  refine le_aload_n d_law_781 rfl 1 rfl ?_
  refine le_aload_n d_law_782 rfl 0 rfl ?_
  refine le_iload_n d_law_783 rfl 3 rfl ?_
  refine le_iconst (v := 1) d_law_784 rfl ?_
  refine le_iadd d_law_785 ?_
  refine le_sld d_law_786 (hin 1 (by decide)) ?_
  refine le_cI [.int (xs (x3 + 1).toNatClampNeg)] (rest := []) d_law_787 ok_X9_fits lk_L_117 ⟨Nat.le_of_ble_eq_true rfl, Nat.le_of_ble_eq_true rfl⟩ (rfl : gm_cls 0 = 8) vc_8 (by decide) rfl rfl (Nat.le_of_ble_eq_true rfl) (t_X9_fits (xs (x3 + 1).toNatClampNeg) h _ hyp0) (fun r1 h1 hyp => ?_)
  refine le_aload_n d_law_790 rfl 2 rfl ?_
  refine le_aload_n d_law_791 rfl 0 rfl ?_
  refine le_iload_n d_law_792 rfl 3 rfl ?_
  refine le_iconst (v := 1) d_law_793 rfl ?_
  refine le_iadd d_law_794 ?_
  refine le_sld d_law_795 (hin 1 (by decide)) ?_
  refine le_cI [.int (xs (x3 + 1).toNatClampNeg)] (rest := [.int r1]) d_law_796 ok_X10_fits lk_L_120 ⟨Nat.le_of_ble_eq_true rfl, Nat.le_of_ble_eq_true rfl⟩ (rfl : gm_cls 43 = 9) vc_9 (by decide) rfl rfl (Nat.le_of_ble_eq_true rfl) (t_X10_fits (xs (x3 + 1).toNatClampNeg) h1 _ hyp) (fun r2 h2 hyp => ?_)
  exact le_icmp_eq (tgt := 1368) d_law_799 (by decide) hyp.1 (next h2 hyp.2)
theorem lw_case_26 {Inv : Mem → Prop} (hp : ∀ (a1 : Int32) (h : Mem), Inv h → f_X9_led a1 h (fun r h1 => f_X10_led a1 h1 (fun r2 h2 => r = r2 ∧ Inv h2))) {L : Nat} {xs : Nat → Int32} {x3 : Int32} {h : Mem} (hI : Inv h) (hin : ∀ j : Int32, (0 ≤ j ∧ j < 6) → vp_in (x3 + j) L) (next : ∀ h2, Inv h2 → LV L xs 1368 [(0, .ref 300), (1, .ref 0), (2, .ref 43), (3, .int x3)] [] h2) : LV L xs 804 [(0, .ref 300), (1, .ref 0), (2, .ref 43), (3, .int x3)] [] h := by
  have hyp0 := hp (xs (x3 + 1).toNatClampNeg) h hI
  refine le_aload_n d_law_804 rfl 1 rfl ?_
  refine le_aload_n d_law_805 rfl 0 rfl ?_
  refine le_iload_n d_law_806 rfl 3 rfl ?_
  refine le_iconst (v := 1) d_law_807 rfl ?_
  refine le_iadd d_law_808 ?_
  refine le_sld d_law_809 (hin 1 (by decide)) ?_
  refine le_cI [.int (xs (x3 + 1).toNatClampNeg)] (rest := []) d_law_810 ok_X9_led lk_L_121 ⟨Nat.le_of_ble_eq_true rfl, Nat.le_of_ble_eq_true rfl⟩ (rfl : gm_cls 0 = 8) vc_8 (by decide) rfl rfl (Nat.le_of_ble_eq_true rfl) (t_X9_led (xs (x3 + 1).toNatClampNeg) h _ hyp0) (fun r1 h1 hyp => ?_)
  refine le_aload_n d_law_813 rfl 2 rfl ?_
  refine le_aload_n d_law_814 rfl 0 rfl ?_
  refine le_iload_n d_law_815 rfl 3 rfl ?_
  refine le_iconst (v := 1) d_law_816 rfl ?_
  refine le_iadd d_law_817 ?_
  refine le_sld d_law_818 (hin 1 (by decide)) ?_
  refine le_cI [.int (xs (x3 + 1).toNatClampNeg)] (rest := [.int r1]) d_law_819 ok_X10_led lk_L_124 ⟨Nat.le_of_ble_eq_true rfl, Nat.le_of_ble_eq_true rfl⟩ (rfl : gm_cls 43 = 9) vc_9 (by decide) rfl rfl (Nat.le_of_ble_eq_true rfl) (t_X10_led (xs (x3 + 1).toNatClampNeg) h1 _ hyp) (fun r2 h2 hyp => ?_)
  exact le_icmp_eq (tgt := 1368) d_law_822 (by decide) hyp.1 (next h2 hyp.2)
theorem lw_case_27 {Inv : Mem → Prop} (hp : ∀ (a1 a2 : Int32) (h : Mem), Inv h → f_X9_part a1 a2 h (fun r h1 => f_X10_part a1 a2 h1 (fun r2 h2 => r = r2 ∧ Inv h2))) {L : Nat} {xs : Nat → Int32} {x3 : Int32} {h : Mem} (hI : Inv h) (hin : ∀ j : Int32, (0 ≤ j ∧ j < 6) → vp_in (x3 + j) L) (next : ∀ h2, Inv h2 → LV L xs 1368 [(0, .ref 300), (1, .ref 0), (2, .ref 43), (3, .int x3)] [] h2) : LV L xs 827 [(0, .ref 300), (1, .ref 0), (2, .ref 43), (3, .int x3)] [] h := by
  have hyp0 := hp (xs (x3 + 1).toNatClampNeg) (xs (x3 + 2).toNatClampNeg) h hI
  refine le_aload_n d_law_827 rfl 1 rfl ?_
  refine le_aload_n d_law_828 rfl 0 rfl ?_
  refine le_iload_n d_law_829 rfl 3 rfl ?_
  refine le_iconst (v := 1) d_law_830 rfl ?_
  refine le_iadd d_law_831 ?_
  refine le_sld d_law_832 (hin 1 (by decide)) ?_
  refine le_aload_n d_law_833 rfl 0 rfl ?_
  refine le_iload_n d_law_834 rfl 3 rfl ?_
  refine le_iconst (v := 2) d_law_835 rfl ?_
  refine le_iadd d_law_836 ?_
  refine le_sld d_law_837 (hin 2 (by decide)) ?_
  refine le_cI [.int (xs (x3 + 1).toNatClampNeg), .int (xs (x3 + 2).toNatClampNeg)] (rest := []) d_law_838 ok_X9_part lk_L_125 ⟨Nat.le_of_ble_eq_true rfl, Nat.le_of_ble_eq_true rfl⟩ (rfl : gm_cls 0 = 8) vc_8 (by decide) rfl rfl (Nat.le_of_ble_eq_true rfl) (t_X9_part (xs (x3 + 1).toNatClampNeg) (xs (x3 + 2).toNatClampNeg) h _ hyp0) (fun r1 h1 hyp => ?_)
  refine le_aload_n d_law_841 rfl 2 rfl ?_
  refine le_aload_n d_law_842 rfl 0 rfl ?_
  refine le_iload_n d_law_843 rfl 3 rfl ?_
  refine le_iconst (v := 1) d_law_844 rfl ?_
  refine le_iadd d_law_845 ?_
  refine le_sld d_law_846 (hin 1 (by decide)) ?_
  refine le_aload_n d_law_847 rfl 0 rfl ?_
  refine le_iload_n d_law_848 rfl 3 rfl ?_
  refine le_iconst (v := 2) d_law_849 rfl ?_
  refine le_iadd d_law_850 ?_
  refine le_sld d_law_851 (hin 2 (by decide)) ?_
  refine le_cI [.int (xs (x3 + 1).toNatClampNeg), .int (xs (x3 + 2).toNatClampNeg)] (rest := [.int r1]) d_law_852 ok_X10_part lk_L_128 ⟨Nat.le_of_ble_eq_true rfl, Nat.le_of_ble_eq_true rfl⟩ (rfl : gm_cls 43 = 9) vc_9 (by decide) rfl rfl (Nat.le_of_ble_eq_true rfl) (t_X10_part (xs (x3 + 1).toNatClampNeg) (xs (x3 + 2).toNatClampNeg) h1 _ hyp) (fun r2 h2 hyp => ?_)
  exact le_icmp_eq (tgt := 1368) d_law_855 (by decide) hyp.1 (next h2 hyp.2)
theorem lw_case_28 {Inv : Mem → Prop} (hp : ∀ (a1 a2 : Int32) (h : Mem), Inv h → f_X9_stays a1 a2 h (fun r h1 => f_X10_stays a1 a2 h1 (fun r2 h2 => r = r2 ∧ Inv h2))) {L : Nat} {xs : Nat → Int32} {x3 : Int32} {h : Mem} (hI : Inv h) (hin : ∀ j : Int32, (0 ≤ j ∧ j < 6) → vp_in (x3 + j) L) (next : ∀ h2, Inv h2 → LV L xs 1368 [(0, .ref 300), (1, .ref 0), (2, .ref 43), (3, .int x3)] [] h2) : LV L xs 860 [(0, .ref 300), (1, .ref 0), (2, .ref 43), (3, .int x3)] [] h := by
  have hyp0 := hp (xs (x3 + 1).toNatClampNeg) (xs (x3 + 2).toNatClampNeg) h hI
  refine le_aload_n d_law_860 rfl 1 rfl ?_
  refine le_aload_n d_law_861 rfl 0 rfl ?_
  refine le_iload_n d_law_862 rfl 3 rfl ?_
  refine le_iconst (v := 1) d_law_863 rfl ?_
  refine le_iadd d_law_864 ?_
  refine le_sld d_law_865 (hin 1 (by decide)) ?_
  refine le_aload_n d_law_866 rfl 0 rfl ?_
  refine le_iload_n d_law_867 rfl 3 rfl ?_
  refine le_iconst (v := 2) d_law_868 rfl ?_
  refine le_iadd d_law_869 ?_
  refine le_sld d_law_870 (hin 2 (by decide)) ?_
  refine le_cL [.int (xs (x3 + 1).toNatClampNeg), .int (xs (x3 + 2).toNatClampNeg)] (rest := []) d_law_871 ok_X9_stays lk_L_129 ⟨Nat.le_of_ble_eq_true rfl, Nat.le_of_ble_eq_true rfl⟩ (rfl : gm_cls 0 = 8) vc_8 (by decide) rfl rfl (Nat.le_of_ble_eq_true rfl) (t_X9_stays (xs (x3 + 1).toNatClampNeg) (xs (x3 + 2).toNatClampNeg) h _ hyp0) (fun r1 h1 hyp => ?_)
  refine le_aload_n d_law_874 rfl 2 rfl ?_
  refine le_aload_n d_law_875 rfl 0 rfl ?_
  refine le_iload_n d_law_876 rfl 3 rfl ?_
  refine le_iconst (v := 1) d_law_877 rfl ?_
  refine le_iadd d_law_878 ?_
  refine le_sld d_law_879 (hin 1 (by decide)) ?_
  refine le_aload_n d_law_880 rfl 0 rfl ?_
  refine le_iload_n d_law_881 rfl 3 rfl ?_
  refine le_iconst (v := 2) d_law_882 rfl ?_
  refine le_iadd d_law_883 ?_
  refine le_sld d_law_884 (hin 2 (by decide)) ?_
  refine le_cL [.int (xs (x3 + 1).toNatClampNeg), .int (xs (x3 + 2).toNatClampNeg)] (rest := [.long r1]) d_law_885 ok_X10_stays lk_L_133 ⟨Nat.le_of_ble_eq_true rfl, Nat.le_of_ble_eq_true rfl⟩ (rfl : gm_cls 43 = 9) vc_9 (by decide) rfl rfl (Nat.le_of_ble_eq_true rfl) (t_X10_stays (xs (x3 + 1).toNatClampNeg) (xs (x3 + 2).toNatClampNeg) h1 _ hyp) (fun r2 h2 hyp => ?_)
  refine le_lcmp d_law_888 ?_
  exact le_if_eq (tgt := 1368) d_law_889 (by decide) (by rw [hyp.1]; exact lw_cmp0 _) (next h2 hyp.2)
theorem lw_case_29 {Inv : Mem → Prop} (hp : ∀ (a1 : Int32) (h : Mem), Inv h → f_X9_evening a1 h (fun r h1 => f_X10_evening a1 h1 (fun r2 h2 => r = r2 ∧ Inv h2))) {L : Nat} {xs : Nat → Int32} {x3 : Int32} {h : Mem} (hI : Inv h) (hin : ∀ j : Int32, (0 ≤ j ∧ j < 6) → vp_in (x3 + j) L) (next : ∀ h2, Inv h2 → LV L xs 1368 [(0, .ref 300), (1, .ref 0), (2, .ref 43), (3, .int x3)] [] h2) : LV L xs 894 [(0, .ref 300), (1, .ref 0), (2, .ref 43), (3, .int x3)] [] h := by
  have hyp0 := hp (xs (x3 + 1).toNatClampNeg) h hI
  refine le_aload_n d_law_894 rfl 1 rfl ?_
  refine le_aload_n d_law_895 rfl 0 rfl ?_
  refine le_iload_n d_law_896 rfl 3 rfl ?_
  refine le_iconst (v := 1) d_law_897 rfl ?_
  refine le_iadd d_law_898 ?_
  refine le_sld d_law_899 (hin 1 (by decide)) ?_
  refine le_cI [.int (xs (x3 + 1).toNatClampNeg)] (rest := []) d_law_900 ok_X9_evening lk_L_134 ⟨Nat.le_of_ble_eq_true rfl, Nat.le_of_ble_eq_true rfl⟩ (rfl : gm_cls 0 = 8) vc_8 (by decide) rfl rfl (Nat.le_of_ble_eq_true rfl) (t_X9_evening (xs (x3 + 1).toNatClampNeg) h _ hyp0) (fun r1 h1 hyp => ?_)
  refine le_aload_n d_law_903 rfl 2 rfl ?_
  refine le_aload_n d_law_904 rfl 0 rfl ?_
  refine le_iload_n d_law_905 rfl 3 rfl ?_
  refine le_iconst (v := 1) d_law_906 rfl ?_
  refine le_iadd d_law_907 ?_
  refine le_sld d_law_908 (hin 1 (by decide)) ?_
  refine le_cI [.int (xs (x3 + 1).toNatClampNeg)] (rest := [.int r1]) d_law_909 ok_X10_evening lk_L_137 ⟨Nat.le_of_ble_eq_true rfl, Nat.le_of_ble_eq_true rfl⟩ (rfl : gm_cls 43 = 9) vc_9 (by decide) rfl rfl (Nat.le_of_ble_eq_true rfl) (t_X10_evening (xs (x3 + 1).toNatClampNeg) h1 _ hyp) (fun r2 h2 hyp => ?_)
  exact le_icmp_eq (tgt := 1368) d_law_912 (by decide) hyp.1 (next h2 hyp.2)
theorem lw_case_30 {Inv : Mem → Prop} (hp : ∀ (a1 : Int32) (h : Mem), Inv h → f_X9_ahead a1 h (fun r h1 => f_X10_ahead a1 h1 (fun r2 h2 => r = r2 ∧ Inv h2))) {L : Nat} {xs : Nat → Int32} {x3 : Int32} {h : Mem} (hI : Inv h) (hin : ∀ j : Int32, (0 ≤ j ∧ j < 6) → vp_in (x3 + j) L) (next : ∀ h2, Inv h2 → LV L xs 1368 [(0, .ref 300), (1, .ref 0), (2, .ref 43), (3, .int x3)] [] h2) : LV L xs 917 [(0, .ref 300), (1, .ref 0), (2, .ref 43), (3, .int x3)] [] h := by
  have hyp0 := hp (xs (x3 + 1).toNatClampNeg) h hI
  refine le_aload_n d_law_917 rfl 1 rfl ?_
  refine le_aload_n d_law_918 rfl 0 rfl ?_
  refine le_iload_n d_law_919 rfl 3 rfl ?_
  refine le_iconst (v := 1) d_law_920 rfl ?_
  refine le_iadd d_law_921 ?_
  refine le_sld d_law_922 (hin 1 (by decide)) ?_
  refine le_cI [.int (xs (x3 + 1).toNatClampNeg)] (rest := []) d_law_923 ok_X9_ahead lk_L_138 ⟨Nat.le_of_ble_eq_true rfl, Nat.le_of_ble_eq_true rfl⟩ (rfl : gm_cls 0 = 8) vc_8 (by decide) rfl rfl (Nat.le_of_ble_eq_true rfl) (t_X9_ahead (xs (x3 + 1).toNatClampNeg) h _ hyp0) (fun r1 h1 hyp => ?_)
  refine le_aload_n d_law_926 rfl 2 rfl ?_
  refine le_aload_n d_law_927 rfl 0 rfl ?_
  refine le_iload_n d_law_928 rfl 3 rfl ?_
  refine le_iconst (v := 1) d_law_929 rfl ?_
  refine le_iadd d_law_930 ?_
  refine le_sld d_law_931 (hin 1 (by decide)) ?_
  refine le_cI [.int (xs (x3 + 1).toNatClampNeg)] (rest := [.int r1]) d_law_932 ok_X10_ahead lk_L_141 ⟨Nat.le_of_ble_eq_true rfl, Nat.le_of_ble_eq_true rfl⟩ (rfl : gm_cls 43 = 9) vc_9 (by decide) rfl rfl (Nat.le_of_ble_eq_true rfl) (t_X10_ahead (xs (x3 + 1).toNatClampNeg) h1 _ hyp) (fun r2 h2 hyp => ?_)
  exact le_icmp_eq (tgt := 1368) d_law_935 (by decide) hyp.1 (next h2 hyp.2)
theorem lw_case_31 {Inv : Mem → Prop} (hp : ∀ (a1 : Int32) (h : Mem), Inv h → f_X9_seed a1 h (fun r h1 => f_X10_seed a1 h1 (fun r2 h2 => r = r2 ∧ Inv h2))) {L : Nat} {xs : Nat → Int32} {x3 : Int32} {h : Mem} (hI : Inv h) (hin : ∀ j : Int32, (0 ≤ j ∧ j < 6) → vp_in (x3 + j) L) (next : ∀ h2, Inv h2 → LV L xs 1368 [(0, .ref 300), (1, .ref 0), (2, .ref 43), (3, .int x3)] [] h2) : LV L xs 940 [(0, .ref 300), (1, .ref 0), (2, .ref 43), (3, .int x3)] [] h := by
  have hyp0 := hp (xs (x3 + 1).toNatClampNeg) h hI
  refine le_aload_n d_law_940 rfl 1 rfl ?_
  refine le_aload_n d_law_941 rfl 0 rfl ?_
  refine le_iload_n d_law_942 rfl 3 rfl ?_
  refine le_iconst (v := 1) d_law_943 rfl ?_
  refine le_iadd d_law_944 ?_
  refine le_sld d_law_945 (hin 1 (by decide)) ?_
  refine le_cI [.int (xs (x3 + 1).toNatClampNeg)] (rest := []) d_law_946 ok_X9_seed lk_L_142 ⟨Nat.le_of_ble_eq_true rfl, Nat.le_of_ble_eq_true rfl⟩ (rfl : gm_cls 0 = 8) vc_8 (by decide) rfl rfl (Nat.le_of_ble_eq_true rfl) (t_X9_seed (xs (x3 + 1).toNatClampNeg) h _ hyp0) (fun r1 h1 hyp => ?_)
  refine le_aload_n d_law_949 rfl 2 rfl ?_
  refine le_aload_n d_law_950 rfl 0 rfl ?_
  refine le_iload_n d_law_951 rfl 3 rfl ?_
  refine le_iconst (v := 1) d_law_952 rfl ?_
  refine le_iadd d_law_953 ?_
  refine le_sld d_law_954 (hin 1 (by decide)) ?_
  refine le_cI [.int (xs (x3 + 1).toNatClampNeg)] (rest := [.int r1]) d_law_955 ok_X10_seed lk_L_145 ⟨Nat.le_of_ble_eq_true rfl, Nat.le_of_ble_eq_true rfl⟩ (rfl : gm_cls 43 = 9) vc_9 (by decide) rfl rfl (Nat.le_of_ble_eq_true rfl) (t_X10_seed (xs (x3 + 1).toNatClampNeg) h1 _ hyp) (fun r2 h2 hyp => ?_)
  exact le_icmp_eq (tgt := 1368) d_law_958 (by decide) hyp.1 (next h2 hyp.2)
theorem lw_case_32 {Inv : Mem → Prop} (hp : ∀ (a1 a2 : Int32) (h : Mem), Inv h → f_X9_feed a1 a2 h (fun r h1 => f_X10_feed a1 a2 h1 (fun r2 h2 => r = r2 ∧ Inv h2))) {L : Nat} {xs : Nat → Int32} {x3 : Int32} {h : Mem} (hI : Inv h) (hin : ∀ j : Int32, (0 ≤ j ∧ j < 6) → vp_in (x3 + j) L) (next : ∀ h2, Inv h2 → LV L xs 1368 [(0, .ref 300), (1, .ref 0), (2, .ref 43), (3, .int x3)] [] h2) : LV L xs 963 [(0, .ref 300), (1, .ref 0), (2, .ref 43), (3, .int x3)] [] h := by
  have hyp0 := hp (xs (x3 + 1).toNatClampNeg) (xs (x3 + 2).toNatClampNeg) h hI
  refine le_aload_n d_law_963 rfl 1 rfl ?_
  refine le_aload_n d_law_964 rfl 0 rfl ?_
  refine le_iload_n d_law_965 rfl 3 rfl ?_
  refine le_iconst (v := 1) d_law_966 rfl ?_
  refine le_iadd d_law_967 ?_
  refine le_sld d_law_968 (hin 1 (by decide)) ?_
  refine le_aload_n d_law_969 rfl 0 rfl ?_
  refine le_iload_n d_law_970 rfl 3 rfl ?_
  refine le_iconst (v := 2) d_law_971 rfl ?_
  refine le_iadd d_law_972 ?_
  refine le_sld d_law_973 (hin 2 (by decide)) ?_
  refine le_cI [.int (xs (x3 + 1).toNatClampNeg), .int (xs (x3 + 2).toNatClampNeg)] (rest := []) d_law_974 ok_X9_feed lk_L_146 ⟨Nat.le_of_ble_eq_true rfl, Nat.le_of_ble_eq_true rfl⟩ (rfl : gm_cls 0 = 8) vc_8 (by decide) rfl rfl (Nat.le_of_ble_eq_true rfl) (t_X9_feed (xs (x3 + 1).toNatClampNeg) (xs (x3 + 2).toNatClampNeg) h _ hyp0) (fun r1 h1 hyp => ?_)
  refine le_aload_n d_law_977 rfl 2 rfl ?_
  refine le_aload_n d_law_978 rfl 0 rfl ?_
  refine le_iload_n d_law_979 rfl 3 rfl ?_
  refine le_iconst (v := 1) d_law_980 rfl ?_
  refine le_iadd d_law_981 ?_
  refine le_sld d_law_982 (hin 1 (by decide)) ?_
  refine le_aload_n d_law_983 rfl 0 rfl ?_
  refine le_iload_n d_law_984 rfl 3 rfl ?_
  refine le_iconst (v := 2) d_law_985 rfl ?_
  refine le_iadd d_law_986 ?_
  refine le_sld d_law_987 (hin 2 (by decide)) ?_
  refine le_cI [.int (xs (x3 + 1).toNatClampNeg), .int (xs (x3 + 2).toNatClampNeg)] (rest := [.int r1]) d_law_988 ok_X10_feed lk_L_149 ⟨Nat.le_of_ble_eq_true rfl, Nat.le_of_ble_eq_true rfl⟩ (rfl : gm_cls 43 = 9) vc_9 (by decide) rfl rfl (Nat.le_of_ble_eq_true rfl) (t_X10_feed (xs (x3 + 1).toNatClampNeg) (xs (x3 + 2).toNatClampNeg) h1 _ hyp) (fun r2 h2 hyp => ?_)
  exact le_icmp_eq (tgt := 1368) d_law_991 (by decide) hyp.1 (next h2 hyp.2)
theorem lw_case_33 {Inv : Mem → Prop} (hp : ∀ (h : Mem), Inv h → f_X9_wipe  h (fun r h1 => f_X10_wipe  h1 (fun r2 h2 => r = r2 ∧ Inv h2))) {L : Nat} {xs : Nat → Int32} {x3 : Int32} {h : Mem} (hI : Inv h) (hin : ∀ j : Int32, (0 ≤ j ∧ j < 6) → vp_in (x3 + j) L) (next : ∀ h2, Inv h2 → LV L xs 1368 [(0, .ref 300), (1, .ref 0), (2, .ref 43), (3, .int x3)] [] h2) : LV L xs 996 [(0, .ref 300), (1, .ref 0), (2, .ref 43), (3, .int x3)] [] h := by
  have hyp0 := hp  h hI
  refine le_aload_n d_law_996 rfl 1 rfl ?_
  refine le_cI [] (rest := []) d_law_997 ok_X9_wipe lk_L_150 ⟨Nat.le_of_ble_eq_true rfl, Nat.le_of_ble_eq_true rfl⟩ (rfl : gm_cls 0 = 8) vc_8 (by decide) rfl rfl (Nat.le_of_ble_eq_true rfl) (t_X9_wipe  h _ hyp0) (fun r1 h1 hyp => ?_)
  refine le_aload_n d_law_1000 rfl 2 rfl ?_
  refine le_cI [] (rest := [.int r1]) d_law_1001 ok_X10_wipe lk_L_153 ⟨Nat.le_of_ble_eq_true rfl, Nat.le_of_ble_eq_true rfl⟩ (rfl : gm_cls 43 = 9) vc_9 (by decide) rfl rfl (Nat.le_of_ble_eq_true rfl) (t_X10_wipe  h1 _ hyp) (fun r2 h2 hyp => ?_)
  exact le_icmp_eq (tgt := 1368) d_law_1004 (by decide) hyp.1 (next h2 hyp.2)
theorem lw_case_34 {Inv : Mem → Prop} (hp : ∀ (h : Mem), Inv h → f_X9_text  h (fun r h1 => f_X10_text  h1 (fun r2 h2 => r = r2 ∧ Inv h2))) {L : Nat} {xs : Nat → Int32} {x3 : Int32} {h : Mem} (hI : Inv h) (hin : ∀ j : Int32, (0 ≤ j ∧ j < 6) → vp_in (x3 + j) L) (next : ∀ h2, Inv h2 → LV L xs 1368 [(0, .ref 300), (1, .ref 0), (2, .ref 43), (3, .int x3)] [] h2) : LV L xs 1009 [(0, .ref 300), (1, .ref 0), (2, .ref 43), (3, .int x3)] [] h := by
  have hyp0 := hp  h hI
  refine le_aload_n d_law_1009 rfl 1 rfl ?_
  refine le_cI [] (rest := []) d_law_1010 ok_X9_text lk_L_154 ⟨Nat.le_of_ble_eq_true rfl, Nat.le_of_ble_eq_true rfl⟩ (rfl : gm_cls 0 = 8) vc_8 (by decide) rfl rfl (Nat.le_of_ble_eq_true rfl) (t_X9_text  h _ hyp0) (fun r1 h1 hyp => ?_)
  refine le_aload_n d_law_1013 rfl 2 rfl ?_
  refine le_cI [] (rest := [.int r1]) d_law_1014 ok_X10_text lk_L_157 ⟨Nat.le_of_ble_eq_true rfl, Nat.le_of_ble_eq_true rfl⟩ (rfl : gm_cls 43 = 9) vc_9 (by decide) rfl rfl (Nat.le_of_ble_eq_true rfl) (t_X10_text  h1 _ hyp) (fun r2 h2 hyp => ?_)
  exact le_icmp_eq (tgt := 1368) d_law_1017 (by decide) hyp.1 (next h2 hyp.2)
theorem lw_case_35 {Inv : Mem → Prop} (hp : ∀ (a1 a2 : Int32) (h : Mem), Inv h → f_X9_hold a1 a2 h (fun r h1 => f_X10_hold a1 a2 h1 (fun r2 h2 => r = r2 ∧ Inv h2))) {L : Nat} {xs : Nat → Int32} {x3 : Int32} {h : Mem} (hI : Inv h) (hin : ∀ j : Int32, (0 ≤ j ∧ j < 6) → vp_in (x3 + j) L) (next : ∀ h2, Inv h2 → LV L xs 1368 [(0, .ref 300), (1, .ref 0), (2, .ref 43), (3, .int x3)] [] h2) : LV L xs 1022 [(0, .ref 300), (1, .ref 0), (2, .ref 43), (3, .int x3)] [] h := by
  have hyp0 := hp (xs (x3 + 1).toNatClampNeg) (xs (x3 + 2).toNatClampNeg) h hI
  refine le_aload_n d_law_1022 rfl 1 rfl ?_
  refine le_aload_n d_law_1023 rfl 0 rfl ?_
  refine le_iload_n d_law_1024 rfl 3 rfl ?_
  refine le_iconst (v := 1) d_law_1025 rfl ?_
  refine le_iadd d_law_1026 ?_
  refine le_sld d_law_1027 (hin 1 (by decide)) ?_
  refine le_aload_n d_law_1028 rfl 0 rfl ?_
  refine le_iload_n d_law_1029 rfl 3 rfl ?_
  refine le_iconst (v := 2) d_law_1030 rfl ?_
  refine le_iadd d_law_1031 ?_
  refine le_sld d_law_1032 (hin 2 (by decide)) ?_
  refine le_cI [.int (xs (x3 + 1).toNatClampNeg), .int (xs (x3 + 2).toNatClampNeg)] (rest := []) d_law_1033 ok_X9_hold lk_L_158 ⟨Nat.le_of_ble_eq_true rfl, Nat.le_of_ble_eq_true rfl⟩ (rfl : gm_cls 0 = 8) vc_8 (by decide) rfl rfl (Nat.le_of_ble_eq_true rfl) (t_X9_hold (xs (x3 + 1).toNatClampNeg) (xs (x3 + 2).toNatClampNeg) h _ hyp0) (fun r1 h1 hyp => ?_)
  refine le_aload_n d_law_1036 rfl 2 rfl ?_
  refine le_aload_n d_law_1037 rfl 0 rfl ?_
  refine le_iload_n d_law_1038 rfl 3 rfl ?_
  refine le_iconst (v := 1) d_law_1039 rfl ?_
  refine le_iadd d_law_1040 ?_
  refine le_sld d_law_1041 (hin 1 (by decide)) ?_
  refine le_aload_n d_law_1042 rfl 0 rfl ?_
  refine le_iload_n d_law_1043 rfl 3 rfl ?_
  refine le_iconst (v := 2) d_law_1044 rfl ?_
  refine le_iadd d_law_1045 ?_
  refine le_sld d_law_1046 (hin 2 (by decide)) ?_
  refine le_cI [.int (xs (x3 + 1).toNatClampNeg), .int (xs (x3 + 2).toNatClampNeg)] (rest := [.int r1]) d_law_1047 ok_X10_hold lk_L_161 ⟨Nat.le_of_ble_eq_true rfl, Nat.le_of_ble_eq_true rfl⟩ (rfl : gm_cls 43 = 9) vc_9 (by decide) rfl rfl (Nat.le_of_ble_eq_true rfl) (t_X10_hold (xs (x3 + 1).toNatClampNeg) (xs (x3 + 2).toNatClampNeg) h1 _ hyp) (fun r2 h2 hyp => ?_)
  exact le_icmp_eq (tgt := 1368) d_law_1050 (by decide) hyp.1 (next h2 hyp.2)
theorem lw_case_36 {Inv : Mem → Prop} (hp : ∀ (a1 a2 : Int32) (h : Mem), Inv h → f_X9_as a1 a2 h (fun r h1 => f_X10_as a1 a2 h1 (fun r2 h2 => r = r2 ∧ Inv h2))) {L : Nat} {xs : Nat → Int32} {x3 : Int32} {h : Mem} (hI : Inv h) (hin : ∀ j : Int32, (0 ≤ j ∧ j < 6) → vp_in (x3 + j) L) (next : ∀ h2, Inv h2 → LV L xs 1368 [(0, .ref 300), (1, .ref 0), (2, .ref 43), (3, .int x3)] [] h2) : LV L xs 1055 [(0, .ref 300), (1, .ref 0), (2, .ref 43), (3, .int x3)] [] h := by
  have hyp0 := hp (xs (x3 + 1).toNatClampNeg) (xs (x3 + 2).toNatClampNeg) h hI
  refine le_aload_n d_law_1055 rfl 1 rfl ?_
  refine le_aload_n d_law_1056 rfl 0 rfl ?_
  refine le_iload_n d_law_1057 rfl 3 rfl ?_
  refine le_iconst (v := 1) d_law_1058 rfl ?_
  refine le_iadd d_law_1059 ?_
  refine le_sld d_law_1060 (hin 1 (by decide)) ?_
  refine le_aload_n d_law_1061 rfl 0 rfl ?_
  refine le_iload_n d_law_1062 rfl 3 rfl ?_
  refine le_iconst (v := 2) d_law_1063 rfl ?_
  refine le_iadd d_law_1064 ?_
  refine le_sld d_law_1065 (hin 2 (by decide)) ?_
  refine le_cI [.int (xs (x3 + 1).toNatClampNeg), .int (xs (x3 + 2).toNatClampNeg)] (rest := []) d_law_1066 ok_X9_as lk_L_162 ⟨Nat.le_of_ble_eq_true rfl, Nat.le_of_ble_eq_true rfl⟩ (rfl : gm_cls 0 = 8) vc_8 (by decide) rfl rfl (Nat.le_of_ble_eq_true rfl) (t_X9_as (xs (x3 + 1).toNatClampNeg) (xs (x3 + 2).toNatClampNeg) h _ hyp0) (fun r1 h1 hyp => ?_)
  refine le_aload_n d_law_1069 rfl 2 rfl ?_
  refine le_aload_n d_law_1070 rfl 0 rfl ?_
  refine le_iload_n d_law_1071 rfl 3 rfl ?_
  refine le_iconst (v := 1) d_law_1072 rfl ?_
  refine le_iadd d_law_1073 ?_
  refine le_sld d_law_1074 (hin 1 (by decide)) ?_
  refine le_aload_n d_law_1075 rfl 0 rfl ?_
  refine le_iload_n d_law_1076 rfl 3 rfl ?_
  refine le_iconst (v := 2) d_law_1077 rfl ?_
  refine le_iadd d_law_1078 ?_
  refine le_sld d_law_1079 (hin 2 (by decide)) ?_
  refine le_cI [.int (xs (x3 + 1).toNatClampNeg), .int (xs (x3 + 2).toNatClampNeg)] (rest := [.int r1]) d_law_1080 ok_X10_as lk_L_165 ⟨Nat.le_of_ble_eq_true rfl, Nat.le_of_ble_eq_true rfl⟩ (rfl : gm_cls 43 = 9) vc_9 (by decide) rfl rfl (Nat.le_of_ble_eq_true rfl) (t_X10_as (xs (x3 + 1).toNatClampNeg) (xs (x3 + 2).toNatClampNeg) h1 _ hyp) (fun r2 h2 hyp => ?_)
  exact le_icmp_eq (tgt := 1368) d_law_1083 (by decide) hyp.1 (next h2 hyp.2)
theorem lw_case_37 {Inv : Mem → Prop} (hp : ∀ (a1 a2 a3 : Int32) (h : Mem), Inv h → f_X9_sheet a1 a2 a3 h (fun r h1 => f_X10_sheet a1 a2 a3 h1 (fun r2 h2 => r = r2 ∧ Inv h2))) {L : Nat} {xs : Nat → Int32} {x3 : Int32} {h : Mem} (hI : Inv h) (hin : ∀ j : Int32, (0 ≤ j ∧ j < 6) → vp_in (x3 + j) L) (next : ∀ h2, Inv h2 → LV L xs 1368 [(0, .ref 300), (1, .ref 0), (2, .ref 43), (3, .int x3)] [] h2) : LV L xs 1088 [(0, .ref 300), (1, .ref 0), (2, .ref 43), (3, .int x3)] [] h := by
  have hyp0 := hp (xs (x3 + 1).toNatClampNeg) (xs (x3 + 2).toNatClampNeg) (xs (x3 + 3).toNatClampNeg) h hI
  refine le_aload_n d_law_1088 rfl 1 rfl ?_
  refine le_aload_n d_law_1089 rfl 0 rfl ?_
  refine le_iload_n d_law_1090 rfl 3 rfl ?_
  refine le_iconst (v := 1) d_law_1091 rfl ?_
  refine le_iadd d_law_1092 ?_
  refine le_sld d_law_1093 (hin 1 (by decide)) ?_
  refine le_aload_n d_law_1094 rfl 0 rfl ?_
  refine le_iload_n d_law_1095 rfl 3 rfl ?_
  refine le_iconst (v := 2) d_law_1096 rfl ?_
  refine le_iadd d_law_1097 ?_
  refine le_sld d_law_1098 (hin 2 (by decide)) ?_
  refine le_aload_n d_law_1099 rfl 0 rfl ?_
  refine le_iload_n d_law_1100 rfl 3 rfl ?_
  refine le_iconst (v := 3) d_law_1101 rfl ?_
  refine le_iadd d_law_1102 ?_
  refine le_sld d_law_1103 (hin 3 (by decide)) ?_
  refine le_cI [.int (xs (x3 + 1).toNatClampNeg), .int (xs (x3 + 2).toNatClampNeg), .int (xs (x3 + 3).toNatClampNeg)] (rest := []) d_law_1104 ok_X9_sheet lk_L_166 ⟨Nat.le_of_ble_eq_true rfl, Nat.le_of_ble_eq_true rfl⟩ (rfl : gm_cls 0 = 8) vc_8 (by decide) rfl rfl (Nat.le_of_ble_eq_true rfl) (t_X9_sheet (xs (x3 + 1).toNatClampNeg) (xs (x3 + 2).toNatClampNeg) (xs (x3 + 3).toNatClampNeg) h _ hyp0) (fun r1 h1 hyp => ?_)
  refine le_aload_n d_law_1107 rfl 2 rfl ?_
  refine le_aload_n d_law_1108 rfl 0 rfl ?_
  refine le_iload_n d_law_1109 rfl 3 rfl ?_
  refine le_iconst (v := 1) d_law_1110 rfl ?_
  refine le_iadd d_law_1111 ?_
  refine le_sld d_law_1112 (hin 1 (by decide)) ?_
  refine le_aload_n d_law_1113 rfl 0 rfl ?_
  refine le_iload_n d_law_1114 rfl 3 rfl ?_
  refine le_iconst (v := 2) d_law_1115 rfl ?_
  refine le_iadd d_law_1116 ?_
  refine le_sld d_law_1117 (hin 2 (by decide)) ?_
  refine le_aload_n d_law_1118 rfl 0 rfl ?_
  refine le_iload_n d_law_1119 rfl 3 rfl ?_
  refine le_iconst (v := 3) d_law_1120 rfl ?_
  refine le_iadd d_law_1121 ?_
  refine le_sld d_law_1122 (hin 3 (by decide)) ?_
  refine le_cI [.int (xs (x3 + 1).toNatClampNeg), .int (xs (x3 + 2).toNatClampNeg), .int (xs (x3 + 3).toNatClampNeg)] (rest := [.int r1]) d_law_1123 ok_X10_sheet lk_L_169 ⟨Nat.le_of_ble_eq_true rfl, Nat.le_of_ble_eq_true rfl⟩ (rfl : gm_cls 43 = 9) vc_9 (by decide) rfl rfl (Nat.le_of_ble_eq_true rfl) (t_X10_sheet (xs (x3 + 1).toNatClampNeg) (xs (x3 + 2).toNatClampNeg) (xs (x3 + 3).toNatClampNeg) h1 _ hyp) (fun r2 h2 hyp => ?_)
  exact le_icmp_eq (tgt := 1368) d_law_1126 (by decide) hyp.1 (next h2 hyp.2)
theorem lw_case_38 {Inv : Mem → Prop} (hp : ∀ (a1 a2 a3 : Int32) (h : Mem), Inv h → f_X9_write a1 a2 a3 h (fun r h1 => f_X10_write a1 a2 a3 h1 (fun r2 h2 => r = r2 ∧ Inv h2))) {L : Nat} {xs : Nat → Int32} {x3 : Int32} {h : Mem} (hI : Inv h) (hin : ∀ j : Int32, (0 ≤ j ∧ j < 6) → vp_in (x3 + j) L) (next : ∀ h2, Inv h2 → LV L xs 1368 [(0, .ref 300), (1, .ref 0), (2, .ref 43), (3, .int x3)] [] h2) : LV L xs 1131 [(0, .ref 300), (1, .ref 0), (2, .ref 43), (3, .int x3)] [] h := by
  have hyp0 := hp (xs (x3 + 1).toNatClampNeg) (xs (x3 + 2).toNatClampNeg) (xs (x3 + 3).toNatClampNeg) h hI
  refine le_aload_n d_law_1131 rfl 1 rfl ?_
  refine le_aload_n d_law_1132 rfl 0 rfl ?_
  refine le_iload_n d_law_1133 rfl 3 rfl ?_
  refine le_iconst (v := 1) d_law_1134 rfl ?_
  refine le_iadd d_law_1135 ?_
  refine le_sld d_law_1136 (hin 1 (by decide)) ?_
  refine le_aload_n d_law_1137 rfl 0 rfl ?_
  refine le_iload_n d_law_1138 rfl 3 rfl ?_
  refine le_iconst (v := 2) d_law_1139 rfl ?_
  refine le_iadd d_law_1140 ?_
  refine le_sld d_law_1141 (hin 2 (by decide)) ?_
  refine le_aload_n d_law_1142 rfl 0 rfl ?_
  refine le_iload_n d_law_1143 rfl 3 rfl ?_
  refine le_iconst (v := 3) d_law_1144 rfl ?_
  refine le_iadd d_law_1145 ?_
  refine le_sld d_law_1146 (hin 3 (by decide)) ?_
  refine le_cI [.int (xs (x3 + 1).toNatClampNeg), .int (xs (x3 + 2).toNatClampNeg), .int (xs (x3 + 3).toNatClampNeg)] (rest := []) d_law_1147 ok_X9_write lk_L_170 ⟨Nat.le_of_ble_eq_true rfl, Nat.le_of_ble_eq_true rfl⟩ (rfl : gm_cls 0 = 8) vc_8 (by decide) rfl rfl (Nat.le_of_ble_eq_true rfl) (t_X9_write (xs (x3 + 1).toNatClampNeg) (xs (x3 + 2).toNatClampNeg) (xs (x3 + 3).toNatClampNeg) h _ hyp0) (fun r1 h1 hyp => ?_)
  refine le_aload_n d_law_1150 rfl 2 rfl ?_
  refine le_aload_n d_law_1151 rfl 0 rfl ?_
  refine le_iload_n d_law_1152 rfl 3 rfl ?_
  refine le_iconst (v := 1) d_law_1153 rfl ?_
  refine le_iadd d_law_1154 ?_
  refine le_sld d_law_1155 (hin 1 (by decide)) ?_
  refine le_aload_n d_law_1156 rfl 0 rfl ?_
  refine le_iload_n d_law_1157 rfl 3 rfl ?_
  refine le_iconst (v := 2) d_law_1158 rfl ?_
  refine le_iadd d_law_1159 ?_
  refine le_sld d_law_1160 (hin 2 (by decide)) ?_
  refine le_aload_n d_law_1161 rfl 0 rfl ?_
  refine le_iload_n d_law_1162 rfl 3 rfl ?_
  refine le_iconst (v := 3) d_law_1163 rfl ?_
  refine le_iadd d_law_1164 ?_
  refine le_sld d_law_1165 (hin 3 (by decide)) ?_
  refine le_cI [.int (xs (x3 + 1).toNatClampNeg), .int (xs (x3 + 2).toNatClampNeg), .int (xs (x3 + 3).toNatClampNeg)] (rest := [.int r1]) d_law_1166 ok_X10_write lk_L_173 ⟨Nat.le_of_ble_eq_true rfl, Nat.le_of_ble_eq_true rfl⟩ (rfl : gm_cls 43 = 9) vc_9 (by decide) rfl rfl (Nat.le_of_ble_eq_true rfl) (t_X10_write (xs (x3 + 1).toNatClampNeg) (xs (x3 + 2).toNatClampNeg) (xs (x3 + 3).toNatClampNeg) h1 _ hyp) (fun r2 h2 hyp => ?_)
  exact le_icmp_eq (tgt := 1368) d_law_1169 (by decide) hyp.1 (next h2 hyp.2)
theorem lw_case_39 {Inv : Mem → Prop} (hp : ∀ (a1 a2 a3 a4 a5 : Int32) (h : Mem), Inv h → f_X9_copy a1 a2 a3 a4 a5 h (fun r h1 => f_X10_copy a1 a2 a3 a4 a5 h1 (fun r2 h2 => r = r2 ∧ Inv h2))) {L : Nat} {xs : Nat → Int32} {x3 : Int32} {h : Mem} (hI : Inv h) (hin : ∀ j : Int32, (0 ≤ j ∧ j < 6) → vp_in (x3 + j) L) (next : ∀ h2, Inv h2 → LV L xs 1368 [(0, .ref 300), (1, .ref 0), (2, .ref 43), (3, .int x3)] [] h2) : LV L xs 1174 [(0, .ref 300), (1, .ref 0), (2, .ref 43), (3, .int x3)] [] h := by
  have hyp0 := hp (xs (x3 + 1).toNatClampNeg) (xs (x3 + 2).toNatClampNeg) (xs (x3 + 3).toNatClampNeg) (xs (x3 + 4).toNatClampNeg) (xs (x3 + 5).toNatClampNeg) h hI
  refine le_aload_n d_law_1174 rfl 1 rfl ?_
  refine le_aload_n d_law_1175 rfl 0 rfl ?_
  refine le_iload_n d_law_1176 rfl 3 rfl ?_
  refine le_iconst (v := 1) d_law_1177 rfl ?_
  refine le_iadd d_law_1178 ?_
  refine le_sld d_law_1179 (hin 1 (by decide)) ?_
  refine le_aload_n d_law_1180 rfl 0 rfl ?_
  refine le_iload_n d_law_1181 rfl 3 rfl ?_
  refine le_iconst (v := 2) d_law_1182 rfl ?_
  refine le_iadd d_law_1183 ?_
  refine le_sld d_law_1184 (hin 2 (by decide)) ?_
  refine le_aload_n d_law_1185 rfl 0 rfl ?_
  refine le_iload_n d_law_1186 rfl 3 rfl ?_
  refine le_iconst (v := 3) d_law_1187 rfl ?_
  refine le_iadd d_law_1188 ?_
  refine le_sld d_law_1189 (hin 3 (by decide)) ?_
  refine le_aload_n d_law_1190 rfl 0 rfl ?_
  refine le_iload_n d_law_1191 rfl 3 rfl ?_
  refine le_iconst (v := 4) d_law_1192 rfl ?_
  refine le_iadd d_law_1193 ?_
  refine le_sld d_law_1194 (hin 4 (by decide)) ?_
  refine le_aload_n d_law_1195 rfl 0 rfl ?_
  refine le_iload_n d_law_1196 rfl 3 rfl ?_
  refine le_iconst (v := 5) d_law_1197 rfl ?_
  refine le_iadd d_law_1198 ?_
  refine le_sld d_law_1199 (hin 5 (by decide)) ?_
  refine le_cI [.int (xs (x3 + 1).toNatClampNeg), .int (xs (x3 + 2).toNatClampNeg), .int (xs (x3 + 3).toNatClampNeg), .int (xs (x3 + 4).toNatClampNeg), .int (xs (x3 + 5).toNatClampNeg)] (rest := []) d_law_1200 ok_X9_copy lk_L_174 ⟨Nat.le_of_ble_eq_true rfl, Nat.le_of_ble_eq_true rfl⟩ (rfl : gm_cls 0 = 8) vc_8 (by decide) rfl rfl (Nat.le_of_ble_eq_true rfl) (t_X9_copy (xs (x3 + 1).toNatClampNeg) (xs (x3 + 2).toNatClampNeg) (xs (x3 + 3).toNatClampNeg) (xs (x3 + 4).toNatClampNeg) (xs (x3 + 5).toNatClampNeg) h _ hyp0) (fun r1 h1 hyp => ?_)
  refine le_aload_n d_law_1203 rfl 2 rfl ?_
  refine le_aload_n d_law_1204 rfl 0 rfl ?_
  refine le_iload_n d_law_1205 rfl 3 rfl ?_
  refine le_iconst (v := 1) d_law_1206 rfl ?_
  refine le_iadd d_law_1207 ?_
  refine le_sld d_law_1208 (hin 1 (by decide)) ?_
  refine le_aload_n d_law_1209 rfl 0 rfl ?_
  refine le_iload_n d_law_1210 rfl 3 rfl ?_
  refine le_iconst (v := 2) d_law_1211 rfl ?_
  refine le_iadd d_law_1212 ?_
  refine le_sld d_law_1213 (hin 2 (by decide)) ?_
  refine le_aload_n d_law_1214 rfl 0 rfl ?_
  refine le_iload_n d_law_1215 rfl 3 rfl ?_
  refine le_iconst (v := 3) d_law_1216 rfl ?_
  refine le_iadd d_law_1217 ?_
  refine le_sld d_law_1218 (hin 3 (by decide)) ?_
  refine le_aload_n d_law_1219 rfl 0 rfl ?_
  refine le_iload_n d_law_1220 rfl 3 rfl ?_
  refine le_iconst (v := 4) d_law_1221 rfl ?_
  refine le_iadd d_law_1222 ?_
  refine le_sld d_law_1223 (hin 4 (by decide)) ?_
  refine le_aload_n d_law_1224 rfl 0 rfl ?_
  refine le_iload_n d_law_1225 rfl 3 rfl ?_
  refine le_iconst (v := 5) d_law_1226 rfl ?_
  refine le_iadd d_law_1227 ?_
  refine le_sld d_law_1228 (hin 5 (by decide)) ?_
  refine le_cI [.int (xs (x3 + 1).toNatClampNeg), .int (xs (x3 + 2).toNatClampNeg), .int (xs (x3 + 3).toNatClampNeg), .int (xs (x3 + 4).toNatClampNeg), .int (xs (x3 + 5).toNatClampNeg)] (rest := [.int r1]) d_law_1229 ok_X10_copy lk_L_178 ⟨Nat.le_of_ble_eq_true rfl, Nat.le_of_ble_eq_true rfl⟩ (rfl : gm_cls 43 = 9) vc_9 (by decide) rfl rfl (Nat.le_of_ble_eq_true rfl) (t_X10_copy (xs (x3 + 1).toNatClampNeg) (xs (x3 + 2).toNatClampNeg) (xs (x3 + 3).toNatClampNeg) (xs (x3 + 4).toNatClampNeg) (xs (x3 + 5).toNatClampNeg) h1 _ hyp) (fun r2 h2 hyp => ?_)
  exact le_icmp_eq (tgt := 1368) d_law_1232 (by decide) hyp.1 (next h2 hyp.2)
theorem lw_case_40 {Inv : Mem → Prop} (hp : ∀ (a1 : Int32) (h : Mem), Inv h → f_X9_load a1 h (fun r h1 => f_X10_load a1 h1 (fun r2 h2 => r = r2 ∧ Inv h2))) {L : Nat} {xs : Nat → Int32} {x3 : Int32} {h : Mem} (hI : Inv h) (hin : ∀ j : Int32, (0 ≤ j ∧ j < 6) → vp_in (x3 + j) L) (next : ∀ h2, Inv h2 → LV L xs 1368 [(0, .ref 300), (1, .ref 0), (2, .ref 43), (3, .int x3)] [] h2) : LV L xs 1237 [(0, .ref 300), (1, .ref 0), (2, .ref 43), (3, .int x3)] [] h := by
  have hyp0 := hp (xs (x3 + 1).toNatClampNeg) h hI
  refine le_aload_n d_law_1237 rfl 1 rfl ?_
  refine le_aload_n d_law_1238 rfl 0 rfl ?_
  refine le_iload_n d_law_1239 rfl 3 rfl ?_
  refine le_iconst (v := 1) d_law_1240 rfl ?_
  refine le_iadd d_law_1241 ?_
  refine le_sld d_law_1242 (hin 1 (by decide)) ?_
  refine le_cI [.int (xs (x3 + 1).toNatClampNeg)] (rest := []) d_law_1243 ok_X9_load lk_L_179 ⟨Nat.le_of_ble_eq_true rfl, Nat.le_of_ble_eq_true rfl⟩ (rfl : gm_cls 0 = 8) vc_8 (by decide) rfl rfl (Nat.le_of_ble_eq_true rfl) (t_X9_load (xs (x3 + 1).toNatClampNeg) h _ hyp0) (fun r1 h1 hyp => ?_)
  refine le_aload_n d_law_1246 rfl 2 rfl ?_
  refine le_aload_n d_law_1247 rfl 0 rfl ?_
  refine le_iload_n d_law_1248 rfl 3 rfl ?_
  refine le_iconst (v := 1) d_law_1249 rfl ?_
  refine le_iadd d_law_1250 ?_
  refine le_sld d_law_1251 (hin 1 (by decide)) ?_
  refine le_cI [.int (xs (x3 + 1).toNatClampNeg)] (rest := [.int r1]) d_law_1252 ok_X10_load lk_L_182 ⟨Nat.le_of_ble_eq_true rfl, Nat.le_of_ble_eq_true rfl⟩ (rfl : gm_cls 43 = 9) vc_9 (by decide) rfl rfl (Nat.le_of_ble_eq_true rfl) (t_X10_load (xs (x3 + 1).toNatClampNeg) h1 _ hyp) (fun r2 h2 hyp => ?_)
  exact le_icmp_eq (tgt := 1368) d_law_1255 (by decide) hyp.1 (next h2 hyp.2)
theorem lw_case_41 {Inv : Mem → Prop} (hp : ∀ (a1 : Int32) (h : Mem), Inv h → f_X9_judge a1 h (fun r h1 => f_X10_judge a1 h1 (fun r2 h2 => r = r2 ∧ Inv h2))) {L : Nat} {xs : Nat → Int32} {x3 : Int32} {h : Mem} (hI : Inv h) (hin : ∀ j : Int32, (0 ≤ j ∧ j < 6) → vp_in (x3 + j) L) (next : ∀ h2, Inv h2 → LV L xs 1368 [(0, .ref 300), (1, .ref 0), (2, .ref 43), (3, .int x3)] [] h2) : LV L xs 1260 [(0, .ref 300), (1, .ref 0), (2, .ref 43), (3, .int x3)] [] h := by
  have hyp0 := hp (xs (x3 + 1).toNatClampNeg) h hI
  refine le_aload_n d_law_1260 rfl 1 rfl ?_
  refine le_aload_n d_law_1261 rfl 0 rfl ?_
  refine le_iload_n d_law_1262 rfl 3 rfl ?_
  refine le_iconst (v := 1) d_law_1263 rfl ?_
  refine le_iadd d_law_1264 ?_
  refine le_sld d_law_1265 (hin 1 (by decide)) ?_
  refine le_cI [.int (xs (x3 + 1).toNatClampNeg)] (rest := []) d_law_1266 ok_X9_judge lk_L_183 ⟨Nat.le_of_ble_eq_true rfl, Nat.le_of_ble_eq_true rfl⟩ (rfl : gm_cls 0 = 8) vc_8 (by decide) rfl rfl (Nat.le_of_ble_eq_true rfl) (t_X9_judge (xs (x3 + 1).toNatClampNeg) h _ hyp0) (fun r1 h1 hyp => ?_)
  refine le_aload_n d_law_1269 rfl 2 rfl ?_
  refine le_aload_n d_law_1270 rfl 0 rfl ?_
  refine le_iload_n d_law_1271 rfl 3 rfl ?_
  refine le_iconst (v := 1) d_law_1272 rfl ?_
  refine le_iadd d_law_1273 ?_
  refine le_sld d_law_1274 (hin 1 (by decide)) ?_
  refine le_cI [.int (xs (x3 + 1).toNatClampNeg)] (rest := [.int r1]) d_law_1275 ok_X10_judge lk_L_186 ⟨Nat.le_of_ble_eq_true rfl, Nat.le_of_ble_eq_true rfl⟩ (rfl : gm_cls 43 = 9) vc_9 (by decide) rfl rfl (Nat.le_of_ble_eq_true rfl) (t_X10_judge (xs (x3 + 1).toNatClampNeg) h1 _ hyp) (fun r2 h2 hyp => ?_)
  exact le_icmp_eq (tgt := 1368) d_law_1278 (by decide) hyp.1 (next h2 hyp.2)
theorem lw_case_42 {Inv : Mem → Prop} (hp : ∀ (h : Mem), Inv h → f_X9_image  h (fun r h1 => f_X10_image  h1 (fun r2 h2 => r = r2 ∧ Inv h2))) {L : Nat} {xs : Nat → Int32} {x3 : Int32} {h : Mem} (hI : Inv h) (hin : ∀ j : Int32, (0 ≤ j ∧ j < 6) → vp_in (x3 + j) L) (next : ∀ h2, Inv h2 → LV L xs 1368 [(0, .ref 300), (1, .ref 0), (2, .ref 43), (3, .int x3)] [] h2) : LV L xs 1283 [(0, .ref 300), (1, .ref 0), (2, .ref 43), (3, .int x3)] [] h := by
  have hyp0 := hp  h hI
  refine le_aload_n d_law_1283 rfl 1 rfl ?_
  refine le_cI [] (rest := []) d_law_1284 ok_X9_image lk_L_187 ⟨Nat.le_of_ble_eq_true rfl, Nat.le_of_ble_eq_true rfl⟩ (rfl : gm_cls 0 = 8) vc_8 (by decide) rfl rfl (Nat.le_of_ble_eq_true rfl) (t_X9_image  h _ hyp0) (fun r1 h1 hyp => ?_)
  refine le_aload_n d_law_1287 rfl 2 rfl ?_
  refine le_cI [] (rest := [.int r1]) d_law_1288 ok_X10_image lk_L_190 ⟨Nat.le_of_ble_eq_true rfl, Nat.le_of_ble_eq_true rfl⟩ (rfl : gm_cls 43 = 9) vc_9 (by decide) rfl rfl (Nat.le_of_ble_eq_true rfl) (t_X10_image  h1 _ hyp) (fun r2 h2 hyp => ?_)
  exact le_icmp_eq (tgt := 1368) d_law_1291 (by decide) hyp.1 (next h2 hyp.2)
theorem lw_case_43 {Inv : Mem → Prop} (hp : ∀ (h : Mem), Inv h → f_X9_undo  h (fun r h1 => f_X10_undo  h1 (fun r2 h2 => r = r2 ∧ Inv h2))) {L : Nat} {xs : Nat → Int32} {x3 : Int32} {h : Mem} (hI : Inv h) (hin : ∀ j : Int32, (0 ≤ j ∧ j < 6) → vp_in (x3 + j) L) (next : ∀ h2, Inv h2 → LV L xs 1368 [(0, .ref 300), (1, .ref 0), (2, .ref 43), (3, .int x3)] [] h2) : LV L xs 1296 [(0, .ref 300), (1, .ref 0), (2, .ref 43), (3, .int x3)] [] h := by
  have hyp0 := hp  h hI
  refine le_aload_n d_law_1296 rfl 1 rfl ?_
  refine le_cI [] (rest := []) d_law_1297 ok_X9_undo lk_L_191 ⟨Nat.le_of_ble_eq_true rfl, Nat.le_of_ble_eq_true rfl⟩ (rfl : gm_cls 0 = 8) vc_8 (by decide) rfl rfl (Nat.le_of_ble_eq_true rfl) (t_X9_undo  h _ hyp0) (fun r1 h1 hyp => ?_)
  refine le_aload_n d_law_1300 rfl 2 rfl ?_
  refine le_cI [] (rest := [.int r1]) d_law_1301 ok_X10_undo lk_L_194 ⟨Nat.le_of_ble_eq_true rfl, Nat.le_of_ble_eq_true rfl⟩ (rfl : gm_cls 43 = 9) vc_9 (by decide) rfl rfl (Nat.le_of_ble_eq_true rfl) (t_X10_undo  h1 _ hyp) (fun r2 h2 hyp => ?_)
  exact le_icmp_eq (tgt := 1368) d_law_1304 (by decide) hyp.1 (next h2 hyp.2)
theorem lw_case_44 {Inv : Mem → Prop} (hp : ∀ (h : Mem), Inv h → f_X9_tear  h (fun r h1 => f_X10_tear  h1 (fun r2 h2 => r = r2 ∧ Inv h2))) {L : Nat} {xs : Nat → Int32} {x3 : Int32} {h : Mem} (hI : Inv h) (hin : ∀ j : Int32, (0 ≤ j ∧ j < 6) → vp_in (x3 + j) L) (next : ∀ h2, Inv h2 → LV L xs 1368 [(0, .ref 300), (1, .ref 0), (2, .ref 43), (3, .int x3)] [] h2) : LV L xs 1309 [(0, .ref 300), (1, .ref 0), (2, .ref 43), (3, .int x3)] [] h := by
  have hyp0 := hp  h hI
  refine le_aload_n d_law_1309 rfl 1 rfl ?_
  refine le_cI [] (rest := []) d_law_1310 ok_X9_tear lk_L_195 ⟨Nat.le_of_ble_eq_true rfl, Nat.le_of_ble_eq_true rfl⟩ (rfl : gm_cls 0 = 8) vc_8 (by decide) rfl rfl (Nat.le_of_ble_eq_true rfl) (t_X9_tear  h _ hyp0) (fun r1 h1 hyp => ?_)
  refine le_aload_n d_law_1313 rfl 2 rfl ?_
  refine le_cI [] (rest := [.int r1]) d_law_1314 ok_X10_tear lk_L_198 ⟨Nat.le_of_ble_eq_true rfl, Nat.le_of_ble_eq_true rfl⟩ (rfl : gm_cls 43 = 9) vc_9 (by decide) rfl rfl (Nat.le_of_ble_eq_true rfl) (t_X10_tear  h1 _ hyp) (fun r2 h2 hyp => ?_)
  exact le_icmp_eq (tgt := 1368) d_law_1317 (by decide) hyp.1 (next h2 hyp.2)
theorem lw_case_45 {Inv : Mem → Prop} (hp : ∀ (a1 : Int32) (h : Mem), Inv h → f_X9_count a1 h (fun r h1 => f_X10_count a1 h1 (fun r2 h2 => r = r2 ∧ Inv h2))) {L : Nat} {xs : Nat → Int32} {x3 : Int32} {h : Mem} (hI : Inv h) (hin : ∀ j : Int32, (0 ≤ j ∧ j < 6) → vp_in (x3 + j) L) (next : ∀ h2, Inv h2 → LV L xs 1368 [(0, .ref 300), (1, .ref 0), (2, .ref 43), (3, .int x3)] [] h2) : LV L xs 1322 [(0, .ref 300), (1, .ref 0), (2, .ref 43), (3, .int x3)] [] h := by
  have hyp0 := hp (xs (x3 + 1).toNatClampNeg) h hI
  refine le_aload_n d_law_1322 rfl 1 rfl ?_
  refine le_aload_n d_law_1323 rfl 0 rfl ?_
  refine le_iload_n d_law_1324 rfl 3 rfl ?_
  refine le_iconst (v := 1) d_law_1325 rfl ?_
  refine le_iadd d_law_1326 ?_
  refine le_sld d_law_1327 (hin 1 (by decide)) ?_
  refine le_cI [.int (xs (x3 + 1).toNatClampNeg)] (rest := []) d_law_1328 ok_X9_count lk_L_199 ⟨Nat.le_of_ble_eq_true rfl, Nat.le_of_ble_eq_true rfl⟩ (rfl : gm_cls 0 = 8) vc_8 (by decide) rfl rfl (Nat.le_of_ble_eq_true rfl) (t_X9_count (xs (x3 + 1).toNatClampNeg) h _ hyp0) (fun r1 h1 hyp => ?_)
  refine le_aload_n d_law_1331 rfl 2 rfl ?_
  refine le_aload_n d_law_1332 rfl 0 rfl ?_
  refine le_iload_n d_law_1333 rfl 3 rfl ?_
  refine le_iconst (v := 1) d_law_1334 rfl ?_
  refine le_iadd d_law_1335 ?_
  refine le_sld d_law_1336 (hin 1 (by decide)) ?_
  refine le_cI [.int (xs (x3 + 1).toNatClampNeg)] (rest := [.int r1]) d_law_1337 ok_X10_count lk_L_202 ⟨Nat.le_of_ble_eq_true rfl, Nat.le_of_ble_eq_true rfl⟩ (rfl : gm_cls 43 = 9) vc_9 (by decide) rfl rfl (Nat.le_of_ble_eq_true rfl) (t_X10_count (xs (x3 + 1).toNatClampNeg) h1 _ hyp) (fun r2 h2 hyp => ?_)
  exact le_icmp_eq (tgt := 1368) d_law_1340 (by decide) hyp.1 (next h2 hyp.2)
theorem lw_case_46 {Inv : Mem → Prop} (hp : ∀ (a1 : Int32) (h : Mem), Inv h → f_X9_status a1 h (fun r h1 => f_X10_status a1 h1 (fun r2 h2 => r = r2 ∧ Inv h2))) {L : Nat} {xs : Nat → Int32} {x3 : Int32} {h : Mem} (hI : Inv h) (hin : ∀ j : Int32, (0 ≤ j ∧ j < 6) → vp_in (x3 + j) L) (next : ∀ h2, Inv h2 → LV L xs 1368 [(0, .ref 300), (1, .ref 0), (2, .ref 43), (3, .int x3)] [] h2) : LV L xs 1345 [(0, .ref 300), (1, .ref 0), (2, .ref 43), (3, .int x3)] [] h := by
  have hyp0 := hp (xs (x3 + 1).toNatClampNeg) h hI
  refine le_aload_n d_law_1345 rfl 1 rfl ?_
  refine le_aload_n d_law_1346 rfl 0 rfl ?_
  refine le_iload_n d_law_1347 rfl 3 rfl ?_
  refine le_iconst (v := 1) d_law_1348 rfl ?_
  refine le_iadd d_law_1349 ?_
  refine le_sld d_law_1350 (hin 1 (by decide)) ?_
  refine le_cI [.int (xs (x3 + 1).toNatClampNeg)] (rest := []) d_law_1351 ok_X9_status lk_L_203 ⟨Nat.le_of_ble_eq_true rfl, Nat.le_of_ble_eq_true rfl⟩ (rfl : gm_cls 0 = 8) vc_8 (by decide) rfl rfl (Nat.le_of_ble_eq_true rfl) (t_X9_status (xs (x3 + 1).toNatClampNeg) h _ hyp0) (fun r1 h1 hyp => ?_)
  refine le_aload_n d_law_1354 rfl 2 rfl ?_
  refine le_aload_n d_law_1355 rfl 0 rfl ?_
  refine le_iload_n d_law_1356 rfl 3 rfl ?_
  refine le_iconst (v := 1) d_law_1357 rfl ?_
  refine le_iadd d_law_1358 ?_
  refine le_sld d_law_1359 (hin 1 (by decide)) ?_
  refine le_cI [.int (xs (x3 + 1).toNatClampNeg)] (rest := [.int r1]) d_law_1360 ok_X10_status lk_L_206 ⟨Nat.le_of_ble_eq_true rfl, Nat.le_of_ble_eq_true rfl⟩ (rfl : gm_cls 43 = 9) vc_9 (by decide) rfl rfl (Nat.le_of_ble_eq_true rfl) (t_X10_status (xs (x3 + 1).toNatClampNeg) h1 _ hyp) (fun r2 h2 hyp => ?_)
  exact le_icmp_eq (tgt := 1368) d_law_1363 (by decide) hyp.1 (next h2 hyp.2)
def lw_pairs (Inv : Mem → Prop) : Prop :=
  (∀ (a1 : Int32) (h : Mem), Inv h → f_X9_line a1 h (fun r h1 => f_X10_line a1 h1 (fun r2 h2 => r = r2 ∧ Inv h2))) ∧
  (∀ (a1 a2 : Int32) (h : Mem), Inv h → f_X9_of a1 a2 h (fun r h1 => f_X10_of a1 a2 h1 (fun r2 h2 => r = r2 ∧ Inv h2))) ∧
  (∀ (a1 a2 a3 : Int32) (h : Mem), Inv h → f_X9_change a1 a2 a3 h (fun r h1 => f_X10_change a1 a2 a3 h1 (fun r2 h2 => r = r2 ∧ Inv h2))) ∧
  (∀ (a1 a2 : Int32) (h : Mem), Inv h → f_X9_rule a1 a2 h (fun r h1 => f_X10_rule a1 a2 h1 (fun r2 h2 => r = r2 ∧ Inv h2))) ∧
  (∀ (a1 : Int32) (h : Mem), Inv h → f_X9_ruled a1 h (fun r h1 => f_X10_ruled a1 h1 (fun r2 h2 => r = r2 ∧ Inv h2))) ∧
  (∀ (a1 : Int32) (h : Mem), Inv h → f_X9_read a1 h (fun r h1 => f_X10_read a1 h1 (fun r2 h2 => r = r2 ∧ Inv h2))) ∧
  (∀ (a1 : Int32) (h : Mem), Inv h → f_X9_go a1 h (fun r h1 => f_X10_go a1 h1 (fun r2 h2 => r = r2 ∧ Inv h2))) ∧
  (∀ (h : Mem), Inv h → f_X9_turn  h (fun r h1 => f_X10_turn  h1 (fun r2 h2 => r = r2 ∧ Inv h2))) ∧
  (∀ (a1 : Int32) (h : Mem), Inv h → f_X9_now a1 h (fun r h1 => f_X10_now a1 h1 (fun r2 h2 => r = r2 ∧ Inv h2))) ∧
  (∀ (a1 : Int32) (h : Mem), Inv h → f_X9_rest a1 h (fun r h1 => f_X10_rest a1 h1 (fun r2 h2 => r = r2 ∧ Inv h2))) ∧
  (∀ (a1 a2 : Int32) (h : Mem), Inv h → f_X9_pace a1 a2 h (fun r h1 => f_X10_pace a1 a2 h1 (fun r2 h2 => r = r2 ∧ Inv h2))) ∧
  (∀ (h : Mem), Inv h → f_X9_sign  h (fun r h1 => f_X10_sign  h1 (fun r2 h2 => r = r2 ∧ Inv h2))) ∧
  (∀ (a1 : Int32) (h : Mem), Inv h → f_X9_round a1 h (fun r h1 => f_X10_round a1 h1 (fun r2 h2 => r = r2 ∧ Inv h2))) ∧
  (∀ (h : Mem), Inv h → f_X9_leads  h (fun r h1 => f_X10_leads  h1 (fun r2 h2 => r = r2 ∧ Inv h2))) ∧
  (∀ (h : Mem), Inv h → f_X9_found  h (fun r h1 => f_X10_found  h1 (fun r2 h2 => r = r2 ∧ Inv h2))) ∧
  (∀ (h : Mem), Inv h → f_X9_off  h (fun r h1 => f_X10_off  h1 (fun r2 h2 => r = r2 ∧ Inv h2))) ∧
  (∀ (h : Mem), Inv h → f_X9_grid  h (fun r h1 => f_X10_grid  h1 (fun r2 h2 => r = r2 ∧ Inv h2))) ∧
  (∀ (h : Mem), Inv h → f_X9_worst  h (fun r h1 => f_X10_worst  h1 (fun r2 h2 => r = r2 ∧ Inv h2))) ∧
  (∀ (h : Mem), Inv h → f_X9_trips  h (fun r h1 => f_X10_trips_  h1 (fun r2 h2 => r = r2 ∧ Inv h2))) ∧
  (∀ (a1 : Int32) (h : Mem), Inv h → f_X9_kindFor a1 h (fun r h1 => f_X10_kindFor a1 h1 (fun r2 h2 => r = r2 ∧ Inv h2))) ∧
  (∀ (a1 : Int32) (h : Mem), Inv h → f_X9_ease a1 h (fun r h1 => f_X10_ease a1 h1 (fun r2 h2 => r = r2 ∧ Inv h2))) ∧
  (∀ (h : Mem), Inv h → f_X9_fit  h (fun r h1 => f_X10_fit  h1 (fun r2 h2 => r = r2 ∧ Inv h2))) ∧
  (∀ (h : Mem), Inv h → f_X9_kept  h (fun r h1 => f_X10_kept  h1 (fun r2 h2 => r = r2 ∧ Inv h2))) ∧
  (∀ (a1 a2 : Int32) (h : Mem), Inv h → f_X9_jump a1 a2 h (fun r h1 => f_X10_jump a1 a2 h1 (fun r2 h2 => r = r2 ∧ Inv h2))) ∧
  (∀ (a1 a2 : Int32) (h : Mem), Inv h → f_X9_jumped a1 a2 h (fun r h1 => f_X10_jumped a1 a2 h1 (fun r2 h2 => r = r2 ∧ Inv h2))) ∧
  (∀ (a1 : Int32) (h : Mem), Inv h → f_X9_fits a1 h (fun r h1 => f_X10_fits a1 h1 (fun r2 h2 => r = r2 ∧ Inv h2))) ∧
  (∀ (a1 : Int32) (h : Mem), Inv h → f_X9_led a1 h (fun r h1 => f_X10_led a1 h1 (fun r2 h2 => r = r2 ∧ Inv h2))) ∧
  (∀ (a1 a2 : Int32) (h : Mem), Inv h → f_X9_part a1 a2 h (fun r h1 => f_X10_part a1 a2 h1 (fun r2 h2 => r = r2 ∧ Inv h2))) ∧
  (∀ (a1 a2 : Int32) (h : Mem), Inv h → f_X9_stays a1 a2 h (fun r h1 => f_X10_stays a1 a2 h1 (fun r2 h2 => r = r2 ∧ Inv h2))) ∧
  (∀ (a1 : Int32) (h : Mem), Inv h → f_X9_evening a1 h (fun r h1 => f_X10_evening a1 h1 (fun r2 h2 => r = r2 ∧ Inv h2))) ∧
  (∀ (a1 : Int32) (h : Mem), Inv h → f_X9_ahead a1 h (fun r h1 => f_X10_ahead a1 h1 (fun r2 h2 => r = r2 ∧ Inv h2))) ∧
  (∀ (a1 : Int32) (h : Mem), Inv h → f_X9_seed a1 h (fun r h1 => f_X10_seed a1 h1 (fun r2 h2 => r = r2 ∧ Inv h2))) ∧
  (∀ (a1 a2 : Int32) (h : Mem), Inv h → f_X9_feed a1 a2 h (fun r h1 => f_X10_feed a1 a2 h1 (fun r2 h2 => r = r2 ∧ Inv h2))) ∧
  (∀ (h : Mem), Inv h → f_X9_wipe  h (fun r h1 => f_X10_wipe  h1 (fun r2 h2 => r = r2 ∧ Inv h2))) ∧
  (∀ (h : Mem), Inv h → f_X9_text  h (fun r h1 => f_X10_text  h1 (fun r2 h2 => r = r2 ∧ Inv h2))) ∧
  (∀ (a1 a2 : Int32) (h : Mem), Inv h → f_X9_hold a1 a2 h (fun r h1 => f_X10_hold a1 a2 h1 (fun r2 h2 => r = r2 ∧ Inv h2))) ∧
  (∀ (a1 a2 : Int32) (h : Mem), Inv h → f_X9_as a1 a2 h (fun r h1 => f_X10_as a1 a2 h1 (fun r2 h2 => r = r2 ∧ Inv h2))) ∧
  (∀ (a1 a2 a3 : Int32) (h : Mem), Inv h → f_X9_sheet a1 a2 a3 h (fun r h1 => f_X10_sheet a1 a2 a3 h1 (fun r2 h2 => r = r2 ∧ Inv h2))) ∧
  (∀ (a1 a2 a3 : Int32) (h : Mem), Inv h → f_X9_write a1 a2 a3 h (fun r h1 => f_X10_write a1 a2 a3 h1 (fun r2 h2 => r = r2 ∧ Inv h2))) ∧
  (∀ (a1 a2 a3 a4 a5 : Int32) (h : Mem), Inv h → f_X9_copy a1 a2 a3 a4 a5 h (fun r h1 => f_X10_copy a1 a2 a3 a4 a5 h1 (fun r2 h2 => r = r2 ∧ Inv h2))) ∧
  (∀ (a1 : Int32) (h : Mem), Inv h → f_X9_load a1 h (fun r h1 => f_X10_load a1 h1 (fun r2 h2 => r = r2 ∧ Inv h2))) ∧
  (∀ (a1 : Int32) (h : Mem), Inv h → f_X9_judge a1 h (fun r h1 => f_X10_judge a1 h1 (fun r2 h2 => r = r2 ∧ Inv h2))) ∧
  (∀ (h : Mem), Inv h → f_X9_image  h (fun r h1 => f_X10_image  h1 (fun r2 h2 => r = r2 ∧ Inv h2))) ∧
  (∀ (h : Mem), Inv h → f_X9_undo  h (fun r h1 => f_X10_undo  h1 (fun r2 h2 => r = r2 ∧ Inv h2))) ∧
  (∀ (h : Mem), Inv h → f_X9_tear  h (fun r h1 => f_X10_tear  h1 (fun r2 h2 => r = r2 ∧ Inv h2))) ∧
  (∀ (a1 : Int32) (h : Mem), Inv h → f_X9_count a1 h (fun r h1 => f_X10_count a1 h1 (fun r2 h2 => r = r2 ∧ Inv h2))) ∧
  (∀ (a1 : Int32) (h : Mem), Inv h → f_X9_status a1 h (fun r h1 => f_X10_status a1 h1 (fun r2 h2 => r = r2 ∧ Inv h2)))
set_option maxRecDepth 20000 in
theorem lw_loop {Inv : Mem → Prop} (hp : lw_pairs Inv) {L : Nat} {xs : Nat → Int32} (hL : L ≤ 3072) : ∀ (n i : Nat) (h : Mem), i ≤ L + 6 → L + 7 ≤ i + n → Inv h → LV L xs 18 [(0, .ref 300), (1, .ref 0), (2, .ref 43), (3, .int (nI i))] [] h := by
  intro n
  induction n with
  | zero => intro i h h1 h2; omega
  | succ n ih =>
    intro i h hi hin0 hI
    obtain ⟨x3, ex3⟩ : ∃ y : Int32, y = nI i := ⟨_, rfl⟩
    rw [← ex3]
    refine le_iload_n d_law_18 rfl 3 rfl ?_
    refine le_aload_n d_law_19 rfl 0 rfl ?_
    refine le_slen d_law_20 ?_
    refine le_bipush (v := 6) d_law_21 rfl ?_
    refine le_isub d_law_23 ?_
    refine le_icmp_gt (tgt := 1374) d_law_24 (by decide) (fun _ => ?_) (fun c1 => ?_)
    · exact le_end d_law_1374 d_law_1375
    · have hlt : i + 6 ≤ L := lw_le ex3 (by omega) (by omega) c1
      have hin : ∀ j : Int32, (0 ≤ j ∧ j < 6) → vp_in (x3 + j) L := fun j hj => lw_in ex3 hlt (by omega) hj
      have hin1 : vp_in x3 L := by rw [ex3]; exact vp_in_nI (by omega) (by omega)
      have next : ∀ h2, Inv h2 → LV L xs 1368 [(0, .ref 300), (1, .ref 0), (2, .ref 43), (3, .int x3)] [] h2 := by
        intro h2 hI2
        refine le_iinc (v := nI (i + 6)) (lv' := [(3, .int (nI (i + 6))), (0, .ref 300), (1, .ref 0), (2, .ref 43)]) d_law_1368 3 rfl (by rw [ex3]; exact nI_add i 6) (by decide) rfl ?_
        refine le_goto (tgt := 18) d_law_1371 (by decide) ?_
        exact le_sub [1, 2, 3, 0] rfl (ih (i + 6) h2 (by omega) (by omega) hI2)
      refine le_aload_n d_law_27 rfl 0 rfl ?_
      refine le_iload_n d_law_28 rfl 3 rfl ?_
      refine le_sld d_law_29 hin1 ?_
      refine le_bipush (v := 63) d_law_30 rfl ?_
      refine le_iand d_law_32 ?_
      refine le_sw (dt := 1368) [(0, 236), (1, 259), (2, 292), (3, 335), (4, 368), (5, 391), (6, 414), (7, 437), (8, 450), (9, 473), (10, 496), (11, 529), (12, 542), (13, 565), (14, 578), (15, 591), (16, 604), (17, 617), (18, 630), (19, 643), (20, 666), (21, 689), (22, 702), (23, 715), (24, 748), (25, 781), (26, 804), (27, 827), (28, 860), (29, 894), (30, 917), (31, 940), (32, 963), (33, 996), (34, 1009), (35, 1022), (36, 1055), (37, 1088), (38, 1131), (39, 1174), (40, 1237), (41, 1260), (42, 1283), (43, 1296), (44, 1309), (45, 1322), (46, 1345)] d_law_33 (by decide +kernel) (by decide) ?_
      refine ge_ite (fun _ => lw_case_0 (hp.1) hI hin next) (fun _ => ?_)
      refine ge_ite (fun _ => lw_case_1 (hp.2.1) hI hin next) (fun _ => ?_)
      refine ge_ite (fun _ => lw_case_2 (hp.2.2.1) hI hin next) (fun _ => ?_)
      refine ge_ite (fun _ => lw_case_3 (hp.2.2.2.1) hI hin next) (fun _ => ?_)
      refine ge_ite (fun _ => lw_case_4 (hp.2.2.2.2.1) hI hin next) (fun _ => ?_)
      refine ge_ite (fun _ => lw_case_5 (hp.2.2.2.2.2.1) hI hin next) (fun _ => ?_)
      refine ge_ite (fun _ => lw_case_6 (hp.2.2.2.2.2.2.1) hI hin next) (fun _ => ?_)
      refine ge_ite (fun _ => lw_case_7 (hp.2.2.2.2.2.2.2.1) hI hin next) (fun _ => ?_)
      refine ge_ite (fun _ => lw_case_8 (hp.2.2.2.2.2.2.2.2.1) hI hin next) (fun _ => ?_)
      refine ge_ite (fun _ => lw_case_9 (hp.2.2.2.2.2.2.2.2.2.1) hI hin next) (fun _ => ?_)
      refine ge_ite (fun _ => lw_case_10 (hp.2.2.2.2.2.2.2.2.2.2.1) hI hin next) (fun _ => ?_)
      refine ge_ite (fun _ => lw_case_11 (hp.2.2.2.2.2.2.2.2.2.2.2.1) hI hin next) (fun _ => ?_)
      refine ge_ite (fun _ => lw_case_12 (hp.2.2.2.2.2.2.2.2.2.2.2.2.1) hI hin next) (fun _ => ?_)
      refine ge_ite (fun _ => lw_case_13 (hp.2.2.2.2.2.2.2.2.2.2.2.2.2.1) hI hin next) (fun _ => ?_)
      refine ge_ite (fun _ => lw_case_14 (hp.2.2.2.2.2.2.2.2.2.2.2.2.2.2.1) hI hin next) (fun _ => ?_)
      refine ge_ite (fun _ => lw_case_15 (hp.2.2.2.2.2.2.2.2.2.2.2.2.2.2.2.1) hI hin next) (fun _ => ?_)
      refine ge_ite (fun _ => lw_case_16 (hp.2.2.2.2.2.2.2.2.2.2.2.2.2.2.2.2.1) hI hin next) (fun _ => ?_)
      refine ge_ite (fun _ => lw_case_17 (hp.2.2.2.2.2.2.2.2.2.2.2.2.2.2.2.2.2.1) hI hin next) (fun _ => ?_)
      refine ge_ite (fun _ => lw_case_18 (hp.2.2.2.2.2.2.2.2.2.2.2.2.2.2.2.2.2.2.1) hI hin next) (fun _ => ?_)
      refine ge_ite (fun _ => lw_case_19 (hp.2.2.2.2.2.2.2.2.2.2.2.2.2.2.2.2.2.2.2.1) hI hin next) (fun _ => ?_)
      refine ge_ite (fun _ => lw_case_20 (hp.2.2.2.2.2.2.2.2.2.2.2.2.2.2.2.2.2.2.2.2.1) hI hin next) (fun _ => ?_)
      refine ge_ite (fun _ => lw_case_21 (hp.2.2.2.2.2.2.2.2.2.2.2.2.2.2.2.2.2.2.2.2.2.1) hI hin next) (fun _ => ?_)
      refine ge_ite (fun _ => lw_case_22 (hp.2.2.2.2.2.2.2.2.2.2.2.2.2.2.2.2.2.2.2.2.2.2.1) hI hin next) (fun _ => ?_)
      refine ge_ite (fun _ => lw_case_23 (hp.2.2.2.2.2.2.2.2.2.2.2.2.2.2.2.2.2.2.2.2.2.2.2.1) hI hin next) (fun _ => ?_)
      refine ge_ite (fun _ => lw_case_24 (hp.2.2.2.2.2.2.2.2.2.2.2.2.2.2.2.2.2.2.2.2.2.2.2.2.1) hI hin next) (fun _ => ?_)
      refine ge_ite (fun _ => lw_case_25 (hp.2.2.2.2.2.2.2.2.2.2.2.2.2.2.2.2.2.2.2.2.2.2.2.2.2.1) hI hin next) (fun _ => ?_)
      refine ge_ite (fun _ => lw_case_26 (hp.2.2.2.2.2.2.2.2.2.2.2.2.2.2.2.2.2.2.2.2.2.2.2.2.2.2.1) hI hin next) (fun _ => ?_)
      refine ge_ite (fun _ => lw_case_27 (hp.2.2.2.2.2.2.2.2.2.2.2.2.2.2.2.2.2.2.2.2.2.2.2.2.2.2.2.1) hI hin next) (fun _ => ?_)
      refine ge_ite (fun _ => lw_case_28 (hp.2.2.2.2.2.2.2.2.2.2.2.2.2.2.2.2.2.2.2.2.2.2.2.2.2.2.2.2.1) hI hin next) (fun _ => ?_)
      refine ge_ite (fun _ => lw_case_29 (hp.2.2.2.2.2.2.2.2.2.2.2.2.2.2.2.2.2.2.2.2.2.2.2.2.2.2.2.2.2.1) hI hin next) (fun _ => ?_)
      refine ge_ite (fun _ => lw_case_30 (hp.2.2.2.2.2.2.2.2.2.2.2.2.2.2.2.2.2.2.2.2.2.2.2.2.2.2.2.2.2.2.1) hI hin next) (fun _ => ?_)
      refine ge_ite (fun _ => lw_case_31 (hp.2.2.2.2.2.2.2.2.2.2.2.2.2.2.2.2.2.2.2.2.2.2.2.2.2.2.2.2.2.2.2.1) hI hin next) (fun _ => ?_)
      refine ge_ite (fun _ => lw_case_32 (hp.2.2.2.2.2.2.2.2.2.2.2.2.2.2.2.2.2.2.2.2.2.2.2.2.2.2.2.2.2.2.2.2.1) hI hin next) (fun _ => ?_)
      refine ge_ite (fun _ => lw_case_33 (hp.2.2.2.2.2.2.2.2.2.2.2.2.2.2.2.2.2.2.2.2.2.2.2.2.2.2.2.2.2.2.2.2.2.1) hI hin next) (fun _ => ?_)
      refine ge_ite (fun _ => lw_case_34 (hp.2.2.2.2.2.2.2.2.2.2.2.2.2.2.2.2.2.2.2.2.2.2.2.2.2.2.2.2.2.2.2.2.2.2.1) hI hin next) (fun _ => ?_)
      refine ge_ite (fun _ => lw_case_35 (hp.2.2.2.2.2.2.2.2.2.2.2.2.2.2.2.2.2.2.2.2.2.2.2.2.2.2.2.2.2.2.2.2.2.2.2.1) hI hin next) (fun _ => ?_)
      refine ge_ite (fun _ => lw_case_36 (hp.2.2.2.2.2.2.2.2.2.2.2.2.2.2.2.2.2.2.2.2.2.2.2.2.2.2.2.2.2.2.2.2.2.2.2.2.1) hI hin next) (fun _ => ?_)
      refine ge_ite (fun _ => lw_case_37 (hp.2.2.2.2.2.2.2.2.2.2.2.2.2.2.2.2.2.2.2.2.2.2.2.2.2.2.2.2.2.2.2.2.2.2.2.2.2.1) hI hin next) (fun _ => ?_)
      refine ge_ite (fun _ => lw_case_38 (hp.2.2.2.2.2.2.2.2.2.2.2.2.2.2.2.2.2.2.2.2.2.2.2.2.2.2.2.2.2.2.2.2.2.2.2.2.2.2.1) hI hin next) (fun _ => ?_)
      refine ge_ite (fun _ => lw_case_39 (hp.2.2.2.2.2.2.2.2.2.2.2.2.2.2.2.2.2.2.2.2.2.2.2.2.2.2.2.2.2.2.2.2.2.2.2.2.2.2.2.1) hI hin next) (fun _ => ?_)
      refine ge_ite (fun _ => lw_case_40 (hp.2.2.2.2.2.2.2.2.2.2.2.2.2.2.2.2.2.2.2.2.2.2.2.2.2.2.2.2.2.2.2.2.2.2.2.2.2.2.2.2.1) hI hin next) (fun _ => ?_)
      refine ge_ite (fun _ => lw_case_41 (hp.2.2.2.2.2.2.2.2.2.2.2.2.2.2.2.2.2.2.2.2.2.2.2.2.2.2.2.2.2.2.2.2.2.2.2.2.2.2.2.2.2.1) hI hin next) (fun _ => ?_)
      refine ge_ite (fun _ => lw_case_42 (hp.2.2.2.2.2.2.2.2.2.2.2.2.2.2.2.2.2.2.2.2.2.2.2.2.2.2.2.2.2.2.2.2.2.2.2.2.2.2.2.2.2.2.1) hI hin next) (fun _ => ?_)
      refine ge_ite (fun _ => lw_case_43 (hp.2.2.2.2.2.2.2.2.2.2.2.2.2.2.2.2.2.2.2.2.2.2.2.2.2.2.2.2.2.2.2.2.2.2.2.2.2.2.2.2.2.2.2.1) hI hin next) (fun _ => ?_)
      refine ge_ite (fun _ => lw_case_44 (hp.2.2.2.2.2.2.2.2.2.2.2.2.2.2.2.2.2.2.2.2.2.2.2.2.2.2.2.2.2.2.2.2.2.2.2.2.2.2.2.2.2.2.2.2.1) hI hin next) (fun _ => ?_)
      refine ge_ite (fun _ => lw_case_45 (hp.2.2.2.2.2.2.2.2.2.2.2.2.2.2.2.2.2.2.2.2.2.2.2.2.2.2.2.2.2.2.2.2.2.2.2.2.2.2.2.2.2.2.2.2.2.1) hI hin next) (fun _ => ?_)
      refine ge_ite (fun _ => lw_case_46 (hp.2.2.2.2.2.2.2.2.2.2.2.2.2.2.2.2.2.2.2.2.2.2.2.2.2.2.2.2.2.2.2.2.2.2.2.2.2.2.2.2.2.2.2.2.2.2) hI hin next) (fun _ => ?_)
      exact next h hI
