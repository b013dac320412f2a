noncomputable def f_L_law_b1890 (sc : Nat × (Nat → Int32)) (k18 : (Int → Int → Int → Mem → Option Int)) (v1 v2 v3 : Int) (σ : Mem) : Option Int :=
  k18 v1 v2 (w32 (v3 + 6)) σ
theorem L_L_law_b1890 {sc : Nat × (Nat → Int32)} (hL : (sc.1 : Int) ≤ 2147483647) {k18 : (Int → Int → Int → Mem → Option Int)} (hk18 : ∀ {v1 v2 v3 : Int} {σ : Mem}, k18 v1 v2 v3 σ = some 1 → E sc FLw mt_L_law 1000 [] Sh 18 [(3, 0), (2, v1), (2, v2), (0, v3)] [] Sh σ) {v1 v2 v3 : Int} {σ : Mem} (h : f_L_law_b1890 sc k18 v1 v2 v3 σ = some 1) : E sc FLw mt_L_law 1000 [] Sh 1890 [(3, 0), (2, v1), (2, v2), (0, v3)] [] Sh σ := by
  unfold f_L_law_b1890 at h
  refine E_iinc d_L_law_1890 (ls' := [(3, 0), (2, v1), (2, v2), (0, w32 (v3 + 6))]) rfl ⟨by decide, rfl⟩ ?_
  refine E_goto (tgt := 18) d_L_law_1893 (by decide) ?_
  exact (hk18 h)
noncomputable def f_L_law_b252 (sc : Nat × (Nat → Int32)) (k18 : (Int → Int → Int → Mem → Option Int)) (v1 v2 v3 : Int) (σ : Mem) : Option Int :=
  (f_X11_status v1 σ).bind fun r437 =>
  (f_X12_status v2 σ).bind fun r439 =>
  if r437 = r439.1 then
    f_L_law_b1890 sc k18 v1 v2 v3 r439.2
  else
    some 0
theorem L_L_law_b252 {sc : Nat × (Nat → Int32)} (hL : (sc.1 : Int) ≤ 2147483647) {k18 : (Int → Int → Int → Mem → Option Int)} (hk18 : ∀ {v1 v2 v3 : Int} {σ : Mem}, k18 v1 v2 v3 σ = some 1 → E sc FLw mt_L_law 1000 [] Sh 18 [(3, 0), (2, v1), (2, v2), (0, v3)] [] Sh σ) {v1 v2 v3 : Int} {σ : Mem} (h : f_L_law_b252 sc k18 v1 v2 v3 σ = some 1) : E sc FLw mt_L_law 1000 [] Sh 252 [(3, 0), (2, v1), (2, v2), (0, v3)] [] Sh σ := by
  unfold f_L_law_b252 at h
  refine E_aload_n d_L_law_252 rfl (by decide) ?_
  refine bd h (fun r437 q438 h => ?_)
  refine E_cV (as := []) (st := []) (a := v1) d_L_law_253 mk_X11_status nl_L_13 (by omega) ⟨rfl, rfl, Nat.le_of_ble_eq_true rfl⟩ okX11 rfl (L_X11_status q438) ?_
  refine E_aload_n d_L_law_256 rfl (by decide) ?_
  refine bd h (fun r439 q440 h => ?_)
  refine E_cV (as := []) (st := [(0, r437)]) (a := v2) d_L_law_257 mk_X12_status nl_L_17 (by omega) ⟨rfl, rfl, Nat.le_of_ble_eq_true rfl⟩ okX12 rfl (L_X12_status q440) ?_
  refine E_icmp_eq (tgt := 1890) d_L_law_260 (by decide) h (fun _ h => ?_) (fun _ h => ?_)
  · exact (L_L_law_b1890 hL hk18 h)
  · refine E_iconst d_L_law_263 (c32 rfl) ?_
    cases h
noncomputable def f_L_law_b265 (sc : Nat × (Nat → Int32)) (k18 : (Int → Int → Int → Mem → Option Int)) (v1 v2 v3 : Int) (σ : Mem) : Option Int :=
  (f_X11_top v1 σ).bind fun r433 =>
  (f_X12_top v2 σ).bind fun r435 =>
  if lcmp r433 r435.1 = 0 then
    f_L_law_b1890 sc k18 v1 v2 v3 r435.2
  else
    some 0
theorem L_L_law_b265 {sc : Nat × (Nat → Int32)} (hL : (sc.1 : Int) ≤ 2147483647) {k18 : (Int → Int → Int → Mem → Option Int)} (hk18 : ∀ {v1 v2 v3 : Int} {σ : Mem}, k18 v1 v2 v3 σ = some 1 → E sc FLw mt_L_law 1000 [] Sh 18 [(3, 0), (2, v1), (2, v2), (0, v3)] [] Sh σ) {v1 v2 v3 : Int} {σ : Mem} (h : f_L_law_b265 sc k18 v1 v2 v3 σ = some 1) : E sc FLw mt_L_law 1000 [] Sh 265 [(3, 0), (2, v1), (2, v2), (0, v3)] [] Sh σ := by
  unfold f_L_law_b265 at h
  refine E_aload_n d_L_law_265 rfl (by decide) ?_
  refine bd h (fun r433 q434 h => ?_)
  refine E_cV (as := []) (st := []) (a := v1) d_L_law_266 mk_X11_top nl_L_18 (by omega) ⟨rfl, rfl, Nat.le_of_ble_eq_true rfl⟩ okX11 rfl (L_X11_top q434) ?_
  refine E_aload_n d_L_law_269 rfl (by decide) ?_
  refine bd h (fun r435 q436 h => ?_)
  refine E_cV (as := []) (st := [(1, r433)]) (a := v2) d_L_law_270 mk_X12_top nl_L_22 (by omega) ⟨rfl, rfl, Nat.le_of_ble_eq_true rfl⟩ okX12 rfl (L_X12_top q436) ?_
  refine E_lcmp d_L_law_273 ?_
  refine E_if_eq (tgt := 1890) d_L_law_274 (by decide) h (fun _ h => ?_) (fun _ h => ?_)
  · exact (L_L_law_b1890 hL hk18 h)
  · refine E_iconst d_L_law_277 (c32 rfl) ?_
    cases h
noncomputable def f_L_law_b279 (sc : Nat × (Nat → Int32)) (k18 : (Int → Int → Int → Mem → Option Int)) (v1 v2 v3 : Int) (σ : Mem) : Option Int :=
  (f_X11_bottom v1 σ).bind fun r429 =>
  (f_X12_bottom v2 σ).bind fun r431 =>
  if lcmp r429 r431.1 = 0 then
    f_L_law_b1890 sc k18 v1 v2 v3 r431.2
  else
    some 0
theorem L_L_law_b279 {sc : Nat × (Nat → Int32)} (hL : (sc.1 : Int) ≤ 2147483647) {k18 : (Int → Int → Int → Mem → Option Int)} (hk18 : ∀ {v1 v2 v3 : Int} {σ : Mem}, k18 v1 v2 v3 σ = some 1 → E sc FLw mt_L_law 1000 [] Sh 18 [(3, 0), (2, v1), (2, v2), (0, v3)] [] Sh σ) {v1 v2 v3 : Int} {σ : Mem} (h : f_L_law_b279 sc k18 v1 v2 v3 σ = some 1) : E sc FLw mt_L_law 1000 [] Sh 279 [(3, 0), (2, v1), (2, v2), (0, v3)] [] Sh σ := by
  unfold f_L_law_b279 at h
  refine E_aload_n d_L_law_279 rfl (by decide) ?_
  refine bd h (fun r429 q430 h => ?_)
  refine E_cV (as := []) (st := []) (a := v1) d_L_law_280 mk_X11_bottom nl_L_23 (by omega) ⟨rfl, rfl, Nat.le_of_ble_eq_true rfl⟩ okX11 rfl (L_X11_bottom q430) ?_
  refine E_aload_n d_L_law_283 rfl (by decide) ?_
  refine bd h (fun r431 q432 h => ?_)
  refine E_cV (as := []) (st := [(1, r429)]) (a := v2) d_L_law_284 mk_X12_bottom nl_L_26 (by omega) ⟨rfl, rfl, Nat.le_of_ble_eq_true rfl⟩ okX12 rfl (L_X12_bottom q432) ?_
  refine E_lcmp d_L_law_287 ?_
  refine E_if_eq (tgt := 1890) d_L_law_288 (by decide) h (fun _ h => ?_) (fun _ h => ?_)
  · exact (L_L_law_b1890 hL hk18 h)
  · refine E_iconst d_L_law_291 (c32 rfl) ?_
    cases h
noncomputable def f_L_law_b293 (sc : Nat × (Nat → Int32)) (k18 : (Int → Int → Int → Mem → Option Int)) (v1 v2 v3 : Int) (σ : Mem) : Option Int :=
  (sl sc (w32 (v3 + 1))).bind fun x419 =>
  (sl sc (w32 (v3 + 2))).bind fun x420 =>
  (sl sc (w32 (v3 + 3))).bind fun x421 =>
  (f_X11_tray v1 x419 x420 x421 σ).bind fun r422 =>
  (sl sc (w32 (v3 + 1))).bind fun x424 =>
  (sl sc (w32 (v3 + 2))).bind fun x425 =>
  (sl sc (w32 (v3 + 3))).bind fun x426 =>
  (f_X12_tray v2 x424 x425 x426 r422.2).bind fun r427 =>
  if r422.1 = r427.1 then
    f_L_law_b1890 sc k18 v1 v2 v3 r427.2
  else
    some 0
theorem L_L_law_b293 {sc : Nat × (Nat → Int32)} (hL : (sc.1 : Int) ≤ 2147483647) {k18 : (Int → Int → Int → Mem → Option Int)} (hk18 : ∀ {v1 v2 v3 : Int} {σ : Mem}, k18 v1 v2 v3 σ = some 1 → E sc FLw mt_L_law 1000 [] Sh 18 [(3, 0), (2, v1), (2, v2), (0, v3)] [] Sh σ) {v1 v2 v3 : Int} {σ : Mem} (h : f_L_law_b293 sc k18 v1 v2 v3 σ = some 1) : E sc FLw mt_L_law 1000 [] Sh 293 [(3, 0), (2, v1), (2, v2), (0, v3)] [] Sh σ := by
  unfold f_L_law_b293 at h
  refine E_aload_n d_L_law_293 rfl (by decide) ?_
  refine E_aload_n d_L_law_294 rfl (by decide) ?_
  refine E_iload_n d_L_law_295 rfl ?_
  refine E_iconst d_L_law_296 (c32 rfl) ?_
  refine E_iadd d_L_law_297 ?_
  refine E_sld d_L_law_298 h (fun x419 h => ?_)
  refine E_aload_n d_L_law_299 rfl (by decide) ?_
  refine E_iload_n d_L_law_300 rfl ?_
  refine E_iconst d_L_law_301 (c32 rfl) ?_
  refine E_iadd d_L_law_302 ?_
  refine E_sld d_L_law_303 h (fun x420 h => ?_)
  refine E_aload_n d_L_law_304 rfl (by decide) ?_
  refine E_iload_n d_L_law_305 rfl ?_
  refine E_iconst d_L_law_306 (c32 rfl) ?_
  refine E_iadd d_L_law_307 ?_
  refine E_sld d_L_law_308 h (fun x421 h => ?_)
  refine bd h (fun r422 q423 h => ?_)
  refine E_cV (as := [(0, x419), (0, x420), (0, x421)]) (st := []) (a := v1) d_L_law_309 mk_X11_tray nl_L_27 (by omega) ⟨rfl, rfl, Nat.le_of_ble_eq_true rfl⟩ okX11 rfl (L_X11_tray q423) ?_
  refine E_aload_n d_L_law_312 rfl (by decide) ?_
  refine E_aload_n d_L_law_313 rfl (by decide) ?_
  refine E_iload_n d_L_law_314 rfl ?_
  refine E_iconst d_L_law_315 (c32 rfl) ?_
  refine E_iadd d_L_law_316 ?_
  refine E_sld d_L_law_317 h (fun x424 h => ?_)
  refine E_aload_n d_L_law_318 rfl (by decide) ?_
  refine E_iload_n d_L_law_319 rfl ?_
  refine E_iconst d_L_law_320 (c32 rfl) ?_
  refine E_iadd d_L_law_321 ?_
  refine E_sld d_L_law_322 h (fun x425 h => ?_)
  refine E_aload_n d_L_law_323 rfl (by decide) ?_
  refine E_iload_n d_L_law_324 rfl ?_
  refine E_iconst d_L_law_325 (c32 rfl) ?_
  refine E_iadd d_L_law_326 ?_
  refine E_sld d_L_law_327 h (fun x426 h => ?_)
  refine bd h (fun r427 q428 h => ?_)
  refine E_cV (as := [(0, x424), (0, x425), (0, x426)]) (st := [(0, r422.1)]) (a := v2) d_L_law_328 mk_X12_tray nl_L_31 (by omega) ⟨rfl, rfl, Nat.le_of_ble_eq_true rfl⟩ okX12 rfl (L_X12_tray q428) ?_
  refine E_icmp_eq (tgt := 1890) d_L_law_331 (by decide) h (fun _ h => ?_) (fun _ h => ?_)
  · exact (L_L_law_b1890 hL hk18 h)
  · refine E_iconst d_L_law_334 (c32 rfl) ?_
    cases h
noncomputable def f_L_law_b336 (sc : Nat × (Nat → Int32)) (k18 : (Int → Int → Int → Mem → Option Int)) (v1 v2 v3 : Int) (σ : Mem) : Option Int :=
  (sl sc (w32 (v3 + 1))).bind fun x407 =>
  (sl sc (w32 (v3 + 2))).bind fun x408 =>
  (sl sc (w32 (v3 + 3))).bind fun x409 =>
  (sl sc (w32 (v3 + 4))).bind fun x410 =>
  (f_X11_write v1 x407 x408 (lor (lshl x409 32) (land x410 4294967295)) σ).bind fun r411 =>
  (sl sc (w32 (v3 + 1))).bind fun x413 =>
  (sl sc (w32 (v3 + 2))).bind fun x414 =>
  (sl sc (w32 (v3 + 3))).bind fun x415 =>
  (sl sc (w32 (v3 + 4))).bind fun x416 =>
  (f_X12_write v2 x413 x414 (lor (lshl x415 32) (land x416 4294967295)) r411.2).bind fun r417 =>
  if r411.1 = r417.1 then
    f_L_law_b1890 sc k18 v1 v2 v3 r417.2
  else
    some 0
theorem L_L_law_b336 {sc : Nat × (Nat → Int32)} (hL : (sc.1 : Int) ≤ 2147483647) {k18 : (Int → Int → Int → Mem → Option Int)} (hk18 : ∀ {v1 v2 v3 : Int} {σ : Mem}, k18 v1 v2 v3 σ = some 1 → E sc FLw mt_L_law 1000 [] Sh 18 [(3, 0), (2, v1), (2, v2), (0, v3)] [] Sh σ) {v1 v2 v3 : Int} {σ : Mem} (h : f_L_law_b336 sc k18 v1 v2 v3 σ = some 1) : E sc FLw mt_L_law 1000 [] Sh 336 [(3, 0), (2, v1), (2, v2), (0, v3)] [] Sh σ := by
  unfold f_L_law_b336 at h
  refine E_aload_n d_L_law_336 rfl (by decide) ?_
  refine E_aload_n d_L_law_337 rfl (by decide) ?_
  refine E_iload_n d_L_law_338 rfl ?_
  refine E_iconst d_L_law_339 (c32 rfl) ?_
  refine E_iadd d_L_law_340 ?_
  refine E_sld d_L_law_341 h (fun x407 h => ?_)
  refine E_aload_n d_L_law_342 rfl (by decide) ?_
  refine E_iload_n d_L_law_343 rfl ?_
  refine E_iconst d_L_law_344 (c32 rfl) ?_
  refine E_iadd d_L_law_345 ?_
  refine E_sld d_L_law_346 h (fun x408 h => ?_)
  refine E_aload_n d_L_law_347 rfl (by decide) ?_
  refine E_iload_n d_L_law_348 rfl ?_
  refine E_iconst d_L_law_349 (c32 rfl) ?_
  refine E_iadd d_L_law_350 ?_
  refine E_sld d_L_law_351 h (fun x409 h => ?_)
  refine E_i2l d_L_law_352 ?_
  refine E_bipush d_L_law_353 (c8 rfl) ?_
  refine E_lshl d_L_law_355 ?_
  refine E_aload_n d_L_law_356 rfl (by decide) ?_
  refine E_iload_n d_L_law_357 rfl ?_
  refine E_iconst d_L_law_358 (c32 rfl) ?_
  refine E_iadd d_L_law_359 ?_
  refine E_sld d_L_law_360 h (fun x410 h => ?_)
  refine E_i2l d_L_law_361 ?_
  refine E_ldc2 d_L_law_362 kw_L_32 ?_
  refine E_land d_L_law_365 ?_
  refine E_lor d_L_law_366 ?_
  refine bd h (fun r411 q412 h => ?_)
  refine E_cV (as := [(0, x407), (0, x408), (1, lor (lshl x409 32) (land x410 4294967295))]) (st := []) (a := v1) d_L_law_367 mk_X11_write nl_L_34 (by omega) ⟨rfl, rfl, Nat.le_of_ble_eq_true rfl⟩ okX11 rfl (L_X11_write q412) ?_
  refine E_aload_n d_L_law_370 rfl (by decide) ?_
  refine E_aload_n d_L_law_371 rfl (by decide) ?_
  refine E_iload_n d_L_law_372 rfl ?_
  refine E_iconst d_L_law_373 (c32 rfl) ?_
  refine E_iadd d_L_law_374 ?_
  refine E_sld d_L_law_375 h (fun x413 h => ?_)
  refine E_aload_n d_L_law_376 rfl (by decide) ?_
  refine E_iload_n d_L_law_377 rfl ?_
  refine E_iconst d_L_law_378 (c32 rfl) ?_
  refine E_iadd d_L_law_379 ?_
  refine E_sld d_L_law_380 h (fun x414 h => ?_)
  refine E_aload_n d_L_law_381 rfl (by decide) ?_
  refine E_iload_n d_L_law_382 rfl ?_
  refine E_iconst d_L_law_383 (c32 rfl) ?_
  refine E_iadd d_L_law_384 ?_
  refine E_sld d_L_law_385 h (fun x415 h => ?_)
  refine E_i2l d_L_law_386 ?_
  refine E_bipush d_L_law_387 (c8 rfl) ?_
  refine E_lshl d_L_law_389 ?_
  refine E_aload_n d_L_law_390 rfl (by decide) ?_
  refine E_iload_n d_L_law_391 rfl ?_
  refine E_iconst d_L_law_392 (c32 rfl) ?_
  refine E_iadd d_L_law_393 ?_
  refine E_sld d_L_law_394 h (fun x416 h => ?_)
  refine E_i2l d_L_law_395 ?_
  refine E_ldc2 d_L_law_396 kw_L_32 ?_
  refine E_land d_L_law_399 ?_
  refine E_lor d_L_law_400 ?_
  refine bd h (fun r417 q418 h => ?_)
  refine E_cV (as := [(0, x413), (0, x414), (1, lor (lshl x415 32) (land x416 4294967295))]) (st := [(0, r411.1)]) (a := v2) d_L_law_401 mk_X12_write nl_L_38 (by omega) ⟨rfl, rfl, Nat.le_of_ble_eq_true rfl⟩ okX12 rfl (L_X12_write q418) ?_
  refine E_icmp_eq (tgt := 1890) d_L_law_404 (by decide) h (fun _ h => ?_) (fun _ h => ?_)
  · exact (L_L_law_b1890 hL hk18 h)
  · refine E_iconst d_L_law_407 (c32 rfl) ?_
    cases h
noncomputable def f_L_law_b409 (sc : Nat × (Nat → Int32)) (k18 : (Int → Int → Int → Mem → Option Int)) (v1 v2 v3 : Int) (σ : Mem) : Option Int :=
  (sl sc (w32 (v3 + 1))).bind fun x399 =>
  (sl sc (w32 (v3 + 2))).bind fun x400 =>
  (f_X11_read v1 x399 x400 σ).bind fun r401 =>
  (sl sc (w32 (v3 + 1))).bind fun x403 =>
  (sl sc (w32 (v3 + 2))).bind fun x404 =>
  (f_X12_read v2 x403 x404 r401.2).bind fun r405 =>
  if lcmp r401.1 r405.1 = 0 then
    f_L_law_b1890 sc k18 v1 v2 v3 r405.2
  else
    some 0
theorem L_L_law_b409 {sc : Nat × (Nat → Int32)} (hL : (sc.1 : Int) ≤ 2147483647) {k18 : (Int → Int → Int → Mem → Option Int)} (hk18 : ∀ {v1 v2 v3 : Int} {σ : Mem}, k18 v1 v2 v3 σ = some 1 → E sc FLw mt_L_law 1000 [] Sh 18 [(3, 0), (2, v1), (2, v2), (0, v3)] [] Sh σ) {v1 v2 v3 : Int} {σ : Mem} (h : f_L_law_b409 sc k18 v1 v2 v3 σ = some 1) : E sc FLw mt_L_law 1000 [] Sh 409 [(3, 0), (2, v1), (2, v2), (0, v3)] [] Sh σ := by
  unfold f_L_law_b409 at h
  refine E_aload_n d_L_law_409 rfl (by decide) ?_
  refine E_aload_n d_L_law_410 rfl (by decide) ?_
  refine E_iload_n d_L_law_411 rfl ?_
  refine E_iconst d_L_law_412 (c32 rfl) ?_
  refine E_iadd d_L_law_413 ?_
  refine E_sld d_L_law_414 h (fun x399 h => ?_)
  refine E_aload_n d_L_law_415 rfl (by decide) ?_
  refine E_iload_n d_L_law_416 rfl ?_
  refine E_iconst d_L_law_417 (c32 rfl) ?_
  refine E_iadd d_L_law_418 ?_
  refine E_sld d_L_law_419 h (fun x400 h => ?_)
  refine bd h (fun r401 q402 h => ?_)
  refine E_cV (as := [(0, x399), (0, x400)]) (st := []) (a := v1) d_L_law_420 mk_X11_read nl_L_39 (by omega) ⟨rfl, rfl, Nat.le_of_ble_eq_true rfl⟩ okX11 rfl (L_X11_read q402) ?_
  refine E_aload_n d_L_law_423 rfl (by decide) ?_
  refine E_aload_n d_L_law_424 rfl (by decide) ?_
  refine E_iload_n d_L_law_425 rfl ?_
  refine E_iconst d_L_law_426 (c32 rfl) ?_
  refine E_iadd d_L_law_427 ?_
  refine E_sld d_L_law_428 h (fun x403 h => ?_)
  refine E_aload_n d_L_law_429 rfl (by decide) ?_
  refine E_iload_n d_L_law_430 rfl ?_
  refine E_iconst d_L_law_431 (c32 rfl) ?_
  refine E_iadd d_L_law_432 ?_
  refine E_sld d_L_law_433 h (fun x404 h => ?_)
  refine bd h (fun r405 q406 h => ?_)
  refine E_cV (as := [(0, x403), (0, x404)]) (st := [(1, r401.1)]) (a := v2) d_L_law_434 mk_X12_read nl_L_43 (by omega) ⟨rfl, rfl, Nat.le_of_ble_eq_true rfl⟩ okX12 rfl (L_X12_read q406) ?_
  refine E_lcmp d_L_law_437 ?_
  refine E_if_eq (tgt := 1890) d_L_law_438 (by decide) h (fun _ h => ?_) (fun _ h => ?_)
  · exact (L_L_law_b1890 hL hk18 h)
  · refine E_iconst d_L_law_441 (c32 rfl) ?_
    cases h
noncomputable def f_L_law_b443 (sc : Nat × (Nat → Int32)) (k18 : (Int → Int → Int → Mem → Option Int)) (v1 v2 v3 : Int) (σ : Mem) : Option Int :=
  (sl sc (w32 (v3 + 1))).bind fun x385 =>
  (sl sc (w32 (v3 + 2))).bind fun x386 =>
  (sl sc (w32 (v3 + 3))).bind fun x387 =>
  (sl sc (w32 (v3 + 4))).bind fun x388 =>
  (sl sc (w32 (v3 + 5))).bind fun x389 =>
  (f_X11_pour v1 x385 x386 x387 x388 x389 σ).bind fun r390 =>
  (sl sc (w32 (v3 + 1))).bind fun x392 =>
  (sl sc (w32 (v3 + 2))).bind fun x393 =>
  (sl sc (w32 (v3 + 3))).bind fun x394 =>
  (sl sc (w32 (v3 + 4))).bind fun x395 =>
  (sl sc (w32 (v3 + 5))).bind fun x396 =>
  (f_X12_pour v2 x392 x393 x394 x395 x396 r390.2).bind fun r397 =>
  if r390.1 = r397.1 then
    f_L_law_b1890 sc k18 v1 v2 v3 r397.2
  else
    some 0
theorem L_L_law_b443 {sc : Nat × (Nat → Int32)} (hL : (sc.1 : Int) ≤ 2147483647) {k18 : (Int → Int → Int → Mem → Option Int)} (hk18 : ∀ {v1 v2 v3 : Int} {σ : Mem}, k18 v1 v2 v3 σ = some 1 → E sc FLw mt_L_law 1000 [] Sh 18 [(3, 0), (2, v1), (2, v2), (0, v3)] [] Sh σ) {v1 v2 v3 : Int} {σ : Mem} (h : f_L_law_b443 sc k18 v1 v2 v3 σ = some 1) : E sc FLw mt_L_law 1000 [] Sh 443 [(3, 0), (2, v1), (2, v2), (0, v3)] [] Sh σ := by
  unfold f_L_law_b443 at h
  refine E_aload_n d_L_law_443 rfl (by decide) ?_
  refine E_aload_n d_L_law_444 rfl (by decide) ?_
  refine E_iload_n d_L_law_445 rfl ?_
  refine E_iconst d_L_law_446 (c32 rfl) ?_
  refine E_iadd d_L_law_447 ?_
  refine E_sld d_L_law_448 h (fun x385 h => ?_)
  refine E_aload_n d_L_law_449 rfl (by decide) ?_
  refine E_iload_n d_L_law_450 rfl ?_
  refine E_iconst d_L_law_451 (c32 rfl) ?_
  refine E_iadd d_L_law_452 ?_
  refine E_sld d_L_law_453 h (fun x386 h => ?_)
  refine E_aload_n d_L_law_454 rfl (by decide) ?_
  refine E_iload_n d_L_law_455 rfl ?_
  refine E_iconst d_L_law_456 (c32 rfl) ?_
  refine E_iadd d_L_law_457 ?_
  refine E_sld d_L_law_458 h (fun x387 h => ?_)
  refine E_aload_n d_L_law_459 rfl (by decide) ?_
  refine E_iload_n d_L_law_460 rfl ?_
  refine E_iconst d_L_law_461 (c32 rfl) ?_
  refine E_iadd d_L_law_462 ?_
  refine E_sld d_L_law_463 h (fun x388 h => ?_)
  refine E_aload_n d_L_law_464 rfl (by decide) ?_
  refine E_iload_n d_L_law_465 rfl ?_
  refine E_iconst d_L_law_466 (c32 rfl) ?_
  refine E_iadd d_L_law_467 ?_
  refine E_sld d_L_law_468 h (fun x389 h => ?_)
  refine bd h (fun r390 q391 h => ?_)
  refine E_cV (as := [(0, x385), (0, x386), (0, x387), (0, x388), (0, x389)]) (st := []) (a := v1) d_L_law_469 mk_X11_pour nl_L_44 (by omega) ⟨rfl, rfl, Nat.le_of_ble_eq_true rfl⟩ okX11 rfl (L_X11_pour q391) ?_
  refine E_aload_n d_L_law_472 rfl (by decide) ?_
  refine E_aload_n d_L_law_473 rfl (by decide) ?_
  refine E_iload_n d_L_law_474 rfl ?_
  refine E_iconst d_L_law_475 (c32 rfl) ?_
  refine E_iadd d_L_law_476 ?_
  refine E_sld d_L_law_477 h (fun x392 h => ?_)
  refine E_aload_n d_L_law_478 rfl (by decide) ?_
  refine E_iload_n d_L_law_479 rfl ?_
  refine E_iconst d_L_law_480 (c32 rfl) ?_
  refine E_iadd d_L_law_481 ?_
  refine E_sld d_L_law_482 h (fun x393 h => ?_)
  refine E_aload_n d_L_law_483 rfl (by decide) ?_
  refine E_iload_n d_L_law_484 rfl ?_
  refine E_iconst d_L_law_485 (c32 rfl) ?_
  refine E_iadd d_L_law_486 ?_
  refine E_sld d_L_law_487 h (fun x394 h => ?_)
  refine E_aload_n d_L_law_488 rfl (by decide) ?_
  refine E_iload_n d_L_law_489 rfl ?_
  refine E_iconst d_L_law_490 (c32 rfl) ?_
  refine E_iadd d_L_law_491 ?_
  refine E_sld d_L_law_492 h (fun x395 h => ?_)
  refine E_aload_n d_L_law_493 rfl (by decide) ?_
  refine E_iload_n d_L_law_494 rfl ?_
  refine E_iconst d_L_law_495 (c32 rfl) ?_
  refine E_iadd d_L_law_496 ?_
  refine E_sld d_L_law_497 h (fun x396 h => ?_)
  refine bd h (fun r397 q398 h => ?_)
  refine E_cV (as := [(0, x392), (0, x393), (0, x394), (0, x395), (0, x396)]) (st := [(0, r390.1)]) (a := v2) d_L_law_498 mk_X12_pour nl_L_48 (by omega) ⟨rfl, rfl, Nat.le_of_ble_eq_true rfl⟩ okX12 rfl (L_X12_pour q398) ?_
  refine E_icmp_eq (tgt := 1890) d_L_law_501 (by decide) h (fun _ h => ?_) (fun _ h => ?_)
  · exact (L_L_law_b1890 hL hk18 h)
  · refine E_iconst d_L_law_504 (c32 rfl) ?_
    cases h
noncomputable def f_L_law_b506 (sc : Nat × (Nat → Int32)) (k18 : (Int → Int → Int → Mem → Option Int)) (v1 v2 v3 : Int) (σ : Mem) : Option Int :=
  (sl sc (w32 (v3 + 1))).bind fun x371 =>
  (sl sc (w32 (v3 + 2))).bind fun x372 =>
  (sl sc (w32 (v3 + 3))).bind fun x373 =>
  (sl sc (w32 (v3 + 4))).bind fun x374 =>
  (sl sc (w32 (v3 + 5))).bind fun x375 =>
  (f_X11_feed v1 x371 x372 x373 x374 x375 σ).bind fun r376 =>
  (sl sc (w32 (v3 + 1))).bind fun x378 =>
  (sl sc (w32 (v3 + 2))).bind fun x379 =>
  (sl sc (w32 (v3 + 3))).bind fun x380 =>
  (sl sc (w32 (v3 + 4))).bind fun x381 =>
  (sl sc (w32 (v3 + 5))).bind fun x382 =>
  (f_X12_feed v2 x378 x379 x380 x381 x382 r376.2).bind fun r383 =>
  if r376.1 = r383.1 then
    f_L_law_b1890 sc k18 v1 v2 v3 r383.2
  else
    some 0
theorem L_L_law_b506 {sc : Nat × (Nat → Int32)} (hL : (sc.1 : Int) ≤ 2147483647) {k18 : (Int → Int → Int → Mem → Option Int)} (hk18 : ∀ {v1 v2 v3 : Int} {σ : Mem}, k18 v1 v2 v3 σ = some 1 → E sc FLw mt_L_law 1000 [] Sh 18 [(3, 0), (2, v1), (2, v2), (0, v3)] [] Sh σ) {v1 v2 v3 : Int} {σ : Mem} (h : f_L_law_b506 sc k18 v1 v2 v3 σ = some 1) : E sc FLw mt_L_law 1000 [] Sh 506 [(3, 0), (2, v1), (2, v2), (0, v3)] [] Sh σ := by
  unfold f_L_law_b506 at h
  refine E_aload_n d_L_law_506 rfl (by decide) ?_
  refine E_aload_n d_L_law_507 rfl (by decide) ?_
  refine E_iload_n d_L_law_508 rfl ?_
  refine E_iconst d_L_law_509 (c32 rfl) ?_
  refine E_iadd d_L_law_510 ?_
  refine E_sld d_L_law_511 h (fun x371 h => ?_)
  refine E_aload_n d_L_law_512 rfl (by decide) ?_
  refine E_iload_n d_L_law_513 rfl ?_
  refine E_iconst d_L_law_514 (c32 rfl) ?_
  refine E_iadd d_L_law_515 ?_
  refine E_sld d_L_law_516 h (fun x372 h => ?_)
  refine E_aload_n d_L_law_517 rfl (by decide) ?_
  refine E_iload_n d_L_law_518 rfl ?_
  refine E_iconst d_L_law_519 (c32 rfl) ?_
  refine E_iadd d_L_law_520 ?_
  refine E_sld d_L_law_521 h (fun x373 h => ?_)
  refine E_aload_n d_L_law_522 rfl (by decide) ?_
  refine E_iload_n d_L_law_523 rfl ?_
  refine E_iconst d_L_law_524 (c32 rfl) ?_
  refine E_iadd d_L_law_525 ?_
  refine E_sld d_L_law_526 h (fun x374 h => ?_)
  refine E_aload_n d_L_law_527 rfl (by decide) ?_
  refine E_iload_n d_L_law_528 rfl ?_
  refine E_iconst d_L_law_529 (c32 rfl) ?_
  refine E_iadd d_L_law_530 ?_
  refine E_sld d_L_law_531 h (fun x375 h => ?_)
  refine bd h (fun r376 q377 h => ?_)
  refine E_cV (as := [(0, x371), (0, x372), (0, x373), (0, x374), (0, x375)]) (st := []) (a := v1) d_L_law_532 mk_X11_feed nl_L_49 (by omega) ⟨rfl, rfl, Nat.le_of_ble_eq_true rfl⟩ okX11 rfl (L_X11_feed q377) ?_
  refine E_aload_n d_L_law_535 rfl (by decide) ?_
  refine E_aload_n d_L_law_536 rfl (by decide) ?_
  refine E_iload_n d_L_law_537 rfl ?_
  refine E_iconst d_L_law_538 (c32 rfl) ?_
  refine E_iadd d_L_law_539 ?_
  refine E_sld d_L_law_540 h (fun x378 h => ?_)
  refine E_aload_n d_L_law_541 rfl (by decide) ?_
  refine E_iload_n d_L_law_542 rfl ?_
  refine E_iconst d_L_law_543 (c32 rfl) ?_
  refine E_iadd d_L_law_544 ?_
  refine E_sld d_L_law_545 h (fun x379 h => ?_)
  refine E_aload_n d_L_law_546 rfl (by decide) ?_
  refine E_iload_n d_L_law_547 rfl ?_
  refine E_iconst d_L_law_548 (c32 rfl) ?_
  refine E_iadd d_L_law_549 ?_
  refine E_sld d_L_law_550 h (fun x380 h => ?_)
  refine E_aload_n d_L_law_551 rfl (by decide) ?_
  refine E_iload_n d_L_law_552 rfl ?_
  refine E_iconst d_L_law_553 (c32 rfl) ?_
  refine E_iadd d_L_law_554 ?_
  refine E_sld d_L_law_555 h (fun x381 h => ?_)
  refine E_aload_n d_L_law_556 rfl (by decide) ?_
  refine E_iload_n d_L_law_557 rfl ?_
  refine E_iconst d_L_law_558 (c32 rfl) ?_
  refine E_iadd d_L_law_559 ?_
  refine E_sld d_L_law_560 h (fun x382 h => ?_)
  refine bd h (fun r383 q384 h => ?_)
  refine E_cV (as := [(0, x378), (0, x379), (0, x380), (0, x381), (0, x382)]) (st := [(0, r376.1)]) (a := v2) d_L_law_561 mk_X12_feed nl_L_53 (by omega) ⟨rfl, rfl, Nat.le_of_ble_eq_true rfl⟩ okX12 rfl (L_X12_feed q384) ?_
  refine E_icmp_eq (tgt := 1890) d_L_law_564 (by decide) h (fun _ h => ?_) (fun _ h => ?_)
  · exact (L_L_law_b1890 hL hk18 h)
  · refine E_iconst d_L_law_567 (c32 rfl) ?_
    cases h
noncomputable def f_L_law_b569 (sc : Nat × (Nat → Int32)) (k18 : (Int → Int → Int → Mem → Option Int)) (v1 v2 v3 : Int) (σ : Mem) : Option Int :=
  (sl sc (w32 (v3 + 1))).bind fun x365 =>
  (f_X11_wall v1 x365 σ).bind fun r366 =>
  (sl sc (w32 (v3 + 1))).bind fun x368 =>
  (f_X12_wall v2 x368 r366.2).bind fun r369 =>
  if r366.1 = r369.1 then
    f_L_law_b1890 sc k18 v1 v2 v3 r369.2
  else
    some 0
theorem L_L_law_b569 {sc : Nat × (Nat → Int32)} (hL : (sc.1 : Int) ≤ 2147483647) {k18 : (Int → Int → Int → Mem → Option Int)} (hk18 : ∀ {v1 v2 v3 : Int} {σ : Mem}, k18 v1 v2 v3 σ = some 1 → E sc FLw mt_L_law 1000 [] Sh 18 [(3, 0), (2, v1), (2, v2), (0, v3)] [] Sh σ) {v1 v2 v3 : Int} {σ : Mem} (h : f_L_law_b569 sc k18 v1 v2 v3 σ = some 1) : E sc FLw mt_L_law 1000 [] Sh 569 [(3, 0), (2, v1), (2, v2), (0, v3)] [] Sh σ := by
  unfold f_L_law_b569 at h
  refine E_aload_n d_L_law_569 rfl (by decide) ?_
  refine E_aload_n d_L_law_570 rfl (by decide) ?_
  refine E_iload_n d_L_law_571 rfl ?_
  refine E_iconst d_L_law_572 (c32 rfl) ?_
  refine E_iadd d_L_law_573 ?_
  refine E_sld d_L_law_574 h (fun x365 h => ?_)
  refine bd h (fun r366 q367 h => ?_)
  refine E_cV (as := [(0, x365)]) (st := []) (a := v1) d_L_law_575 mk_X11_wall nl_L_54 (by omega) ⟨rfl, rfl, Nat.le_of_ble_eq_true rfl⟩ okX11 rfl (L_X11_wall q367) ?_
  refine E_aload_n d_L_law_578 rfl (by decide) ?_
  refine E_aload_n d_L_law_579 rfl (by decide) ?_
  refine E_iload_n d_L_law_580 rfl ?_
  refine E_iconst d_L_law_581 (c32 rfl) ?_
  refine E_iadd d_L_law_582 ?_
  refine E_sld d_L_law_583 h (fun x368 h => ?_)
  refine bd h (fun r369 q370 h => ?_)
  refine E_cV (as := [(0, x368)]) (st := [(0, r366.1)]) (a := v2) d_L_law_584 mk_X12_wall nl_L_58 (by omega) ⟨rfl, rfl, Nat.le_of_ble_eq_true rfl⟩ okX12 rfl (L_X12_wall q370) ?_
  refine E_icmp_eq (tgt := 1890) d_L_law_587 (by decide) h (fun _ h => ?_) (fun _ h => ?_)
  · exact (L_L_law_b1890 hL hk18 h)
  · refine E_iconst d_L_law_590 (c32 rfl) ?_
    cases h
noncomputable def f_L_law_b592 (sc : Nat × (Nat → Int32)) (k18 : (Int → Int → Int → Mem → Option Int)) (v1 v2 v3 : Int) (σ : Mem) : Option Int :=
  (sl sc (w32 (v3 + 1))).bind fun x359 =>
  (f_X11_terms v1 x359 σ).bind fun r360 =>
  (sl sc (w32 (v3 + 1))).bind fun x362 =>
  (f_X12_terms v2 x362 r360.2).bind fun r363 =>
  if r360.1 = r363.1 then
    f_L_law_b1890 sc k18 v1 v2 v3 r363.2
  else
    some 0
theorem L_L_law_b592 {sc : Nat × (Nat → Int32)} (hL : (sc.1 : Int) ≤ 2147483647) {k18 : (Int → Int → Int → Mem → Option Int)} (hk18 : ∀ {v1 v2 v3 : Int} {σ : Mem}, k18 v1 v2 v3 σ = some 1 → E sc FLw mt_L_law 1000 [] Sh 18 [(3, 0), (2, v1), (2, v2), (0, v3)] [] Sh σ) {v1 v2 v3 : Int} {σ : Mem} (h : f_L_law_b592 sc k18 v1 v2 v3 σ = some 1) : E sc FLw mt_L_law 1000 [] Sh 592 [(3, 0), (2, v1), (2, v2), (0, v3)] [] Sh σ := by
  unfold f_L_law_b592 at h
  refine E_aload_n d_L_law_592 rfl (by decide) ?_
  refine E_aload_n d_L_law_593 rfl (by decide) ?_
  refine E_iload_n d_L_law_594 rfl ?_
  refine E_iconst d_L_law_595 (c32 rfl) ?_
  refine E_iadd d_L_law_596 ?_
  refine E_sld d_L_law_597 h (fun x359 h => ?_)
  refine bd h (fun r360 q361 h => ?_)
  refine E_cV (as := [(0, x359)]) (st := []) (a := v1) d_L_law_598 mk_X11_terms nl_L_59 (by omega) ⟨rfl, rfl, Nat.le_of_ble_eq_true rfl⟩ okX11 rfl (L_X11_terms q361) ?_
  refine E_aload_n d_L_law_601 rfl (by decide) ?_
  refine E_aload_n d_L_law_602 rfl (by decide) ?_
  refine E_iload_n d_L_law_603 rfl ?_
  refine E_iconst d_L_law_604 (c32 rfl) ?_
  refine E_iadd d_L_law_605 ?_
  refine E_sld d_L_law_606 h (fun x362 h => ?_)
  refine bd h (fun r363 q364 h => ?_)
  refine E_cV (as := [(0, x362)]) (st := [(0, r360.1)]) (a := v2) d_L_law_607 mk_X12_terms nl_L_62 (by omega) ⟨rfl, rfl, Nat.le_of_ble_eq_true rfl⟩ okX12 rfl (L_X12_terms q364) ?_
  refine E_icmp_eq (tgt := 1890) d_L_law_610 (by decide) h (fun _ h => ?_) (fun _ h => ?_)
  · exact (L_L_law_b1890 hL hk18 h)
  · refine E_iconst d_L_law_613 (c32 rfl) ?_
    cases h
noncomputable def f_L_law_b615 (sc : Nat × (Nat → Int32)) (k18 : (Int → Int → Int → Mem → Option Int)) (v1 v2 v3 : Int) (σ : Mem) : Option Int :=
  (sl sc (w32 (v3 + 1))).bind fun x353 =>
  (f_X11_fault v1 x353 σ).bind fun r354 =>
  (sl sc (w32 (v3 + 1))).bind fun x356 =>
  (f_X12_fault v2 x356 σ).bind fun r357 =>
  if r354 = r357.1 then
    f_L_law_b1890 sc k18 v1 v2 v3 r357.2
  else
    some 0
theorem L_L_law_b615 {sc : Nat × (Nat → Int32)} (hL : (sc.1 : Int) ≤ 2147483647) {k18 : (Int → Int → Int → Mem → Option Int)} (hk18 : ∀ {v1 v2 v3 : Int} {σ : Mem}, k18 v1 v2 v3 σ = some 1 → E sc FLw mt_L_law 1000 [] Sh 18 [(3, 0), (2, v1), (2, v2), (0, v3)] [] Sh σ) {v1 v2 v3 : Int} {σ : Mem} (h : f_L_law_b615 sc k18 v1 v2 v3 σ = some 1) : E sc FLw mt_L_law 1000 [] Sh 615 [(3, 0), (2, v1), (2, v2), (0, v3)] [] Sh σ := by
  unfold f_L_law_b615 at h
  refine E_aload_n d_L_law_615 rfl (by decide) ?_
  refine E_aload_n d_L_law_616 rfl (by decide) ?_
  refine E_iload_n d_L_law_617 rfl ?_
  refine E_iconst d_L_law_618 (c32 rfl) ?_
  refine E_iadd d_L_law_619 ?_
  refine E_sld d_L_law_620 h (fun x353 h => ?_)
  refine bd h (fun r354 q355 h => ?_)
  refine E_cV (as := [(0, x353)]) (st := []) (a := v1) d_L_law_621 mk_X11_fault nl_L_63 (by omega) ⟨rfl, rfl, Nat.le_of_ble_eq_true rfl⟩ okX11 rfl (L_X11_fault q355) ?_
  refine E_aload_n d_L_law_624 rfl (by decide) ?_
  refine E_aload_n d_L_law_625 rfl (by decide) ?_
  refine E_iload_n d_L_law_626 rfl ?_
  refine E_iconst d_L_law_627 (c32 rfl) ?_
  refine E_iadd d_L_law_628 ?_
  refine E_sld d_L_law_629 h (fun x356 h => ?_)
  refine bd h (fun r357 q358 h => ?_)
  refine E_cV (as := [(0, x356)]) (st := [(0, r354)]) (a := v2) d_L_law_630 mk_X12_fault nl_L_66 (by omega) ⟨rfl, rfl, Nat.le_of_ble_eq_true rfl⟩ okX12 rfl (L_X12_fault q358) ?_
  refine E_icmp_eq (tgt := 1890) d_L_law_633 (by decide) h (fun _ h => ?_) (fun _ h => ?_)
  · exact (L_L_law_b1890 hL hk18 h)
  · refine E_iconst d_L_law_636 (c32 rfl) ?_
    cases h
noncomputable def f_L_law_b638 (sc : Nat × (Nat → Int32)) (k18 : (Int → Int → Int → Mem → Option Int)) (v1 v2 v3 : Int) (σ : Mem) : Option Int :=
  (sl sc (w32 (v3 + 1))).bind fun x347 =>
  (f_X11_many v1 x347 σ).bind fun r348 =>
  (sl sc (w32 (v3 + 1))).bind fun x350 =>
  (f_X12_many v2 x350 r348.2).bind fun r351 =>
  if r348.1 = r351.1 then
    f_L_law_b1890 sc k18 v1 v2 v3 r351.2
  else
    some 0
theorem L_L_law_b638 {sc : Nat × (Nat → Int32)} (hL : (sc.1 : Int) ≤ 2147483647) {k18 : (Int → Int → Int → Mem → Option Int)} (hk18 : ∀ {v1 v2 v3 : Int} {σ : Mem}, k18 v1 v2 v3 σ = some 1 → E sc FLw mt_L_law 1000 [] Sh 18 [(3, 0), (2, v1), (2, v2), (0, v3)] [] Sh σ) {v1 v2 v3 : Int} {σ : Mem} (h : f_L_law_b638 sc k18 v1 v2 v3 σ = some 1) : E sc FLw mt_L_law 1000 [] Sh 638 [(3, 0), (2, v1), (2, v2), (0, v3)] [] Sh σ := by
  unfold f_L_law_b638 at h
  refine E_aload_n d_L_law_638 rfl (by decide) ?_
  refine E_aload_n d_L_law_639 rfl (by decide) ?_
  refine E_iload_n d_L_law_640 rfl ?_
  refine E_iconst d_L_law_641 (c32 rfl) ?_
  refine E_iadd d_L_law_642 ?_
  refine E_sld d_L_law_643 h (fun x347 h => ?_)
  refine bd h (fun r348 q349 h => ?_)
  refine E_cV (as := [(0, x347)]) (st := []) (a := v1) d_L_law_644 mk_X11_many nl_L_67 (by omega) ⟨rfl, rfl, Nat.le_of_ble_eq_true rfl⟩ okX11 rfl (L_X11_many q349) ?_
  refine E_aload_n d_L_law_647 rfl (by decide) ?_
  refine E_aload_n d_L_law_648 rfl (by decide) ?_
  refine E_iload_n d_L_law_649 rfl ?_
  refine E_iconst d_L_law_650 (c32 rfl) ?_
  refine E_iadd d_L_law_651 ?_
  refine E_sld d_L_law_652 h (fun x350 h => ?_)
  refine bd h (fun r351 q352 h => ?_)
  refine E_cV (as := [(0, x350)]) (st := [(0, r348.1)]) (a := v2) d_L_law_653 mk_X12_many nl_L_70 (by omega) ⟨rfl, rfl, Nat.le_of_ble_eq_true rfl⟩ okX12 rfl (L_X12_many q352) ?_
  refine E_icmp_eq (tgt := 1890) d_L_law_656 (by decide) h (fun _ h => ?_) (fun _ h => ?_)
  · exact (L_L_law_b1890 hL hk18 h)
  · refine E_iconst d_L_law_659 (c32 rfl) ?_
    cases h
noncomputable def f_L_law_b661 (sc : Nat × (Nat → Int32)) (k18 : (Int → Int → Int → Mem → Option Int)) (v1 v2 v3 : Int) (σ : Mem) : Option Int :=
  (sl sc (w32 (v3 + 1))).bind fun x339 =>
  (sl sc (w32 (v3 + 2))).bind fun x340 =>
  (f_X11_stone v1 x339 x340 σ).bind fun r341 =>
  (sl sc (w32 (v3 + 1))).bind fun x343 =>
  (sl sc (w32 (v3 + 2))).bind fun x344 =>
  (f_X12_stone v2 x343 x344 r341.2).bind fun r345 =>
  if r341.1 = r345.1 then
    f_L_law_b1890 sc k18 v1 v2 v3 r345.2
  else
    some 0
theorem L_L_law_b661 {sc : Nat × (Nat → Int32)} (hL : (sc.1 : Int) ≤ 2147483647) {k18 : (Int → Int → Int → Mem → Option Int)} (hk18 : ∀ {v1 v2 v3 : Int} {σ : Mem}, k18 v1 v2 v3 σ = some 1 → E sc FLw mt_L_law 1000 [] Sh 18 [(3, 0), (2, v1), (2, v2), (0, v3)] [] Sh σ) {v1 v2 v3 : Int} {σ : Mem} (h : f_L_law_b661 sc k18 v1 v2 v3 σ = some 1) : E sc FLw mt_L_law 1000 [] Sh 661 [(3, 0), (2, v1), (2, v2), (0, v3)] [] Sh σ := by
  unfold f_L_law_b661 at h
  refine E_aload_n d_L_law_661 rfl (by decide) ?_
  refine E_aload_n d_L_law_662 rfl (by decide) ?_
  refine E_iload_n d_L_law_663 rfl ?_
  refine E_iconst d_L_law_664 (c32 rfl) ?_
  refine E_iadd d_L_law_665 ?_
  refine E_sld d_L_law_666 h (fun x339 h => ?_)
  refine E_aload_n d_L_law_667 rfl (by decide) ?_
  refine E_iload_n d_L_law_668 rfl ?_
  refine E_iconst d_L_law_669 (c32 rfl) ?_
  refine E_iadd d_L_law_670 ?_
  refine E_sld d_L_law_671 h (fun x340 h => ?_)
  refine bd h (fun r341 q342 h => ?_)
  refine E_cV (as := [(0, x339), (0, x340)]) (st := []) (a := v1) d_L_law_672 mk_X11_stone nl_L_71 (by omega) ⟨rfl, rfl, Nat.le_of_ble_eq_true rfl⟩ okX11 rfl (L_X11_stone q342) ?_
  refine E_aload_n d_L_law_675 rfl (by decide) ?_
  refine E_aload_n d_L_law_676 rfl (by decide) ?_
  refine E_iload_n d_L_law_677 rfl ?_
  refine E_iconst d_L_law_678 (c32 rfl) ?_
  refine E_iadd d_L_law_679 ?_
  refine E_sld d_L_law_680 h (fun x343 h => ?_)
  refine E_aload_n d_L_law_681 rfl (by decide) ?_
  refine E_iload_n d_L_law_682 rfl ?_
  refine E_iconst d_L_law_683 (c32 rfl) ?_
  refine E_iadd d_L_law_684 ?_
  refine E_sld d_L_law_685 h (fun x344 h => ?_)
  refine bd h (fun r345 q346 h => ?_)
  refine E_cV (as := [(0, x343), (0, x344)]) (st := [(0, r341.1)]) (a := v2) d_L_law_686 mk_X12_stone nl_L_75 (by omega) ⟨rfl, rfl, Nat.le_of_ble_eq_true rfl⟩ okX12 rfl (L_X12_stone q346) ?_
  refine E_icmp_eq (tgt := 1890) d_L_law_689 (by decide) h (fun _ h => ?_) (fun _ h => ?_)
  · exact (L_L_law_b1890 hL hk18 h)
  · refine E_iconst d_L_law_692 (c32 rfl) ?_
    cases h
noncomputable def f_L_law_b694 (sc : Nat × (Nat → Int32)) (k18 : (Int → Int → Int → Mem → Option Int)) (v1 v2 v3 : Int) (σ : Mem) : Option Int :=
  (sl sc (w32 (v3 + 1))).bind fun x331 =>
  (sl sc (w32 (v3 + 2))).bind fun x332 =>
  (f_X11_crow v1 x331 x332 σ).bind fun r333 =>
  (sl sc (w32 (v3 + 1))).bind fun x335 =>
  (sl sc (w32 (v3 + 2))).bind fun x336 =>
  (f_X12_crow v2 x335 x336 r333.2).bind fun r337 =>
  if r333.1 = r337.1 then
    f_L_law_b1890 sc k18 v1 v2 v3 r337.2
  else
    some 0
theorem L_L_law_b694 {sc : Nat × (Nat → Int32)} (hL : (sc.1 : Int) ≤ 2147483647) {k18 : (Int → Int → Int → Mem → Option Int)} (hk18 : ∀ {v1 v2 v3 : Int} {σ : Mem}, k18 v1 v2 v3 σ = some 1 → E sc FLw mt_L_law 1000 [] Sh 18 [(3, 0), (2, v1), (2, v2), (0, v3)] [] Sh σ) {v1 v2 v3 : Int} {σ : Mem} (h : f_L_law_b694 sc k18 v1 v2 v3 σ = some 1) : E sc FLw mt_L_law 1000 [] Sh 694 [(3, 0), (2, v1), (2, v2), (0, v3)] [] Sh σ := by
  unfold f_L_law_b694 at h
  refine E_aload_n d_L_law_694 rfl (by decide) ?_
  refine E_aload_n d_L_law_695 rfl (by decide) ?_
  refine E_iload_n d_L_law_696 rfl ?_
  refine E_iconst d_L_law_697 (c32 rfl) ?_
  refine E_iadd d_L_law_698 ?_
  refine E_sld d_L_law_699 h (fun x331 h => ?_)
  refine E_aload_n d_L_law_700 rfl (by decide) ?_
  refine E_iload_n d_L_law_701 rfl ?_
  refine E_iconst d_L_law_702 (c32 rfl) ?_
  refine E_iadd d_L_law_703 ?_
  refine E_sld d_L_law_704 h (fun x332 h => ?_)
  refine bd h (fun r333 q334 h => ?_)
  refine E_cV (as := [(0, x331), (0, x332)]) (st := []) (a := v1) d_L_law_705 mk_X11_crow nl_L_76 (by omega) ⟨rfl, rfl, Nat.le_of_ble_eq_true rfl⟩ okX11 rfl (L_X11_crow q334) ?_
  refine E_aload_n d_L_law_708 rfl (by decide) ?_
  refine E_aload_n d_L_law_709 rfl (by decide) ?_
  refine E_iload_n d_L_law_710 rfl ?_
  refine E_iconst d_L_law_711 (c32 rfl) ?_
  refine E_iadd d_L_law_712 ?_
  refine E_sld d_L_law_713 h (fun x335 h => ?_)
  refine E_aload_n d_L_law_714 rfl (by decide) ?_
  refine E_iload_n d_L_law_715 rfl ?_
  refine E_iconst d_L_law_716 (c32 rfl) ?_
  refine E_iadd d_L_law_717 ?_
  refine E_sld d_L_law_718 h (fun x336 h => ?_)
  refine bd h (fun r337 q338 h => ?_)
  refine E_cV (as := [(0, x335), (0, x336)]) (st := [(0, r333.1)]) (a := v2) d_L_law_719 mk_X12_crow nl_L_79 (by omega) ⟨rfl, rfl, Nat.le_of_ble_eq_true rfl⟩ okX12 rfl (L_X12_crow q338) ?_
  refine E_icmp_eq (tgt := 1890) d_L_law_722 (by decide) h (fun _ h => ?_) (fun _ h => ?_)
  · exact (L_L_law_b1890 hL hk18 h)
  · refine E_iconst d_L_law_725 (c32 rfl) ?_
    cases h
noncomputable def f_L_law_b727 (sc : Nat × (Nat → Int32)) (k18 : (Int → Int → Int → Mem → Option Int)) (v1 v2 v3 : Int) (σ : Mem) : Option Int :=
  (sl sc (w32 (v3 + 1))).bind fun x325 =>
  (f_X11_copyMoss v1 x325 σ).bind fun r326 =>
  (sl sc (w32 (v3 + 1))).bind fun x328 =>
  (f_X12_copyMoss v2 x328 r326.2).bind fun r329 =>
  if r326.1 = r329.1 then
    f_L_law_b1890 sc k18 v1 v2 v3 r329.2
  else
    some 0
theorem L_L_law_b727 {sc : Nat × (Nat → Int32)} (hL : (sc.1 : Int) ≤ 2147483647) {k18 : (Int → Int → Int → Mem → Option Int)} (hk18 : ∀ {v1 v2 v3 : Int} {σ : Mem}, k18 v1 v2 v3 σ = some 1 → E sc FLw mt_L_law 1000 [] Sh 18 [(3, 0), (2, v1), (2, v2), (0, v3)] [] Sh σ) {v1 v2 v3 : Int} {σ : Mem} (h : f_L_law_b727 sc k18 v1 v2 v3 σ = some 1) : E sc FLw mt_L_law 1000 [] Sh 727 [(3, 0), (2, v1), (2, v2), (0, v3)] [] Sh σ := by
  unfold f_L_law_b727 at h
  refine E_aload_n d_L_law_727 rfl (by decide) ?_
  refine E_aload_n d_L_law_728 rfl (by decide) ?_
  refine E_iload_n d_L_law_729 rfl ?_
  refine E_iconst d_L_law_730 (c32 rfl) ?_
  refine E_iadd d_L_law_731 ?_
  refine E_sld d_L_law_732 h (fun x325 h => ?_)
  refine bd h (fun r326 q327 h => ?_)
  refine E_cV (as := [(0, x325)]) (st := []) (a := v1) d_L_law_733 mk_X11_copyMoss nl_L_80 (by omega) ⟨rfl, rfl, Nat.le_of_ble_eq_true rfl⟩ okX11 rfl (L_X11_copyMoss q327) ?_
  refine E_aload_n d_L_law_736 rfl (by decide) ?_
  refine E_aload_n d_L_law_737 rfl (by decide) ?_
  refine E_iload_n d_L_law_738 rfl ?_
  refine E_iconst d_L_law_739 (c32 rfl) ?_
  refine E_iadd d_L_law_740 ?_
  refine E_sld d_L_law_741 h (fun x328 h => ?_)
  refine bd h (fun r329 q330 h => ?_)
  refine E_cV (as := [(0, x328)]) (st := [(0, r326.1)]) (a := v2) d_L_law_742 mk_X12_copyMoss nl_L_83 (by omega) ⟨rfl, rfl, Nat.le_of_ble_eq_true rfl⟩ okX12 rfl (L_X12_copyMoss q330) ?_
  refine E_icmp_eq (tgt := 1890) d_L_law_745 (by decide) h (fun _ h => ?_) (fun _ h => ?_)
  · exact (L_L_law_b1890 hL hk18 h)
  · refine E_iconst d_L_law_748 (c32 rfl) ?_
    cases h
noncomputable def f_L_law_b801 (sc : Nat × (Nat → Int32)) (k18 : (Int → Int → Int → Mem → Option Int)) (v1 v2 v3 s0 s1 s2 s3 s4 : Int) (σ : Mem) : Option Int :=
  (f_X12_judge s3 s2 s1 s0 σ).bind fun r323 =>
  if s4 = r323.1 then
    f_L_law_b1890 sc k18 v1 v2 v3 r323.2
  else
    some 0
theorem L_L_law_b801 {sc : Nat × (Nat → Int32)} (hL : (sc.1 : Int) ≤ 2147483647) {k18 : (Int → Int → Int → Mem → Option Int)} (hk18 : ∀ {v1 v2 v3 : Int} {σ : Mem}, k18 v1 v2 v3 σ = some 1 → E sc FLw mt_L_law 1000 [] Sh 18 [(3, 0), (2, v1), (2, v2), (0, v3)] [] Sh σ) {v1 v2 v3 s0 s1 s2 s3 s4 : Int} {σ : Mem} (h : f_L_law_b801 sc k18 v1 v2 v3 s0 s1 s2 s3 s4 σ = some 1) : E sc FLw mt_L_law 1000 [] Sh 801 [(3, 0), (2, v1), (2, v2), (0, v3)] [(0, s0), (0, s1), (0, s2), (2, s3), (0, s4)] Sh σ := by
  unfold f_L_law_b801 at h
  refine bd h (fun r323 q324 h => ?_)
  refine E_cV (as := [(0, s2), (0, s1), (0, s0)]) (st := [(0, s4)]) (a := s3) d_L_law_801 mk_X12_judge nl_L_88 (by omega) ⟨rfl, rfl, Nat.le_of_ble_eq_true rfl⟩ okX12 rfl (L_X12_judge q324) ?_
  refine E_icmp_eq (tgt := 1890) d_L_law_804 (by decide) h (fun _ h => ?_) (fun _ h => ?_)
  · exact (L_L_law_b1890 hL hk18 h)
  · refine E_iconst d_L_law_807 (c32 rfl) ?_
    cases h
noncomputable def f_L_law_b774 (sc : Nat × (Nat → Int32)) (k18 : (Int → Int → Int → Mem → Option Int)) (v1 v2 v3 s0 s1 s2 s3 : Int) (σ : Mem) : Option Int :=
  (f_X11_judge s3 s2 s1 s0 σ).bind fun r318 =>
  (sl sc (w32 (v3 + 1))).bind fun x320 =>
  (sl sc (w32 (v3 + 2))).bind fun x321 =>
  (sl sc (w32 (v3 + 3))).bind fun x322 =>
  if x322 = 0 then
    f_L_law_b801 sc k18 v1 v2 v3 0 x321 x320 v2 r318.1 r318.2
  else
    f_L_law_b801 sc k18 v1 v2 v3 1 x321 x320 v2 r318.1 r318.2
theorem L_L_law_b774 {sc : Nat × (Nat → Int32)} (hL : (sc.1 : Int) ≤ 2147483647) {k18 : (Int → Int → Int → Mem → Option Int)} (hk18 : ∀ {v1 v2 v3 : Int} {σ : Mem}, k18 v1 v2 v3 σ = some 1 → E sc FLw mt_L_law 1000 [] Sh 18 [(3, 0), (2, v1), (2, v2), (0, v3)] [] Sh σ) {v1 v2 v3 s0 s1 s2 s3 : Int} {σ : Mem} (h : f_L_law_b774 sc k18 v1 v2 v3 s0 s1 s2 s3 σ = some 1) : E sc FLw mt_L_law 1000 [] Sh 774 [(3, 0), (2, v1), (2, v2), (0, v3)] [(0, s0), (0, s1), (0, s2), (2, s3)] Sh σ := by
  unfold f_L_law_b774 at h
  refine bd h (fun r318 q319 h => ?_)
  refine E_cV (as := [(0, s2), (0, s1), (0, s0)]) (st := []) (a := s3) d_L_law_774 mk_X11_judge nl_L_84 (by omega) ⟨rfl, rfl, Nat.le_of_ble_eq_true rfl⟩ okX11 rfl (L_X11_judge q319) ?_
  refine E_aload_n d_L_law_777 rfl (by decide) ?_
  refine E_aload_n d_L_law_778 rfl (by decide) ?_
  refine E_iload_n d_L_law_779 rfl ?_
  refine E_iconst d_L_law_780 (c32 rfl) ?_
  refine E_iadd d_L_law_781 ?_
  refine E_sld d_L_law_782 h (fun x320 h => ?_)
  refine E_aload_n d_L_law_783 rfl (by decide) ?_
  refine E_iload_n d_L_law_784 rfl ?_
  refine E_iconst d_L_law_785 (c32 rfl) ?_
  refine E_iadd d_L_law_786 ?_
  refine E_sld d_L_law_787 h (fun x321 h => ?_)
  refine E_aload_n d_L_law_788 rfl (by decide) ?_
  refine E_iload_n d_L_law_789 rfl ?_
  refine E_iconst d_L_law_790 (c32 rfl) ?_
  refine E_iadd d_L_law_791 ?_
  refine E_sld d_L_law_792 h (fun x322 h => ?_)
  refine E_if_eq (tgt := 800) d_L_law_793 (by decide) h (fun _ h => ?_) (fun _ h => ?_)
  · refine E_iconst d_L_law_800 (c32 rfl) ?_
    exact (L_L_law_b801 hL hk18 h)
  · refine E_iconst d_L_law_796 (c32 rfl) ?_
    refine E_goto (tgt := 801) d_L_law_797 (by decide) ?_
    exact (L_L_law_b801 hL hk18 h)
noncomputable def f_L_law_b750 (sc : Nat × (Nat → Int32)) (k18 : (Int → Int → Int → Mem → Option Int)) (v1 v2 v3 : Int) (σ : Mem) : Option Int :=
  (sl sc (w32 (v3 + 1))).bind fun x315 =>
  (sl sc (w32 (v3 + 2))).bind fun x316 =>
  (sl sc (w32 (v3 + 3))).bind fun x317 =>
  if x317 = 0 then
    f_L_law_b774 sc k18 v1 v2 v3 0 x316 x315 v1 σ
  else
    f_L_law_b774 sc k18 v1 v2 v3 1 x316 x315 v1 σ
theorem L_L_law_b750 {sc : Nat × (Nat → Int32)} (hL : (sc.1 : Int) ≤ 2147483647) {k18 : (Int → Int → Int → Mem → Option Int)} (hk18 : ∀ {v1 v2 v3 : Int} {σ : Mem}, k18 v1 v2 v3 σ = some 1 → E sc FLw mt_L_law 1000 [] Sh 18 [(3, 0), (2, v1), (2, v2), (0, v3)] [] Sh σ) {v1 v2 v3 : Int} {σ : Mem} (h : f_L_law_b750 sc k18 v1 v2 v3 σ = some 1) : E sc FLw mt_L_law 1000 [] Sh 750 [(3, 0), (2, v1), (2, v2), (0, v3)] [] Sh σ := by
  unfold f_L_law_b750 at h
  refine E_aload_n d_L_law_750 rfl (by decide) ?_
  refine E_aload_n d_L_law_751 rfl (by decide) ?_
  refine E_iload_n d_L_law_752 rfl ?_
  refine E_iconst d_L_law_753 (c32 rfl) ?_
  refine E_iadd d_L_law_754 ?_
  refine E_sld d_L_law_755 h (fun x315 h => ?_)
  refine E_aload_n d_L_law_756 rfl (by decide) ?_
  refine E_iload_n d_L_law_757 rfl ?_
  refine E_iconst d_L_law_758 (c32 rfl) ?_
  refine E_iadd d_L_law_759 ?_
  refine E_sld d_L_law_760 h (fun x316 h => ?_)
  refine E_aload_n d_L_law_761 rfl (by decide) ?_
  refine E_iload_n d_L_law_762 rfl ?_
  refine E_iconst d_L_law_763 (c32 rfl) ?_
  refine E_iadd d_L_law_764 ?_
  refine E_sld d_L_law_765 h (fun x317 h => ?_)
  refine E_if_eq (tgt := 773) d_L_law_766 (by decide) h (fun _ h => ?_) (fun _ h => ?_)
  · refine E_iconst d_L_law_773 (c32 rfl) ?_
    exact (L_L_law_b774 hL hk18 h)
  · refine E_iconst d_L_law_769 (c32 rfl) ?_
    refine E_goto (tgt := 774) d_L_law_770 (by decide) ?_
    exact (L_L_law_b774 hL hk18 h)
noncomputable def f_L_law_b809 (sc : Nat × (Nat → Int32)) (k18 : (Int → Int → Int → Mem → Option Int)) (v1 v2 v3 : Int) (σ : Mem) : Option Int :=
  (sl sc (w32 (v3 + 1))).bind fun x309 =>
  (f_X11_year v1 x309 σ).bind fun r310 =>
  (sl sc (w32 (v3 + 1))).bind fun x312 =>
  (f_X12_year v2 x312 r310.2).bind fun r313 =>
  if r310.1 = r313.1 then
    f_L_law_b1890 sc k18 v1 v2 v3 r313.2
  else
    some 0
theorem L_L_law_b809 {sc : Nat × (Nat → Int32)} (hL : (sc.1 : Int) ≤ 2147483647) {k18 : (Int → Int → Int → Mem → Option Int)} (hk18 : ∀ {v1 v2 v3 : Int} {σ : Mem}, k18 v1 v2 v3 σ = some 1 → E sc FLw mt_L_law 1000 [] Sh 18 [(3, 0), (2, v1), (2, v2), (0, v3)] [] Sh σ) {v1 v2 v3 : Int} {σ : Mem} (h : f_L_law_b809 sc k18 v1 v2 v3 σ = some 1) : E sc FLw mt_L_law 1000 [] Sh 809 [(3, 0), (2, v1), (2, v2), (0, v3)] [] Sh σ := by
  unfold f_L_law_b809 at h
  refine E_aload_n d_L_law_809 rfl (by decide) ?_
  refine E_aload_n d_L_law_810 rfl (by decide) ?_
  refine E_iload_n d_L_law_811 rfl ?_
  refine E_iconst d_L_law_812 (c32 rfl) ?_
  refine E_iadd d_L_law_813 ?_
  refine E_sld d_L_law_814 h (fun x309 h => ?_)
  refine bd h (fun r310 q311 h => ?_)
  refine E_cV (as := [(0, x309)]) (st := []) (a := v1) d_L_law_815 mk_X11_year nl_L_89 (by omega) ⟨rfl, rfl, Nat.le_of_ble_eq_true rfl⟩ okX11 rfl (L_X11_year q311) ?_
  refine E_aload_n d_L_law_818 rfl (by decide) ?_
  refine E_aload_n d_L_law_819 rfl (by decide) ?_
  refine E_iload_n d_L_law_820 rfl ?_
  refine E_iconst d_L_law_821 (c32 rfl) ?_
  refine E_iadd d_L_law_822 ?_
  refine E_sld d_L_law_823 h (fun x312 h => ?_)
  refine bd h (fun r313 q314 h => ?_)
  refine E_cV (as := [(0, x312)]) (st := [(0, r310.1)]) (a := v2) d_L_law_824 mk_X12_year nl_L_92 (by omega) ⟨rfl, rfl, Nat.le_of_ble_eq_true rfl⟩ okX12 rfl (L_X12_year q314) ?_
  refine E_icmp_eq (tgt := 1890) d_L_law_827 (by decide) h (fun _ h => ?_) (fun _ h => ?_)
  · exact (L_L_law_b1890 hL hk18 h)
  · refine E_iconst d_L_law_830 (c32 rfl) ?_
    cases h
noncomputable def f_L_law_b832 (sc : Nat × (Nat → Int32)) (k18 : (Int → Int → Int → Mem → Option Int)) (v1 v2 v3 : Int) (σ : Mem) : Option Int :=
  (sl sc (w32 (v3 + 1))).bind fun x301 =>
  (sl sc (w32 (v3 + 2))).bind fun x302 =>
  (f_X11_carve v1 x301 x302 σ).bind fun r303 =>
  (sl sc (w32 (v3 + 1))).bind fun x305 =>
  (sl sc (w32 (v3 + 2))).bind fun x306 =>
  (f_X12_carve v2 x305 x306 r303.2).bind fun r307 =>
  if r303.1 = r307.1 then
    f_L_law_b1890 sc k18 v1 v2 v3 r307.2
  else
    some 0
theorem L_L_law_b832 {sc : Nat × (Nat → Int32)} (hL : (sc.1 : Int) ≤ 2147483647) {k18 : (Int → Int → Int → Mem → Option Int)} (hk18 : ∀ {v1 v2 v3 : Int} {σ : Mem}, k18 v1 v2 v3 σ = some 1 → E sc FLw mt_L_law 1000 [] Sh 18 [(3, 0), (2, v1), (2, v2), (0, v3)] [] Sh σ) {v1 v2 v3 : Int} {σ : Mem} (h : f_L_law_b832 sc k18 v1 v2 v3 σ = some 1) : E sc FLw mt_L_law 1000 [] Sh 832 [(3, 0), (2, v1), (2, v2), (0, v3)] [] Sh σ := by
  unfold f_L_law_b832 at h
  refine E_aload_n d_L_law_832 rfl (by decide) ?_
  refine E_aload_n d_L_law_833 rfl (by decide) ?_
  refine E_iload_n d_L_law_834 rfl ?_
  refine E_iconst d_L_law_835 (c32 rfl) ?_
  refine E_iadd d_L_law_836 ?_
  refine E_sld d_L_law_837 h (fun x301 h => ?_)
  refine E_aload_n d_L_law_838 rfl (by decide) ?_
  refine E_iload_n d_L_law_839 rfl ?_
  refine E_iconst d_L_law_840 (c32 rfl) ?_
  refine E_iadd d_L_law_841 ?_
  refine E_sld d_L_law_842 h (fun x302 h => ?_)
  refine bd h (fun r303 q304 h => ?_)
  refine E_cV (as := [(0, x301), (0, x302)]) (st := []) (a := v1) d_L_law_843 mk_X11_carve nl_L_93 (by omega) ⟨rfl, rfl, Nat.le_of_ble_eq_true rfl⟩ okX11 rfl (L_X11_carve q304) ?_
  refine E_aload_n d_L_law_846 rfl (by decide) ?_
  refine E_aload_n d_L_law_847 rfl (by decide) ?_
  refine E_iload_n d_L_law_848 rfl ?_
  refine E_iconst d_L_law_849 (c32 rfl) ?_
  refine E_iadd d_L_law_850 ?_
  refine E_sld d_L_law_851 h (fun x305 h => ?_)
  refine E_aload_n d_L_law_852 rfl (by decide) ?_
  refine E_iload_n d_L_law_853 rfl ?_
  refine E_iconst d_L_law_854 (c32 rfl) ?_
  refine E_iadd d_L_law_855 ?_
  refine E_sld d_L_law_856 h (fun x306 h => ?_)
  refine bd h (fun r307 q308 h => ?_)
  refine E_cV (as := [(0, x305), (0, x306)]) (st := [(0, r303.1)]) (a := v2) d_L_law_857 mk_X12_carve nl_L_96 (by omega) ⟨rfl, rfl, Nat.le_of_ble_eq_true rfl⟩ okX12 rfl (L_X12_carve q308) ?_
  refine E_icmp_eq (tgt := 1890) d_L_law_860 (by decide) h (fun _ h => ?_) (fun _ h => ?_)
  · exact (L_L_law_b1890 hL hk18 h)
  · refine E_iconst d_L_law_863 (c32 rfl) ?_
    cases h
noncomputable def f_L_law_b865 (sc : Nat × (Nat → Int32)) (k18 : (Int → Int → Int → Mem → Option Int)) (v1 v2 v3 : Int) (σ : Mem) : Option Int :=
  (sl sc (w32 (v3 + 1))).bind fun x295 =>
  (f_X11_clear v1 x295 σ).bind fun r296 =>
  (sl sc (w32 (v3 + 1))).bind fun x298 =>
  (f_X12_clear v2 x298 r296.2).bind fun r299 =>
  if r296.1 = r299.1 then
    f_L_law_b1890 sc k18 v1 v2 v3 r299.2
  else
    some 0
theorem L_L_law_b865 {sc : Nat × (Nat → Int32)} (hL : (sc.1 : Int) ≤ 2147483647) {k18 : (Int → Int → Int → Mem → Option Int)} (hk18 : ∀ {v1 v2 v3 : Int} {σ : Mem}, k18 v1 v2 v3 σ = some 1 → E sc FLw mt_L_law 1000 [] Sh 18 [(3, 0), (2, v1), (2, v2), (0, v3)] [] Sh σ) {v1 v2 v3 : Int} {σ : Mem} (h : f_L_law_b865 sc k18 v1 v2 v3 σ = some 1) : E sc FLw mt_L_law 1000 [] Sh 865 [(3, 0), (2, v1), (2, v2), (0, v3)] [] Sh σ := by
  unfold f_L_law_b865 at h
  refine E_aload_n d_L_law_865 rfl (by decide) ?_
  refine E_aload_n d_L_law_866 rfl (by decide) ?_
  refine E_iload_n d_L_law_867 rfl ?_
  refine E_iconst d_L_law_868 (c32 rfl) ?_
  refine E_iadd d_L_law_869 ?_
  refine E_sld d_L_law_870 h (fun x295 h => ?_)
  refine bd h (fun r296 q297 h => ?_)
  refine E_cV (as := [(0, x295)]) (st := []) (a := v1) d_L_law_871 mk_X11_clear nl_L_97 (by omega) ⟨rfl, rfl, Nat.le_of_ble_eq_true rfl⟩ okX11 rfl (L_X11_clear q297) ?_
  refine E_aload_n d_L_law_874 rfl (by decide) ?_
  refine E_aload_n d_L_law_875 rfl (by decide) ?_
  refine E_iload_n d_L_law_876 rfl ?_
  refine E_iconst d_L_law_877 (c32 rfl) ?_
  refine E_iadd d_L_law_878 ?_
  refine E_sld d_L_law_879 h (fun x298 h => ?_)
  refine bd h (fun r299 q300 h => ?_)
  refine E_cV (as := [(0, x298)]) (st := [(0, r296.1)]) (a := v2) d_L_law_880 mk_X12_clear nl_L_100 (by omega) ⟨rfl, rfl, Nat.le_of_ble_eq_true rfl⟩ okX12 rfl (L_X12_clear q300) ?_
  refine E_icmp_eq (tgt := 1890) d_L_law_883 (by decide) h (fun _ h => ?_) (fun _ h => ?_)
  · exact (L_L_law_b1890 hL hk18 h)
  · refine E_iconst d_L_law_886 (c32 rfl) ?_
    cases h
noncomputable def f_L_law_b888 (sc : Nat × (Nat → Int32)) (k18 : (Int → Int → Int → Mem → Option Int)) (v1 v2 v3 : Int) (σ : Mem) : Option Int :=
  (sl sc (w32 (v3 + 1))).bind fun x289 =>
  (f_X11_open v1 x289 σ).bind fun r290 =>
  (sl sc (w32 (v3 + 1))).bind fun x292 =>
  (f_X12_open v2 x292 r290.2).bind fun r293 =>
  if r290.1 = r293.1 then
    f_L_law_b1890 sc k18 v1 v2 v3 r293.2
  else
    some 0
theorem L_L_law_b888 {sc : Nat × (Nat → Int32)} (hL : (sc.1 : Int) ≤ 2147483647) {k18 : (Int → Int → Int → Mem → Option Int)} (hk18 : ∀ {v1 v2 v3 : Int} {σ : Mem}, k18 v1 v2 v3 σ = some 1 → E sc FLw mt_L_law 1000 [] Sh 18 [(3, 0), (2, v1), (2, v2), (0, v3)] [] Sh σ) {v1 v2 v3 : Int} {σ : Mem} (h : f_L_law_b888 sc k18 v1 v2 v3 σ = some 1) : E sc FLw mt_L_law 1000 [] Sh 888 [(3, 0), (2, v1), (2, v2), (0, v3)] [] Sh σ := by
  unfold f_L_law_b888 at h
  refine E_aload_n d_L_law_888 rfl (by decide) ?_
  refine E_aload_n d_L_law_889 rfl (by decide) ?_
  refine E_iload_n d_L_law_890 rfl ?_
  refine E_iconst d_L_law_891 (c32 rfl) ?_
  refine E_iadd d_L_law_892 ?_
  refine E_sld d_L_law_893 h (fun x289 h => ?_)
  refine bd h (fun r290 q291 h => ?_)
  refine E_cV (as := [(0, x289)]) (st := []) (a := v1) d_L_law_894 mk_X11_open nl_L_101 (by omega) ⟨rfl, rfl, Nat.le_of_ble_eq_true rfl⟩ okX11 rfl (L_X11_open q291) ?_
  refine E_aload_n d_L_law_897 rfl (by decide) ?_
  refine E_aload_n d_L_law_898 rfl (by decide) ?_
  refine E_iload_n d_L_law_899 rfl ?_
  refine E_iconst d_L_law_900 (c32 rfl) ?_
  refine E_iadd d_L_law_901 ?_
  refine E_sld d_L_law_902 h (fun x292 h => ?_)
  refine bd h (fun r293 q294 h => ?_)
  refine E_cV (as := [(0, x292)]) (st := [(0, r290.1)]) (a := v2) d_L_law_903 mk_X12_open nl_L_105 (by omega) ⟨rfl, rfl, Nat.le_of_ble_eq_true rfl⟩ okX12 rfl (L_X12_open q294) ?_
  refine E_icmp_eq (tgt := 1890) d_L_law_906 (by decide) h (fun _ h => ?_) (fun _ h => ?_)
  · exact (L_L_law_b1890 hL hk18 h)
  · refine E_iconst d_L_law_909 (c32 rfl) ?_
    cases h
noncomputable def f_L_law_b911 (sc : Nat × (Nat → Int32)) (k18 : (Int → Int → Int → Mem → Option Int)) (v1 v2 v3 : Int) (σ : Mem) : Option Int :=
  (sl sc (w32 (v3 + 1))).bind fun x279 =>
  (sl sc (w32 (v3 + 2))).bind fun x280 =>
  (sl sc (w32 (v3 + 3))).bind fun x281 =>
  (f_X11_mend v1 x279 x280 x281 σ).bind fun r282 =>
  (sl sc (w32 (v3 + 1))).bind fun x284 =>
  (sl sc (w32 (v3 + 2))).bind fun x285 =>
  (sl sc (w32 (v3 + 3))).bind fun x286 =>
  (f_X12_mend v2 x284 x285 x286 r282.2).bind fun r287 =>
  if r282.1 = r287.1 then
    f_L_law_b1890 sc k18 v1 v2 v3 r287.2
  else
    some 0
theorem L_L_law_b911 {sc : Nat × (Nat → Int32)} (hL : (sc.1 : Int) ≤ 2147483647) {k18 : (Int → Int → Int → Mem → Option Int)} (hk18 : ∀ {v1 v2 v3 : Int} {σ : Mem}, k18 v1 v2 v3 σ = some 1 → E sc FLw mt_L_law 1000 [] Sh 18 [(3, 0), (2, v1), (2, v2), (0, v3)] [] Sh σ) {v1 v2 v3 : Int} {σ : Mem} (h : f_L_law_b911 sc k18 v1 v2 v3 σ = some 1) : E sc FLw mt_L_law 1000 [] Sh 911 [(3, 0), (2, v1), (2, v2), (0, v3)] [] Sh σ := by
  unfold f_L_law_b911 at h
  refine E_aload_n d_L_law_911 rfl (by decide) ?_
  refine E_aload_n d_L_law_912 rfl (by decide) ?_
  refine E_iload_n d_L_law_913 rfl ?_
  refine E_iconst d_L_law_914 (c32 rfl) ?_
  refine E_iadd d_L_law_915 ?_
  refine E_sld d_L_law_916 h (fun x279 h => ?_)
  refine E_aload_n d_L_law_917 rfl (by decide) ?_
  refine E_iload_n d_L_law_918 rfl ?_
  refine E_iconst d_L_law_919 (c32 rfl) ?_
  refine E_iadd d_L_law_920 ?_
  refine E_sld d_L_law_921 h (fun x280 h => ?_)
  refine E_aload_n d_L_law_922 rfl (by decide) ?_
  refine E_iload_n d_L_law_923 rfl ?_
  refine E_iconst d_L_law_924 (c32 rfl) ?_
  refine E_iadd d_L_law_925 ?_
  refine E_sld d_L_law_926 h (fun x281 h => ?_)
  refine bd h (fun r282 q283 h => ?_)
  refine E_cV (as := [(0, x279), (0, x280), (0, x281)]) (st := []) (a := v1) d_L_law_927 mk_X11_mend nl_L_106 (by omega) ⟨rfl, rfl, Nat.le_of_ble_eq_true rfl⟩ okX11 rfl (L_X11_mend q283) ?_
  refine E_aload_n d_L_law_930 rfl (by decide) ?_
  refine E_aload_n d_L_law_931 rfl (by decide) ?_
  refine E_iload_n d_L_law_932 rfl ?_
  refine E_iconst d_L_law_933 (c32 rfl) ?_
  refine E_iadd d_L_law_934 ?_
  refine E_sld d_L_law_935 h (fun x284 h => ?_)
  refine E_aload_n d_L_law_936 rfl (by decide) ?_
  refine E_iload_n d_L_law_937 rfl ?_
  refine E_iconst d_L_law_938 (c32 rfl) ?_
  refine E_iadd d_L_law_939 ?_
  refine E_sld d_L_law_940 h (fun x285 h => ?_)
  refine E_aload_n d_L_law_941 rfl (by decide) ?_
  refine E_iload_n d_L_law_942 rfl ?_
  refine E_iconst d_L_law_943 (c32 rfl) ?_
  refine E_iadd d_L_law_944 ?_
  refine E_sld d_L_law_945 h (fun x286 h => ?_)
  refine bd h (fun r287 q288 h => ?_)
  refine E_cV (as := [(0, x284), (0, x285), (0, x286)]) (st := [(0, r282.1)]) (a := v2) d_L_law_946 mk_X12_mend nl_L_109 (by omega) ⟨rfl, rfl, Nat.le_of_ble_eq_true rfl⟩ okX12 rfl (L_X12_mend q288) ?_
  refine E_icmp_eq (tgt := 1890) d_L_law_949 (by decide) h (fun _ h => ?_) (fun _ h => ?_)
  · exact (L_L_law_b1890 hL hk18 h)
  · refine E_iconst d_L_law_952 (c32 rfl) ?_
    cases h
noncomputable def f_L_law_b954 (sc : Nat × (Nat → Int32)) (k18 : (Int → Int → Int → Mem → Option Int)) (v1 v2 v3 : Int) (σ : Mem) : Option Int :=
  (sl sc (w32 (v3 + 1))).bind fun x271 =>
  (sl sc (w32 (v3 + 2))).bind fun x272 =>
  (f_X11_fly v1 x271 x272 σ).bind fun r273 =>
  (sl sc (w32 (v3 + 1))).bind fun x275 =>
  (sl sc (w32 (v3 + 2))).bind fun x276 =>
  (f_X12_fly v2 x275 x276 r273.2).bind fun r277 =>
  if r273.1 = r277.1 then
    f_L_law_b1890 sc k18 v1 v2 v3 r277.2
  else
    some 0
theorem L_L_law_b954 {sc : Nat × (Nat → Int32)} (hL : (sc.1 : Int) ≤ 2147483647) {k18 : (Int → Int → Int → Mem → Option Int)} (hk18 : ∀ {v1 v2 v3 : Int} {σ : Mem}, k18 v1 v2 v3 σ = some 1 → E sc FLw mt_L_law 1000 [] Sh 18 [(3, 0), (2, v1), (2, v2), (0, v3)] [] Sh σ) {v1 v2 v3 : Int} {σ : Mem} (h : f_L_law_b954 sc k18 v1 v2 v3 σ = some 1) : E sc FLw mt_L_law 1000 [] Sh 954 [(3, 0), (2, v1), (2, v2), (0, v3)] [] Sh σ := by
  unfold f_L_law_b954 at h
  refine E_aload_n d_L_law_954 rfl (by decide) ?_
  refine E_aload_n d_L_law_955 rfl (by decide) ?_
  refine E_iload_n d_L_law_956 rfl ?_
  refine E_iconst d_L_law_957 (c32 rfl) ?_
  refine E_iadd d_L_law_958 ?_
  refine E_sld d_L_law_959 h (fun x271 h => ?_)
  refine E_aload_n d_L_law_960 rfl (by decide) ?_
  refine E_iload_n d_L_law_961 rfl ?_
  refine E_iconst d_L_law_962 (c32 rfl) ?_
  refine E_iadd d_L_law_963 ?_
  refine E_sld d_L_law_964 h (fun x272 h => ?_)
  refine bd h (fun r273 q274 h => ?_)
  refine E_cV (as := [(0, x271), (0, x272)]) (st := []) (a := v1) d_L_law_965 mk_X11_fly nl_L_110 (by omega) ⟨rfl, rfl, Nat.le_of_ble_eq_true rfl⟩ okX11 rfl (L_X11_fly q274) ?_
  refine E_aload_n d_L_law_968 rfl (by decide) ?_
  refine E_aload_n d_L_law_969 rfl (by decide) ?_
  refine E_iload_n d_L_law_970 rfl ?_
  refine E_iconst d_L_law_971 (c32 rfl) ?_
  refine E_iadd d_L_law_972 ?_
  refine E_sld d_L_law_973 h (fun x275 h => ?_)
  refine E_aload_n d_L_law_974 rfl (by decide) ?_
  refine E_iload_n d_L_law_975 rfl ?_
  refine E_iconst d_L_law_976 (c32 rfl) ?_
  refine E_iadd d_L_law_977 ?_
  refine E_sld d_L_law_978 h (fun x276 h => ?_)
  refine bd h (fun r277 q278 h => ?_)
  refine E_cV (as := [(0, x275), (0, x276)]) (st := [(0, r273.1)]) (a := v2) d_L_law_979 mk_X12_fly nl_L_113 (by omega) ⟨rfl, rfl, Nat.le_of_ble_eq_true rfl⟩ okX12 rfl (L_X12_fly q278) ?_
  refine E_icmp_eq (tgt := 1890) d_L_law_982 (by decide) h (fun _ h => ?_) (fun _ h => ?_)
  · exact (L_L_law_b1890 hL hk18 h)
  · refine E_iconst d_L_law_985 (c32 rfl) ?_
    cases h
noncomputable def f_L_law_b1028 (sc : Nat × (Nat → Int32)) (k18 : (Int → Int → Int → Mem → Option Int)) (v1 v2 v3 s0 s1 s2 s3 : Int) (σ : Mem) : Option Int :=
  (f_X12_hatch s2 s1 s0 σ).bind fun r269 =>
  if s3 = r269.1 then
    f_L_law_b1890 sc k18 v1 v2 v3 r269.2
  else
    some 0
theorem L_L_law_b1028 {sc : Nat × (Nat → Int32)} (hL : (sc.1 : Int) ≤ 2147483647) {k18 : (Int → Int → Int → Mem → Option Int)} (hk18 : ∀ {v1 v2 v3 : Int} {σ : Mem}, k18 v1 v2 v3 σ = some 1 → E sc FLw mt_L_law 1000 [] Sh 18 [(3, 0), (2, v1), (2, v2), (0, v3)] [] Sh σ) {v1 v2 v3 s0 s1 s2 s3 : Int} {σ : Mem} (h : f_L_law_b1028 sc k18 v1 v2 v3 s0 s1 s2 s3 σ = some 1) : E sc FLw mt_L_law 1000 [] Sh 1028 [(3, 0), (2, v1), (2, v2), (0, v3)] [(0, s0), (0, s1), (2, s2), (0, s3)] Sh σ := by
  unfold f_L_law_b1028 at h
  refine bd h (fun r269 q270 h => ?_)
  refine E_cV (as := [(0, s1), (0, s0)]) (st := [(0, s3)]) (a := s2) d_L_law_1028 mk_X12_hatch nl_L_118 (by omega) ⟨rfl, rfl, Nat.le_of_ble_eq_true rfl⟩ okX12 rfl (L_X12_hatch q270) ?_
  refine E_icmp_eq (tgt := 1890) d_L_law_1031 (by decide) h (fun _ h => ?_) (fun _ h => ?_)
  · exact (L_L_law_b1890 hL hk18 h)
  · refine E_iconst d_L_law_1034 (c32 rfl) ?_
    cases h
noncomputable def f_L_law_b1006 (sc : Nat × (Nat → Int32)) (k18 : (Int → Int → Int → Mem → Option Int)) (v1 v2 v3 s0 s1 s2 : Int) (σ : Mem) : Option Int :=
  (f_X11_hatch s2 s1 s0 σ).bind fun r265 =>
  (sl sc (w32 (v3 + 1))).bind fun x267 =>
  (sl sc (w32 (v3 + 2))).bind fun x268 =>
  if x268 = 0 then
    f_L_law_b1028 sc k18 v1 v2 v3 0 x267 v2 r265.1 r265.2
  else
    f_L_law_b1028 sc k18 v1 v2 v3 1 x267 v2 r265.1 r265.2
theorem L_L_law_b1006 {sc : Nat × (Nat → Int32)} (hL : (sc.1 : Int) ≤ 2147483647) {k18 : (Int → Int → Int → Mem → Option Int)} (hk18 : ∀ {v1 v2 v3 : Int} {σ : Mem}, k18 v1 v2 v3 σ = some 1 → E sc FLw mt_L_law 1000 [] Sh 18 [(3, 0), (2, v1), (2, v2), (0, v3)] [] Sh σ) {v1 v2 v3 s0 s1 s2 : Int} {σ : Mem} (h : f_L_law_b1006 sc k18 v1 v2 v3 s0 s1 s2 σ = some 1) : E sc FLw mt_L_law 1000 [] Sh 1006 [(3, 0), (2, v1), (2, v2), (0, v3)] [(0, s0), (0, s1), (2, s2)] Sh σ := by
  unfold f_L_law_b1006 at h
  refine bd h (fun r265 q266 h => ?_)
  refine E_cV (as := [(0, s1), (0, s0)]) (st := []) (a := s2) d_L_law_1006 mk_X11_hatch nl_L_114 (by omega) ⟨rfl, rfl, Nat.le_of_ble_eq_true rfl⟩ okX11 rfl (L_X11_hatch q266) ?_
  refine E_aload_n d_L_law_1009 rfl (by decide) ?_
  refine E_aload_n d_L_law_1010 rfl (by decide) ?_
  refine E_iload_n d_L_law_1011 rfl ?_
  refine E_iconst d_L_law_1012 (c32 rfl) ?_
  refine E_iadd d_L_law_1013 ?_
  refine E_sld d_L_law_1014 h (fun x267 h => ?_)
  refine E_aload_n d_L_law_1015 rfl (by decide) ?_
  refine E_iload_n d_L_law_1016 rfl ?_
  refine E_iconst d_L_law_1017 (c32 rfl) ?_
  refine E_iadd d_L_law_1018 ?_
  refine E_sld d_L_law_1019 h (fun x268 h => ?_)
  refine E_if_eq (tgt := 1027) d_L_law_1020 (by decide) h (fun _ h => ?_) (fun _ h => ?_)
  · refine E_iconst d_L_law_1027 (c32 rfl) ?_
    exact (L_L_law_b1028 hL hk18 h)
  · refine E_iconst d_L_law_1023 (c32 rfl) ?_
    refine E_goto (tgt := 1028) d_L_law_1024 (by decide) ?_
    exact (L_L_law_b1028 hL hk18 h)
noncomputable def f_L_law_b987 (sc : Nat × (Nat → Int32)) (k18 : (Int → Int → Int → Mem → Option Int)) (v1 v2 v3 : Int) (σ : Mem) : Option Int :=
  (sl sc (w32 (v3 + 1))).bind fun x263 =>
  (sl sc (w32 (v3 + 2))).bind fun x264 =>
  if x264 = 0 then
    f_L_law_b1006 sc k18 v1 v2 v3 0 x263 v1 σ
  else
    f_L_law_b1006 sc k18 v1 v2 v3 1 x263 v1 σ
theorem L_L_law_b987 {sc : Nat × (Nat → Int32)} (hL : (sc.1 : Int) ≤ 2147483647) {k18 : (Int → Int → Int → Mem → Option Int)} (hk18 : ∀ {v1 v2 v3 : Int} {σ : Mem}, k18 v1 v2 v3 σ = some 1 → E sc FLw mt_L_law 1000 [] Sh 18 [(3, 0), (2, v1), (2, v2), (0, v3)] [] Sh σ) {v1 v2 v3 : Int} {σ : Mem} (h : f_L_law_b987 sc k18 v1 v2 v3 σ = some 1) : E sc FLw mt_L_law 1000 [] Sh 987 [(3, 0), (2, v1), (2, v2), (0, v3)] [] Sh σ := by
  unfold f_L_law_b987 at h
  refine E_aload_n d_L_law_987 rfl (by decide) ?_
  refine E_aload_n d_L_law_988 rfl (by decide) ?_
  refine E_iload_n d_L_law_989 rfl ?_
  refine E_iconst d_L_law_990 (c32 rfl) ?_
  refine E_iadd d_L_law_991 ?_
  refine E_sld d_L_law_992 h (fun x263 h => ?_)
  refine E_aload_n d_L_law_993 rfl (by decide) ?_
  refine E_iload_n d_L_law_994 rfl ?_
  refine E_iconst d_L_law_995 (c32 rfl) ?_
  refine E_iadd d_L_law_996 ?_
  refine E_sld d_L_law_997 h (fun x264 h => ?_)
  refine E_if_eq (tgt := 1005) d_L_law_998 (by decide) h (fun _ h => ?_) (fun _ h => ?_)
  · refine E_iconst d_L_law_1005 (c32 rfl) ?_
    exact (L_L_law_b1006 hL hk18 h)
  · refine E_iconst d_L_law_1001 (c32 rfl) ?_
    refine E_goto (tgt := 1006) d_L_law_1002 (by decide) ?_
    exact (L_L_law_b1006 hL hk18 h)
noncomputable def f_L_law_b1036 (sc : Nat × (Nat → Int32)) (k18 : (Int → Int → Int → Mem → Option Int)) (v1 v2 v3 : Int) (σ : Mem) : Option Int :=
  (sl sc (w32 (v3 + 1))).bind fun x257 =>
  (f_X11_rule v1 x257 σ).bind fun r258 =>
  (sl sc (w32 (v3 + 1))).bind fun x260 =>
  (f_X12_rule v2 x260 r258.2).bind fun r261 =>
  if r258.1 = r261.1 then
    f_L_law_b1890 sc k18 v1 v2 v3 r261.2
  else
    some 0
theorem L_L_law_b1036 {sc : Nat × (Nat → Int32)} (hL : (sc.1 : Int) ≤ 2147483647) {k18 : (Int → Int → Int → Mem → Option Int)} (hk18 : ∀ {v1 v2 v3 : Int} {σ : Mem}, k18 v1 v2 v3 σ = some 1 → E sc FLw mt_L_law 1000 [] Sh 18 [(3, 0), (2, v1), (2, v2), (0, v3)] [] Sh σ) {v1 v2 v3 : Int} {σ : Mem} (h : f_L_law_b1036 sc k18 v1 v2 v3 σ = some 1) : E sc FLw mt_L_law 1000 [] Sh 1036 [(3, 0), (2, v1), (2, v2), (0, v3)] [] Sh σ := by
  unfold f_L_law_b1036 at h
  refine E_aload_n d_L_law_1036 rfl (by decide) ?_
  refine E_aload_n d_L_law_1037 rfl (by decide) ?_
  refine E_iload_n d_L_law_1038 rfl ?_
  refine E_iconst d_L_law_1039 (c32 rfl) ?_
  refine E_iadd d_L_law_1040 ?_
  refine E_sld d_L_law_1041 h (fun x257 h => ?_)
  refine bd h (fun r258 q259 h => ?_)
  refine E_cV (as := [(0, x257)]) (st := []) (a := v1) d_L_law_1042 mk_X11_rule nl_L_119 (by omega) ⟨rfl, rfl, Nat.le_of_ble_eq_true rfl⟩ okX11 rfl (L_X11_rule q259) ?_
  refine E_aload_n d_L_law_1045 rfl (by decide) ?_
  refine E_aload_n d_L_law_1046 rfl (by decide) ?_
  refine E_iload_n d_L_law_1047 rfl ?_
  refine E_iconst d_L_law_1048 (c32 rfl) ?_
  refine E_iadd d_L_law_1049 ?_
  refine E_sld d_L_law_1050 h (fun x260 h => ?_)
  refine bd h (fun r261 q262 h => ?_)
  refine E_cV (as := [(0, x260)]) (st := [(0, r258.1)]) (a := v2) d_L_law_1051 mk_X12_rule nl_L_122 (by omega) ⟨rfl, rfl, Nat.le_of_ble_eq_true rfl⟩ okX12 rfl (L_X12_rule q262) ?_
  refine E_icmp_eq (tgt := 1890) d_L_law_1054 (by decide) h (fun _ h => ?_) (fun _ h => ?_)
  · exact (L_L_law_b1890 hL hk18 h)
  · refine E_iconst d_L_law_1057 (c32 rfl) ?_
    cases h
noncomputable def f_L_law_b1059 (sc : Nat × (Nat → Int32)) (k18 : (Int → Int → Int → Mem → Option Int)) (v1 v2 v3 : Int) (σ : Mem) : Option Int :=
  (sl sc (w32 (v3 + 1))).bind fun x249 =>
  (sl sc (w32 (v3 + 2))).bind fun x250 =>
  (f_X11_far v1 x249 x250 σ).bind fun r251 =>
  (sl sc (w32 (v3 + 1))).bind fun x253 =>
  (sl sc (w32 (v3 + 2))).bind fun x254 =>
  (f_X12_far v2 x253 x254 r251.2).bind fun r255 =>
  if r251.1 = r255.1 then
    f_L_law_b1890 sc k18 v1 v2 v3 r255.2
  else
    some 0
theorem L_L_law_b1059 {sc : Nat × (Nat → Int32)} (hL : (sc.1 : Int) ≤ 2147483647) {k18 : (Int → Int → Int → Mem → Option Int)} (hk18 : ∀ {v1 v2 v3 : Int} {σ : Mem}, k18 v1 v2 v3 σ = some 1 → E sc FLw mt_L_law 1000 [] Sh 18 [(3, 0), (2, v1), (2, v2), (0, v3)] [] Sh σ) {v1 v2 v3 : Int} {σ : Mem} (h : f_L_law_b1059 sc k18 v1 v2 v3 σ = some 1) : E sc FLw mt_L_law 1000 [] Sh 1059 [(3, 0), (2, v1), (2, v2), (0, v3)] [] Sh σ := by
  unfold f_L_law_b1059 at h
  refine E_aload_n d_L_law_1059 rfl (by decide) ?_
  refine E_aload_n d_L_law_1060 rfl (by decide) ?_
  refine E_iload_n d_L_law_1061 rfl ?_
  refine E_iconst d_L_law_1062 (c32 rfl) ?_
  refine E_iadd d_L_law_1063 ?_
  refine E_sld d_L_law_1064 h (fun x249 h => ?_)
  refine E_aload_n d_L_law_1065 rfl (by decide) ?_
  refine E_iload_n d_L_law_1066 rfl ?_
  refine E_iconst d_L_law_1067 (c32 rfl) ?_
  refine E_iadd d_L_law_1068 ?_
  refine E_sld d_L_law_1069 h (fun x250 h => ?_)
  refine bd h (fun r251 q252 h => ?_)
  refine E_cV (as := [(0, x249), (0, x250)]) (st := []) (a := v1) d_L_law_1070 mk_X11_far nl_L_123 (by omega) ⟨rfl, rfl, Nat.le_of_ble_eq_true rfl⟩ okX11 rfl (L_X11_far q252) ?_
  refine E_aload_n d_L_law_1073 rfl (by decide) ?_
  refine E_aload_n d_L_law_1074 rfl (by decide) ?_
  refine E_iload_n d_L_law_1075 rfl ?_
  refine E_iconst d_L_law_1076 (c32 rfl) ?_
  refine E_iadd d_L_law_1077 ?_
  refine E_sld d_L_law_1078 h (fun x253 h => ?_)
  refine E_aload_n d_L_law_1079 rfl (by decide) ?_
  refine E_iload_n d_L_law_1080 rfl ?_
  refine E_iconst d_L_law_1081 (c32 rfl) ?_
  refine E_iadd d_L_law_1082 ?_
  refine E_sld d_L_law_1083 h (fun x254 h => ?_)
  refine bd h (fun r255 q256 h => ?_)
  refine E_cV (as := [(0, x253), (0, x254)]) (st := [(0, r251.1)]) (a := v2) d_L_law_1084 mk_X12_far nl_L_126 (by omega) ⟨rfl, rfl, Nat.le_of_ble_eq_true rfl⟩ okX12 rfl (L_X12_far q256) ?_
  refine E_icmp_eq (tgt := 1890) d_L_law_1087 (by decide) h (fun _ h => ?_) (fun _ h => ?_)
  · exact (L_L_law_b1890 hL hk18 h)
  · refine E_iconst d_L_law_1090 (c32 rfl) ?_
    cases h
noncomputable def f_L_law_b1092 (sc : Nat × (Nat → Int32)) (k18 : (Int → Int → Int → Mem → Option Int)) (v1 v2 v3 : Int) (σ : Mem) : Option Int :=
  (sl sc (w32 (v3 + 1))).bind fun x241 =>
  (sl sc (w32 (v3 + 2))).bind fun x242 =>
  (f_X11_mercy v1 x241 x242 σ).bind fun r243 =>
  (sl sc (w32 (v3 + 1))).bind fun x245 =>
  (sl sc (w32 (v3 + 2))).bind fun x246 =>
  (f_X12_mercy v2 x245 x246 r243.2).bind fun r247 =>
  if r243.1 = r247.1 then
    f_L_law_b1890 sc k18 v1 v2 v3 r247.2
  else
    some 0
theorem L_L_law_b1092 {sc : Nat × (Nat → Int32)} (hL : (sc.1 : Int) ≤ 2147483647) {k18 : (Int → Int → Int → Mem → Option Int)} (hk18 : ∀ {v1 v2 v3 : Int} {σ : Mem}, k18 v1 v2 v3 σ = some 1 → E sc FLw mt_L_law 1000 [] Sh 18 [(3, 0), (2, v1), (2, v2), (0, v3)] [] Sh σ) {v1 v2 v3 : Int} {σ : Mem} (h : f_L_law_b1092 sc k18 v1 v2 v3 σ = some 1) : E sc FLw mt_L_law 1000 [] Sh 1092 [(3, 0), (2, v1), (2, v2), (0, v3)] [] Sh σ := by
  unfold f_L_law_b1092 at h
  refine E_aload_n d_L_law_1092 rfl (by decide) ?_
  refine E_aload_n d_L_law_1093 rfl (by decide) ?_
  refine E_iload_n d_L_law_1094 rfl ?_
  refine E_iconst d_L_law_1095 (c32 rfl) ?_
  refine E_iadd d_L_law_1096 ?_
  refine E_sld d_L_law_1097 h (fun x241 h => ?_)
  refine E_aload_n d_L_law_1098 rfl (by decide) ?_
  refine E_iload_n d_L_law_1099 rfl ?_
  refine E_iconst d_L_law_1100 (c32 rfl) ?_
  refine E_iadd d_L_law_1101 ?_
  refine E_sld d_L_law_1102 h (fun x242 h => ?_)
  refine bd h (fun r243 q244 h => ?_)
  refine E_cV (as := [(0, x241), (0, x242)]) (st := []) (a := v1) d_L_law_1103 mk_X11_mercy nl_L_127 (by omega) ⟨rfl, rfl, Nat.le_of_ble_eq_true rfl⟩ okX11 rfl (L_X11_mercy q244) ?_
  refine E_aload_n d_L_law_1106 rfl (by decide) ?_
  refine E_aload_n d_L_law_1107 rfl (by decide) ?_
  refine E_iload_n d_L_law_1108 rfl ?_
  refine E_iconst d_L_law_1109 (c32 rfl) ?_
  refine E_iadd d_L_law_1110 ?_
  refine E_sld d_L_law_1111 h (fun x245 h => ?_)
  refine E_aload_n d_L_law_1112 rfl (by decide) ?_
  refine E_iload_n d_L_law_1113 rfl ?_
  refine E_iconst d_L_law_1114 (c32 rfl) ?_
  refine E_iadd d_L_law_1115 ?_
  refine E_sld d_L_law_1116 h (fun x246 h => ?_)
  refine bd h (fun r247 q248 h => ?_)
  refine E_cV (as := [(0, x245), (0, x246)]) (st := [(0, r243.1)]) (a := v2) d_L_law_1117 mk_X12_mercy nl_L_130 (by omega) ⟨rfl, rfl, Nat.le_of_ble_eq_true rfl⟩ okX12 rfl (L_X12_mercy q248) ?_
  refine E_icmp_eq (tgt := 1890) d_L_law_1120 (by decide) h (fun _ h => ?_) (fun _ h => ?_)
  · exact (L_L_law_b1890 hL hk18 h)
  · refine E_iconst d_L_law_1123 (c32 rfl) ?_
    cases h
noncomputable def f_L_law_b1125 (sc : Nat × (Nat → Int32)) (k18 : (Int → Int → Int → Mem → Option Int)) (v1 v2 v3 : Int) (σ : Mem) : Option Int :=
  (sl sc (w32 (v3 + 1))).bind fun x233 =>
  (sl sc (w32 (v3 + 2))).bind fun x234 =>
  (f_X11_turned v1 x233 x234 σ).bind fun r235 =>
  (sl sc (w32 (v3 + 1))).bind fun x237 =>
  (sl sc (w32 (v3 + 2))).bind fun x238 =>
  (f_X12_turned v2 x237 x238 r235.2).bind fun r239 =>
  if r235.1 = r239.1 then
    f_L_law_b1890 sc k18 v1 v2 v3 r239.2
  else
    some 0
theorem L_L_law_b1125 {sc : Nat × (Nat → Int32)} (hL : (sc.1 : Int) ≤ 2147483647) {k18 : (Int → Int → Int → Mem → Option Int)} (hk18 : ∀ {v1 v2 v3 : Int} {σ : Mem}, k18 v1 v2 v3 σ = some 1 → E sc FLw mt_L_law 1000 [] Sh 18 [(3, 0), (2, v1), (2, v2), (0, v3)] [] Sh σ) {v1 v2 v3 : Int} {σ : Mem} (h : f_L_law_b1125 sc k18 v1 v2 v3 σ = some 1) : E sc FLw mt_L_law 1000 [] Sh 1125 [(3, 0), (2, v1), (2, v2), (0, v3)] [] Sh σ := by
  unfold f_L_law_b1125 at h
  refine E_aload_n d_L_law_1125 rfl (by decide) ?_
  refine E_aload_n d_L_law_1126 rfl (by decide) ?_
  refine E_iload_n d_L_law_1127 rfl ?_
  refine E_iconst d_L_law_1128 (c32 rfl) ?_
  refine E_iadd d_L_law_1129 ?_
  refine E_sld d_L_law_1130 h (fun x233 h => ?_)
  refine E_aload_n d_L_law_1131 rfl (by decide) ?_
  refine E_iload_n d_L_law_1132 rfl ?_
  refine E_iconst d_L_law_1133 (c32 rfl) ?_
  refine E_iadd d_L_law_1134 ?_
  refine E_sld d_L_law_1135 h (fun x234 h => ?_)
  refine bd h (fun r235 q236 h => ?_)
  refine E_cV (as := [(0, x233), (0, x234)]) (st := []) (a := v1) d_L_law_1136 mk_X11_turned nl_L_131 (by omega) ⟨rfl, rfl, Nat.le_of_ble_eq_true rfl⟩ okX11 rfl (L_X11_turned q236) ?_
  refine E_aload_n d_L_law_1139 rfl (by decide) ?_
  refine E_aload_n d_L_law_1140 rfl (by decide) ?_
  refine E_iload_n d_L_law_1141 rfl ?_
  refine E_iconst d_L_law_1142 (c32 rfl) ?_
  refine E_iadd d_L_law_1143 ?_
  refine E_sld d_L_law_1144 h (fun x237 h => ?_)
  refine E_aload_n d_L_law_1145 rfl (by decide) ?_
  refine E_iload_n d_L_law_1146 rfl ?_
  refine E_iconst d_L_law_1147 (c32 rfl) ?_
  refine E_iadd d_L_law_1148 ?_
  refine E_sld d_L_law_1149 h (fun x238 h => ?_)
  refine bd h (fun r239 q240 h => ?_)
  refine E_cV (as := [(0, x237), (0, x238)]) (st := [(0, r235.1)]) (a := v2) d_L_law_1150 mk_X12_turned nl_L_134 (by omega) ⟨rfl, rfl, Nat.le_of_ble_eq_true rfl⟩ okX12 rfl (L_X12_turned q240) ?_
  refine E_icmp_eq (tgt := 1890) d_L_law_1153 (by decide) h (fun _ h => ?_) (fun _ h => ?_)
  · exact (L_L_law_b1890 hL hk18 h)
  · refine E_iconst d_L_law_1156 (c32 rfl) ?_
    cases h
noncomputable def f_L_law_b1158 (sc : Nat × (Nat → Int32)) (k18 : (Int → Int → Int → Mem → Option Int)) (v1 v2 v3 : Int) (σ : Mem) : Option Int :=
  (sl sc (w32 (v3 + 1))).bind fun x225 =>
  (sl sc (w32 (v3 + 2))).bind fun x226 =>
  (f_X11_verdict v1 x225 x226 σ).bind fun r227 =>
  (sl sc (w32 (v3 + 1))).bind fun x229 =>
  (sl sc (w32 (v3 + 2))).bind fun x230 =>
  (f_X12_verdict v2 x229 x230 r227.2).bind fun r231 =>
  if r227.1 = r231.1 then
    f_L_law_b1890 sc k18 v1 v2 v3 r231.2
  else
    some 0
theorem L_L_law_b1158 {sc : Nat × (Nat → Int32)} (hL : (sc.1 : Int) ≤ 2147483647) {k18 : (Int → Int → Int → Mem → Option Int)} (hk18 : ∀ {v1 v2 v3 : Int} {σ : Mem}, k18 v1 v2 v3 σ = some 1 → E sc FLw mt_L_law 1000 [] Sh 18 [(3, 0), (2, v1), (2, v2), (0, v3)] [] Sh σ) {v1 v2 v3 : Int} {σ : Mem} (h : f_L_law_b1158 sc k18 v1 v2 v3 σ = some 1) : E sc FLw mt_L_law 1000 [] Sh 1158 [(3, 0), (2, v1), (2, v2), (0, v3)] [] Sh σ := by
  unfold f_L_law_b1158 at h
  refine E_aload_n d_L_law_1158 rfl (by decide) ?_
  refine E_aload_n d_L_law_1159 rfl (by decide) ?_
  refine E_iload_n d_L_law_1160 rfl ?_
  refine E_iconst d_L_law_1161 (c32 rfl) ?_
  refine E_iadd d_L_law_1162 ?_
  refine E_sld d_L_law_1163 h (fun x225 h => ?_)
  refine E_aload_n d_L_law_1164 rfl (by decide) ?_
  refine E_iload_n d_L_law_1165 rfl ?_
  refine E_iconst d_L_law_1166 (c32 rfl) ?_
  refine E_iadd d_L_law_1167 ?_
  refine E_sld d_L_law_1168 h (fun x226 h => ?_)
  refine bd h (fun r227 q228 h => ?_)
  refine E_cV (as := [(0, x225), (0, x226)]) (st := []) (a := v1) d_L_law_1169 mk_X11_verdict nl_L_135 (by omega) ⟨rfl, rfl, Nat.le_of_ble_eq_true rfl⟩ okX11 rfl (L_X11_verdict q228) ?_
  refine E_aload_n d_L_law_1172 rfl (by decide) ?_
  refine E_aload_n d_L_law_1173 rfl (by decide) ?_
  refine E_iload_n d_L_law_1174 rfl ?_
  refine E_iconst d_L_law_1175 (c32 rfl) ?_
  refine E_iadd d_L_law_1176 ?_
  refine E_sld d_L_law_1177 h (fun x229 h => ?_)
  refine E_aload_n d_L_law_1178 rfl (by decide) ?_
  refine E_iload_n d_L_law_1179 rfl ?_
  refine E_iconst d_L_law_1180 (c32 rfl) ?_
  refine E_iadd d_L_law_1181 ?_
  refine E_sld d_L_law_1182 h (fun x230 h => ?_)
  refine bd h (fun r231 q232 h => ?_)
  refine E_cV (as := [(0, x229), (0, x230)]) (st := [(0, r227.1)]) (a := v2) d_L_law_1183 mk_X12_verdict nl_L_138 (by omega) ⟨rfl, rfl, Nat.le_of_ble_eq_true rfl⟩ okX12 rfl (L_X12_verdict q232) ?_
  refine E_icmp_eq (tgt := 1890) d_L_law_1186 (by decide) h (fun _ h => ?_) (fun _ h => ?_)
  · exact (L_L_law_b1890 hL hk18 h)
  · refine E_iconst d_L_law_1189 (c32 rfl) ?_
    cases h
noncomputable def f_L_law_b1191 (sc : Nat × (Nat → Int32)) (k18 : (Int → Int → Int → Mem → Option Int)) (v1 v2 v3 : Int) (σ : Mem) : Option Int :=
  (sl sc (w32 (v3 + 1))).bind fun x219 =>
  (f_X11_stand v1 x219 σ).bind fun r220 =>
  (sl sc (w32 (v3 + 1))).bind fun x222 =>
  (f_X12_stand v2 x222 r220.2).bind fun r223 =>
  if r220.1 = r223.1 then
    f_L_law_b1890 sc k18 v1 v2 v3 r223.2
  else
    some 0
theorem L_L_law_b1191 {sc : Nat × (Nat → Int32)} (hL : (sc.1 : Int) ≤ 2147483647) {k18 : (Int → Int → Int → Mem → Option Int)} (hk18 : ∀ {v1 v2 v3 : Int} {σ : Mem}, k18 v1 v2 v3 σ = some 1 → E sc FLw mt_L_law 1000 [] Sh 18 [(3, 0), (2, v1), (2, v2), (0, v3)] [] Sh σ) {v1 v2 v3 : Int} {σ : Mem} (h : f_L_law_b1191 sc k18 v1 v2 v3 σ = some 1) : E sc FLw mt_L_law 1000 [] Sh 1191 [(3, 0), (2, v1), (2, v2), (0, v3)] [] Sh σ := by
  unfold f_L_law_b1191 at h
  refine E_aload_n d_L_law_1191 rfl (by decide) ?_
  refine E_aload_n d_L_law_1192 rfl (by decide) ?_
  refine E_iload_n d_L_law_1193 rfl ?_
  refine E_iconst d_L_law_1194 (c32 rfl) ?_
  refine E_iadd d_L_law_1195 ?_
  refine E_sld d_L_law_1196 h (fun x219 h => ?_)
  refine bd h (fun r220 q221 h => ?_)
  refine E_cV (as := [(0, x219)]) (st := []) (a := v1) d_L_law_1197 mk_X11_stand nl_L_139 (by omega) ⟨rfl, rfl, Nat.le_of_ble_eq_true rfl⟩ okX11 rfl (L_X11_stand q221) ?_
  refine E_aload_n d_L_law_1200 rfl (by decide) ?_
  refine E_aload_n d_L_law_1201 rfl (by decide) ?_
  refine E_iload_n d_L_law_1202 rfl ?_
  refine E_iconst d_L_law_1203 (c32 rfl) ?_
  refine E_iadd d_L_law_1204 ?_
  refine E_sld d_L_law_1205 h (fun x222 h => ?_)
  refine bd h (fun r223 q224 h => ?_)
  refine E_cV (as := [(0, x222)]) (st := [(0, r220.1)]) (a := v2) d_L_law_1206 mk_X12_stand nl_L_142 (by omega) ⟨rfl, rfl, Nat.le_of_ble_eq_true rfl⟩ okX12 rfl (L_X12_stand q224) ?_
  refine E_icmp_eq (tgt := 1890) d_L_law_1209 (by decide) h (fun _ h => ?_) (fun _ h => ?_)
  · exact (L_L_law_b1890 hL hk18 h)
  · refine E_iconst d_L_law_1212 (c32 rfl) ?_
    cases h
noncomputable def f_L_law_b1214 (sc : Nat × (Nat → Int32)) (k18 : (Int → Int → Int → Mem → Option Int)) (v1 v2 v3 : Int) (σ : Mem) : Option Int :=
  (sl sc (w32 (v3 + 1))).bind fun x213 =>
  (f_X11_fall v1 x213 σ).bind fun r214 =>
  (sl sc (w32 (v3 + 1))).bind fun x216 =>
  (f_X12_fall v2 x216 r214.2).bind fun r217 =>
  if r214.1 = r217.1 then
    f_L_law_b1890 sc k18 v1 v2 v3 r217.2
  else
    some 0
theorem L_L_law_b1214 {sc : Nat × (Nat → Int32)} (hL : (sc.1 : Int) ≤ 2147483647) {k18 : (Int → Int → Int → Mem → Option Int)} (hk18 : ∀ {v1 v2 v3 : Int} {σ : Mem}, k18 v1 v2 v3 σ = some 1 → E sc FLw mt_L_law 1000 [] Sh 18 [(3, 0), (2, v1), (2, v2), (0, v3)] [] Sh σ) {v1 v2 v3 : Int} {σ : Mem} (h : f_L_law_b1214 sc k18 v1 v2 v3 σ = some 1) : E sc FLw mt_L_law 1000 [] Sh 1214 [(3, 0), (2, v1), (2, v2), (0, v3)] [] Sh σ := by
  unfold f_L_law_b1214 at h
  refine E_aload_n d_L_law_1214 rfl (by decide) ?_
  refine E_aload_n d_L_law_1215 rfl (by decide) ?_
  refine E_iload_n d_L_law_1216 rfl ?_
  refine E_iconst d_L_law_1217 (c32 rfl) ?_
  refine E_iadd d_L_law_1218 ?_
  refine E_sld d_L_law_1219 h (fun x213 h => ?_)
  refine bd h (fun r214 q215 h => ?_)
  refine E_cV (as := [(0, x213)]) (st := []) (a := v1) d_L_law_1220 mk_X11_fall nl_L_143 (by omega) ⟨rfl, rfl, Nat.le_of_ble_eq_true rfl⟩ okX11 rfl (L_X11_fall q215) ?_
  refine E_aload_n d_L_law_1223 rfl (by decide) ?_
  refine E_aload_n d_L_law_1224 rfl (by decide) ?_
  refine E_iload_n d_L_law_1225 rfl ?_
  refine E_iconst d_L_law_1226 (c32 rfl) ?_
  refine E_iadd d_L_law_1227 ?_
  refine E_sld d_L_law_1228 h (fun x216 h => ?_)
  refine bd h (fun r217 q218 h => ?_)
  refine E_cV (as := [(0, x216)]) (st := [(0, r214.1)]) (a := v2) d_L_law_1229 mk_X12_fall nl_L_146 (by omega) ⟨rfl, rfl, Nat.le_of_ble_eq_true rfl⟩ okX12 rfl (L_X12_fall q218) ?_
  refine E_icmp_eq (tgt := 1890) d_L_law_1232 (by decide) h (fun _ h => ?_) (fun _ h => ?_)
  · exact (L_L_law_b1890 hL hk18 h)
  · refine E_iconst d_L_law_1235 (c32 rfl) ?_
    cases h
noncomputable def f_L_law_b1237 (sc : Nat × (Nat → Int32)) (k18 : (Int → Int → Int → Mem → Option Int)) (v1 v2 v3 : Int) (σ : Mem) : Option Int :=
  (sl sc (w32 (v3 + 1))).bind fun x207 =>
  (f_X11_least v1 x207 σ).bind fun r208 =>
  (sl sc (w32 (v3 + 1))).bind fun x210 =>
  (f_X12_least v2 x210 r208.2).bind fun r211 =>
  if r208.1 = r211.1 then
    f_L_law_b1890 sc k18 v1 v2 v3 r211.2
  else
    some 0
theorem L_L_law_b1237 {sc : Nat × (Nat → Int32)} (hL : (sc.1 : Int) ≤ 2147483647) {k18 : (Int → Int → Int → Mem → Option Int)} (hk18 : ∀ {v1 v2 v3 : Int} {σ : Mem}, k18 v1 v2 v3 σ = some 1 → E sc FLw mt_L_law 1000 [] Sh 18 [(3, 0), (2, v1), (2, v2), (0, v3)] [] Sh σ) {v1 v2 v3 : Int} {σ : Mem} (h : f_L_law_b1237 sc k18 v1 v2 v3 σ = some 1) : E sc FLw mt_L_law 1000 [] Sh 1237 [(3, 0), (2, v1), (2, v2), (0, v3)] [] Sh σ := by
  unfold f_L_law_b1237 at h
  refine E_aload_n d_L_law_1237 rfl (by decide) ?_
  refine E_aload_n d_L_law_1238 rfl (by decide) ?_
  refine E_iload_n d_L_law_1239 rfl ?_
  refine E_iconst d_L_law_1240 (c32 rfl) ?_
  refine E_iadd d_L_law_1241 ?_
  refine E_sld d_L_law_1242 h (fun x207 h => ?_)
  refine bd h (fun r208 q209 h => ?_)
  refine E_cV (as := [(0, x207)]) (st := []) (a := v1) d_L_law_1243 mk_X11_least nl_L_147 (by omega) ⟨rfl, rfl, Nat.le_of_ble_eq_true rfl⟩ okX11 rfl (L_X11_least q209) ?_
  refine E_aload_n d_L_law_1246 rfl (by decide) ?_
  refine E_aload_n d_L_law_1247 rfl (by decide) ?_
  refine E_iload_n d_L_law_1248 rfl ?_
  refine E_iconst d_L_law_1249 (c32 rfl) ?_
  refine E_iadd d_L_law_1250 ?_
  refine E_sld d_L_law_1251 h (fun x210 h => ?_)
  refine bd h (fun r211 q212 h => ?_)
  refine E_cV (as := [(0, x210)]) (st := [(0, r208.1)]) (a := v2) d_L_law_1252 mk_X12_least nl_L_150 (by omega) ⟨rfl, rfl, Nat.le_of_ble_eq_true rfl⟩ okX12 rfl (L_X12_least q212) ?_
  refine E_icmp_eq (tgt := 1890) d_L_law_1255 (by decide) h (fun _ h => ?_) (fun _ h => ?_)
  · exact (L_L_law_b1890 hL hk18 h)
  · refine E_iconst d_L_law_1258 (c32 rfl) ?_
    cases h
noncomputable def f_L_law_b1260 (sc : Nat × (Nat → Int32)) (k18 : (Int → Int → Int → Mem → Option Int)) (v1 v2 v3 : Int) (σ : Mem) : Option Int :=
  (sl sc (w32 (v3 + 1))).bind fun x199 =>
  (sl sc (w32 (v3 + 2))).bind fun x200 =>
  (f_X11_freeIn v1 x199 x200 σ).bind fun r201 =>
  (sl sc (w32 (v3 + 1))).bind fun x203 =>
  (sl sc (w32 (v3 + 2))).bind fun x204 =>
  (f_X12_freeIn v2 x203 x204 r201.2).bind fun r205 =>
  if r201.1 = r205.1 then
    f_L_law_b1890 sc k18 v1 v2 v3 r205.2
  else
    some 0
theorem L_L_law_b1260 {sc : Nat × (Nat → Int32)} (hL : (sc.1 : Int) ≤ 2147483647) {k18 : (Int → Int → Int → Mem → Option Int)} (hk18 : ∀ {v1 v2 v3 : Int} {σ : Mem}, k18 v1 v2 v3 σ = some 1 → E sc FLw mt_L_law 1000 [] Sh 18 [(3, 0), (2, v1), (2, v2), (0, v3)] [] Sh σ) {v1 v2 v3 : Int} {σ : Mem} (h : f_L_law_b1260 sc k18 v1 v2 v3 σ = some 1) : E sc FLw mt_L_law 1000 [] Sh 1260 [(3, 0), (2, v1), (2, v2), (0, v3)] [] Sh σ := by
  unfold f_L_law_b1260 at h
  refine E_aload_n d_L_law_1260 rfl (by decide) ?_
  refine E_aload_n d_L_law_1261 rfl (by decide) ?_
  refine E_iload_n d_L_law_1262 rfl ?_
  refine E_iconst d_L_law_1263 (c32 rfl) ?_
  refine E_iadd d_L_law_1264 ?_
  refine E_sld d_L_law_1265 h (fun x199 h => ?_)
  refine E_aload_n d_L_law_1266 rfl (by decide) ?_
  refine E_iload_n d_L_law_1267 rfl ?_
  refine E_iconst d_L_law_1268 (c32 rfl) ?_
  refine E_iadd d_L_law_1269 ?_
  refine E_sld d_L_law_1270 h (fun x200 h => ?_)
  refine bd h (fun r201 q202 h => ?_)
  refine E_cV (as := [(0, x199), (0, x200)]) (st := []) (a := v1) d_L_law_1271 mk_X11_freeIn nl_L_151 (by omega) ⟨rfl, rfl, Nat.le_of_ble_eq_true rfl⟩ okX11 rfl (L_X11_freeIn q202) ?_
  refine E_aload_n d_L_law_1274 rfl (by decide) ?_
  refine E_aload_n d_L_law_1275 rfl (by decide) ?_
  refine E_iload_n d_L_law_1276 rfl ?_
  refine E_iconst d_L_law_1277 (c32 rfl) ?_
  refine E_iadd d_L_law_1278 ?_
  refine E_sld d_L_law_1279 h (fun x203 h => ?_)
  refine E_aload_n d_L_law_1280 rfl (by decide) ?_
  refine E_iload_n d_L_law_1281 rfl ?_
  refine E_iconst d_L_law_1282 (c32 rfl) ?_
  refine E_iadd d_L_law_1283 ?_
  refine E_sld d_L_law_1284 h (fun x204 h => ?_)
  refine bd h (fun r205 q206 h => ?_)
  refine E_cV (as := [(0, x203), (0, x204)]) (st := [(0, r201.1)]) (a := v2) d_L_law_1285 mk_X12_freeIn nl_L_154 (by omega) ⟨rfl, rfl, Nat.le_of_ble_eq_true rfl⟩ okX12 rfl (L_X12_freeIn q206) ?_
  refine E_icmp_eq (tgt := 1890) d_L_law_1288 (by decide) h (fun _ h => ?_) (fun _ h => ?_)
  · exact (L_L_law_b1890 hL hk18 h)
  · refine E_iconst d_L_law_1291 (c32 rfl) ?_
    cases h
noncomputable def f_L_law_b1293 (sc : Nat × (Nat → Int32)) (k18 : (Int → Int → Int → Mem → Option Int)) (v1 v2 v3 : Int) (σ : Mem) : Option Int :=
  (sl sc (w32 (v3 + 1))).bind fun x191 =>
  (sl sc (w32 (v3 + 2))).bind fun x192 =>
  (f_X11_fits v1 x191 x192 σ).bind fun r193 =>
  (sl sc (w32 (v3 + 1))).bind fun x195 =>
  (sl sc (w32 (v3 + 2))).bind fun x196 =>
  (f_X12_fits v2 x195 x196 r193.2).bind fun r197 =>
  if r193.1 = r197.1 then
    f_L_law_b1890 sc k18 v1 v2 v3 r197.2
  else
    some 0
theorem L_L_law_b1293 {sc : Nat × (Nat → Int32)} (hL : (sc.1 : Int) ≤ 2147483647) {k18 : (Int → Int → Int → Mem → Option Int)} (hk18 : ∀ {v1 v2 v3 : Int} {σ : Mem}, k18 v1 v2 v3 σ = some 1 → E sc FLw mt_L_law 1000 [] Sh 18 [(3, 0), (2, v1), (2, v2), (0, v3)] [] Sh σ) {v1 v2 v3 : Int} {σ : Mem} (h : f_L_law_b1293 sc k18 v1 v2 v3 σ = some 1) : E sc FLw mt_L_law 1000 [] Sh 1293 [(3, 0), (2, v1), (2, v2), (0, v3)] [] Sh σ := by
  unfold f_L_law_b1293 at h
  refine E_aload_n d_L_law_1293 rfl (by decide) ?_
  refine E_aload_n d_L_law_1294 rfl (by decide) ?_
  refine E_iload_n d_L_law_1295 rfl ?_
  refine E_iconst d_L_law_1296 (c32 rfl) ?_
  refine E_iadd d_L_law_1297 ?_
  refine E_sld d_L_law_1298 h (fun x191 h => ?_)
  refine E_aload_n d_L_law_1299 rfl (by decide) ?_
  refine E_iload_n d_L_law_1300 rfl ?_
  refine E_iconst d_L_law_1301 (c32 rfl) ?_
  refine E_iadd d_L_law_1302 ?_
  refine E_sld d_L_law_1303 h (fun x192 h => ?_)
  refine bd h (fun r193 q194 h => ?_)
  refine E_cV (as := [(0, x191), (0, x192)]) (st := []) (a := v1) d_L_law_1304 mk_X11_fits nl_L_155 (by omega) ⟨rfl, rfl, Nat.le_of_ble_eq_true rfl⟩ okX11 rfl (L_X11_fits q194) ?_
  refine E_aload_n d_L_law_1307 rfl (by decide) ?_
  refine E_aload_n d_L_law_1308 rfl (by decide) ?_
  refine E_iload_n d_L_law_1309 rfl ?_
  refine E_iconst d_L_law_1310 (c32 rfl) ?_
  refine E_iadd d_L_law_1311 ?_
  refine E_sld d_L_law_1312 h (fun x195 h => ?_)
  refine E_aload_n d_L_law_1313 rfl (by decide) ?_
  refine E_iload_n d_L_law_1314 rfl ?_
  refine E_iconst d_L_law_1315 (c32 rfl) ?_
  refine E_iadd d_L_law_1316 ?_
  refine E_sld d_L_law_1317 h (fun x196 h => ?_)
  refine bd h (fun r197 q198 h => ?_)
  refine E_cV (as := [(0, x195), (0, x196)]) (st := [(0, r193.1)]) (a := v2) d_L_law_1318 mk_X12_fits nl_L_158 (by omega) ⟨rfl, rfl, Nat.le_of_ble_eq_true rfl⟩ okX12 rfl (L_X12_fits q198) ?_
  refine E_icmp_eq (tgt := 1890) d_L_law_1321 (by decide) h (fun _ h => ?_) (fun _ h => ?_)
  · exact (L_L_law_b1890 hL hk18 h)
  · refine E_iconst d_L_law_1324 (c32 rfl) ?_
    cases h
noncomputable def f_L_law_b1326 (sc : Nat × (Nat → Int32)) (k18 : (Int → Int → Int → Mem → Option Int)) (v1 v2 v3 : Int) (σ : Mem) : Option Int :=
  (sl sc (w32 (v3 + 1))).bind fun x181 =>
  (sl sc (w32 (v3 + 2))).bind fun x182 =>
  (sl sc (w32 (v3 + 3))).bind fun x183 =>
  (f_X11_fitsBy v1 x181 x182 x183 σ).bind fun r184 =>
  (sl sc (w32 (v3 + 1))).bind fun x186 =>
  (sl sc (w32 (v3 + 2))).bind fun x187 =>
  (sl sc (w32 (v3 + 3))).bind fun x188 =>
  (f_X12_fitsBy v2 x186 x187 x188 r184.2).bind fun r189 =>
  if r184.1 = r189.1 then
    f_L_law_b1890 sc k18 v1 v2 v3 r189.2
  else
    some 0
theorem L_L_law_b1326 {sc : Nat × (Nat → Int32)} (hL : (sc.1 : Int) ≤ 2147483647) {k18 : (Int → Int → Int → Mem → Option Int)} (hk18 : ∀ {v1 v2 v3 : Int} {σ : Mem}, k18 v1 v2 v3 σ = some 1 → E sc FLw mt_L_law 1000 [] Sh 18 [(3, 0), (2, v1), (2, v2), (0, v3)] [] Sh σ) {v1 v2 v3 : Int} {σ : Mem} (h : f_L_law_b1326 sc k18 v1 v2 v3 σ = some 1) : E sc FLw mt_L_law 1000 [] Sh 1326 [(3, 0), (2, v1), (2, v2), (0, v3)] [] Sh σ := by
  unfold f_L_law_b1326 at h
  refine E_aload_n d_L_law_1326 rfl (by decide) ?_
  refine E_aload_n d_L_law_1327 rfl (by decide) ?_
  refine E_iload_n d_L_law_1328 rfl ?_
  refine E_iconst d_L_law_1329 (c32 rfl) ?_
  refine E_iadd d_L_law_1330 ?_
  refine E_sld d_L_law_1331 h (fun x181 h => ?_)
  refine E_aload_n d_L_law_1332 rfl (by decide) ?_
  refine E_iload_n d_L_law_1333 rfl ?_
  refine E_iconst d_L_law_1334 (c32 rfl) ?_
  refine E_iadd d_L_law_1335 ?_
  refine E_sld d_L_law_1336 h (fun x182 h => ?_)
  refine E_aload_n d_L_law_1337 rfl (by decide) ?_
  refine E_iload_n d_L_law_1338 rfl ?_
  refine E_iconst d_L_law_1339 (c32 rfl) ?_
  refine E_iadd d_L_law_1340 ?_
  refine E_sld d_L_law_1341 h (fun x183 h => ?_)
  refine bd h (fun r184 q185 h => ?_)
  refine E_cV (as := [(0, x181), (0, x182), (0, x183)]) (st := []) (a := v1) d_L_law_1342 mk_X11_fitsBy nl_L_159 (by omega) ⟨rfl, rfl, Nat.le_of_ble_eq_true rfl⟩ okX11 rfl (L_X11_fitsBy q185) ?_
  refine E_aload_n d_L_law_1345 rfl (by decide) ?_
  refine E_aload_n d_L_law_1346 rfl (by decide) ?_
  refine E_iload_n d_L_law_1347 rfl ?_
  refine E_iconst d_L_law_1348 (c32 rfl) ?_
  refine E_iadd d_L_law_1349 ?_
  refine E_sld d_L_law_1350 h (fun x186 h => ?_)
  refine E_aload_n d_L_law_1351 rfl (by decide) ?_
  refine E_iload_n d_L_law_1352 rfl ?_
  refine E_iconst d_L_law_1353 (c32 rfl) ?_
  refine E_iadd d_L_law_1354 ?_
  refine E_sld d_L_law_1355 h (fun x187 h => ?_)
  refine E_aload_n d_L_law_1356 rfl (by decide) ?_
  refine E_iload_n d_L_law_1357 rfl ?_
  refine E_iconst d_L_law_1358 (c32 rfl) ?_
  refine E_iadd d_L_law_1359 ?_
  refine E_sld d_L_law_1360 h (fun x188 h => ?_)
  refine bd h (fun r189 q190 h => ?_)
  refine E_cV (as := [(0, x186), (0, x187), (0, x188)]) (st := [(0, r184.1)]) (a := v2) d_L_law_1361 mk_X12_fitsBy nl_L_163 (by omega) ⟨rfl, rfl, Nat.le_of_ble_eq_true rfl⟩ okX12 rfl (L_X12_fitsBy q190) ?_
  refine E_icmp_eq (tgt := 1890) d_L_law_1364 (by decide) h (fun _ h => ?_) (fun _ h => ?_)
  · exact (L_L_law_b1890 hL hk18 h)
  · refine E_iconst d_L_law_1367 (c32 rfl) ?_
    cases h
noncomputable def f_L_law_b1369 (sc : Nat × (Nat → Int32)) (k18 : (Int → Int → Int → Mem → Option Int)) (v1 v2 v3 : Int) (σ : Mem) : Option Int :=
  (sl sc (w32 (v3 + 1))).bind fun x171 =>
  (sl sc (w32 (v3 + 2))).bind fun x172 =>
  (sl sc (w32 (v3 + 3))).bind fun x173 =>
  (f_X11_ask v1 x171 x172 x173 σ).bind fun r174 =>
  (sl sc (w32 (v3 + 1))).bind fun x176 =>
  (sl sc (w32 (v3 + 2))).bind fun x177 =>
  (sl sc (w32 (v3 + 3))).bind fun x178 =>
  (f_X12_ask v2 x176 x177 x178 r174.2).bind fun r179 =>
  if r174.1 = r179.1 then
    f_L_law_b1890 sc k18 v1 v2 v3 r179.2
  else
    some 0
theorem L_L_law_b1369 {sc : Nat × (Nat → Int32)} (hL : (sc.1 : Int) ≤ 2147483647) {k18 : (Int → Int → Int → Mem → Option Int)} (hk18 : ∀ {v1 v2 v3 : Int} {σ : Mem}, k18 v1 v2 v3 σ = some 1 → E sc FLw mt_L_law 1000 [] Sh 18 [(3, 0), (2, v1), (2, v2), (0, v3)] [] Sh σ) {v1 v2 v3 : Int} {σ : Mem} (h : f_L_law_b1369 sc k18 v1 v2 v3 σ = some 1) : E sc FLw mt_L_law 1000 [] Sh 1369 [(3, 0), (2, v1), (2, v2), (0, v3)] [] Sh σ := by
  unfold f_L_law_b1369 at h
  refine E_aload_n d_L_law_1369 rfl (by decide) ?_
  refine E_aload_n d_L_law_1370 rfl (by decide) ?_
  refine E_iload_n d_L_law_1371 rfl ?_
  refine E_iconst d_L_law_1372 (c32 rfl) ?_
  refine E_iadd d_L_law_1373 ?_
  refine E_sld d_L_law_1374 h (fun x171 h => ?_)
  refine E_aload_n d_L_law_1375 rfl (by decide) ?_
  refine E_iload_n d_L_law_1376 rfl ?_
  refine E_iconst d_L_law_1377 (c32 rfl) ?_
  refine E_iadd d_L_law_1378 ?_
  refine E_sld d_L_law_1379 h (fun x172 h => ?_)
  refine E_aload_n d_L_law_1380 rfl (by decide) ?_
  refine E_iload_n d_L_law_1381 rfl ?_
  refine E_iconst d_L_law_1382 (c32 rfl) ?_
  refine E_iadd d_L_law_1383 ?_
  refine E_sld d_L_law_1384 h (fun x173 h => ?_)
  refine bd h (fun r174 q175 h => ?_)
  refine E_cV (as := [(0, x171), (0, x172), (0, x173)]) (st := []) (a := v1) d_L_law_1385 mk_X11_ask nl_L_164 (by omega) ⟨rfl, rfl, Nat.le_of_ble_eq_true rfl⟩ okX11 rfl (L_X11_ask q175) ?_
  refine E_aload_n d_L_law_1388 rfl (by decide) ?_
  refine E_aload_n d_L_law_1389 rfl (by decide) ?_
  refine E_iload_n d_L_law_1390 rfl ?_
  refine E_iconst d_L_law_1391 (c32 rfl) ?_
  refine E_iadd d_L_law_1392 ?_
  refine E_sld d_L_law_1393 h (fun x176 h => ?_)
  refine E_aload_n d_L_law_1394 rfl (by decide) ?_
  refine E_iload_n d_L_law_1395 rfl ?_
  refine E_iconst d_L_law_1396 (c32 rfl) ?_
  refine E_iadd d_L_law_1397 ?_
  refine E_sld d_L_law_1398 h (fun x177 h => ?_)
  refine E_aload_n d_L_law_1399 rfl (by decide) ?_
  refine E_iload_n d_L_law_1400 rfl ?_
  refine E_iconst d_L_law_1401 (c32 rfl) ?_
  refine E_iadd d_L_law_1402 ?_
  refine E_sld d_L_law_1403 h (fun x178 h => ?_)
  refine bd h (fun r179 q180 h => ?_)
  refine E_cV (as := [(0, x176), (0, x177), (0, x178)]) (st := [(0, r174.1)]) (a := v2) d_L_law_1404 mk_X12_ask nl_L_167 (by omega) ⟨rfl, rfl, Nat.le_of_ble_eq_true rfl⟩ okX12 rfl (L_X12_ask q180) ?_
  refine E_icmp_eq (tgt := 1890) d_L_law_1407 (by decide) h (fun _ h => ?_) (fun _ h => ?_)
  · exact (L_L_law_b1890 hL hk18 h)
  · refine E_iconst d_L_law_1410 (c32 rfl) ?_
    cases h
noncomputable def f_L_law_b1412 (sc : Nat × (Nat → Int32)) (k18 : (Int → Int → Int → Mem → Option Int)) (v1 v2 v3 : Int) (σ : Mem) : Option Int :=
  (sl sc (w32 (v3 + 1))).bind fun x163 =>
  (sl sc (w32 (v3 + 2))).bind fun x164 =>
  (f_X11_cuts v1 x163 x164 σ).bind fun r165 =>
  (sl sc (w32 (v3 + 1))).bind fun x167 =>
  (sl sc (w32 (v3 + 2))).bind fun x168 =>
  (f_X12_cuts v2 x167 x168 r165.2).bind fun r169 =>
  if r165.1 = r169.1 then
    f_L_law_b1890 sc k18 v1 v2 v3 r169.2
  else
    some 0
theorem L_L_law_b1412 {sc : Nat × (Nat → Int32)} (hL : (sc.1 : Int) ≤ 2147483647) {k18 : (Int → Int → Int → Mem → Option Int)} (hk18 : ∀ {v1 v2 v3 : Int} {σ : Mem}, k18 v1 v2 v3 σ = some 1 → E sc FLw mt_L_law 1000 [] Sh 18 [(3, 0), (2, v1), (2, v2), (0, v3)] [] Sh σ) {v1 v2 v3 : Int} {σ : Mem} (h : f_L_law_b1412 sc k18 v1 v2 v3 σ = some 1) : E sc FLw mt_L_law 1000 [] Sh 1412 [(3, 0), (2, v1), (2, v2), (0, v3)] [] Sh σ := by
  unfold f_L_law_b1412 at h
  refine E_aload_n d_L_law_1412 rfl (by decide) ?_
  refine E_aload_n d_L_law_1413 rfl (by decide) ?_
  refine E_iload_n d_L_law_1414 rfl ?_
  refine E_iconst d_L_law_1415 (c32 rfl) ?_
  refine E_iadd d_L_law_1416 ?_
  refine E_sld d_L_law_1417 h (fun x163 h => ?_)
  refine E_aload_n d_L_law_1418 rfl (by decide) ?_
  refine E_iload_n d_L_law_1419 rfl ?_
  refine E_iconst d_L_law_1420 (c32 rfl) ?_
  refine E_iadd d_L_law_1421 ?_
  refine E_sld d_L_law_1422 h (fun x164 h => ?_)
  refine bd h (fun r165 q166 h => ?_)
  refine E_cV (as := [(0, x163), (0, x164)]) (st := []) (a := v1) d_L_law_1423 mk_X11_cuts nl_L_168 (by omega) ⟨rfl, rfl, Nat.le_of_ble_eq_true rfl⟩ okX11 rfl (L_X11_cuts q166) ?_
  refine E_aload_n d_L_law_1426 rfl (by decide) ?_
  refine E_aload_n d_L_law_1427 rfl (by decide) ?_
  refine E_iload_n d_L_law_1428 rfl ?_
  refine E_iconst d_L_law_1429 (c32 rfl) ?_
  refine E_iadd d_L_law_1430 ?_
  refine E_sld d_L_law_1431 h (fun x167 h => ?_)
  refine E_aload_n d_L_law_1432 rfl (by decide) ?_
  refine E_iload_n d_L_law_1433 rfl ?_
  refine E_iconst d_L_law_1434 (c32 rfl) ?_
  refine E_iadd d_L_law_1435 ?_
  refine E_sld d_L_law_1436 h (fun x168 h => ?_)
  refine bd h (fun r169 q170 h => ?_)
  refine E_cV (as := [(0, x167), (0, x168)]) (st := [(0, r165.1)]) (a := v2) d_L_law_1437 mk_X12_cuts nl_L_171 (by omega) ⟨rfl, rfl, Nat.le_of_ble_eq_true rfl⟩ okX12 rfl (L_X12_cuts q170) ?_
  refine E_icmp_eq (tgt := 1890) d_L_law_1440 (by decide) h (fun _ h => ?_) (fun _ h => ?_)
  · exact (L_L_law_b1890 hL hk18 h)
  · refine E_iconst d_L_law_1443 (c32 rfl) ?_
    cases h
noncomputable def f_L_law_b1445 (sc : Nat × (Nat → Int32)) (k18 : (Int → Int → Int → Mem → Option Int)) (v1 v2 v3 : Int) (σ : Mem) : Option Int :=
  (sl sc (w32 (v3 + 1))).bind fun x153 =>
  (sl sc (w32 (v3 + 2))).bind fun x154 =>
  (sl sc (w32 (v3 + 3))).bind fun x155 =>
  (f_X11_cutOf v1 x153 x154 x155 σ).bind fun r156 =>
  (sl sc (w32 (v3 + 1))).bind fun x158 =>
  (sl sc (w32 (v3 + 2))).bind fun x159 =>
  (sl sc (w32 (v3 + 3))).bind fun x160 =>
  (f_X12_cutOf v2 x158 x159 x160 r156.2).bind fun r161 =>
  if r156.1 = r161.1 then
    f_L_law_b1890 sc k18 v1 v2 v3 r161.2
  else
    some 0
theorem L_L_law_b1445 {sc : Nat × (Nat → Int32)} (hL : (sc.1 : Int) ≤ 2147483647) {k18 : (Int → Int → Int → Mem → Option Int)} (hk18 : ∀ {v1 v2 v3 : Int} {σ : Mem}, k18 v1 v2 v3 σ = some 1 → E sc FLw mt_L_law 1000 [] Sh 18 [(3, 0), (2, v1), (2, v2), (0, v3)] [] Sh σ) {v1 v2 v3 : Int} {σ : Mem} (h : f_L_law_b1445 sc k18 v1 v2 v3 σ = some 1) : E sc FLw mt_L_law 1000 [] Sh 1445 [(3, 0), (2, v1), (2, v2), (0, v3)] [] Sh σ := by
  unfold f_L_law_b1445 at h
  refine E_aload_n d_L_law_1445 rfl (by decide) ?_
  refine E_aload_n d_L_law_1446 rfl (by decide) ?_
  refine E_iload_n d_L_law_1447 rfl ?_
  refine E_iconst d_L_law_1448 (c32 rfl) ?_
  refine E_iadd d_L_law_1449 ?_
  refine E_sld d_L_law_1450 h (fun x153 h => ?_)
  refine E_aload_n d_L_law_1451 rfl (by decide) ?_
  refine E_iload_n d_L_law_1452 rfl ?_
  refine E_iconst d_L_law_1453 (c32 rfl) ?_
  refine E_iadd d_L_law_1454 ?_
  refine E_sld d_L_law_1455 h (fun x154 h => ?_)
  refine E_aload_n d_L_law_1456 rfl (by decide) ?_
  refine E_iload_n d_L_law_1457 rfl ?_
  refine E_iconst d_L_law_1458 (c32 rfl) ?_
  refine E_iadd d_L_law_1459 ?_
  refine E_sld d_L_law_1460 h (fun x155 h => ?_)
  refine bd h (fun r156 q157 h => ?_)
  refine E_cV (as := [(0, x153), (0, x154), (0, x155)]) (st := []) (a := v1) d_L_law_1461 mk_X11_cutOf nl_L_172 (by omega) ⟨rfl, rfl, Nat.le_of_ble_eq_true rfl⟩ okX11 rfl (L_X11_cutOf q157) ?_
  refine E_aload_n d_L_law_1464 rfl (by decide) ?_
  refine E_aload_n d_L_law_1465 rfl (by decide) ?_
  refine E_iload_n d_L_law_1466 rfl ?_
  refine E_iconst d_L_law_1467 (c32 rfl) ?_
  refine E_iadd d_L_law_1468 ?_
  refine E_sld d_L_law_1469 h (fun x158 h => ?_)
  refine E_aload_n d_L_law_1470 rfl (by decide) ?_
  refine E_iload_n d_L_law_1471 rfl ?_
  refine E_iconst d_L_law_1472 (c32 rfl) ?_
  refine E_iadd d_L_law_1473 ?_
  refine E_sld d_L_law_1474 h (fun x159 h => ?_)
  refine E_aload_n d_L_law_1475 rfl (by decide) ?_
  refine E_iload_n d_L_law_1476 rfl ?_
  refine E_iconst d_L_law_1477 (c32 rfl) ?_
  refine E_iadd d_L_law_1478 ?_
  refine E_sld d_L_law_1479 h (fun x160 h => ?_)
  refine bd h (fun r161 q162 h => ?_)
  refine E_cV (as := [(0, x158), (0, x159), (0, x160)]) (st := [(0, r156.1)]) (a := v2) d_L_law_1480 mk_X12_cutOf nl_L_175 (by omega) ⟨rfl, rfl, Nat.le_of_ble_eq_true rfl⟩ okX12 rfl (L_X12_cutOf q162) ?_
  refine E_icmp_eq (tgt := 1890) d_L_law_1483 (by decide) h (fun _ h => ?_) (fun _ h => ?_)
  · exact (L_L_law_b1890 hL hk18 h)
  · refine E_iconst d_L_law_1486 (c32 rfl) ?_
    cases h
noncomputable def f_L_law_b1488 (sc : Nat × (Nat → Int32)) (k18 : (Int → Int → Int → Mem → Option Int)) (v1 v2 v3 : Int) (σ : Mem) : Option Int :=
  (sl sc (w32 (v3 + 1))).bind fun x145 =>
  (sl sc (w32 (v3 + 2))).bind fun x146 =>
  (f_X11_windows v1 x145 x146 σ).bind fun r147 =>
  (sl sc (w32 (v3 + 1))).bind fun x149 =>
  (sl sc (w32 (v3 + 2))).bind fun x150 =>
  (f_X12_windows v2 x149 x150 r147.2).bind fun r151 =>
  if r147.1 = r151.1 then
    f_L_law_b1890 sc k18 v1 v2 v3 r151.2
  else
    some 0
theorem L_L_law_b1488 {sc : Nat × (Nat → Int32)} (hL : (sc.1 : Int) ≤ 2147483647) {k18 : (Int → Int → Int → Mem → Option Int)} (hk18 : ∀ {v1 v2 v3 : Int} {σ : Mem}, k18 v1 v2 v3 σ = some 1 → E sc FLw mt_L_law 1000 [] Sh 18 [(3, 0), (2, v1), (2, v2), (0, v3)] [] Sh σ) {v1 v2 v3 : Int} {σ : Mem} (h : f_L_law_b1488 sc k18 v1 v2 v3 σ = some 1) : E sc FLw mt_L_law 1000 [] Sh 1488 [(3, 0), (2, v1), (2, v2), (0, v3)] [] Sh σ := by
  unfold f_L_law_b1488 at h
  refine E_aload_n d_L_law_1488 rfl (by decide) ?_
  refine E_aload_n d_L_law_1489 rfl (by decide) ?_
  refine E_iload_n d_L_law_1490 rfl ?_
  refine E_iconst d_L_law_1491 (c32 rfl) ?_
  refine E_iadd d_L_law_1492 ?_
  refine E_sld d_L_law_1493 h (fun x145 h => ?_)
  refine E_aload_n d_L_law_1494 rfl (by decide) ?_
  refine E_iload_n d_L_law_1495 rfl ?_
  refine E_iconst d_L_law_1496 (c32 rfl) ?_
  refine E_iadd d_L_law_1497 ?_
  refine E_sld d_L_law_1498 h (fun x146 h => ?_)
  refine bd h (fun r147 q148 h => ?_)
  refine E_cV (as := [(0, x145), (0, x146)]) (st := []) (a := v1) d_L_law_1499 mk_X11_windows nl_L_176 (by omega) ⟨rfl, rfl, Nat.le_of_ble_eq_true rfl⟩ okX11 rfl (L_X11_windows q148) ?_
  refine E_aload_n d_L_law_1502 rfl (by decide) ?_
  refine E_aload_n d_L_law_1503 rfl (by decide) ?_
  refine E_iload_n d_L_law_1504 rfl ?_
  refine E_iconst d_L_law_1505 (c32 rfl) ?_
  refine E_iadd d_L_law_1506 ?_
  refine E_sld d_L_law_1507 h (fun x149 h => ?_)
  refine E_aload_n d_L_law_1508 rfl (by decide) ?_
  refine E_iload_n d_L_law_1509 rfl ?_
  refine E_iconst d_L_law_1510 (c32 rfl) ?_
  refine E_iadd d_L_law_1511 ?_
  refine E_sld d_L_law_1512 h (fun x150 h => ?_)
  refine bd h (fun r151 q152 h => ?_)
  refine E_cV (as := [(0, x149), (0, x150)]) (st := [(0, r147.1)]) (a := v2) d_L_law_1513 mk_X12_windows nl_L_179 (by omega) ⟨rfl, rfl, Nat.le_of_ble_eq_true rfl⟩ okX12 rfl (L_X12_windows q152) ?_
  refine E_icmp_eq (tgt := 1890) d_L_law_1516 (by decide) h (fun _ h => ?_) (fun _ h => ?_)
  · exact (L_L_law_b1890 hL hk18 h)
  · refine E_iconst d_L_law_1519 (c32 rfl) ?_
    cases h
noncomputable def f_L_law_b1521 (sc : Nat × (Nat → Int32)) (k18 : (Int → Int → Int → Mem → Option Int)) (v1 v2 v3 : Int) (σ : Mem) : Option Int :=
  (sl sc (w32 (v3 + 1))).bind fun x137 =>
  (sl sc (w32 (v3 + 2))).bind fun x138 =>
  (f_X11_windowSet v1 x137 x138 σ).bind fun r139 =>
  (sl sc (w32 (v3 + 1))).bind fun x141 =>
  (sl sc (w32 (v3 + 2))).bind fun x142 =>
  (f_X12_windowSet v2 x141 x142 r139.2).bind fun r143 =>
  if r139.1 = r143.1 then
    f_L_law_b1890 sc k18 v1 v2 v3 r143.2
  else
    some 0
theorem L_L_law_b1521 {sc : Nat × (Nat → Int32)} (hL : (sc.1 : Int) ≤ 2147483647) {k18 : (Int → Int → Int → Mem → Option Int)} (hk18 : ∀ {v1 v2 v3 : Int} {σ : Mem}, k18 v1 v2 v3 σ = some 1 → E sc FLw mt_L_law 1000 [] Sh 18 [(3, 0), (2, v1), (2, v2), (0, v3)] [] Sh σ) {v1 v2 v3 : Int} {σ : Mem} (h : f_L_law_b1521 sc k18 v1 v2 v3 σ = some 1) : E sc FLw mt_L_law 1000 [] Sh 1521 [(3, 0), (2, v1), (2, v2), (0, v3)] [] Sh σ := by
  unfold f_L_law_b1521 at h
  refine E_aload_n d_L_law_1521 rfl (by decide) ?_
  refine E_aload_n d_L_law_1522 rfl (by decide) ?_
  refine E_iload_n d_L_law_1523 rfl ?_
  refine E_iconst d_L_law_1524 (c32 rfl) ?_
  refine E_iadd d_L_law_1525 ?_
  refine E_sld d_L_law_1526 h (fun x137 h => ?_)
  refine E_aload_n d_L_law_1527 rfl (by decide) ?_
  refine E_iload_n d_L_law_1528 rfl ?_
  refine E_iconst d_L_law_1529 (c32 rfl) ?_
  refine E_iadd d_L_law_1530 ?_
  refine E_sld d_L_law_1531 h (fun x138 h => ?_)
  refine bd h (fun r139 q140 h => ?_)
  refine E_cV (as := [(0, x137), (0, x138)]) (st := []) (a := v1) d_L_law_1532 mk_X11_windowSet nl_L_180 (by omega) ⟨rfl, rfl, Nat.le_of_ble_eq_true rfl⟩ okX11 rfl (L_X11_windowSet q140) ?_
  refine E_aload_n d_L_law_1535 rfl (by decide) ?_
  refine E_aload_n d_L_law_1536 rfl (by decide) ?_
  refine E_iload_n d_L_law_1537 rfl ?_
  refine E_iconst d_L_law_1538 (c32 rfl) ?_
  refine E_iadd d_L_law_1539 ?_
  refine E_sld d_L_law_1540 h (fun x141 h => ?_)
  refine E_aload_n d_L_law_1541 rfl (by decide) ?_
  refine E_iload_n d_L_law_1542 rfl ?_
  refine E_iconst d_L_law_1543 (c32 rfl) ?_
  refine E_iadd d_L_law_1544 ?_
  refine E_sld d_L_law_1545 h (fun x142 h => ?_)
  refine bd h (fun r143 q144 h => ?_)
  refine E_cV (as := [(0, x141), (0, x142)]) (st := [(0, r139.1)]) (a := v2) d_L_law_1546 mk_X12_windowSet nl_L_183 (by omega) ⟨rfl, rfl, Nat.le_of_ble_eq_true rfl⟩ okX12 rfl (L_X12_windowSet q144) ?_
  refine E_icmp_eq (tgt := 1890) d_L_law_1549 (by decide) h (fun _ h => ?_) (fun _ h => ?_)
  · exact (L_L_law_b1890 hL hk18 h)
  · refine E_iconst d_L_law_1552 (c32 rfl) ?_
    cases h
noncomputable def f_L_law_b1554 (sc : Nat × (Nat → Int32)) (k18 : (Int → Int → Int → Mem → Option Int)) (v1 v2 v3 : Int) (σ : Mem) : Option Int :=
  (sl sc (w32 (v3 + 1))).bind fun x129 =>
  (sl sc (w32 (v3 + 2))).bind fun x130 =>
  (f_X11_walk v1 x129 x130 σ).bind fun r131 =>
  (sl sc (w32 (v3 + 1))).bind fun x133 =>
  (sl sc (w32 (v3 + 2))).bind fun x134 =>
  (f_X12_walk v2 x133 x134 r131.2).bind fun r135 =>
  if r131.1 = r135.1 then
    f_L_law_b1890 sc k18 v1 v2 v3 r135.2
  else
    some 0
theorem L_L_law_b1554 {sc : Nat × (Nat → Int32)} (hL : (sc.1 : Int) ≤ 2147483647) {k18 : (Int → Int → Int → Mem → Option Int)} (hk18 : ∀ {v1 v2 v3 : Int} {σ : Mem}, k18 v1 v2 v3 σ = some 1 → E sc FLw mt_L_law 1000 [] Sh 18 [(3, 0), (2, v1), (2, v2), (0, v3)] [] Sh σ) {v1 v2 v3 : Int} {σ : Mem} (h : f_L_law_b1554 sc k18 v1 v2 v3 σ = some 1) : E sc FLw mt_L_law 1000 [] Sh 1554 [(3, 0), (2, v1), (2, v2), (0, v3)] [] Sh σ := by
  unfold f_L_law_b1554 at h
  refine E_aload_n d_L_law_1554 rfl (by decide) ?_
  refine E_aload_n d_L_law_1555 rfl (by decide) ?_
  refine E_iload_n d_L_law_1556 rfl ?_
  refine E_iconst d_L_law_1557 (c32 rfl) ?_
  refine E_iadd d_L_law_1558 ?_
  refine E_sld d_L_law_1559 h (fun x129 h => ?_)
  refine E_aload_n d_L_law_1560 rfl (by decide) ?_
  refine E_iload_n d_L_law_1561 rfl ?_
  refine E_iconst d_L_law_1562 (c32 rfl) ?_
  refine E_iadd d_L_law_1563 ?_
  refine E_sld d_L_law_1564 h (fun x130 h => ?_)
  refine bd h (fun r131 q132 h => ?_)
  refine E_cV (as := [(0, x129), (0, x130)]) (st := []) (a := v1) d_L_law_1565 mk_X11_walk nl_L_184 (by omega) ⟨rfl, rfl, Nat.le_of_ble_eq_true rfl⟩ okX11 rfl (L_X11_walk q132) ?_
  refine E_aload_n d_L_law_1568 rfl (by decide) ?_
  refine E_aload_n d_L_law_1569 rfl (by decide) ?_
  refine E_iload_n d_L_law_1570 rfl ?_
  refine E_iconst d_L_law_1571 (c32 rfl) ?_
  refine E_iadd d_L_law_1572 ?_
  refine E_sld d_L_law_1573 h (fun x133 h => ?_)
  refine E_aload_n d_L_law_1574 rfl (by decide) ?_
  refine E_iload_n d_L_law_1575 rfl ?_
  refine E_iconst d_L_law_1576 (c32 rfl) ?_
  refine E_iadd d_L_law_1577 ?_
  refine E_sld d_L_law_1578 h (fun x134 h => ?_)
  refine bd h (fun r135 q136 h => ?_)
  refine E_cV (as := [(0, x133), (0, x134)]) (st := [(0, r131.1)]) (a := v2) d_L_law_1579 mk_X12_walk nl_L_187 (by omega) ⟨rfl, rfl, Nat.le_of_ble_eq_true rfl⟩ okX12 rfl (L_X12_walk q136) ?_
  refine E_icmp_eq (tgt := 1890) d_L_law_1582 (by decide) h (fun _ h => ?_) (fun _ h => ?_)
  · exact (L_L_law_b1890 hL hk18 h)
  · refine E_iconst d_L_law_1585 (c32 rfl) ?_
    cases h
noncomputable def f_L_law_b1587 (sc : Nat × (Nat → Int32)) (k18 : (Int → Int → Int → Mem → Option Int)) (v1 v2 v3 : Int) (σ : Mem) : Option Int :=
  (sl sc (w32 (v3 + 1))).bind fun x119 =>
  (sl sc (w32 (v3 + 2))).bind fun x120 =>
  (sl sc (w32 (v3 + 3))).bind fun x121 =>
  (f_X11_walkAt v1 x119 x120 x121 σ).bind fun r122 =>
  (sl sc (w32 (v3 + 1))).bind fun x124 =>
  (sl sc (w32 (v3 + 2))).bind fun x125 =>
  (sl sc (w32 (v3 + 3))).bind fun x126 =>
  (f_X12_walkAt v2 x124 x125 x126 r122.2).bind fun r127 =>
  if r122.1 = r127.1 then
    f_L_law_b1890 sc k18 v1 v2 v3 r127.2
  else
    some 0
theorem L_L_law_b1587 {sc : Nat × (Nat → Int32)} (hL : (sc.1 : Int) ≤ 2147483647) {k18 : (Int → Int → Int → Mem → Option Int)} (hk18 : ∀ {v1 v2 v3 : Int} {σ : Mem}, k18 v1 v2 v3 σ = some 1 → E sc FLw mt_L_law 1000 [] Sh 18 [(3, 0), (2, v1), (2, v2), (0, v3)] [] Sh σ) {v1 v2 v3 : Int} {σ : Mem} (h : f_L_law_b1587 sc k18 v1 v2 v3 σ = some 1) : E sc FLw mt_L_law 1000 [] Sh 1587 [(3, 0), (2, v1), (2, v2), (0, v3)] [] Sh σ := by
  unfold f_L_law_b1587 at h
  refine E_aload_n d_L_law_1587 rfl (by decide) ?_
  refine E_aload_n d_L_law_1588 rfl (by decide) ?_
  refine E_iload_n d_L_law_1589 rfl ?_
  refine E_iconst d_L_law_1590 (c32 rfl) ?_
  refine E_iadd d_L_law_1591 ?_
  refine E_sld d_L_law_1592 h (fun x119 h => ?_)
  refine E_aload_n d_L_law_1593 rfl (by decide) ?_
  refine E_iload_n d_L_law_1594 rfl ?_
  refine E_iconst d_L_law_1595 (c32 rfl) ?_
  refine E_iadd d_L_law_1596 ?_
  refine E_sld d_L_law_1597 h (fun x120 h => ?_)
  refine E_aload_n d_L_law_1598 rfl (by decide) ?_
  refine E_iload_n d_L_law_1599 rfl ?_
  refine E_iconst d_L_law_1600 (c32 rfl) ?_
  refine E_iadd d_L_law_1601 ?_
  refine E_sld d_L_law_1602 h (fun x121 h => ?_)
  refine bd h (fun r122 q123 h => ?_)
  refine E_cV (as := [(0, x119), (0, x120), (0, x121)]) (st := []) (a := v1) d_L_law_1603 mk_X11_walkAt nl_L_188 (by omega) ⟨rfl, rfl, Nat.le_of_ble_eq_true rfl⟩ okX11 rfl (L_X11_walkAt q123) ?_
  refine E_aload_n d_L_law_1606 rfl (by decide) ?_
  refine E_aload_n d_L_law_1607 rfl (by decide) ?_
  refine E_iload_n d_L_law_1608 rfl ?_
  refine E_iconst d_L_law_1609 (c32 rfl) ?_
  refine E_iadd d_L_law_1610 ?_
  refine E_sld d_L_law_1611 h (fun x124 h => ?_)
  refine E_aload_n d_L_law_1612 rfl (by decide) ?_
  refine E_iload_n d_L_law_1613 rfl ?_
  refine E_iconst d_L_law_1614 (c32 rfl) ?_
  refine E_iadd d_L_law_1615 ?_
  refine E_sld d_L_law_1616 h (fun x125 h => ?_)
  refine E_aload_n d_L_law_1617 rfl (by decide) ?_
  refine E_iload_n d_L_law_1618 rfl ?_
  refine E_iconst d_L_law_1619 (c32 rfl) ?_
  refine E_iadd d_L_law_1620 ?_
  refine E_sld d_L_law_1621 h (fun x126 h => ?_)
  refine bd h (fun r127 q128 h => ?_)
  refine E_cV (as := [(0, x124), (0, x125), (0, x126)]) (st := [(0, r122.1)]) (a := v2) d_L_law_1622 mk_X12_walkAt nl_L_191 (by omega) ⟨rfl, rfl, Nat.le_of_ble_eq_true rfl⟩ okX12 rfl (L_X12_walkAt q128) ?_
  refine E_icmp_eq (tgt := 1890) d_L_law_1625 (by decide) h (fun _ h => ?_) (fun _ h => ?_)
  · exact (L_L_law_b1890 hL hk18 h)
  · refine E_iconst d_L_law_1628 (c32 rfl) ?_
    cases h
noncomputable def f_L_law_b1630 (sc : Nat × (Nat → Int32)) (k18 : (Int → Int → Int → Mem → Option Int)) (v1 v2 v3 : Int) (σ : Mem) : Option Int :=
  (f_X11_longest v1 σ).bind fun r115 =>
  (f_X12_longest v2 r115.2).bind fun r117 =>
  if r115.1 = r117.1 then
    f_L_law_b1890 sc k18 v1 v2 v3 r117.2
  else
    some 0
theorem L_L_law_b1630 {sc : Nat × (Nat → Int32)} (hL : (sc.1 : Int) ≤ 2147483647) {k18 : (Int → Int → Int → Mem → Option Int)} (hk18 : ∀ {v1 v2 v3 : Int} {σ : Mem}, k18 v1 v2 v3 σ = some 1 → E sc FLw mt_L_law 1000 [] Sh 18 [(3, 0), (2, v1), (2, v2), (0, v3)] [] Sh σ) {v1 v2 v3 : Int} {σ : Mem} (h : f_L_law_b1630 sc k18 v1 v2 v3 σ = some 1) : E sc FLw mt_L_law 1000 [] Sh 1630 [(3, 0), (2, v1), (2, v2), (0, v3)] [] Sh σ := by
  unfold f_L_law_b1630 at h
  refine E_aload_n d_L_law_1630 rfl (by decide) ?_
  refine bd h (fun r115 q116 h => ?_)
  refine E_cV (as := []) (st := []) (a := v1) d_L_law_1631 mk_X11_longest nl_L_192 (by omega) ⟨rfl, rfl, Nat.le_of_ble_eq_true rfl⟩ okX11 rfl (L_X11_longest q116) ?_
  refine E_aload_n d_L_law_1634 rfl (by decide) ?_
  refine bd h (fun r117 q118 h => ?_)
  refine E_cV (as := []) (st := [(0, r115.1)]) (a := v2) d_L_law_1635 mk_X12_longest nl_L_195 (by omega) ⟨rfl, rfl, Nat.le_of_ble_eq_true rfl⟩ okX12 rfl (L_X12_longest q118) ?_
  refine E_icmp_eq (tgt := 1890) d_L_law_1638 (by decide) h (fun _ h => ?_) (fun _ h => ?_)
  · exact (L_L_law_b1890 hL hk18 h)
  · refine E_iconst d_L_law_1641 (c32 rfl) ?_
    cases h
noncomputable def f_L_law_b1643 (sc : Nat × (Nat → Int32)) (k18 : (Int → Int → Int → Mem → Option Int)) (v1 v2 v3 : Int) (σ : Mem) : Option Int :=
  (sl sc (w32 (v3 + 1))).bind fun x105 =>
  (sl sc (w32 (v3 + 2))).bind fun x106 =>
  (sl sc (w32 (v3 + 3))).bind fun x107 =>
  (f_X11_game v1 x105 x106 x107 σ).bind fun r108 =>
  (sl sc (w32 (v3 + 1))).bind fun x110 =>
  (sl sc (w32 (v3 + 2))).bind fun x111 =>
  (sl sc (w32 (v3 + 3))).bind fun x112 =>
  (f_X12_game v2 x110 x111 x112 r108.2).bind fun r113 =>
  if r108.1 = r113.1 then
    f_L_law_b1890 sc k18 v1 v2 v3 r113.2
  else
    some 0
theorem L_L_law_b1643 {sc : Nat × (Nat → Int32)} (hL : (sc.1 : Int) ≤ 2147483647) {k18 : (Int → Int → Int → Mem → Option Int)} (hk18 : ∀ {v1 v2 v3 : Int} {σ : Mem}, k18 v1 v2 v3 σ = some 1 → E sc FLw mt_L_law 1000 [] Sh 18 [(3, 0), (2, v1), (2, v2), (0, v3)] [] Sh σ) {v1 v2 v3 : Int} {σ : Mem} (h : f_L_law_b1643 sc k18 v1 v2 v3 σ = some 1) : E sc FLw mt_L_law 1000 [] Sh 1643 [(3, 0), (2, v1), (2, v2), (0, v3)] [] Sh σ := by
  unfold f_L_law_b1643 at h
  refine E_aload_n d_L_law_1643 rfl (by decide) ?_
  refine E_aload_n d_L_law_1644 rfl (by decide) ?_
  refine E_iload_n d_L_law_1645 rfl ?_
  refine E_iconst d_L_law_1646 (c32 rfl) ?_
  refine E_iadd d_L_law_1647 ?_
  refine E_sld d_L_law_1648 h (fun x105 h => ?_)
  refine E_aload_n d_L_law_1649 rfl (by decide) ?_
  refine E_iload_n d_L_law_1650 rfl ?_
  refine E_iconst d_L_law_1651 (c32 rfl) ?_
  refine E_iadd d_L_law_1652 ?_
  refine E_sld d_L_law_1653 h (fun x106 h => ?_)
  refine E_aload_n d_L_law_1654 rfl (by decide) ?_
  refine E_iload_n d_L_law_1655 rfl ?_
  refine E_iconst d_L_law_1656 (c32 rfl) ?_
  refine E_iadd d_L_law_1657 ?_
  refine E_sld d_L_law_1658 h (fun x107 h => ?_)
  refine bd h (fun r108 q109 h => ?_)
  refine E_cV (as := [(0, x105), (0, x106), (0, x107)]) (st := []) (a := v1) d_L_law_1659 mk_X11_game nl_L_196 (by omega) ⟨rfl, rfl, Nat.le_of_ble_eq_true rfl⟩ okX11 rfl (L_X11_game q109) ?_
  refine E_aload_n d_L_law_1662 rfl (by decide) ?_
  refine E_aload_n d_L_law_1663 rfl (by decide) ?_
  refine E_iload_n d_L_law_1664 rfl ?_
  refine E_iconst d_L_law_1665 (c32 rfl) ?_
  refine E_iadd d_L_law_1666 ?_
  refine E_sld d_L_law_1667 h (fun x110 h => ?_)
  refine E_aload_n d_L_law_1668 rfl (by decide) ?_
  refine E_iload_n d_L_law_1669 rfl ?_
  refine E_iconst d_L_law_1670 (c32 rfl) ?_
  refine E_iadd d_L_law_1671 ?_
  refine E_sld d_L_law_1672 h (fun x111 h => ?_)
  refine E_aload_n d_L_law_1673 rfl (by decide) ?_
  refine E_iload_n d_L_law_1674 rfl ?_
  refine E_iconst d_L_law_1675 (c32 rfl) ?_
  refine E_iadd d_L_law_1676 ?_
  refine E_sld d_L_law_1677 h (fun x112 h => ?_)
  refine bd h (fun r113 q114 h => ?_)
  refine E_cV (as := [(0, x110), (0, x111), (0, x112)]) (st := [(0, r108.1)]) (a := v2) d_L_law_1678 mk_X12_game nl_L_199 (by omega) ⟨rfl, rfl, Nat.le_of_ble_eq_true rfl⟩ okX12 rfl (L_X12_game q114) ?_
  refine E_icmp_eq (tgt := 1890) d_L_law_1681 (by decide) h (fun _ h => ?_) (fun _ h => ?_)
  · exact (L_L_law_b1890 hL hk18 h)
  · refine E_iconst d_L_law_1684 (c32 rfl) ?_
    cases h
noncomputable def f_L_law_b1686 (sc : Nat × (Nat → Int32)) (k18 : (Int → Int → Int → Mem → Option Int)) (v1 v2 v3 : Int) (σ : Mem) : Option Int :=
  (sl sc (w32 (v3 + 1))).bind fun x95 =>
  (sl sc (w32 (v3 + 2))).bind fun x96 =>
  (sl sc (w32 (v3 + 3))).bind fun x97 =>
  (f_X11_moveOf v1 x95 x96 x97 σ).bind fun r98 =>
  (sl sc (w32 (v3 + 1))).bind fun x100 =>
  (sl sc (w32 (v3 + 2))).bind fun x101 =>
  (sl sc (w32 (v3 + 3))).bind fun x102 =>
  (f_X12_moveOf v2 x100 x101 x102 r98.2).bind fun r103 =>
  if r98.1 = r103.1 then
    f_L_law_b1890 sc k18 v1 v2 v3 r103.2
  else
    some 0
theorem L_L_law_b1686 {sc : Nat × (Nat → Int32)} (hL : (sc.1 : Int) ≤ 2147483647) {k18 : (Int → Int → Int → Mem → Option Int)} (hk18 : ∀ {v1 v2 v3 : Int} {σ : Mem}, k18 v1 v2 v3 σ = some 1 → E sc FLw mt_L_law 1000 [] Sh 18 [(3, 0), (2, v1), (2, v2), (0, v3)] [] Sh σ) {v1 v2 v3 : Int} {σ : Mem} (h : f_L_law_b1686 sc k18 v1 v2 v3 σ = some 1) : E sc FLw mt_L_law 1000 [] Sh 1686 [(3, 0), (2, v1), (2, v2), (0, v3)] [] Sh σ := by
  unfold f_L_law_b1686 at h
  refine E_aload_n d_L_law_1686 rfl (by decide) ?_
  refine E_aload_n d_L_law_1687 rfl (by decide) ?_
  refine E_iload_n d_L_law_1688 rfl ?_
  refine E_iconst d_L_law_1689 (c32 rfl) ?_
  refine E_iadd d_L_law_1690 ?_
  refine E_sld d_L_law_1691 h (fun x95 h => ?_)
  refine E_aload_n d_L_law_1692 rfl (by decide) ?_
  refine E_iload_n d_L_law_1693 rfl ?_
  refine E_iconst d_L_law_1694 (c32 rfl) ?_
  refine E_iadd d_L_law_1695 ?_
  refine E_sld d_L_law_1696 h (fun x96 h => ?_)
  refine E_aload_n d_L_law_1697 rfl (by decide) ?_
  refine E_iload_n d_L_law_1698 rfl ?_
  refine E_iconst d_L_law_1699 (c32 rfl) ?_
  refine E_iadd d_L_law_1700 ?_
  refine E_sld d_L_law_1701 h (fun x97 h => ?_)
  refine bd h (fun r98 q99 h => ?_)
  refine E_cV (as := [(0, x95), (0, x96), (0, x97)]) (st := []) (a := v1) d_L_law_1702 mk_X11_moveOf nl_L_200 (by omega) ⟨rfl, rfl, Nat.le_of_ble_eq_true rfl⟩ okX11 rfl (L_X11_moveOf q99) ?_
  refine E_aload_n d_L_law_1705 rfl (by decide) ?_
  refine E_aload_n d_L_law_1706 rfl (by decide) ?_
  refine E_iload_n d_L_law_1707 rfl ?_
  refine E_iconst d_L_law_1708 (c32 rfl) ?_
  refine E_iadd d_L_law_1709 ?_
  refine E_sld d_L_law_1710 h (fun x100 h => ?_)
  refine E_aload_n d_L_law_1711 rfl (by decide) ?_
  refine E_iload_n d_L_law_1712 rfl ?_
  refine E_iconst d_L_law_1713 (c32 rfl) ?_
  refine E_iadd d_L_law_1714 ?_
  refine E_sld d_L_law_1715 h (fun x101 h => ?_)
  refine E_aload_n d_L_law_1716 rfl (by decide) ?_
  refine E_iload_n d_L_law_1717 rfl ?_
  refine E_iconst d_L_law_1718 (c32 rfl) ?_
  refine E_iadd d_L_law_1719 ?_
  refine E_sld d_L_law_1720 h (fun x102 h => ?_)
  refine bd h (fun r103 q104 h => ?_)
  refine E_cV (as := [(0, x100), (0, x101), (0, x102)]) (st := [(0, r98.1)]) (a := v2) d_L_law_1721 mk_X12_moveOf nl_L_203 (by omega) ⟨rfl, rfl, Nat.le_of_ble_eq_true rfl⟩ okX12 rfl (L_X12_moveOf q104) ?_
  refine E_icmp_eq (tgt := 1890) d_L_law_1724 (by decide) h (fun _ h => ?_) (fun _ h => ?_)
  · exact (L_L_law_b1890 hL hk18 h)
  · refine E_iconst d_L_law_1727 (c32 rfl) ?_
    cases h
noncomputable def f_L_law_b1729 (sc : Nat × (Nat → Int32)) (k18 : (Int → Int → Int → Mem → Option Int)) (v1 v2 v3 : Int) (σ : Mem) : Option Int :=
  (sl sc (w32 (v3 + 1))).bind fun x87 =>
  (sl sc (w32 (v3 + 2))).bind fun x88 =>
  (f_X11_lot v1 x87 x88 σ).bind fun r89 =>
  (sl sc (w32 (v3 + 1))).bind fun x91 =>
  (sl sc (w32 (v3 + 2))).bind fun x92 =>
  (f_X12_lot v2 x91 x92 r89.2).bind fun r93 =>
  if r89.1 = r93.1 then
    f_L_law_b1890 sc k18 v1 v2 v3 r93.2
  else
    some 0
theorem L_L_law_b1729 {sc : Nat × (Nat → Int32)} (hL : (sc.1 : Int) ≤ 2147483647) {k18 : (Int → Int → Int → Mem → Option Int)} (hk18 : ∀ {v1 v2 v3 : Int} {σ : Mem}, k18 v1 v2 v3 σ = some 1 → E sc FLw mt_L_law 1000 [] Sh 18 [(3, 0), (2, v1), (2, v2), (0, v3)] [] Sh σ) {v1 v2 v3 : Int} {σ : Mem} (h : f_L_law_b1729 sc k18 v1 v2 v3 σ = some 1) : E sc FLw mt_L_law 1000 [] Sh 1729 [(3, 0), (2, v1), (2, v2), (0, v3)] [] Sh σ := by
  unfold f_L_law_b1729 at h
  refine E_aload_n d_L_law_1729 rfl (by decide) ?_
  refine E_aload_n d_L_law_1730 rfl (by decide) ?_
  refine E_iload_n d_L_law_1731 rfl ?_
  refine E_iconst d_L_law_1732 (c32 rfl) ?_
  refine E_iadd d_L_law_1733 ?_
  refine E_sld d_L_law_1734 h (fun x87 h => ?_)
  refine E_aload_n d_L_law_1735 rfl (by decide) ?_
  refine E_iload_n d_L_law_1736 rfl ?_
  refine E_iconst d_L_law_1737 (c32 rfl) ?_
  refine E_iadd d_L_law_1738 ?_
  refine E_sld d_L_law_1739 h (fun x88 h => ?_)
  refine bd h (fun r89 q90 h => ?_)
  refine E_cV (as := [(0, x87), (0, x88)]) (st := []) (a := v1) d_L_law_1740 mk_X11_lot nl_L_204 (by omega) ⟨rfl, rfl, Nat.le_of_ble_eq_true rfl⟩ okX11 rfl (L_X11_lot q90) ?_
  refine E_aload_n d_L_law_1743 rfl (by decide) ?_
  refine E_aload_n d_L_law_1744 rfl (by decide) ?_
  refine E_iload_n d_L_law_1745 rfl ?_
  refine E_iconst d_L_law_1746 (c32 rfl) ?_
  refine E_iadd d_L_law_1747 ?_
  refine E_sld d_L_law_1748 h (fun x91 h => ?_)
  refine E_aload_n d_L_law_1749 rfl (by decide) ?_
  refine E_iload_n d_L_law_1750 rfl ?_
  refine E_iconst d_L_law_1751 (c32 rfl) ?_
  refine E_iadd d_L_law_1752 ?_
  refine E_sld d_L_law_1753 h (fun x92 h => ?_)
  refine bd h (fun r93 q94 h => ?_)
  refine E_cV (as := [(0, x91), (0, x92)]) (st := [(0, r89.1)]) (a := v2) d_L_law_1754 mk_X12_lot nl_L_208 (by omega) ⟨rfl, rfl, Nat.le_of_ble_eq_true rfl⟩ okX12 rfl (L_X12_lot q94) ?_
  refine E_icmp_eq (tgt := 1890) d_L_law_1757 (by decide) h (fun _ h => ?_) (fun _ h => ?_)
  · exact (L_L_law_b1890 hL hk18 h)
  · refine E_iconst d_L_law_1760 (c32 rfl) ?_
    cases h
noncomputable def f_L_law_b1762 (sc : Nat × (Nat → Int32)) (k18 : (Int → Int → Int → Mem → Option Int)) (v1 v2 v3 : Int) (σ : Mem) : Option Int :=
  (sl sc (w32 (v3 + 1))).bind fun x81 =>
  (f_X11_couples v1 x81 σ).bind fun r82 =>
  (sl sc (w32 (v3 + 1))).bind fun x84 =>
  (f_X12_couples v2 x84 r82.2).bind fun r85 =>
  if r82.1 = r85.1 then
    f_L_law_b1890 sc k18 v1 v2 v3 r85.2
  else
    some 0
theorem L_L_law_b1762 {sc : Nat × (Nat → Int32)} (hL : (sc.1 : Int) ≤ 2147483647) {k18 : (Int → Int → Int → Mem → Option Int)} (hk18 : ∀ {v1 v2 v3 : Int} {σ : Mem}, k18 v1 v2 v3 σ = some 1 → E sc FLw mt_L_law 1000 [] Sh 18 [(3, 0), (2, v1), (2, v2), (0, v3)] [] Sh σ) {v1 v2 v3 : Int} {σ : Mem} (h : f_L_law_b1762 sc k18 v1 v2 v3 σ = some 1) : E sc FLw mt_L_law 1000 [] Sh 1762 [(3, 0), (2, v1), (2, v2), (0, v3)] [] Sh σ := by
  unfold f_L_law_b1762 at h
  refine E_aload_n d_L_law_1762 rfl (by decide) ?_
  refine E_aload_n d_L_law_1763 rfl (by decide) ?_
  refine E_iload_n d_L_law_1764 rfl ?_
  refine E_iconst d_L_law_1765 (c32 rfl) ?_
  refine E_iadd d_L_law_1766 ?_
  refine E_sld d_L_law_1767 h (fun x81 h => ?_)
  refine bd h (fun r82 q83 h => ?_)
  refine E_cV (as := [(0, x81)]) (st := []) (a := v1) d_L_law_1768 mk_X11_couples nl_L_209 (by omega) ⟨rfl, rfl, Nat.le_of_ble_eq_true rfl⟩ okX11 rfl (L_X11_couples q83) ?_
  refine E_aload_n d_L_law_1771 rfl (by decide) ?_
  refine E_aload_n d_L_law_1772 rfl (by decide) ?_
  refine E_iload_n d_L_law_1773 rfl ?_
  refine E_iconst d_L_law_1774 (c32 rfl) ?_
  refine E_iadd d_L_law_1775 ?_
  refine E_sld d_L_law_1776 h (fun x84 h => ?_)
  refine bd h (fun r85 q86 h => ?_)
  refine E_cV (as := [(0, x84)]) (st := [(0, r82.1)]) (a := v2) d_L_law_1777 mk_X12_couples nl_L_212 (by omega) ⟨rfl, rfl, Nat.le_of_ble_eq_true rfl⟩ okX12 rfl (L_X12_couples q86) ?_
  refine E_icmp_eq (tgt := 1890) d_L_law_1780 (by decide) h (fun _ h => ?_) (fun _ h => ?_)
  · exact (L_L_law_b1890 hL hk18 h)
  · refine E_iconst d_L_law_1783 (c32 rfl) ?_
    cases h
noncomputable def f_L_law_b1785 (sc : Nat × (Nat → Int32)) (k18 : (Int → Int → Int → Mem → Option Int)) (v1 v2 v3 : Int) (σ : Mem) : Option Int :=
  (sl sc (w32 (v3 + 1))).bind fun x75 =>
  (f_X11_live v1 x75 σ).bind fun r76 =>
  (sl sc (w32 (v3 + 1))).bind fun x78 =>
  (f_X12_live v2 x78 r76.2).bind fun r79 =>
  if r76.1 = r79.1 then
    f_L_law_b1890 sc k18 v1 v2 v3 r79.2
  else
    some 0
theorem L_L_law_b1785 {sc : Nat × (Nat → Int32)} (hL : (sc.1 : Int) ≤ 2147483647) {k18 : (Int → Int → Int → Mem → Option Int)} (hk18 : ∀ {v1 v2 v3 : Int} {σ : Mem}, k18 v1 v2 v3 σ = some 1 → E sc FLw mt_L_law 1000 [] Sh 18 [(3, 0), (2, v1), (2, v2), (0, v3)] [] Sh σ) {v1 v2 v3 : Int} {σ : Mem} (h : f_L_law_b1785 sc k18 v1 v2 v3 σ = some 1) : E sc FLw mt_L_law 1000 [] Sh 1785 [(3, 0), (2, v1), (2, v2), (0, v3)] [] Sh σ := by
  unfold f_L_law_b1785 at h
  refine E_aload_n d_L_law_1785 rfl (by decide) ?_
  refine E_aload_n d_L_law_1786 rfl (by decide) ?_
  refine E_iload_n d_L_law_1787 rfl ?_
  refine E_iconst d_L_law_1788 (c32 rfl) ?_
  refine E_iadd d_L_law_1789 ?_
  refine E_sld d_L_law_1790 h (fun x75 h => ?_)
  refine bd h (fun r76 q77 h => ?_)
  refine E_cV (as := [(0, x75)]) (st := []) (a := v1) d_L_law_1791 mk_X11_live nl_L_213 (by omega) ⟨rfl, rfl, Nat.le_of_ble_eq_true rfl⟩ okX11 rfl (L_X11_live q77) ?_
  refine E_aload_n d_L_law_1794 rfl (by decide) ?_
  refine E_aload_n d_L_law_1795 rfl (by decide) ?_
  refine E_iload_n d_L_law_1796 rfl ?_
  refine E_iconst d_L_law_1797 (c32 rfl) ?_
  refine E_iadd d_L_law_1798 ?_
  refine E_sld d_L_law_1799 h (fun x78 h => ?_)
  refine bd h (fun r79 q80 h => ?_)
  refine E_cV (as := [(0, x78)]) (st := [(0, r76.1)]) (a := v2) d_L_law_1800 mk_X12_live nl_L_216 (by omega) ⟨rfl, rfl, Nat.le_of_ble_eq_true rfl⟩ okX12 rfl (L_X12_live q80) ?_
  refine E_icmp_eq (tgt := 1890) d_L_law_1803 (by decide) h (fun _ h => ?_) (fun _ h => ?_)
  · exact (L_L_law_b1890 hL hk18 h)
  · refine E_iconst d_L_law_1806 (c32 rfl) ?_
    cases h
noncomputable def f_L_law_b1808 (sc : Nat × (Nat → Int32)) (k18 : (Int → Int → Int → Mem → Option Int)) (v1 v2 v3 : Int) (σ : Mem) : Option Int :=
  (sl sc (w32 (v3 + 1))).bind fun x69 =>
  (f_X11_lived v1 x69 σ).bind fun r70 =>
  (sl sc (w32 (v3 + 1))).bind fun x72 =>
  (f_X12_lived v2 x72 r70.2).bind fun r73 =>
  if r70.1 = r73.1 then
    f_L_law_b1890 sc k18 v1 v2 v3 r73.2
  else
    some 0
theorem L_L_law_b1808 {sc : Nat × (Nat → Int32)} (hL : (sc.1 : Int) ≤ 2147483647) {k18 : (Int → Int → Int → Mem → Option Int)} (hk18 : ∀ {v1 v2 v3 : Int} {σ : Mem}, k18 v1 v2 v3 σ = some 1 → E sc FLw mt_L_law 1000 [] Sh 18 [(3, 0), (2, v1), (2, v2), (0, v3)] [] Sh σ) {v1 v2 v3 : Int} {σ : Mem} (h : f_L_law_b1808 sc k18 v1 v2 v3 σ = some 1) : E sc FLw mt_L_law 1000 [] Sh 1808 [(3, 0), (2, v1), (2, v2), (0, v3)] [] Sh σ := by
  unfold f_L_law_b1808 at h
  refine E_aload_n d_L_law_1808 rfl (by decide) ?_
  refine E_aload_n d_L_law_1809 rfl (by decide) ?_
  refine E_iload_n d_L_law_1810 rfl ?_
  refine E_iconst d_L_law_1811 (c32 rfl) ?_
  refine E_iadd d_L_law_1812 ?_
  refine E_sld d_L_law_1813 h (fun x69 h => ?_)
  refine bd h (fun r70 q71 h => ?_)
  refine E_cV (as := [(0, x69)]) (st := []) (a := v1) d_L_law_1814 mk_X11_lived nl_L_217 (by omega) ⟨rfl, rfl, Nat.le_of_ble_eq_true rfl⟩ okX11 rfl (L_X11_lived q71) ?_
  refine E_aload_n d_L_law_1817 rfl (by decide) ?_
  refine E_aload_n d_L_law_1818 rfl (by decide) ?_
  refine E_iload_n d_L_law_1819 rfl ?_
  refine E_iconst d_L_law_1820 (c32 rfl) ?_
  refine E_iadd d_L_law_1821 ?_
  refine E_sld d_L_law_1822 h (fun x72 h => ?_)
  refine bd h (fun r73 q74 h => ?_)
  refine E_cV (as := [(0, x72)]) (st := [(0, r70.1)]) (a := v2) d_L_law_1823 mk_X12_lived nl_L_220 (by omega) ⟨rfl, rfl, Nat.le_of_ble_eq_true rfl⟩ okX12 rfl (L_X12_lived q74) ?_
  refine E_icmp_eq (tgt := 1890) d_L_law_1826 (by decide) h (fun _ h => ?_) (fun _ h => ?_)
  · exact (L_L_law_b1890 hL hk18 h)
  · refine E_iconst d_L_law_1829 (c32 rfl) ?_
    cases h
noncomputable def f_L_law_b1831 (sc : Nat × (Nat → Int32)) (k18 : (Int → Int → Int → Mem → Option Int)) (v1 v2 v3 : Int) (σ : Mem) : Option Int :=
  (sl sc (w32 (v3 + 1))).bind fun x61 =>
  (sl sc (w32 (v3 + 2))).bind fun x62 =>
  (f_X11_mean v1 x61 x62 σ).bind fun r63 =>
  (sl sc (w32 (v3 + 1))).bind fun x65 =>
  (sl sc (w32 (v3 + 2))).bind fun x66 =>
  (f_X12_mean v2 x65 x66 r63.2).bind fun r67 =>
  if r63.1 = r67.1 then
    f_L_law_b1890 sc k18 v1 v2 v3 r67.2
  else
    some 0
theorem L_L_law_b1831 {sc : Nat × (Nat → Int32)} (hL : (sc.1 : Int) ≤ 2147483647) {k18 : (Int → Int → Int → Mem → Option Int)} (hk18 : ∀ {v1 v2 v3 : Int} {σ : Mem}, k18 v1 v2 v3 σ = some 1 → E sc FLw mt_L_law 1000 [] Sh 18 [(3, 0), (2, v1), (2, v2), (0, v3)] [] Sh σ) {v1 v2 v3 : Int} {σ : Mem} (h : f_L_law_b1831 sc k18 v1 v2 v3 σ = some 1) : E sc FLw mt_L_law 1000 [] Sh 1831 [(3, 0), (2, v1), (2, v2), (0, v3)] [] Sh σ := by
  unfold f_L_law_b1831 at h
  refine E_aload_n d_L_law_1831 rfl (by decide) ?_
  refine E_aload_n d_L_law_1832 rfl (by decide) ?_
  refine E_iload_n d_L_law_1833 rfl ?_
  refine E_iconst d_L_law_1834 (c32 rfl) ?_
  refine E_iadd d_L_law_1835 ?_
  refine E_sld d_L_law_1836 h (fun x61 h => ?_)
  refine E_aload_n d_L_law_1837 rfl (by decide) ?_
  refine E_iload_n d_L_law_1838 rfl ?_
  refine E_iconst d_L_law_1839 (c32 rfl) ?_
  refine E_iadd d_L_law_1840 ?_
  refine E_sld d_L_law_1841 h (fun x62 h => ?_)
  refine bd h (fun r63 q64 h => ?_)
  refine E_cV (as := [(0, x61), (0, x62)]) (st := []) (a := v1) d_L_law_1842 mk_X11_mean nl_L_221 (by omega) ⟨rfl, rfl, Nat.le_of_ble_eq_true rfl⟩ okX11 rfl (L_X11_mean q64) ?_
  refine E_aload_n d_L_law_1845 rfl (by decide) ?_
  refine E_aload_n d_L_law_1846 rfl (by decide) ?_
  refine E_iload_n d_L_law_1847 rfl ?_
  refine E_iconst d_L_law_1848 (c32 rfl) ?_
  refine E_iadd d_L_law_1849 ?_
  refine E_sld d_L_law_1850 h (fun x65 h => ?_)
  refine E_aload_n d_L_law_1851 rfl (by decide) ?_
  refine E_iload_n d_L_law_1852 rfl ?_
  refine E_iconst d_L_law_1853 (c32 rfl) ?_
  refine E_iadd d_L_law_1854 ?_
  refine E_sld d_L_law_1855 h (fun x66 h => ?_)
  refine bd h (fun r67 q68 h => ?_)
  refine E_cV (as := [(0, x65), (0, x66)]) (st := [(0, r63.1)]) (a := v2) d_L_law_1856 mk_X12_mean nl_L_224 (by omega) ⟨rfl, rfl, Nat.le_of_ble_eq_true rfl⟩ okX12 rfl (L_X12_mean q68) ?_
  refine E_icmp_eq (tgt := 1890) d_L_law_1859 (by decide) h (fun _ h => ?_) (fun _ h => ?_)
  · exact (L_L_law_b1890 hL hk18 h)
  · refine E_iconst d_L_law_1862 (c32 rfl) ?_
    cases h
noncomputable def f_L_law_b1864 (sc : Nat × (Nat → Int32)) (k18 : (Int → Int → Int → Mem → Option Int)) (v1 v2 v3 : Int) (σ : Mem) : Option Int :=
  (f_X11_mark v1 σ).bind fun r57 =>
  (f_X12_mark v2 r57.2).bind fun r59 =>
  if r57.1 = r59.1 then
    f_L_law_b1890 sc k18 v1 v2 v3 r59.2
  else
    some 0
theorem L_L_law_b1864 {sc : Nat × (Nat → Int32)} (hL : (sc.1 : Int) ≤ 2147483647) {k18 : (Int → Int → Int → Mem → Option Int)} (hk18 : ∀ {v1 v2 v3 : Int} {σ : Mem}, k18 v1 v2 v3 σ = some 1 → E sc FLw mt_L_law 1000 [] Sh 18 [(3, 0), (2, v1), (2, v2), (0, v3)] [] Sh σ) {v1 v2 v3 : Int} {σ : Mem} (h : f_L_law_b1864 sc k18 v1 v2 v3 σ = some 1) : E sc FLw mt_L_law 1000 [] Sh 1864 [(3, 0), (2, v1), (2, v2), (0, v3)] [] Sh σ := by
  unfold f_L_law_b1864 at h
  refine E_aload_n d_L_law_1864 rfl (by decide) ?_
  refine bd h (fun r57 q58 h => ?_)
  refine E_cV (as := []) (st := []) (a := v1) d_L_law_1865 mk_X11_mark nl_L_225 (by omega) ⟨rfl, rfl, Nat.le_of_ble_eq_true rfl⟩ okX11 rfl (L_X11_mark q58) ?_
  refine E_aload_n d_L_law_1868 rfl (by decide) ?_
  refine bd h (fun r59 q60 h => ?_)
  refine E_cV (as := []) (st := [(0, r57.1)]) (a := v2) d_L_law_1869 mk_X12_mark nl_L_228 (by omega) ⟨rfl, rfl, Nat.le_of_ble_eq_true rfl⟩ okX12 rfl (L_X12_mark q60) ?_
  refine E_icmp_eq (tgt := 1890) d_L_law_1872 (by decide) h (fun _ h => ?_) (fun _ h => ?_)
  · exact (L_L_law_b1890 hL hk18 h)
  · refine E_iconst d_L_law_1875 (c32 rfl) ?_
    cases h
noncomputable def f_L_law_b1877 (sc : Nat × (Nat → Int32)) (k18 : (Int → Int → Int → Mem → Option Int)) (v1 v2 v3 : Int) (σ : Mem) : Option Int :=
  (f_X11_back v1 σ).bind fun r53 =>
  (f_X12_back v2 r53.2).bind fun r55 =>
  if r53.1 = r55.1 then
    f_L_law_b1890 sc k18 v1 v2 v3 r55.2
  else
    some 0
theorem L_L_law_b1877 {sc : Nat × (Nat → Int32)} (hL : (sc.1 : Int) ≤ 2147483647) {k18 : (Int → Int → Int → Mem → Option Int)} (hk18 : ∀ {v1 v2 v3 : Int} {σ : Mem}, k18 v1 v2 v3 σ = some 1 → E sc FLw mt_L_law 1000 [] Sh 18 [(3, 0), (2, v1), (2, v2), (0, v3)] [] Sh σ) {v1 v2 v3 : Int} {σ : Mem} (h : f_L_law_b1877 sc k18 v1 v2 v3 σ = some 1) : E sc FLw mt_L_law 1000 [] Sh 1877 [(3, 0), (2, v1), (2, v2), (0, v3)] [] Sh σ := by
  unfold f_L_law_b1877 at h
  refine E_aload_n d_L_law_1877 rfl (by decide) ?_
  refine bd h (fun r53 q54 h => ?_)
  refine E_cV (as := []) (st := []) (a := v1) d_L_law_1878 mk_X11_back nl_L_229 (by omega) ⟨rfl, rfl, Nat.le_of_ble_eq_true rfl⟩ okX11 rfl (L_X11_back q54) ?_
  refine E_aload_n d_L_law_1881 rfl (by decide) ?_
  refine bd h (fun r55 q56 h => ?_)
  refine E_cV (as := []) (st := [(0, r53.1)]) (a := v2) d_L_law_1882 mk_X12_back nl_L_232 (by omega) ⟨rfl, rfl, Nat.le_of_ble_eq_true rfl⟩ okX12 rfl (L_X12_back q56) ?_
  refine E_icmp_eq (tgt := 1890) d_L_law_1885 (by decide) h (fun _ h => ?_) (fun _ h => ?_)
  · exact (L_L_law_b1890 hL hk18 h)
  · refine E_iconst d_L_law_1888 (c32 rfl) ?_
    cases h
noncomputable def f_L_law_b18 (sc : Nat × (Nat → Int32)) (k18 : (Int → Int → Int → Mem → Option Int)) (v1 v2 v3 : Int) (σ : Mem) : Option Int :=
  if w32 ((sc.1 : Int) - 6) < v3 then
    some 1
  else
    (sl sc v3).bind fun x1 =>
    if iand x1 63 = 0 then
      f_L_law_b252 sc k18 v1 v2 v3 σ
    else if iand x1 63 = 1 then
      f_L_law_b265 sc k18 v1 v2 v3 σ
    else if iand x1 63 = 2 then
      f_L_law_b279 sc k18 v1 v2 v3 σ
    else if iand x1 63 = 3 then
      f_L_law_b293 sc k18 v1 v2 v3 σ
    else if iand x1 63 = 4 then
      f_L_law_b336 sc k18 v1 v2 v3 σ
    else if iand x1 63 = 5 then
      f_L_law_b409 sc k18 v1 v2 v3 σ
    else if iand x1 63 = 6 then
      f_L_law_b443 sc k18 v1 v2 v3 σ
    else if iand x1 63 = 7 then
      f_L_law_b506 sc k18 v1 v2 v3 σ
    else if iand x1 63 = 8 then
      f_L_law_b569 sc k18 v1 v2 v3 σ
    else if iand x1 63 = 9 then
      f_L_law_b592 sc k18 v1 v2 v3 σ
    else if iand x1 63 = 10 then
      f_L_law_b615 sc k18 v1 v2 v3 σ
    else if iand x1 63 = 11 then
      f_L_law_b638 sc k18 v1 v2 v3 σ
    else if iand x1 63 = 12 then
      f_L_law_b661 sc k18 v1 v2 v3 σ
    else if iand x1 63 = 13 then
      f_L_law_b694 sc k18 v1 v2 v3 σ
    else if iand x1 63 = 14 then
      f_L_law_b727 sc k18 v1 v2 v3 σ
    else if iand x1 63 = 15 then
      f_L_law_b750 sc k18 v1 v2 v3 σ
    else if iand x1 63 = 16 then
      f_L_law_b809 sc k18 v1 v2 v3 σ
    else if iand x1 63 = 17 then
      f_L_law_b832 sc k18 v1 v2 v3 σ
    else if iand x1 63 = 18 then
      f_L_law_b865 sc k18 v1 v2 v3 σ
    else if iand x1 63 = 19 then
      f_L_law_b888 sc k18 v1 v2 v3 σ
    else if iand x1 63 = 20 then
      f_L_law_b911 sc k18 v1 v2 v3 σ
    else if iand x1 63 = 21 then
      f_L_law_b954 sc k18 v1 v2 v3 σ
    else if iand x1 63 = 22 then
      f_L_law_b987 sc k18 v1 v2 v3 σ
    else if iand x1 63 = 23 then
      f_L_law_b1036 sc k18 v1 v2 v3 σ
    else if iand x1 63 = 24 then
      f_L_law_b1059 sc k18 v1 v2 v3 σ
    else if iand x1 63 = 25 then
      f_L_law_b1092 sc k18 v1 v2 v3 σ
    else if iand x1 63 = 26 then
      f_L_law_b1125 sc k18 v1 v2 v3 σ
    else if iand x1 63 = 27 then
      f_L_law_b1158 sc k18 v1 v2 v3 σ
    else if iand x1 63 = 28 then
      f_L_law_b1191 sc k18 v1 v2 v3 σ
    else if iand x1 63 = 29 then
      f_L_law_b1214 sc k18 v1 v2 v3 σ
    else if iand x1 63 = 30 then
      f_L_law_b1237 sc k18 v1 v2 v3 σ
    else if iand x1 63 = 31 then
      f_L_law_b1260 sc k18 v1 v2 v3 σ
    else if iand x1 63 = 32 then
      f_L_law_b1293 sc k18 v1 v2 v3 σ
    else if iand x1 63 = 33 then
      f_L_law_b1326 sc k18 v1 v2 v3 σ
    else if iand x1 63 = 34 then
      f_L_law_b1369 sc k18 v1 v2 v3 σ
    else if iand x1 63 = 35 then
      f_L_law_b1412 sc k18 v1 v2 v3 σ
    else if iand x1 63 = 36 then
      f_L_law_b1445 sc k18 v1 v2 v3 σ
    else if iand x1 63 = 37 then
      f_L_law_b1488 sc k18 v1 v2 v3 σ
    else if iand x1 63 = 38 then
      f_L_law_b1521 sc k18 v1 v2 v3 σ
    else if iand x1 63 = 39 then
      f_L_law_b1554 sc k18 v1 v2 v3 σ
    else if iand x1 63 = 40 then
      f_L_law_b1587 sc k18 v1 v2 v3 σ
    else if iand x1 63 = 41 then
      f_L_law_b1630 sc k18 v1 v2 v3 σ
    else if iand x1 63 = 42 then
      f_L_law_b1643 sc k18 v1 v2 v3 σ
    else if iand x1 63 = 43 then
      f_L_law_b1686 sc k18 v1 v2 v3 σ
    else if iand x1 63 = 44 then
      f_L_law_b1729 sc k18 v1 v2 v3 σ
    else if iand x1 63 = 45 then
      f_L_law_b1762 sc k18 v1 v2 v3 σ
    else if iand x1 63 = 46 then
      f_L_law_b1785 sc k18 v1 v2 v3 σ
    else if iand x1 63 = 47 then
      f_L_law_b1808 sc k18 v1 v2 v3 σ
    else if iand x1 63 = 48 then
      f_L_law_b1831 sc k18 v1 v2 v3 σ
    else if iand x1 63 = 49 then
      f_L_law_b1864 sc k18 v1 v2 v3 σ
    else if iand x1 63 = 50 then
      f_L_law_b1877 sc k18 v1 v2 v3 σ
    else 
      f_L_law_b1890 sc k18 v1 v2 v3 σ
theorem L_L_law_b18 {sc : Nat × (Nat → Int32)} (hL : (sc.1 : Int) ≤ 2147483647) {k18 : (Int → Int → Int → Mem → Option Int)} (hk18 : ∀ {v1 v2 v3 : Int} {σ : Mem}, k18 v1 v2 v3 σ = some 1 → E sc FLw mt_L_law 1000 [] Sh 18 [(3, 0), (2, v1), (2, v2), (0, v3)] [] Sh σ) {v1 v2 v3 : Int} {σ : Mem} (h : f_L_law_b18 sc k18 v1 v2 v3 σ = some 1) : E sc FLw mt_L_law 1000 [] Sh 18 [(3, 0), (2, v1), (2, v2), (0, v3)] [] Sh σ := by
  unfold f_L_law_b18 at h
  refine E_iload_n d_L_law_18 rfl ?_
  refine E_aload_n d_L_law_19 rfl (by decide) ?_
  refine E_slen d_L_law_20 hL ?_
  refine E_bipush d_L_law_21 (c8 rfl) ?_
  refine E_isub d_L_law_23 ?_
  refine E_icmp_gt (tgt := 1896) d_L_law_24 (by decide) h (fun _ h => ?_) (fun _ h => ?_)
  · refine E_iconst d_L_law_1896 (c32 rfl) ?_
    exact E_lawret d_L_law_1897 Sh_sz
  · refine E_aload_n d_L_law_27 rfl (by decide) ?_
    refine E_iload_n d_L_law_28 rfl ?_
    refine E_sld d_L_law_29 h (fun x1 h => ?_)
    refine E_bipush d_L_law_30 (c8 rfl) ?_
    refine E_iand d_L_law_32 ?_
    refine br_eq h (fun q2 h => ?_) (fun q2 h => ?_)
    · refine E_tabIn (tgt := 252) d_L_law_33 q2 ⟨by decide, by decide, rfl, by decide⟩ ?_
      exact (L_L_law_b252 hL hk18 h)
    refine br_eq h (fun q3 h => ?_) (fun q3 h => ?_)
    · refine E_tabIn (tgt := 265) d_L_law_33 q3 ⟨by decide, by decide, rfl, by decide⟩ ?_
      exact (L_L_law_b265 hL hk18 h)
    refine br_eq h (fun q4 h => ?_) (fun q4 h => ?_)
    · refine E_tabIn (tgt := 279) d_L_law_33 q4 ⟨by decide, by decide, rfl, by decide⟩ ?_
      exact (L_L_law_b279 hL hk18 h)
    refine br_eq h (fun q5 h => ?_) (fun q5 h => ?_)
    · refine E_tabIn (tgt := 293) d_L_law_33 q5 ⟨by decide, by decide, rfl, by decide⟩ ?_
      exact (L_L_law_b293 hL hk18 h)
    refine br_eq h (fun q6 h => ?_) (fun q6 h => ?_)
    · refine E_tabIn (tgt := 336) d_L_law_33 q6 ⟨by decide, by decide, rfl, by decide⟩ ?_
      exact (L_L_law_b336 hL hk18 h)
    refine br_eq h (fun q7 h => ?_) (fun q7 h => ?_)
    · refine E_tabIn (tgt := 409) d_L_law_33 q7 ⟨by decide, by decide, rfl, by decide⟩ ?_
      exact (L_L_law_b409 hL hk18 h)
    refine br_eq h (fun q8 h => ?_) (fun q8 h => ?_)
    · refine E_tabIn (tgt := 443) d_L_law_33 q8 ⟨by decide, by decide, rfl, by decide⟩ ?_
      exact (L_L_law_b443 hL hk18 h)
    refine br_eq h (fun q9 h => ?_) (fun q9 h => ?_)
    · refine E_tabIn (tgt := 506) d_L_law_33 q9 ⟨by decide, by decide, rfl, by decide⟩ ?_
      exact (L_L_law_b506 hL hk18 h)
    refine br_eq h (fun q10 h => ?_) (fun q10 h => ?_)
    · refine E_tabIn (tgt := 569) d_L_law_33 q10 ⟨by decide, by decide, rfl, by decide⟩ ?_
      exact (L_L_law_b569 hL hk18 h)
    refine br_eq h (fun q11 h => ?_) (fun q11 h => ?_)
    · refine E_tabIn (tgt := 592) d_L_law_33 q11 ⟨by decide, by decide, rfl, by decide⟩ ?_
      exact (L_L_law_b592 hL hk18 h)
    refine br_eq h (fun q12 h => ?_) (fun q12 h => ?_)
    · refine E_tabIn (tgt := 615) d_L_law_33 q12 ⟨by decide, by decide, rfl, by decide⟩ ?_
      exact (L_L_law_b615 hL hk18 h)
    refine br_eq h (fun q13 h => ?_) (fun q13 h => ?_)
    · refine E_tabIn (tgt := 638) d_L_law_33 q13 ⟨by decide, by decide, rfl, by decide⟩ ?_
      exact (L_L_law_b638 hL hk18 h)
    refine br_eq h (fun q14 h => ?_) (fun q14 h => ?_)
    · refine E_tabIn (tgt := 661) d_L_law_33 q14 ⟨by decide, by decide, rfl, by decide⟩ ?_
      exact (L_L_law_b661 hL hk18 h)
    refine br_eq h (fun q15 h => ?_) (fun q15 h => ?_)
    · refine E_tabIn (tgt := 694) d_L_law_33 q15 ⟨by decide, by decide, rfl, by decide⟩ ?_
      exact (L_L_law_b694 hL hk18 h)
    refine br_eq h (fun q16 h => ?_) (fun q16 h => ?_)
    · refine E_tabIn (tgt := 727) d_L_law_33 q16 ⟨by decide, by decide, rfl, by decide⟩ ?_
      exact (L_L_law_b727 hL hk18 h)
    refine br_eq h (fun q17 h => ?_) (fun q17 h => ?_)
    · refine E_tabIn (tgt := 750) d_L_law_33 q17 ⟨by decide, by decide, rfl, by decide⟩ ?_
      exact (L_L_law_b750 hL hk18 h)
    refine br_eq h (fun q18 h => ?_) (fun q18 h => ?_)
    · refine E_tabIn (tgt := 809) d_L_law_33 q18 ⟨by decide, by decide, rfl, by decide⟩ ?_
      exact (L_L_law_b809 hL hk18 h)
    refine br_eq h (fun q19 h => ?_) (fun q19 h => ?_)
    · refine E_tabIn (tgt := 832) d_L_law_33 q19 ⟨by decide, by decide, rfl, by decide⟩ ?_
      exact (L_L_law_b832 hL hk18 h)
    refine br_eq h (fun q20 h => ?_) (fun q20 h => ?_)
    · refine E_tabIn (tgt := 865) d_L_law_33 q20 ⟨by decide, by decide, rfl, by decide⟩ ?_
      exact (L_L_law_b865 hL hk18 h)
    refine br_eq h (fun q21 h => ?_) (fun q21 h => ?_)
    · refine E_tabIn (tgt := 888) d_L_law_33 q21 ⟨by decide, by decide, rfl, by decide⟩ ?_
      exact (L_L_law_b888 hL hk18 h)
    refine br_eq h (fun q22 h => ?_) (fun q22 h => ?_)
    · refine E_tabIn (tgt := 911) d_L_law_33 q22 ⟨by decide, by decide, rfl, by decide⟩ ?_
      exact (L_L_law_b911 hL hk18 h)
    refine br_eq h (fun q23 h => ?_) (fun q23 h => ?_)
    · refine E_tabIn (tgt := 954) d_L_law_33 q23 ⟨by decide, by decide, rfl, by decide⟩ ?_
      exact (L_L_law_b954 hL hk18 h)
    refine br_eq h (fun q24 h => ?_) (fun q24 h => ?_)
    · refine E_tabIn (tgt := 987) d_L_law_33 q24 ⟨by decide, by decide, rfl, by decide⟩ ?_
      exact (L_L_law_b987 hL hk18 h)
    refine br_eq h (fun q25 h => ?_) (fun q25 h => ?_)
    · refine E_tabIn (tgt := 1036) d_L_law_33 q25 ⟨by decide, by decide, rfl, by decide⟩ ?_
      exact (L_L_law_b1036 hL hk18 h)
    refine br_eq h (fun q26 h => ?_) (fun q26 h => ?_)
    · refine E_tabIn (tgt := 1059) d_L_law_33 q26 ⟨by decide, by decide, rfl, by decide⟩ ?_
      exact (L_L_law_b1059 hL hk18 h)
    refine br_eq h (fun q27 h => ?_) (fun q27 h => ?_)
    · refine E_tabIn (tgt := 1092) d_L_law_33 q27 ⟨by decide, by decide, rfl, by decide⟩ ?_
      exact (L_L_law_b1092 hL hk18 h)
    refine br_eq h (fun q28 h => ?_) (fun q28 h => ?_)
    · refine E_tabIn (tgt := 1125) d_L_law_33 q28 ⟨by decide, by decide, rfl, by decide⟩ ?_
      exact (L_L_law_b1125 hL hk18 h)
    refine br_eq h (fun q29 h => ?_) (fun q29 h => ?_)
    · refine E_tabIn (tgt := 1158) d_L_law_33 q29 ⟨by decide, by decide, rfl, by decide⟩ ?_
      exact (L_L_law_b1158 hL hk18 h)
    refine br_eq h (fun q30 h => ?_) (fun q30 h => ?_)
    · refine E_tabIn (tgt := 1191) d_L_law_33 q30 ⟨by decide, by decide, rfl, by decide⟩ ?_
      exact (L_L_law_b1191 hL hk18 h)
    refine br_eq h (fun q31 h => ?_) (fun q31 h => ?_)
    · refine E_tabIn (tgt := 1214) d_L_law_33 q31 ⟨by decide, by decide, rfl, by decide⟩ ?_
      exact (L_L_law_b1214 hL hk18 h)
    refine br_eq h (fun q32 h => ?_) (fun q32 h => ?_)
    · refine E_tabIn (tgt := 1237) d_L_law_33 q32 ⟨by decide, by decide, rfl, by decide⟩ ?_
      exact (L_L_law_b1237 hL hk18 h)
    refine br_eq h (fun q33 h => ?_) (fun q33 h => ?_)
    · refine E_tabIn (tgt := 1260) d_L_law_33 q33 ⟨by decide, by decide, rfl, by decide⟩ ?_
      exact (L_L_law_b1260 hL hk18 h)
    refine br_eq h (fun q34 h => ?_) (fun q34 h => ?_)
    · refine E_tabIn (tgt := 1293) d_L_law_33 q34 ⟨by decide, by decide, rfl, by decide⟩ ?_
      exact (L_L_law_b1293 hL hk18 h)
    refine br_eq h (fun q35 h => ?_) (fun q35 h => ?_)
    · refine E_tabIn (tgt := 1326) d_L_law_33 q35 ⟨by decide, by decide, rfl, by decide⟩ ?_
      exact (L_L_law_b1326 hL hk18 h)
    refine br_eq h (fun q36 h => ?_) (fun q36 h => ?_)
    · refine E_tabIn (tgt := 1369) d_L_law_33 q36 ⟨by decide, by decide, rfl, by decide⟩ ?_
      exact (L_L_law_b1369 hL hk18 h)
    refine br_eq h (fun q37 h => ?_) (fun q37 h => ?_)
    · refine E_tabIn (tgt := 1412) d_L_law_33 q37 ⟨by decide, by decide, rfl, by decide⟩ ?_
      exact (L_L_law_b1412 hL hk18 h)
    refine br_eq h (fun q38 h => ?_) (fun q38 h => ?_)
    · refine E_tabIn (tgt := 1445) d_L_law_33 q38 ⟨by decide, by decide, rfl, by decide⟩ ?_
      exact (L_L_law_b1445 hL hk18 h)
    refine br_eq h (fun q39 h => ?_) (fun q39 h => ?_)
    · refine E_tabIn (tgt := 1488) d_L_law_33 q39 ⟨by decide, by decide, rfl, by decide⟩ ?_
      exact (L_L_law_b1488 hL hk18 h)
    refine br_eq h (fun q40 h => ?_) (fun q40 h => ?_)
    · refine E_tabIn (tgt := 1521) d_L_law_33 q40 ⟨by decide, by decide, rfl, by decide⟩ ?_
      exact (L_L_law_b1521 hL hk18 h)
    refine br_eq h (fun q41 h => ?_) (fun q41 h => ?_)
    · refine E_tabIn (tgt := 1554) d_L_law_33 q41 ⟨by decide, by decide, rfl, by decide⟩ ?_
      exact (L_L_law_b1554 hL hk18 h)
    refine br_eq h (fun q42 h => ?_) (fun q42 h => ?_)
    · refine E_tabIn (tgt := 1587) d_L_law_33 q42 ⟨by decide, by decide, rfl, by decide⟩ ?_
      exact (L_L_law_b1587 hL hk18 h)
    refine br_eq h (fun q43 h => ?_) (fun q43 h => ?_)
    · refine E_tabIn (tgt := 1630) d_L_law_33 q43 ⟨by decide, by decide, rfl, by decide⟩ ?_
      exact (L_L_law_b1630 hL hk18 h)
    refine br_eq h (fun q44 h => ?_) (fun q44 h => ?_)
    · refine E_tabIn (tgt := 1643) d_L_law_33 q44 ⟨by decide, by decide, rfl, by decide⟩ ?_
      exact (L_L_law_b1643 hL hk18 h)
    refine br_eq h (fun q45 h => ?_) (fun q45 h => ?_)
    · refine E_tabIn (tgt := 1686) d_L_law_33 q45 ⟨by decide, by decide, rfl, by decide⟩ ?_
      exact (L_L_law_b1686 hL hk18 h)
    refine br_eq h (fun q46 h => ?_) (fun q46 h => ?_)
    · refine E_tabIn (tgt := 1729) d_L_law_33 q46 ⟨by decide, by decide, rfl, by decide⟩ ?_
      exact (L_L_law_b1729 hL hk18 h)
    refine br_eq h (fun q47 h => ?_) (fun q47 h => ?_)
    · refine E_tabIn (tgt := 1762) d_L_law_33 q47 ⟨by decide, by decide, rfl, by decide⟩ ?_
      exact (L_L_law_b1762 hL hk18 h)
    refine br_eq h (fun q48 h => ?_) (fun q48 h => ?_)
    · refine E_tabIn (tgt := 1785) d_L_law_33 q48 ⟨by decide, by decide, rfl, by decide⟩ ?_
      exact (L_L_law_b1785 hL hk18 h)
    refine br_eq h (fun q49 h => ?_) (fun q49 h => ?_)
    · refine E_tabIn (tgt := 1808) d_L_law_33 q49 ⟨by decide, by decide, rfl, by decide⟩ ?_
      exact (L_L_law_b1808 hL hk18 h)
    refine br_eq h (fun q50 h => ?_) (fun q50 h => ?_)
    · refine E_tabIn (tgt := 1831) d_L_law_33 q50 ⟨by decide, by decide, rfl, by decide⟩ ?_
      exact (L_L_law_b1831 hL hk18 h)
    refine br_eq h (fun q51 h => ?_) (fun q51 h => ?_)
    · refine E_tabIn (tgt := 1864) d_L_law_33 q51 ⟨by decide, by decide, rfl, by decide⟩ ?_
      exact (L_L_law_b1864 hL hk18 h)
    refine br_eq h (fun q52 h => ?_) (fun q52 h => ?_)
    · refine E_tabIn (tgt := 1877) d_L_law_33 q52 ⟨by decide, by decide, rfl, by decide⟩ ?_
      exact (L_L_law_b1877 hL hk18 h)
    refine E_tabD (tgt := 1890) [0, 1, 2, 3, 4, 5, 6, 7, 8, 9, 10, 11, 12, 13, 14, 15, 16, 17, 18, 19, 20, 21, 22, 23, 24, 25, 26, 27, 28, 29, 30, 31, 32, 33, 34, 35, 36, 37, 38, 39, 40, 41, 42, 43, 44, 45, 46, 47, 48, 49, 50] d_L_law_33 (by simp only [List.mem_cons, List.not_mem_nil, or_false, not_or]; exact ⟨q2, q3, q4, q5, q6, q7, q8, q9, q10, q11, q12, q13, q14, q15, q16, q17, q18, q19, q20, q21, q22, q23, q24, q25, q26, q27, q28, q29, q30, q31, q32, q33, q34, q35, q36, q37, q38, q39, q40, q41, q42, q43, q44, q45, q46, q47, q48, q49, q50, q51, q52⟩) (by decide) ⟨by decide, by decide⟩ ?_
    exact (L_L_law_b1890 hL hk18 h)
noncomputable def f_L_law (sc : Nat × (Nat → Int32)) (n : Nat) : Int → Int → Int → Mem → Option Int := Nat.rec (motive := fun _ => Int → Int → Int → Mem → Option Int) (fun _ _ _ _ => none) (fun _ ih => f_L_law_b18 sc ih) n
theorem L_L_law {sc : Nat × (Nat → Int32)} (hL : (sc.1 : Int) ≤ 2147483647) : ∀ (n : Nat) {v1 v2 v3 : Int} {σ : Mem}, f_L_law sc n v1 v2 v3 σ = some 1 → E sc FLw mt_L_law 1000 [] Sh 18 [(3, 0), (2, v1), (2, v2), (0, v3)] [] Sh σ := by
  intro n
  induction n with
  | zero => intro v1 v2 v3 σ h; cases h
  | succ n ih => intro v1 v2 v3 σ h; exact L_L_law_b18 hL (@ih) h

