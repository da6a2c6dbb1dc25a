set_option maxRecDepth 20000 in
theorem ctK_0 {g : GT} {X : XT} {Q : State → Prop} {cells slots b N : Nat} {xs : Nat → Int32} {sh : List Shp} {i : Int32} {a1 : Int32} {a2 : Int32} {a3 : Int32} {a4 : Int32} {a5 : Int32} (hx : XSh sh) (hm : MSh sh) (ho : sh[150]? = some (.inr (3, 1, []))) (cx : Cx g X RL code) (hR : RmG X.2.2.1 40 601024 7293034) (hml : X.2.2.2.2.2.2.2.2.maxLocals = 9) (hX : va_X b N xs X.2.2.2.1 X.2.2.2.1.heap) (hbB : b < X.2.2.2.1.heap.size ∧ b < gB g) (ha1 : vp_in (i + 1) N ∧ xs (i + 1).toNatClampNeg = a1) (ha2 : vp_in (i + 2) N ∧ xs (i + 2).toNatClampNeg = a2) (ha3 : vp_in (i + 3) N ∧ xs (i + 3).toNatClampNeg = a3) (ha4 : vp_in (i + 4) N ∧ xs (i + 4).toNatClampNeg = a4) (ha5 : vp_in (i + 5) N ∧ xs (i + 5).toNatClampNeg = a5) (hc : cells + 4 ≤ 601024) (hs : slots + 24 ≤ 7293034) (h r : Hp) (hf : K_0 h a1 a2 a3 a4 a5 = some r) (kk : PW g X false Q (cells + 4) (slots + 24) sh r 1989 [some (.ref b), some (.ref (gB g + 0)), some (.ref (gB g + 140)), some (.ref (gB g + 150)), some (.int i), none, none, none, none] []) : PW g X false Q cells slots sh h 304 [some (.ref b), some (.ref (gB g + 0)), some (.ref (gB g + 140)), some (.ref (gB g + 150)), some (.int i), none, none, none, none] [] := by
  have hi5 : 5 < X.2.2.2.2.2.2.2.2.maxLocals := by rw [hml]; exact Nat.le_of_ble_eq_true rfl
  have hi6 : 6 < X.2.2.2.2.2.2.2.2.maxLocals := by rw [hml]; exact Nat.le_of_ble_eq_true rfl
  have hi7 : 7 < X.2.2.2.2.2.2.2.2.maxLocals := by rw [hml]; exact Nat.le_of_ble_eq_true rfl
  have hi8 : 8 < X.2.2.2.2.2.2.2.2.maxLocals := by rw [hml]; exact Nat.le_of_ble_eq_true rfl
  unfold K_0 at hf
  refine PW.aload_n cx qL_law_304 rfl ?_
  refine PW.aload_n cx qL_law_305 rfl ?_
  refine PW.iload cx qL_law_306 rfl ?_
  refine PW.iconst (v := 1) cx qL_law_308 rfl ?_
  refine PW.iadd cx qL_law_309 ?_
  refine PW.sld cx qL_law_310 hX hbB ha1 ?_
  refine PW.aload_n cx qL_law_311 rfl ?_
  refine PW.iload cx qL_law_312 rfl ?_
  refine PW.iconst (v := 2) cx qL_law_314 rfl ?_
  refine PW.iadd cx qL_law_315 ?_
  refine PW.sld cx qL_law_316 hX hbB ha2 ?_
  refine PW.aload_n cx qL_law_317 rfl ?_
  refine PW.iload cx qL_law_318 rfl ?_
  refine PW.iconst (v := 3) cx qL_law_320 rfl ?_
  refine PW.iadd cx qL_law_321 ?_
  refine PW.sld cx qL_law_322 hX hbB ha3 ?_
  refine PW.aload_n cx qL_law_323 rfl ?_
  refine PW.iload cx qL_law_324 rfl ?_
  refine PW.iconst (v := 4) cx qL_law_326 rfl ?_
  refine PW.iadd cx qL_law_327 ?_
  refine PW.sld cx qL_law_328 hX hbB ha4 ?_
  refine PW.aload_n cx qL_law_329 rfl ?_
  refine PW.iload cx qL_law_330 rfl ?_
  refine PW.iconst (v := 5) cx qL_law_332 rfl ?_
  refine PW.iadd cx qL_law_333 ?_
  refine PW.sld cx qL_law_334 hX hbB ha5 ?_
  refine PW.callVWIc (As := [.int a1, .int a2, .int a3, .int a4, .int a5]) (st := []) cx hR qL_law_335 klL_155 mvX6_append (sh_0 hx) rfl rfl rfl rfl (Nat.le_of_ble_eq_true rfl) (Nat.le_of_ble_eq_true rfl) (Nat.le_of_ble_eq_true rfl) (by omega) (by omega) hf sne (fun t e => ctX6_append hx h a1 a2 a3 a4 a5 t e) (fun t1 h2 hf => ?_)
  refine PW.pop cx qL_law_338 rfl ?_
  refine PW.aload_n cx qL_law_339 rfl ?_
  refine PW.aload_n cx qL_law_340 rfl ?_
  refine PW.iload cx qL_law_341 rfl ?_
  refine PW.iconst (v := 1) cx qL_law_343 rfl ?_
  refine PW.iadd cx qL_law_344 ?_
  refine PW.sld cx qL_law_345 hX hbB ha1 ?_
  refine PW.aload_n cx qL_law_346 rfl ?_
  refine PW.iload cx qL_law_347 rfl ?_
  refine PW.iconst (v := 2) cx qL_law_349 rfl ?_
  refine PW.iadd cx qL_law_350 ?_
  refine PW.sld cx qL_law_351 hX hbB ha2 ?_
  refine PW.aload_n cx qL_law_352 rfl ?_
  refine PW.iload cx qL_law_353 rfl ?_
  refine PW.iconst (v := 3) cx qL_law_355 rfl ?_
  refine PW.iadd cx qL_law_356 ?_
  refine PW.sld cx qL_law_357 hX hbB ha3 ?_
  refine PW.aload_n cx qL_law_358 rfl ?_
  refine PW.iload cx qL_law_359 rfl ?_
  refine PW.iconst (v := 4) cx qL_law_361 rfl ?_
  refine PW.iadd cx qL_law_362 ?_
  refine PW.sld cx qL_law_363 hX hbB ha4 ?_
  refine PW.aload_n cx qL_law_364 rfl ?_
  refine PW.iload cx qL_law_365 rfl ?_
  refine PW.iconst (v := 5) cx qL_law_367 rfl ?_
  refine PW.iadd cx qL_law_368 ?_
  refine PW.sld cx qL_law_369 hX hbB ha5 ?_
  refine PW.callVWIc (As := [.int a1, .int a2, .int a3, .int a4, .int a5]) (st := []) cx hR qL_law_370 klL_159 mvX7_append (sh_140 hm) rfl rfl rfl rfl (Nat.le_of_ble_eq_true rfl) (Nat.le_of_ble_eq_true rfl) (Nat.le_of_ble_eq_true rfl) (by omega) (by omega) hf sne (fun t e => ctX7_append hm h2 a1 a2 a3 a4 a5 t e) (fun t3 h4 hf => ?_)
  refine PW.pop cx qL_law_373 rfl ?_
  refine PW.goto cx qL_law_374 ?_
  cases hf
  exact PW.widen (by omega) (by omega) (PW.locs (Lsub.keep (Lsub.keep (Lsub.keep (Lsub.keep (Lsub.keep (Lsub.drop (Lsub.drop (Lsub.drop (Lsub.drop Lsub.nil))))))))) kk)
set_option maxRecDepth 20000 in
theorem ctK_1 {g : GT} {X : XT} {Q : State → Prop} {cells slots b N : Nat} {xs : Nat → Int32} {sh : List Shp} {i : Int32} {a1 : Int32} (hx : XSh sh) (hm : MSh sh) (ho : sh[150]? = some (.inr (3, 1, []))) (cx : Cx g X RL code) (hR : RmG X.2.2.1 40 601024 7293034) (hml : X.2.2.2.2.2.2.2.2.maxLocals = 9) (hX : va_X b N xs X.2.2.2.1 X.2.2.2.1.heap) (hbB : b < X.2.2.2.1.heap.size ∧ b < gB g) (ha1 : vp_in (i + 1) N ∧ xs (i + 1).toNatClampNeg = a1) (hc : cells + 4 ≤ 601024) (hs : slots + 24 ≤ 7293034) (h r : Hp) (hf : K_1 h a1 = some r) (kk : PW g X false Q (cells + 4) (slots + 24) sh r 1989 [some (.ref b), some (.ref (gB g + 0)), some (.ref (gB g + 140)), some (.ref (gB g + 150)), some (.int i), none, none, none, none] []) : PW g X false Q cells slots sh h 377 [some (.ref b), some (.ref (gB g + 0)), some (.ref (gB g + 140)), some (.ref (gB g + 150)), some (.int i), none, none, none, none] [] := by
  have hi5 : 5 < X.2.2.2.2.2.2.2.2.maxLocals := by rw [hml]; exact Nat.le_of_ble_eq_true rfl
  have hi6 : 6 < X.2.2.2.2.2.2.2.2.maxLocals := by rw [hml]; exact Nat.le_of_ble_eq_true rfl
  have hi7 : 7 < X.2.2.2.2.2.2.2.2.maxLocals := by rw [hml]; exact Nat.le_of_ble_eq_true rfl
  have hi8 : 8 < X.2.2.2.2.2.2.2.2.maxLocals := by rw [hml]; exact Nat.le_of_ble_eq_true rfl
  unfold K_1 at hf
  refine PW.aload_n cx qL_law_377 rfl ?_
  refine PW.aload_n cx qL_law_378 rfl ?_
  refine PW.iload cx qL_law_379 rfl ?_
  refine PW.iconst (v := 1) cx qL_law_381 rfl ?_
  refine PW.iadd cx qL_law_382 ?_
  refine PW.sld cx qL_law_383 hX hbB ha1 ?_
  refine PW.aload_n cx qL_law_384 rfl ?_
  refine PW.callWI (As := [.ref (gB g + 0), .int a1, .ref (gB g + 150)]) (st := []) cx hR qL_law_385 kw160 mw_truncateInput rfl rfl (Nat.le_of_ble_eq_true rfl) (Nat.le_of_ble_eq_true rfl) (Nat.le_of_ble_eq_true rfl) (by omega) (by omega) hf sne (fun t e => ctL_truncateInput hx ho h a1 t e) (fun t1 h2 hf => ?_)
  refine PW.istore (L' := [some (.ref b), some (.ref (gB g + 0)), some (.ref (gB g + 140)), some (.ref (gB g + 150)), some (.int i), some (.int t1), none, none, none]) cx qL_law_388 hi5 rfl rfl ?_
  refine PW.aload_n cx qL_law_390 rfl ?_
  refine PW.aload_n cx qL_law_391 rfl ?_
  refine PW.iload cx qL_law_392 rfl ?_
  refine PW.iconst (v := 1) cx qL_law_394 rfl ?_
  refine PW.iadd cx qL_law_395 ?_
  refine PW.sld cx qL_law_396 hX hbB ha1 ?_
  refine PW.callVWIc (As := [.int a1]) (st := []) cx hR qL_law_397 klL_165 mvX7_truncateInput (sh_140 hm) rfl rfl rfl rfl (Nat.le_of_ble_eq_true rfl) (Nat.le_of_ble_eq_true rfl) (Nat.le_of_ble_eq_true rfl) (by omega) (by omega) hf sne (fun t e => ctX7_truncateInput hm h2 a1 t e) (fun t3 h4 hf => ?_)
  refine PW.istore (L' := [some (.ref b), some (.ref (gB g + 0)), some (.ref (gB g + 140)), some (.ref (gB g + 150)), some (.int i), some (.int t1), some (.int t3), none, none]) cx qL_law_400 hi6 rfl rfl ?_
  refine PW.goto cx qL_law_402 ?_
  cases hf
  exact PW.widen (by omega) (by omega) (PW.locs (Lsub.keep (Lsub.keep (Lsub.keep (Lsub.keep (Lsub.keep (Lsub.drop (Lsub.drop (Lsub.drop (Lsub.drop Lsub.nil))))))))) kk)
set_option maxRecDepth 20000 in
theorem ctK_2 {g : GT} {X : XT} {Q : State → Prop} {cells slots b N : Nat} {xs : Nat → Int32} {sh : List Shp} {i : Int32} (hx : XSh sh) (hm : MSh sh) (ho : sh[150]? = some (.inr (3, 1, []))) (cx : Cx g X RL code) (hR : RmG X.2.2.1 40 601024 7293034) (hml : X.2.2.2.2.2.2.2.2.maxLocals = 9) (hX : va_X b N xs X.2.2.2.1 X.2.2.2.1.heap) (hbB : b < X.2.2.2.1.heap.size ∧ b < gB g) (hc : cells + 4 ≤ 601024) (hs : slots + 24 ≤ 7293034) (h r : Hp) (hf : K_2 h = some r) (kk : PW g X false Q (cells + 4) (slots + 24) sh r 1989 [some (.ref b), some (.ref (gB g + 0)), some (.ref (gB g + 140)), some (.ref (gB g + 150)), some (.int i), none, none, none, none] []) : PW g X false Q cells slots sh h 405 [some (.ref b), some (.ref (gB g + 0)), some (.ref (gB g + 140)), some (.ref (gB g + 150)), some (.int i), none, none, none, none] [] := by
  have hi5 : 5 < X.2.2.2.2.2.2.2.2.maxLocals := by rw [hml]; exact Nat.le_of_ble_eq_true rfl
  have hi6 : 6 < X.2.2.2.2.2.2.2.2.maxLocals := by rw [hml]; exact Nat.le_of_ble_eq_true rfl
  have hi7 : 7 < X.2.2.2.2.2.2.2.2.maxLocals := by rw [hml]; exact Nat.le_of_ble_eq_true rfl
  have hi8 : 8 < X.2.2.2.2.2.2.2.2.maxLocals := by rw [hml]; exact Nat.le_of_ble_eq_true rfl
  unfold K_2 at hf
  refine PW.aload_n cx qL_law_405 rfl ?_
  refine PW.callVWIc (As := []) (st := []) cx hR qL_law_406 klL_166 mvX6_runScript (sh_0 hx) rfl rfl rfl rfl (Nat.le_of_ble_eq_true rfl) (Nat.le_of_ble_eq_true rfl) (Nat.le_of_ble_eq_true rfl) (by omega) (by omega) hf sne (fun t e => ctX6_runScript hx h t e) (fun t1 h2 hf => ?_)
  refine PW.pop cx qL_law_409 rfl ?_
  refine PW.aload_n cx qL_law_410 rfl ?_
  refine PW.callVWIc (As := []) (st := []) cx hR qL_law_411 klL_169 mvX7_runScript (sh_140 hm) rfl rfl rfl rfl (Nat.le_of_ble_eq_true rfl) (Nat.le_of_ble_eq_true rfl) (Nat.le_of_ble_eq_true rfl) (by omega) (by omega) hf sne (fun t e => ctX7_runScript hm h2 t e) (fun t3 h4 hf => ?_)
  refine PW.pop cx qL_law_414 rfl ?_
  refine PW.goto cx qL_law_415 ?_
  cases hf
  exact PW.widen (by omega) (by omega) (PW.locs (Lsub.keep (Lsub.keep (Lsub.keep (Lsub.keep (Lsub.keep (Lsub.drop (Lsub.drop (Lsub.drop (Lsub.drop Lsub.nil))))))))) kk)
set_option maxRecDepth 20000 in
theorem ctK_3 {g : GT} {X : XT} {Q : State → Prop} {cells slots b N : Nat} {xs : Nat → Int32} {sh : List Shp} {i : Int32} {a1 : Int32} (hx : XSh sh) (hm : MSh sh) (ho : sh[150]? = some (.inr (3, 1, []))) (cx : Cx g X RL code) (hR : RmG X.2.2.1 40 601024 7293034) (hml : X.2.2.2.2.2.2.2.2.maxLocals = 9) (hX : va_X b N xs X.2.2.2.1 X.2.2.2.1.heap) (hbB : b < X.2.2.2.1.heap.size ∧ b < gB g) (ha1 : vp_in (i + 1) N ∧ xs (i + 1).toNatClampNeg = a1) (hc : cells + 4 ≤ 601024) (hs : slots + 24 ≤ 7293034) (h r : Hp) (hf : K_3 h a1 = some r) (kk : PW g X false Q (cells + 4) (slots + 24) sh r 1989 [some (.ref b), some (.ref (gB g + 0)), some (.ref (gB g + 140)), some (.ref (gB g + 150)), some (.int i), none, none, none, none] []) : PW g X false Q cells slots sh h 418 [some (.ref b), some (.ref (gB g + 0)), some (.ref (gB g + 140)), some (.ref (gB g + 150)), some (.int i), none, none, none, none] [] := by
  have hi5 : 5 < X.2.2.2.2.2.2.2.2.maxLocals := by rw [hml]; exact Nat.le_of_ble_eq_true rfl
  have hi6 : 6 < X.2.2.2.2.2.2.2.2.maxLocals := by rw [hml]; exact Nat.le_of_ble_eq_true rfl
  have hi7 : 7 < X.2.2.2.2.2.2.2.2.maxLocals := by rw [hml]; exact Nat.le_of_ble_eq_true rfl
  have hi8 : 8 < X.2.2.2.2.2.2.2.2.maxLocals := by rw [hml]; exact Nat.le_of_ble_eq_true rfl
  unfold K_3 at hf
  refine PW.aload_n cx qL_law_418 rfl ?_
  refine PW.aload_n cx qL_law_419 rfl ?_
  refine PW.iload cx qL_law_420 rfl ?_
  refine PW.iconst (v := 1) cx qL_law_422 rfl ?_
  refine PW.iadd cx qL_law_423 ?_
  refine PW.sld cx qL_law_424 hX hbB ha1 ?_
  refine PW.aload_n cx qL_law_425 rfl ?_
  refine PW.callWI (As := [.ref (gB g + 0), .int a1, .ref (gB g + 150)]) (st := []) cx hR qL_law_426 kw170 mw_addClip rfl rfl (Nat.le_of_ble_eq_true rfl) (Nat.le_of_ble_eq_true rfl) (Nat.le_of_ble_eq_true rfl) (by omega) (by omega) hf sne (fun t e => ctL_addClip hx ho h a1 t e) (fun t1 h2 hf => ?_)
  refine PW.istore (L' := [some (.ref b), some (.ref (gB g + 0)), some (.ref (gB g + 140)), some (.ref (gB g + 150)), some (.int i), some (.int t1), none, none, none]) cx qL_law_429 hi5 rfl rfl ?_
  refine PW.aload_n cx qL_law_431 rfl ?_
  refine PW.aload_n cx qL_law_432 rfl ?_
  refine PW.iload cx qL_law_433 rfl ?_
  refine PW.iconst (v := 1) cx qL_law_435 rfl ?_
  refine PW.iadd cx qL_law_436 ?_
  refine PW.sld cx qL_law_437 hX hbB ha1 ?_
  refine PW.callVWIc (As := [.int a1]) (st := []) cx hR qL_law_438 klL_172 mvX7_addClip (sh_140 hm) rfl rfl rfl rfl (Nat.le_of_ble_eq_true rfl) (Nat.le_of_ble_eq_true rfl) (Nat.le_of_ble_eq_true rfl) (by omega) (by omega) hf sne (fun t e => ctX7_addClip hm h2 a1 t e) (fun t3 h4 hf => ?_)
  refine PW.istore (L' := [some (.ref b), some (.ref (gB g + 0)), some (.ref (gB g + 140)), some (.ref (gB g + 150)), some (.int i), some (.int t1), some (.int t3), none, none]) cx qL_law_441 hi6 rfl rfl ?_
  refine PW.goto cx qL_law_443 ?_
  cases hf
  exact PW.widen (by omega) (by omega) (PW.locs (Lsub.keep (Lsub.keep (Lsub.keep (Lsub.keep (Lsub.keep (Lsub.drop (Lsub.drop (Lsub.drop (Lsub.drop Lsub.nil))))))))) kk)
set_option maxRecDepth 20000 in
theorem ctK_4 {g : GT} {X : XT} {Q : State → Prop} {cells slots b N : Nat} {xs : Nat → Int32} {sh : List Shp} {i : Int32} {a1 : Int32} (hx : XSh sh) (hm : MSh sh) (ho : sh[150]? = some (.inr (3, 1, []))) (cx : Cx g X RL code) (hR : RmG X.2.2.1 40 601024 7293034) (hml : X.2.2.2.2.2.2.2.2.maxLocals = 9) (hX : va_X b N xs X.2.2.2.1 X.2.2.2.1.heap) (hbB : b < X.2.2.2.1.heap.size ∧ b < gB g) (ha1 : vp_in (i + 1) N ∧ xs (i + 1).toNatClampNeg = a1) (hc : cells + 4 ≤ 601024) (hs : slots + 24 ≤ 7293034) (h r : Hp) (hf : K_4 h a1 = some r) (kk : PW g X false Q (cells + 4) (slots + 24) sh r 1989 [some (.ref b), some (.ref (gB g + 0)), some (.ref (gB g + 140)), some (.ref (gB g + 150)), some (.int i), none, none, none, none] []) : PW g X false Q cells slots sh h 446 [some (.ref b), some (.ref (gB g + 0)), some (.ref (gB g + 140)), some (.ref (gB g + 150)), some (.int i), none, none, none, none] [] := by
  have hi5 : 5 < X.2.2.2.2.2.2.2.2.maxLocals := by rw [hml]; exact Nat.le_of_ble_eq_true rfl
  have hi6 : 6 < X.2.2.2.2.2.2.2.2.maxLocals := by rw [hml]; exact Nat.le_of_ble_eq_true rfl
  have hi7 : 7 < X.2.2.2.2.2.2.2.2.maxLocals := by rw [hml]; exact Nat.le_of_ble_eq_true rfl
  have hi8 : 8 < X.2.2.2.2.2.2.2.2.maxLocals := by rw [hml]; exact Nat.le_of_ble_eq_true rfl
  unfold K_4 at hf
  refine PW.aload_n cx qL_law_446 rfl ?_
  refine PW.aload_n cx qL_law_447 rfl ?_
  refine PW.iload cx qL_law_448 rfl ?_
  refine PW.iconst (v := 1) cx qL_law_450 rfl ?_
  refine PW.iadd cx qL_law_451 ?_
  refine PW.sld cx qL_law_452 hX hbB ha1 ?_
  refine PW.aload_n cx qL_law_453 rfl ?_
  refine PW.callWI (As := [.ref (gB g + 0), .int a1, .ref (gB g + 150)]) (st := []) cx hR qL_law_454 kw173 mw_addReel rfl rfl (Nat.le_of_ble_eq_true rfl) (Nat.le_of_ble_eq_true rfl) (Nat.le_of_ble_eq_true rfl) (by omega) (by omega) hf sne (fun t e => ctL_addReel hx ho h a1 t e) (fun t1 h2 hf => ?_)
  refine PW.istore (L' := [some (.ref b), some (.ref (gB g + 0)), some (.ref (gB g + 140)), some (.ref (gB g + 150)), some (.int i), some (.int t1), none, none, none]) cx qL_law_457 hi5 rfl rfl ?_
  refine PW.aload_n cx qL_law_459 rfl ?_
  refine PW.aload_n cx qL_law_460 rfl ?_
  refine PW.iload cx qL_law_461 rfl ?_
  refine PW.iconst (v := 1) cx qL_law_463 rfl ?_
  refine PW.iadd cx qL_law_464 ?_
  refine PW.sld cx qL_law_465 hX hbB ha1 ?_
  refine PW.callVWIc (As := [.int a1]) (st := []) cx hR qL_law_466 klL_175 mvX7_addReel (sh_140 hm) rfl rfl rfl rfl (Nat.le_of_ble_eq_true rfl) (Nat.le_of_ble_eq_true rfl) (Nat.le_of_ble_eq_true rfl) (by omega) (by omega) hf sne (fun t e => ctX7_addReel hm h2 a1 t e) (fun t3 h4 hf => ?_)
  refine PW.istore (L' := [some (.ref b), some (.ref (gB g + 0)), some (.ref (gB g + 140)), some (.ref (gB g + 150)), some (.int i), some (.int t1), some (.int t3), none, none]) cx qL_law_469 hi6 rfl rfl ?_
  refine PW.goto cx qL_law_471 ?_
  cases hf
  exact PW.widen (by omega) (by omega) (PW.locs (Lsub.keep (Lsub.keep (Lsub.keep (Lsub.keep (Lsub.keep (Lsub.drop (Lsub.drop (Lsub.drop (Lsub.drop Lsub.nil))))))))) kk)
set_option maxRecDepth 20000 in
theorem ctK_5 {g : GT} {X : XT} {Q : State → Prop} {cells slots b N : Nat} {xs : Nat → Int32} {sh : List Shp} {i : Int32} {a1 : Int32} (hx : XSh sh) (hm : MSh sh) (ho : sh[150]? = some (.inr (3, 1, []))) (cx : Cx g X RL code) (hR : RmG X.2.2.1 40 601024 7293034) (hml : X.2.2.2.2.2.2.2.2.maxLocals = 9) (hX : va_X b N xs X.2.2.2.1 X.2.2.2.1.heap) (hbB : b < X.2.2.2.1.heap.size ∧ b < gB g) (ha1 : vp_in (i + 1) N ∧ xs (i + 1).toNatClampNeg = a1) (hc : cells + 4 ≤ 601024) (hs : slots + 24 ≤ 7293034) (h r : Hp) (hf : K_5 h a1 = some r) (kk : PW g X false Q (cells + 4) (slots + 24) sh r 1989 [some (.ref b), some (.ref (gB g + 0)), some (.ref (gB g + 140)), some (.ref (gB g + 150)), some (.int i), none, none, none, none] []) : PW g X false Q cells slots sh h 474 [some (.ref b), some (.ref (gB g + 0)), some (.ref (gB g + 140)), some (.ref (gB g + 150)), some (.int i), none, none, none, none] [] := by
  have hi5 : 5 < X.2.2.2.2.2.2.2.2.maxLocals := by rw [hml]; exact Nat.le_of_ble_eq_true rfl
  have hi6 : 6 < X.2.2.2.2.2.2.2.2.maxLocals := by rw [hml]; exact Nat.le_of_ble_eq_true rfl
  have hi7 : 7 < X.2.2.2.2.2.2.2.2.maxLocals := by rw [hml]; exact Nat.le_of_ble_eq_true rfl
  have hi8 : 8 < X.2.2.2.2.2.2.2.2.maxLocals := by rw [hml]; exact Nat.le_of_ble_eq_true rfl
  unfold K_5 at hf
  refine PW.aload_n cx qL_law_474 rfl ?_
  refine PW.aload_n cx qL_law_475 rfl ?_
  refine PW.iload cx qL_law_476 rfl ?_
  refine PW.iconst (v := 1) cx qL_law_478 rfl ?_
  refine PW.iadd cx qL_law_479 ?_
  refine PW.sld cx qL_law_480 hX hbB ha1 ?_
  refine PW.aload_n cx qL_law_481 rfl ?_
  refine PW.callWI (As := [.ref (gB g + 0), .int a1, .ref (gB g + 150)]) (st := []) cx hR qL_law_482 kw176 mw_addScene rfl rfl (Nat.le_of_ble_eq_true rfl) (Nat.le_of_ble_eq_true rfl) (Nat.le_of_ble_eq_true rfl) (by omega) (by omega) hf sne (fun t e => ctL_addScene hx ho h a1 t e) (fun t1 h2 hf => ?_)
  refine PW.istore (L' := [some (.ref b), some (.ref (gB g + 0)), some (.ref (gB g + 140)), some (.ref (gB g + 150)), some (.int i), some (.int t1), none, none, none]) cx qL_law_485 hi5 rfl rfl ?_
  refine PW.aload_n cx qL_law_487 rfl ?_
  refine PW.aload_n cx qL_law_488 rfl ?_
  refine PW.iload cx qL_law_489 rfl ?_
  refine PW.iconst (v := 1) cx qL_law_491 rfl ?_
  refine PW.iadd cx qL_law_492 ?_
  refine PW.sld cx qL_law_493 hX hbB ha1 ?_
  refine PW.callVWIc (As := [.int a1]) (st := []) cx hR qL_law_494 klL_178 mvX7_addScene (sh_140 hm) rfl rfl rfl rfl (Nat.le_of_ble_eq_true rfl) (Nat.le_of_ble_eq_true rfl) (Nat.le_of_ble_eq_true rfl) (by omega) (by omega) hf sne (fun t e => ctX7_addScene hm h2 a1 t e) (fun t3 h4 hf => ?_)
  refine PW.istore (L' := [some (.ref b), some (.ref (gB g + 0)), some (.ref (gB g + 140)), some (.ref (gB g + 150)), some (.int i), some (.int t1), some (.int t3), none, none]) cx qL_law_497 hi6 rfl rfl ?_
  refine PW.goto cx qL_law_499 ?_
  cases hf
  exact PW.widen (by omega) (by omega) (PW.locs (Lsub.keep (Lsub.keep (Lsub.keep (Lsub.keep (Lsub.keep (Lsub.drop (Lsub.drop (Lsub.drop (Lsub.drop Lsub.nil))))))))) kk)
set_option maxRecDepth 20000 in
theorem ctK_6 {g : GT} {X : XT} {Q : State → Prop} {cells slots b N : Nat} {xs : Nat → Int32} {sh : List Shp} {i : Int32} {a1 : Int32} {a2 : Int32} (hx : XSh sh) (hm : MSh sh) (ho : sh[150]? = some (.inr (3, 1, []))) (cx : Cx g X RL code) (hR : RmG X.2.2.1 40 601024 7293034) (hml : X.2.2.2.2.2.2.2.2.maxLocals = 9) (hX : va_X b N xs X.2.2.2.1 X.2.2.2.1.heap) (hbB : b < X.2.2.2.1.heap.size ∧ b < gB g) (ha1 : vp_in (i + 1) N ∧ xs (i + 1).toNatClampNeg = a1) (ha2 : vp_in (i + 2) N ∧ xs (i + 2).toNatClampNeg = a2) (hc : cells + 4 ≤ 601024) (hs : slots + 24 ≤ 7293034) (h r : Hp) (hf : K_6 h a1 a2 = some r) (kk : PW g X false Q (cells + 4) (slots + 24) sh r 1989 [some (.ref b), some (.ref (gB g + 0)), some (.ref (gB g + 140)), some (.ref (gB g + 150)), some (.int i), none, none, none, none] []) : PW g X false Q cells slots sh h 502 [some (.ref b), some (.ref (gB g + 0)), some (.ref (gB g + 140)), some (.ref (gB g + 150)), some (.int i), none, none, none, none] [] := by
  have hi5 : 5 < X.2.2.2.2.2.2.2.2.maxLocals := by rw [hml]; exact Nat.le_of_ble_eq_true rfl
  have hi6 : 6 < X.2.2.2.2.2.2.2.2.maxLocals := by rw [hml]; exact Nat.le_of_ble_eq_true rfl
  have hi7 : 7 < X.2.2.2.2.2.2.2.2.maxLocals := by rw [hml]; exact Nat.le_of_ble_eq_true rfl
  have hi8 : 8 < X.2.2.2.2.2.2.2.2.maxLocals := by rw [hml]; exact Nat.le_of_ble_eq_true rfl
  unfold K_6 at hf
  refine PW.aload_n cx qL_law_502 rfl ?_
  refine PW.aload_n cx qL_law_503 rfl ?_
  refine PW.iload cx qL_law_504 rfl ?_
  refine PW.iconst (v := 1) cx qL_law_506 rfl ?_
  refine PW.iadd cx qL_law_507 ?_
  refine PW.sld cx qL_law_508 hX hbB ha1 ?_
  refine PW.aload_n cx qL_law_509 rfl ?_
  refine PW.iload cx qL_law_510 rfl ?_
  refine PW.iconst (v := 2) cx qL_law_512 rfl ?_
  refine PW.iadd cx qL_law_513 ?_
  refine PW.sld cx qL_law_514 hX hbB ha2 ?_
  refine PW.aload_n cx qL_law_515 rfl ?_
  refine PW.callWI (As := [.ref (gB g + 0), .int a1, .int a2, .ref (gB g + 150)]) (st := []) cx hR qL_law_516 kw179 mw_sleep rfl rfl (Nat.le_of_ble_eq_true rfl) (Nat.le_of_ble_eq_true rfl) (Nat.le_of_ble_eq_true rfl) (by omega) (by omega) hf sne (fun t e => ctL_sleep hx ho h a1 a2 t e) (fun t1 h2 hf => ?_)
  refine PW.istore (L' := [some (.ref b), some (.ref (gB g + 0)), some (.ref (gB g + 140)), some (.ref (gB g + 150)), some (.int i), some (.int t1), none, none, none]) cx qL_law_519 hi5 rfl rfl ?_
  refine PW.aload_n cx qL_law_521 rfl ?_
  refine PW.aload_n cx qL_law_522 rfl ?_
  refine PW.iload cx qL_law_523 rfl ?_
  refine PW.iconst (v := 1) cx qL_law_525 rfl ?_
  refine PW.iadd cx qL_law_526 ?_
  refine PW.sld cx qL_law_527 hX hbB ha1 ?_
  refine PW.aload_n cx qL_law_528 rfl ?_
  refine PW.iload cx qL_law_529 rfl ?_
  refine PW.iconst (v := 2) cx qL_law_531 rfl ?_
  refine PW.iadd cx qL_law_532 ?_
  refine PW.sld cx qL_law_533 hX hbB ha2 ?_
  refine PW.callVWIc (As := [.int a1, .int a2]) (st := []) cx hR qL_law_534 klL_182 mvX7_sleep (sh_140 hm) rfl rfl rfl rfl (Nat.le_of_ble_eq_true rfl) (Nat.le_of_ble_eq_true rfl) (Nat.le_of_ble_eq_true rfl) (by omega) (by omega) hf sne (fun t e => ctX7_sleep hm h2 a1 a2 t e) (fun t3 h4 hf => ?_)
  refine PW.istore (L' := [some (.ref b), some (.ref (gB g + 0)), some (.ref (gB g + 140)), some (.ref (gB g + 150)), some (.int i), some (.int t1), some (.int t3), none, none]) cx qL_law_537 hi6 rfl rfl ?_
  refine PW.goto cx qL_law_539 ?_
  cases hf
  exact PW.widen (by omega) (by omega) (PW.locs (Lsub.keep (Lsub.keep (Lsub.keep (Lsub.keep (Lsub.keep (Lsub.drop (Lsub.drop (Lsub.drop (Lsub.drop Lsub.nil))))))))) kk)
set_option maxRecDepth 20000 in
theorem ctK_7 {g : GT} {X : XT} {Q : State → Prop} {cells slots b N : Nat} {xs : Nat → Int32} {sh : List Shp} {i : Int32} {a1 : Int32} (hx : XSh sh) (hm : MSh sh) (ho : sh[150]? = some (.inr (3, 1, []))) (cx : Cx g X RL code) (hR : RmG X.2.2.1 40 601024 7293034) (hml : X.2.2.2.2.2.2.2.2.maxLocals = 9) (hX : va_X b N xs X.2.2.2.1 X.2.2.2.1.heap) (hbB : b < X.2.2.2.1.heap.size ∧ b < gB g) (ha1 : vp_in (i + 1) N ∧ xs (i + 1).toNatClampNeg = a1) (hc : cells + 4 ≤ 601024) (hs : slots + 24 ≤ 7293034) (h r : Hp) (hf : K_7 h a1 = some r) (kk : PW g X false Q (cells + 4) (slots + 24) sh r 1989 [some (.ref b), some (.ref (gB g + 0)), some (.ref (gB g + 140)), some (.ref (gB g + 150)), some (.int i), none, none, none, none] []) : PW g X false Q cells slots sh h 542 [some (.ref b), some (.ref (gB g + 0)), some (.ref (gB g + 140)), some (.ref (gB g + 150)), some (.int i), none, none, none, none] [] := by
  have hi5 : 5 < X.2.2.2.2.2.2.2.2.maxLocals := by rw [hml]; exact Nat.le_of_ble_eq_true rfl
  have hi6 : 6 < X.2.2.2.2.2.2.2.2.maxLocals := by rw [hml]; exact Nat.le_of_ble_eq_true rfl
  have hi7 : 7 < X.2.2.2.2.2.2.2.2.maxLocals := by rw [hml]; exact Nat.le_of_ble_eq_true rfl
  have hi8 : 8 < X.2.2.2.2.2.2.2.2.maxLocals := by rw [hml]; exact Nat.le_of_ble_eq_true rfl
  unfold K_7 at hf
  refine PW.aload_n cx qL_law_542 rfl ?_
  refine PW.aload_n cx qL_law_543 rfl ?_
  refine PW.iload cx qL_law_544 rfl ?_
  refine PW.iconst (v := 1) cx qL_law_546 rfl ?_
  refine PW.iadd cx qL_law_547 ?_
  refine PW.sld cx qL_law_548 hX hbB ha1 ?_
  refine PW.aload_n cx qL_law_549 rfl ?_
  refine PW.callWI (As := [.ref (gB g + 0), .int a1, .ref (gB g + 150)]) (st := []) cx hR qL_law_550 kw183 mw_wake rfl rfl (Nat.le_of_ble_eq_true rfl) (Nat.le_of_ble_eq_true rfl) (Nat.le_of_ble_eq_true rfl) (by omega) (by omega) hf sne (fun t e => ctL_wake hx ho h a1 t e) (fun t1 h2 hf => ?_)
  refine PW.istore (L' := [some (.ref b), some (.ref (gB g + 0)), some (.ref (gB g + 140)), some (.ref (gB g + 150)), some (.int i), some (.int t1), none, none, none]) cx qL_law_553 hi5 rfl rfl ?_
  refine PW.aload_n cx qL_law_555 rfl ?_
  refine PW.aload_n cx qL_law_556 rfl ?_
  refine PW.iload cx qL_law_557 rfl ?_
  refine PW.iconst (v := 1) cx qL_law_559 rfl ?_
  refine PW.iadd cx qL_law_560 ?_
  refine PW.sld cx qL_law_561 hX hbB ha1 ?_
  refine PW.callVWIc (As := [.int a1]) (st := []) cx hR qL_law_562 klL_185 mvX7_wake (sh_140 hm) rfl rfl rfl rfl (Nat.le_of_ble_eq_true rfl) (Nat.le_of_ble_eq_true rfl) (Nat.le_of_ble_eq_true rfl) (by omega) (by omega) hf sne (fun t e => ctX7_wake hm h2 a1 t e) (fun t3 h4 hf => ?_)
  refine PW.istore (L' := [some (.ref b), some (.ref (gB g + 0)), some (.ref (gB g + 140)), some (.ref (gB g + 150)), some (.int i), some (.int t1), some (.int t3), none, none]) cx qL_law_565 hi6 rfl rfl ?_
  refine PW.goto cx qL_law_567 ?_
  cases hf
  exact PW.widen (by omega) (by omega) (PW.locs (Lsub.keep (Lsub.keep (Lsub.keep (Lsub.keep (Lsub.keep (Lsub.drop (Lsub.drop (Lsub.drop (Lsub.drop Lsub.nil))))))))) kk)
set_option maxRecDepth 20000 in
theorem ctK_8 {g : GT} {X : XT} {Q : State → Prop} {cells slots b N : Nat} {xs : Nat → Int32} {sh : List Shp} {i : Int32} {a1 : Int32} {a2 : Int32} (hx : XSh sh) (hm : MSh sh) (ho : sh[150]? = some (.inr (3, 1, []))) (cx : Cx g X RL code) (hR : RmG X.2.2.1 40 601024 7293034) (hml : X.2.2.2.2.2.2.2.2.maxLocals = 9) (hX : va_X b N xs X.2.2.2.1 X.2.2.2.1.heap) (hbB : b < X.2.2.2.1.heap.size ∧ b < gB g) (ha1 : vp_in (i + 1) N ∧ xs (i + 1).toNatClampNeg = a1) (ha2 : vp_in (i + 2) N ∧ xs (i + 2).toNatClampNeg = a2) (hc : cells + 4 ≤ 601024) (hs : slots + 24 ≤ 7293034) (h r : Hp) (hf : K_8 h a1 a2 = some r) (kk : PW g X false Q (cells + 4) (slots + 24) sh r 1989 [some (.ref b), some (.ref (gB g + 0)), some (.ref (gB g + 140)), some (.ref (gB g + 150)), some (.int i), none, none, none, none] []) : PW g X false Q cells slots sh h 570 [some (.ref b), some (.ref (gB g + 0)), some (.ref (gB g + 140)), some (.ref (gB g + 150)), some (.int i), none, none, none, none] [] := by
  have hi5 : 5 < X.2.2.2.2.2.2.2.2.maxLocals := by rw [hml]; exact Nat.le_of_ble_eq_true rfl
  have hi6 : 6 < X.2.2.2.2.2.2.2.2.maxLocals := by rw [hml]; exact Nat.le_of_ble_eq_true rfl
  have hi7 : 7 < X.2.2.2.2.2.2.2.2.maxLocals := by rw [hml]; exact Nat.le_of_ble_eq_true rfl
  have hi8 : 8 < X.2.2.2.2.2.2.2.2.maxLocals := by rw [hml]; exact Nat.le_of_ble_eq_true rfl
  unfold K_8 at hf
  refine PW.aload_n cx qL_law_570 rfl ?_
  refine PW.aload_n cx qL_law_571 rfl ?_
  refine PW.iload cx qL_law_572 rfl ?_
  refine PW.iconst (v := 1) cx qL_law_574 rfl ?_
  refine PW.iadd cx qL_law_575 ?_
  refine PW.sld cx qL_law_576 hX hbB ha1 ?_
  refine PW.aload_n cx qL_law_577 rfl ?_
  refine PW.iload cx qL_law_578 rfl ?_
  refine PW.iconst (v := 2) cx qL_law_580 rfl ?_
  refine PW.iadd cx qL_law_581 ?_
  refine PW.sld cx qL_law_582 hX hbB ha2 ?_
  refine PW.aload_n cx qL_law_583 rfl ?_
  refine PW.callWI (As := [.ref (gB g + 0), .int a1, .int a2, .ref (gB g + 150)]) (st := []) cx hR qL_law_584 kw186 mw_cut rfl rfl (Nat.le_of_ble_eq_true rfl) (Nat.le_of_ble_eq_true rfl) (Nat.le_of_ble_eq_true rfl) (by omega) (by omega) hf sne (fun t e => ctL_cut hx ho h a1 a2 t e) (fun t1 h2 hf => ?_)
  refine PW.istore (L' := [some (.ref b), some (.ref (gB g + 0)), some (.ref (gB g + 140)), some (.ref (gB g + 150)), some (.int i), some (.int t1), none, none, none]) cx qL_law_587 hi5 rfl rfl ?_
  refine PW.aload_n cx qL_law_589 rfl ?_
  refine PW.aload_n cx qL_law_590 rfl ?_
  refine PW.iload cx qL_law_591 rfl ?_
  refine PW.iconst (v := 1) cx qL_law_593 rfl ?_
  refine PW.iadd cx qL_law_594 ?_
  refine PW.sld cx qL_law_595 hX hbB ha1 ?_
  refine PW.aload_n cx qL_law_596 rfl ?_
  refine PW.iload cx qL_law_597 rfl ?_
  refine PW.iconst (v := 2) cx qL_law_599 rfl ?_
  refine PW.iadd cx qL_law_600 ?_
  refine PW.sld cx qL_law_601 hX hbB ha2 ?_
  refine PW.callVWIc (As := [.int a1, .int a2]) (st := []) cx hR qL_law_602 klL_188 mvX7_cut (sh_140 hm) rfl rfl rfl rfl (Nat.le_of_ble_eq_true rfl) (Nat.le_of_ble_eq_true rfl) (Nat.le_of_ble_eq_true rfl) (by omega) (by omega) hf sne (fun t e => ctX7_cut hm h2 a1 a2 t e) (fun t3 h4 hf => ?_)
  refine PW.istore (L' := [some (.ref b), some (.ref (gB g + 0)), some (.ref (gB g + 140)), some (.ref (gB g + 150)), some (.int i), some (.int t1), some (.int t3), none, none]) cx qL_law_605 hi6 rfl rfl ?_
  refine PW.goto cx qL_law_607 ?_
  cases hf
  exact PW.widen (by omega) (by omega) (PW.locs (Lsub.keep (Lsub.keep (Lsub.keep (Lsub.keep (Lsub.keep (Lsub.drop (Lsub.drop (Lsub.drop (Lsub.drop Lsub.nil))))))))) kk)
set_option maxRecDepth 20000 in
theorem ctK_9 {g : GT} {X : XT} {Q : State → Prop} {cells slots b N : Nat} {xs : Nat → Int32} {sh : List Shp} {i : Int32} {a1 : Int32} (hx : XSh sh) (hm : MSh sh) (ho : sh[150]? = some (.inr (3, 1, []))) (cx : Cx g X RL code) (hR : RmG X.2.2.1 40 601024 7293034) (hml : X.2.2.2.2.2.2.2.2.maxLocals = 9) (hX : va_X b N xs X.2.2.2.1 X.2.2.2.1.heap) (hbB : b < X.2.2.2.1.heap.size ∧ b < gB g) (ha1 : vp_in (i + 1) N ∧ xs (i + 1).toNatClampNeg = a1) (hc : cells + 4 ≤ 601024) (hs : slots + 24 ≤ 7293034) (h r : Hp) (hf : K_9 h a1 = some r) (kk : PW g X false Q (cells + 4) (slots + 24) sh r 1989 [some (.ref b), some (.ref (gB g + 0)), some (.ref (gB g + 140)), some (.ref (gB g + 150)), some (.int i), none, none, none, none] []) : PW g X false Q cells slots sh h 610 [some (.ref b), some (.ref (gB g + 0)), some (.ref (gB g + 140)), some (.ref (gB g + 150)), some (.int i), none, none, none, none] [] := by
  have hi5 : 5 < X.2.2.2.2.2.2.2.2.maxLocals := by rw [hml]; exact Nat.le_of_ble_eq_true rfl
  have hi6 : 6 < X.2.2.2.2.2.2.2.2.maxLocals := by rw [hml]; exact Nat.le_of_ble_eq_true rfl
  have hi7 : 7 < X.2.2.2.2.2.2.2.2.maxLocals := by rw [hml]; exact Nat.le_of_ble_eq_true rfl
  have hi8 : 8 < X.2.2.2.2.2.2.2.2.maxLocals := by rw [hml]; exact Nat.le_of_ble_eq_true rfl
  unfold K_9 at hf
  refine PW.aload_n cx qL_law_610 rfl ?_
  refine PW.aload_n cx qL_law_611 rfl ?_
  refine PW.iload cx qL_law_612 rfl ?_
  refine PW.iconst (v := 1) cx qL_law_614 rfl ?_
  refine PW.iadd cx qL_law_615 ?_
  refine PW.sld cx qL_law_616 hX hbB ha1 ?_
  refine PW.aload_n cx qL_law_617 rfl ?_
  refine PW.callWI (As := [.ref (gB g + 0), .int a1, .ref (gB g + 150)]) (st := []) cx hR qL_law_618 kw189 mw_air rfl rfl (Nat.le_of_ble_eq_true rfl) (Nat.le_of_ble_eq_true rfl) (Nat.le_of_ble_eq_true rfl) (by omega) (by omega) hf sne (fun t e => ctL_air hx ho h a1 t e) (fun t1 h2 hf => ?_)
  refine PW.istore (L' := [some (.ref b), some (.ref (gB g + 0)), some (.ref (gB g + 140)), some (.ref (gB g + 150)), some (.int i), some (.int t1), none, none, none]) cx qL_law_621 hi5 rfl rfl ?_
  refine PW.aload_n cx qL_law_623 rfl ?_
  refine PW.aload_n cx qL_law_624 rfl ?_
  refine PW.iload cx qL_law_625 rfl ?_
  refine PW.iconst (v := 1) cx qL_law_627 rfl ?_
  refine PW.iadd cx qL_law_628 ?_
  refine PW.sld cx qL_law_629 hX hbB ha1 ?_
  refine PW.callVWIc (As := [.int a1]) (st := []) cx hR qL_law_630 klL_191 mvX7_air (sh_140 hm) rfl rfl rfl rfl (Nat.le_of_ble_eq_true rfl) (Nat.le_of_ble_eq_true rfl) (Nat.le_of_ble_eq_true rfl) (by omega) (by omega) hf sne (fun t e => ctX7_air hm h2 a1 t e) (fun t3 h4 hf => ?_)
  refine PW.istore (L' := [some (.ref b), some (.ref (gB g + 0)), some (.ref (gB g + 140)), some (.ref (gB g + 150)), some (.int i), some (.int t1), some (.int t3), none, none]) cx qL_law_633 hi6 rfl rfl ?_
  refine PW.goto cx qL_law_635 ?_
  cases hf
  exact PW.widen (by omega) (by omega) (PW.locs (Lsub.keep (Lsub.keep (Lsub.keep (Lsub.keep (Lsub.keep (Lsub.drop (Lsub.drop (Lsub.drop (Lsub.drop Lsub.nil))))))))) kk)
set_option maxRecDepth 20000 in
theorem ctK_10 {g : GT} {X : XT} {Q : State → Prop} {cells slots b N : Nat} {xs : Nat → Int32} {sh : List Shp} {i : Int32} {a1 : Int32} {a2 : Int32} (hx : XSh sh) (hm : MSh sh) (ho : sh[150]? = some (.inr (3, 1, []))) (cx : Cx g X RL code) (hR : RmG X.2.2.1 40 601024 7293034) (hml : X.2.2.2.2.2.2.2.2.maxLocals = 9) (hX : va_X b N xs X.2.2.2.1 X.2.2.2.1.heap) (hbB : b < X.2.2.2.1.heap.size ∧ b < gB g) (ha1 : vp_in (i + 1) N ∧ xs (i + 1).toNatClampNeg = a1) (ha2 : vp_in (i + 2) N ∧ xs (i + 2).toNatClampNeg = a2) (hc : cells + 4 ≤ 601024) (hs : slots + 24 ≤ 7293034) (h r : Hp) (hf : K_10 h a1 a2 = some r) (kk : PW g X false Q (cells + 4) (slots + 24) sh r 1989 [some (.ref b), some (.ref (gB g + 0)), some (.ref (gB g + 140)), some (.ref (gB g + 150)), some (.int i), none, none, none, none] []) : PW g X false Q cells slots sh h 638 [some (.ref b), some (.ref (gB g + 0)), some (.ref (gB g + 140)), some (.ref (gB g + 150)), some (.int i), none, none, none, none] [] := by
  have hi5 : 5 < X.2.2.2.2.2.2.2.2.maxLocals := by rw [hml]; exact Nat.le_of_ble_eq_true rfl
  have hi6 : 6 < X.2.2.2.2.2.2.2.2.maxLocals := by rw [hml]; exact Nat.le_of_ble_eq_true rfl
  have hi7 : 7 < X.2.2.2.2.2.2.2.2.maxLocals := by rw [hml]; exact Nat.le_of_ble_eq_true rfl
  have hi8 : 8 < X.2.2.2.2.2.2.2.2.maxLocals := by rw [hml]; exact Nat.le_of_ble_eq_true rfl
  unfold K_10 at hf
  refine PW.aload_n cx qL_law_638 rfl ?_
  refine PW.aload_n cx qL_law_639 rfl ?_
  refine PW.iload cx qL_law_640 rfl ?_
  refine PW.iconst (v := 1) cx qL_law_642 rfl ?_
  refine PW.iadd cx qL_law_643 ?_
  refine PW.sld cx qL_law_644 hX hbB ha1 ?_
  refine PW.aload_n cx qL_law_645 rfl ?_
  refine PW.iload cx qL_law_646 rfl ?_
  refine PW.iconst (v := 2) cx qL_law_648 rfl ?_
  refine PW.iadd cx qL_law_649 ?_
  refine PW.sld cx qL_law_650 hX hbB ha2 ?_
  refine PW.aload_n cx qL_law_651 rfl ?_
  refine PW.callWI (As := [.ref (gB g + 0), .int a1, .int a2, .ref (gB g + 150)]) (st := []) cx hR qL_law_652 kw192 mw_feed rfl rfl (Nat.le_of_ble_eq_true rfl) (Nat.le_of_ble_eq_true rfl) (Nat.le_of_ble_eq_true rfl) (by omega) (by omega) hf sne (fun t e => ctL_feed hx ho h a1 a2 t e) (fun t1 h2 hf => ?_)
  refine PW.istore (L' := [some (.ref b), some (.ref (gB g + 0)), some (.ref (gB g + 140)), some (.ref (gB g + 150)), some (.int i), some (.int t1), none, none, none]) cx qL_law_655 hi5 rfl rfl ?_
  refine PW.aload_n cx qL_law_657 rfl ?_
  refine PW.aload_n cx qL_law_658 rfl ?_
  refine PW.iload cx qL_law_659 rfl ?_
  refine PW.iconst (v := 1) cx qL_law_661 rfl ?_
  refine PW.iadd cx qL_law_662 ?_
  refine PW.sld cx qL_law_663 hX hbB ha1 ?_
  refine PW.aload_n cx qL_law_664 rfl ?_
  refine PW.iload cx qL_law_665 rfl ?_
  refine PW.iconst (v := 2) cx qL_law_667 rfl ?_
  refine PW.iadd cx qL_law_668 ?_
  refine PW.sld cx qL_law_669 hX hbB ha2 ?_
  refine PW.callVWIc (As := [.int a1, .int a2]) (st := []) cx hR qL_law_670 klL_194 mvX7_feed (sh_140 hm) rfl rfl rfl rfl (Nat.le_of_ble_eq_true rfl) (Nat.le_of_ble_eq_true rfl) (Nat.le_of_ble_eq_true rfl) (by omega) (by omega) hf sne (fun t e => ctX7_feed hm h2 a1 a2 t e) (fun t3 h4 hf => ?_)
  refine PW.istore (L' := [some (.ref b), some (.ref (gB g + 0)), some (.ref (gB g + 140)), some (.ref (gB g + 150)), some (.int i), some (.int t1), some (.int t3), none, none]) cx qL_law_673 hi6 rfl rfl ?_
  refine PW.goto cx qL_law_675 ?_
  cases hf
  exact PW.widen (by omega) (by omega) (PW.locs (Lsub.keep (Lsub.keep (Lsub.keep (Lsub.keep (Lsub.keep (Lsub.drop (Lsub.drop (Lsub.drop (Lsub.drop Lsub.nil))))))))) kk)
set_option maxRecDepth 20000 in
theorem ctK_11 {g : GT} {X : XT} {Q : State → Prop} {cells slots b N : Nat} {xs : Nat → Int32} {sh : List Shp} {i : Int32} {a1 : Int32} (hx : XSh sh) (hm : MSh sh) (ho : sh[150]? = some (.inr (3, 1, []))) (cx : Cx g X RL code) (hR : RmG X.2.2.1 40 601024 7293034) (hml : X.2.2.2.2.2.2.2.2.maxLocals = 9) (hX : va_X b N xs X.2.2.2.1 X.2.2.2.1.heap) (hbB : b < X.2.2.2.1.heap.size ∧ b < gB g) (ha1 : vp_in (i + 1) N ∧ xs (i + 1).toNatClampNeg = a1) (hc : cells + 4 ≤ 601024) (hs : slots + 24 ≤ 7293034) (h r : Hp) (hf : K_11 h a1 = some r) (kk : PW g X false Q (cells + 4) (slots + 24) sh r 1989 [some (.ref b), some (.ref (gB g + 0)), some (.ref (gB g + 140)), some (.ref (gB g + 150)), some (.int i), none, none, none, none] []) : PW g X false Q cells slots sh h 678 [some (.ref b), some (.ref (gB g + 0)), some (.ref (gB g + 140)), some (.ref (gB g + 150)), some (.int i), none, none, none, none] [] := by
  have hi5 : 5 < X.2.2.2.2.2.2.2.2.maxLocals := by rw [hml]; exact Nat.le_of_ble_eq_true rfl
  have hi6 : 6 < X.2.2.2.2.2.2.2.2.maxLocals := by rw [hml]; exact Nat.le_of_ble_eq_true rfl
  have hi7 : 7 < X.2.2.2.2.2.2.2.2.maxLocals := by rw [hml]; exact Nat.le_of_ble_eq_true rfl
  have hi8 : 8 < X.2.2.2.2.2.2.2.2.maxLocals := by rw [hml]; exact Nat.le_of_ble_eq_true rfl
  unfold K_11 at hf
  refine PW.aload_n cx qL_law_678 rfl ?_
  refine PW.aload_n cx qL_law_679 rfl ?_
  refine PW.iload cx qL_law_680 rfl ?_
  refine PW.iconst (v := 1) cx qL_law_682 rfl ?_
  refine PW.iadd cx qL_law_683 ?_
  refine PW.sld cx qL_law_684 hX hbB ha1 ?_
  refine PW.aload_n cx qL_law_685 rfl ?_
  refine PW.callWI (As := [.ref (gB g + 0), .int a1, .ref (gB g + 150)]) (st := []) cx hR qL_law_686 kw195 mw_addFood rfl rfl (Nat.le_of_ble_eq_true rfl) (Nat.le_of_ble_eq_true rfl) (Nat.le_of_ble_eq_true rfl) (by omega) (by omega) hf sne (fun t e => ctL_addFood hx ho h a1 t e) (fun t1 h2 hf => ?_)
  refine PW.istore (L' := [some (.ref b), some (.ref (gB g + 0)), some (.ref (gB g + 140)), some (.ref (gB g + 150)), some (.int i), some (.int t1), none, none, none]) cx qL_law_689 hi5 rfl rfl ?_
  refine PW.aload_n cx qL_law_691 rfl ?_
  refine PW.aload_n cx qL_law_692 rfl ?_
  refine PW.iload cx qL_law_693 rfl ?_
  refine PW.iconst (v := 1) cx qL_law_695 rfl ?_
  refine PW.iadd cx qL_law_696 ?_
  refine PW.sld cx qL_law_697 hX hbB ha1 ?_
  refine PW.callVWIc (As := [.int a1]) (st := []) cx hR qL_law_698 klL_197 mvX7_addFood (sh_140 hm) rfl rfl rfl rfl (Nat.le_of_ble_eq_true rfl) (Nat.le_of_ble_eq_true rfl) (Nat.le_of_ble_eq_true rfl) (by omega) (by omega) hf sne (fun t e => ctX7_addFood hm h2 a1 t e) (fun t3 h4 hf => ?_)
  refine PW.istore (L' := [some (.ref b), some (.ref (gB g + 0)), some (.ref (gB g + 140)), some (.ref (gB g + 150)), some (.int i), some (.int t1), some (.int t3), none, none]) cx qL_law_701 hi6 rfl rfl ?_
  refine PW.goto cx qL_law_703 ?_
  cases hf
  exact PW.widen (by omega) (by omega) (PW.locs (Lsub.keep (Lsub.keep (Lsub.keep (Lsub.keep (Lsub.keep (Lsub.drop (Lsub.drop (Lsub.drop (Lsub.drop Lsub.nil))))))))) kk)
set_option maxRecDepth 20000 in
theorem ctK_12 {g : GT} {X : XT} {Q : State → Prop} {cells slots b N : Nat} {xs : Nat → Int32} {sh : List Shp} {i : Int32} {a1 : Int32} {a2 : Int32} {a3 : Int32} (hx : XSh sh) (hm : MSh sh) (ho : sh[150]? = some (.inr (3, 1, []))) (cx : Cx g X RL code) (hR : RmG X.2.2.1 40 601024 7293034) (hml : X.2.2.2.2.2.2.2.2.maxLocals = 9) (hX : va_X b N xs X.2.2.2.1 X.2.2.2.1.heap) (hbB : b < X.2.2.2.1.heap.size ∧ b < gB g) (ha1 : vp_in (i + 1) N ∧ xs (i + 1).toNatClampNeg = a1) (ha2 : vp_in (i + 2) N ∧ xs (i + 2).toNatClampNeg = a2) (ha3 : vp_in (i + 3) N ∧ xs (i + 3).toNatClampNeg = a3) (hc : cells + 4 ≤ 601024) (hs : slots + 24 ≤ 7293034) (h r : Hp) (hf : K_12 h a1 a2 a3 = some r) (kk : PW g X false Q (cells + 4) (slots + 24) sh r 1989 [some (.ref b), some (.ref (gB g + 0)), some (.ref (gB g + 140)), some (.ref (gB g + 150)), some (.int i), none, none, none, none] []) : PW g X false Q cells slots sh h 706 [some (.ref b), some (.ref (gB g + 0)), some (.ref (gB g + 140)), some (.ref (gB g + 150)), some (.int i), none, none, none, none] [] := by
  have hi5 : 5 < X.2.2.2.2.2.2.2.2.maxLocals := by rw [hml]; exact Nat.le_of_ble_eq_true rfl
  have hi6 : 6 < X.2.2.2.2.2.2.2.2.maxLocals := by rw [hml]; exact Nat.le_of_ble_eq_true rfl
  have hi7 : 7 < X.2.2.2.2.2.2.2.2.maxLocals := by rw [hml]; exact Nat.le_of_ble_eq_true rfl
  have hi8 : 8 < X.2.2.2.2.2.2.2.2.maxLocals := by rw [hml]; exact Nat.le_of_ble_eq_true rfl
  unfold K_12 at hf
  refine PW.aload_n cx qL_law_706 rfl ?_
  refine PW.aload_n cx qL_law_707 rfl ?_
  refine PW.iload cx qL_law_708 rfl ?_
  refine PW.iconst (v := 1) cx qL_law_710 rfl ?_
  refine PW.iadd cx qL_law_711 ?_
  refine PW.sld cx qL_law_712 hX hbB ha1 ?_
  refine PW.aload_n cx qL_law_713 rfl ?_
  refine PW.iload cx qL_law_714 rfl ?_
  refine PW.iconst (v := 2) cx qL_law_716 rfl ?_
  refine PW.iadd cx qL_law_717 ?_
  refine PW.sld cx qL_law_718 hX hbB ha2 ?_
  refine PW.aload_n cx qL_law_719 rfl ?_
  refine PW.iload cx qL_law_720 rfl ?_
  refine PW.iconst (v := 3) cx qL_law_722 rfl ?_
  refine PW.iadd cx qL_law_723 ?_
  refine PW.sld cx qL_law_724 hX hbB ha3 ?_
  refine PW.aload_n cx qL_law_725 rfl ?_
  refine PW.callWI (As := [.ref (gB g + 0), .int a1, .int a2, .int a3, .ref (gB g + 150)]) (st := []) cx hR qL_law_726 kw198 mw_paint rfl rfl (Nat.le_of_ble_eq_true rfl) (Nat.le_of_ble_eq_true rfl) (Nat.le_of_ble_eq_true rfl) (by omega) (by omega) hf sne (fun t e => ctL_paint hx ho h a1 a2 a3 t e) (fun t1 h2 hf => ?_)
  refine PW.istore (L' := [some (.ref b), some (.ref (gB g + 0)), some (.ref (gB g + 140)), some (.ref (gB g + 150)), some (.int i), some (.int t1), none, none, none]) cx qL_law_729 hi5 rfl rfl ?_
  refine PW.aload_n cx qL_law_731 rfl ?_
  refine PW.aload_n cx qL_law_732 rfl ?_
  refine PW.iload cx qL_law_733 rfl ?_
  refine PW.iconst (v := 1) cx qL_law_735 rfl ?_
  refine PW.iadd cx qL_law_736 ?_
  refine PW.sld cx qL_law_737 hX hbB ha1 ?_
  refine PW.aload_n cx qL_law_738 rfl ?_
  refine PW.iload cx qL_law_739 rfl ?_
  refine PW.iconst (v := 2) cx qL_law_741 rfl ?_
  refine PW.iadd cx qL_law_742 ?_
  refine PW.sld cx qL_law_743 hX hbB ha2 ?_
  refine PW.aload_n cx qL_law_744 rfl ?_
  refine PW.iload cx qL_law_745 rfl ?_
  refine PW.iconst (v := 3) cx qL_law_747 rfl ?_
  refine PW.iadd cx qL_law_748 ?_
  refine PW.sld cx qL_law_749 hX hbB ha3 ?_
  refine PW.callVWIc (As := [.int a1, .int a2, .int a3]) (st := []) cx hR qL_law_750 klL_201 mvX7_paint (sh_140 hm) rfl rfl rfl rfl (Nat.le_of_ble_eq_true rfl) (Nat.le_of_ble_eq_true rfl) (Nat.le_of_ble_eq_true rfl) (by omega) (by omega) hf sne (fun t e => ctX7_paint hm h2 a1 a2 a3 t e) (fun t3 h4 hf => ?_)
  refine PW.istore (L' := [some (.ref b), some (.ref (gB g + 0)), some (.ref (gB g + 140)), some (.ref (gB g + 150)), some (.int i), some (.int t1), some (.int t3), none, none]) cx qL_law_753 hi6 rfl rfl ?_
  refine PW.goto cx qL_law_755 ?_
  cases hf
  exact PW.widen (by omega) (by omega) (PW.locs (Lsub.keep (Lsub.keep (Lsub.keep (Lsub.keep (Lsub.keep (Lsub.drop (Lsub.drop (Lsub.drop (Lsub.drop Lsub.nil))))))))) kk)
set_option maxRecDepth 20000 in
theorem ctK_13 {g : GT} {X : XT} {Q : State → Prop} {cells slots b N : Nat} {xs : Nat → Int32} {sh : List Shp} {i : Int32} {a1 : Int32} (hx : XSh sh) (hm : MSh sh) (ho : sh[150]? = some (.inr (3, 1, []))) (cx : Cx g X RL code) (hR : RmG X.2.2.1 40 601024 7293034) (hml : X.2.2.2.2.2.2.2.2.maxLocals = 9) (hX : va_X b N xs X.2.2.2.1 X.2.2.2.1.heap) (hbB : b < X.2.2.2.1.heap.size ∧ b < gB g) (ha1 : vp_in (i + 1) N ∧ xs (i + 1).toNatClampNeg = a1) (hc : cells + 4 ≤ 601024) (hs : slots + 24 ≤ 7293034) (h r : Hp) (hf : K_13 h a1 = some r) (kk : PW g X false Q (cells + 4) (slots + 24) sh r 1989 [some (.ref b), some (.ref (gB g + 0)), some (.ref (gB g + 140)), some (.ref (gB g + 150)), some (.int i), none, none, none, none] []) : PW g X false Q cells slots sh h 758 [some (.ref b), some (.ref (gB g + 0)), some (.ref (gB g + 140)), some (.ref (gB g + 150)), some (.int i), none, none, none, none] [] := by
  have hi5 : 5 < X.2.2.2.2.2.2.2.2.maxLocals := by rw [hml]; exact Nat.le_of_ble_eq_true rfl
  have hi6 : 6 < X.2.2.2.2.2.2.2.2.maxLocals := by rw [hml]; exact Nat.le_of_ble_eq_true rfl
  have hi7 : 7 < X.2.2.2.2.2.2.2.2.maxLocals := by rw [hml]; exact Nat.le_of_ble_eq_true rfl
  have hi8 : 8 < X.2.2.2.2.2.2.2.2.maxLocals := by rw [hml]; exact Nat.le_of_ble_eq_true rfl
  unfold K_13 at hf
  refine PW.aload_n cx qL_law_758 rfl ?_
  refine PW.aload_n cx qL_law_759 rfl ?_
  refine PW.iload cx qL_law_760 rfl ?_
  refine PW.iconst (v := 1) cx qL_law_762 rfl ?_
  refine PW.iadd cx qL_law_763 ?_
  refine PW.sld cx qL_law_764 hX hbB ha1 ?_
  refine PW.aload_n cx qL_law_765 rfl ?_
  refine PW.callWI (As := [.ref (gB g + 0), .int a1, .ref (gB g + 150)]) (st := []) cx hR qL_law_766 kw202 mw_passWeeks rfl rfl (Nat.le_of_ble_eq_true rfl) (Nat.le_of_ble_eq_true rfl) (Nat.le_of_ble_eq_true rfl) (by omega) (by omega) hf sne (fun t e => ctL_passWeeks hx ho h a1 t e) (fun t1 h2 hf => ?_)
  refine PW.istore (L' := [some (.ref b), some (.ref (gB g + 0)), some (.ref (gB g + 140)), some (.ref (gB g + 150)), some (.int i), some (.int t1), none, none, none]) cx qL_law_769 hi5 rfl rfl ?_
  refine PW.aload_n cx qL_law_771 rfl ?_
  refine PW.aload_n cx qL_law_772 rfl ?_
  refine PW.iload cx qL_law_773 rfl ?_
  refine PW.iconst (v := 1) cx qL_law_775 rfl ?_
  refine PW.iadd cx qL_law_776 ?_
  refine PW.sld cx qL_law_777 hX hbB ha1 ?_
  refine PW.callVWIc (As := [.int a1]) (st := []) cx hR qL_law_778 klL_204 mvX7_passWeeks (sh_140 hm) rfl rfl rfl rfl (Nat.le_of_ble_eq_true rfl) (Nat.le_of_ble_eq_true rfl) (Nat.le_of_ble_eq_true rfl) (by omega) (by omega) hf sne (fun t e => ctX7_passWeeks hm h2 a1 t e) (fun t3 h4 hf => ?_)
  refine PW.istore (L' := [some (.ref b), some (.ref (gB g + 0)), some (.ref (gB g + 140)), some (.ref (gB g + 150)), some (.int i), some (.int t1), some (.int t3), none, none]) cx qL_law_781 hi6 rfl rfl ?_
  refine PW.goto cx qL_law_783 ?_
  cases hf
  exact PW.widen (by omega) (by omega) (PW.locs (Lsub.keep (Lsub.keep (Lsub.keep (Lsub.keep (Lsub.keep (Lsub.drop (Lsub.drop (Lsub.drop (Lsub.drop Lsub.nil))))))))) kk)
set_option maxRecDepth 20000 in
theorem ctK_14 {g : GT} {X : XT} {Q : State → Prop} {cells slots b N : Nat} {xs : Nat → Int32} {sh : List Shp} {i : Int32} (hx : XSh sh) (hm : MSh sh) (ho : sh[150]? = some (.inr (3, 1, []))) (cx : Cx g X RL code) (hR : RmG X.2.2.1 40 601024 7293034) (hml : X.2.2.2.2.2.2.2.2.maxLocals = 9) (hX : va_X b N xs X.2.2.2.1 X.2.2.2.1.heap) (hbB : b < X.2.2.2.1.heap.size ∧ b < gB g) (hc : cells + 4 ≤ 601024) (hs : slots + 24 ≤ 7293034) (h r : Hp) (hf : K_14 h = some r) (kk : PW g X false Q (cells + 4) (slots + 24) sh r 1989 [some (.ref b), some (.ref (gB g + 0)), some (.ref (gB g + 140)), some (.ref (gB g + 150)), some (.int i), none, none, none, none] []) : PW g X false Q cells slots sh h 786 [some (.ref b), some (.ref (gB g + 0)), some (.ref (gB g + 140)), some (.ref (gB g + 150)), some (.int i), none, none, none, none] [] := by
  have hi5 : 5 < X.2.2.2.2.2.2.2.2.maxLocals := by rw [hml]; exact Nat.le_of_ble_eq_true rfl
  have hi6 : 6 < X.2.2.2.2.2.2.2.2.maxLocals := by rw [hml]; exact Nat.le_of_ble_eq_true rfl
  have hi7 : 7 < X.2.2.2.2.2.2.2.2.maxLocals := by rw [hml]; exact Nat.le_of_ble_eq_true rfl
  have hi8 : 8 < X.2.2.2.2.2.2.2.2.maxLocals := by rw [hml]; exact Nat.le_of_ble_eq_true rfl
  unfold K_14 at hf
  refine PW.aload_n cx qL_law_786 rfl ?_
  refine PW.callVWIc (As := []) (st := []) cx hR qL_law_787 klL_205 mvX6_undo (sh_0 hx) rfl rfl rfl rfl (Nat.le_of_ble_eq_true rfl) (Nat.le_of_ble_eq_true rfl) (Nat.le_of_ble_eq_true rfl) (by omega) (by omega) hf sne (fun t e => ctX6_undo hx h t e) (fun t1 h2 hf => ?_)
  refine PW.pop cx qL_law_790 rfl ?_
  refine PW.aload_n cx qL_law_791 rfl ?_
  refine PW.callVWIc (As := []) (st := []) cx hR qL_law_792 klL_208 mvX7_undo (sh_140 hm) rfl rfl rfl rfl (Nat.le_of_ble_eq_true rfl) (Nat.le_of_ble_eq_true rfl) (Nat.le_of_ble_eq_true rfl) (by omega) (by omega) hf sne (fun t e => ctX7_undo hm h2 t e) (fun t3 h4 hf => ?_)
  refine PW.pop cx qL_law_795 rfl ?_
  refine PW.goto cx qL_law_796 ?_
  cases hf
  exact PW.widen (by omega) (by omega) (PW.locs (Lsub.keep (Lsub.keep (Lsub.keep (Lsub.keep (Lsub.keep (Lsub.drop (Lsub.drop (Lsub.drop (Lsub.drop Lsub.nil))))))))) kk)
set_option maxRecDepth 20000 in
theorem ctK_15 {g : GT} {X : XT} {Q : State → Prop} {cells slots b N : Nat} {xs : Nat → Int32} {sh : List Shp} {i : Int32} (hx : XSh sh) (hm : MSh sh) (ho : sh[150]? = some (.inr (3, 1, []))) (cx : Cx g X RL code) (hR : RmG X.2.2.1 40 601024 7293034) (hml : X.2.2.2.2.2.2.2.2.maxLocals = 9) (hX : va_X b N xs X.2.2.2.1 X.2.2.2.1.heap) (hbB : b < X.2.2.2.1.heap.size ∧ b < gB g) (hc : cells + 4 ≤ 601024) (hs : slots + 24 ≤ 7293034) (h r : Hp) (hf : K_15 h = some r) (kk : PW g X false Q (cells + 4) (slots + 24) sh r 1989 [some (.ref b), some (.ref (gB g + 0)), some (.ref (gB g + 140)), some (.ref (gB g + 150)), some (.int i), none, none, none, none] []) : PW g X false Q cells slots sh h 799 [some (.ref b), some (.ref (gB g + 0)), some (.ref (gB g + 140)), some (.ref (gB g + 150)), some (.int i), none, none, none, none] [] := by
  have hi5 : 5 < X.2.2.2.2.2.2.2.2.maxLocals := by rw [hml]; exact Nat.le_of_ble_eq_true rfl
  have hi6 : 6 < X.2.2.2.2.2.2.2.2.maxLocals := by rw [hml]; exact Nat.le_of_ble_eq_true rfl
  have hi7 : 7 < X.2.2.2.2.2.2.2.2.maxLocals := by rw [hml]; exact Nat.le_of_ble_eq_true rfl
  have hi8 : 8 < X.2.2.2.2.2.2.2.2.maxLocals := by rw [hml]; exact Nat.le_of_ble_eq_true rfl
  unfold K_15 at hf
  refine PW.aload_n cx qL_law_799 rfl ?_
  refine PW.callVRI (As := []) (st := []) cx hR qL_law_800 klL_209 mvX6_undoCount (sh_0 hx) rfl rfl rfl rfl (Nat.le_of_ble_eq_true rfl) (Nat.le_of_ble_eq_true rfl) (Nat.le_of_ble_eq_true rfl) (by omega) (by omega) hf sne (fun t e => ctX6_undoCount hx h t e) (fun t1 hf => ?_)
  refine PW.pop cx qL_law_803 rfl ?_
  refine PW.aload_n cx qL_law_804 rfl ?_
  refine PW.callVWIc (As := []) (st := []) cx hR qL_law_805 klL_212 mvX7_undoCount (sh_140 hm) rfl rfl rfl rfl (Nat.le_of_ble_eq_true rfl) (Nat.le_of_ble_eq_true rfl) (Nat.le_of_ble_eq_true rfl) (by omega) (by omega) hf sne (fun t e => ctX7_undoCount hm h t e) (fun t2 h3 hf => ?_)
  refine PW.pop cx qL_law_808 rfl ?_
  refine PW.goto cx qL_law_809 ?_
  cases hf
  exact PW.widen (by omega) (by omega) (PW.locs (Lsub.keep (Lsub.keep (Lsub.keep (Lsub.keep (Lsub.keep (Lsub.drop (Lsub.drop (Lsub.drop (Lsub.drop Lsub.nil))))))))) kk)
set_option maxRecDepth 20000 in
theorem ctK_16 {g : GT} {X : XT} {Q : State → Prop} {cells slots b N : Nat} {xs : Nat → Int32} {sh : List Shp} {i : Int32} (hx : XSh sh) (hm : MSh sh) (ho : sh[150]? = some (.inr (3, 1, []))) (cx : Cx g X RL code) (hR : RmG X.2.2.1 40 601024 7293034) (hml : X.2.2.2.2.2.2.2.2.maxLocals = 9) (hX : va_X b N xs X.2.2.2.1 X.2.2.2.1.heap) (hbB : b < X.2.2.2.1.heap.size ∧ b < gB g) (hc : cells + 4 ≤ 601024) (hs : slots + 24 ≤ 7293034) (h r : Hp) (hf : K_16 h = some r) (kk : PW g X false Q (cells + 4) (slots + 24) sh r 1989 [some (.ref b), some (.ref (gB g + 0)), some (.ref (gB g + 140)), some (.ref (gB g + 150)), some (.int i), none, none, none, none] []) : PW g X false Q cells slots sh h 812 [some (.ref b), some (.ref (gB g + 0)), some (.ref (gB g + 140)), some (.ref (gB g + 150)), some (.int i), none, none, none, none] [] := by
  have hi5 : 5 < X.2.2.2.2.2.2.2.2.maxLocals := by rw [hml]; exact Nat.le_of_ble_eq_true rfl
  have hi6 : 6 < X.2.2.2.2.2.2.2.2.maxLocals := by rw [hml]; exact Nat.le_of_ble_eq_true rfl
  have hi7 : 7 < X.2.2.2.2.2.2.2.2.maxLocals := by rw [hml]; exact Nat.le_of_ble_eq_true rfl
  have hi8 : 8 < X.2.2.2.2.2.2.2.2.maxLocals := by rw [hml]; exact Nat.le_of_ble_eq_true rfl
  unfold K_16 at hf
  refine PW.aload_n cx qL_law_812 rfl ?_
  refine PW.callVWIc (As := []) (st := []) cx hR qL_law_813 klL_213 mvX6_saveSnapshot (sh_0 hx) rfl rfl rfl rfl (Nat.le_of_ble_eq_true rfl) (Nat.le_of_ble_eq_true rfl) (Nat.le_of_ble_eq_true rfl) (by omega) (by omega) hf sne (fun t e => ctX6_saveSnapshot hx h t e) (fun t1 h2 hf => ?_)
  refine PW.pop cx qL_law_816 rfl ?_
  refine PW.aload_n cx qL_law_817 rfl ?_
  refine PW.callVWIc (As := []) (st := []) cx hR qL_law_818 klL_216 mvX7_saveSnapshot (sh_140 hm) rfl rfl rfl rfl (Nat.le_of_ble_eq_true rfl) (Nat.le_of_ble_eq_true rfl) (Nat.le_of_ble_eq_true rfl) (by omega) (by omega) hf sne (fun t e => ctX7_saveSnapshot hm h2 t e) (fun t3 h4 hf => ?_)
  refine PW.pop cx qL_law_821 rfl ?_
  refine PW.goto cx qL_law_822 ?_
  cases hf
  exact PW.widen (by omega) (by omega) (PW.locs (Lsub.keep (Lsub.keep (Lsub.keep (Lsub.keep (Lsub.keep (Lsub.drop (Lsub.drop (Lsub.drop (Lsub.drop Lsub.nil))))))))) kk)
set_option maxRecDepth 20000 in
theorem ctK_17 {g : GT} {X : XT} {Q : State → Prop} {cells slots b N : Nat} {xs : Nat → Int32} {sh : List Shp} {i : Int32} (hx : XSh sh) (hm : MSh sh) (ho : sh[150]? = some (.inr (3, 1, []))) (cx : Cx g X RL code) (hR : RmG X.2.2.1 40 601024 7293034) (hml : X.2.2.2.2.2.2.2.2.maxLocals = 9) (hX : va_X b N xs X.2.2.2.1 X.2.2.2.1.heap) (hbB : b < X.2.2.2.1.heap.size ∧ b < gB g) (hc : cells + 4 ≤ 601024) (hs : slots + 24 ≤ 7293034) (h r : Hp) (hf : K_17 h = some r) (kk : PW g X false Q (cells + 4) (slots + 24) sh r 1989 [some (.ref b), some (.ref (gB g + 0)), some (.ref (gB g + 140)), some (.ref (gB g + 150)), some (.int i), none, none, none, none] []) : PW g X false Q cells slots sh h 825 [some (.ref b), some (.ref (gB g + 0)), some (.ref (gB g + 140)), some (.ref (gB g + 150)), some (.int i), none, none, none, none] [] := by
  have hi5 : 5 < X.2.2.2.2.2.2.2.2.maxLocals := by rw [hml]; exact Nat.le_of_ble_eq_true rfl
  have hi6 : 6 < X.2.2.2.2.2.2.2.2.maxLocals := by rw [hml]; exact Nat.le_of_ble_eq_true rfl
  have hi7 : 7 < X.2.2.2.2.2.2.2.2.maxLocals := by rw [hml]; exact Nat.le_of_ble_eq_true rfl
  have hi8 : 8 < X.2.2.2.2.2.2.2.2.maxLocals := by rw [hml]; exact Nat.le_of_ble_eq_true rfl
  unfold K_17 at hf
  refine PW.aload_n cx qL_law_825 rfl ?_
  refine PW.aload_n cx qL_law_826 rfl ?_
  refine PW.callWI (As := [.ref (gB g + 0), .ref (gB g + 150)]) (st := []) cx hR qL_law_827 kw217 mw_restoreSnapshot rfl rfl (Nat.le_of_ble_eq_true rfl) (Nat.le_of_ble_eq_true rfl) (Nat.le_of_ble_eq_true rfl) (by omega) (by omega) hf sne (fun t e => ctL_restoreSnapshot hx ho h t e) (fun t1 h2 hf => ?_)
  refine PW.istore (L' := [some (.ref b), some (.ref (gB g + 0)), some (.ref (gB g + 140)), some (.ref (gB g + 150)), some (.int i), some (.int t1), none, none, none]) cx qL_law_830 hi5 rfl rfl ?_
  refine PW.aload_n cx qL_law_832 rfl ?_
  refine PW.callVWIc (As := []) (st := []) cx hR qL_law_833 klL_220 mvX7_restoreSnapshot (sh_140 hm) rfl rfl rfl rfl (Nat.le_of_ble_eq_true rfl) (Nat.le_of_ble_eq_true rfl) (Nat.le_of_ble_eq_true rfl) (by omega) (by omega) hf sne (fun t e => ctX7_restoreSnapshot hm h2 t e) (fun t3 h4 hf => ?_)
  refine PW.istore (L' := [some (.ref b), some (.ref (gB g + 0)), some (.ref (gB g + 140)), some (.ref (gB g + 150)), some (.int i), some (.int t1), some (.int t3), none, none]) cx qL_law_836 hi6 rfl rfl ?_
  refine PW.goto cx qL_law_838 ?_
  cases hf
  exact PW.widen (by omega) (by omega) (PW.locs (Lsub.keep (Lsub.keep (Lsub.keep (Lsub.keep (Lsub.keep (Lsub.drop (Lsub.drop (Lsub.drop (Lsub.drop Lsub.nil))))))))) kk)
set_option maxRecDepth 20000 in
theorem ctK_18 {g : GT} {X : XT} {Q : State → Prop} {cells slots b N : Nat} {xs : Nat → Int32} {sh : List Shp} {i : Int32} (hx : XSh sh) (hm : MSh sh) (ho : sh[150]? = some (.inr (3, 1, []))) (cx : Cx g X RL code) (hR : RmG X.2.2.1 40 601024 7293034) (hml : X.2.2.2.2.2.2.2.2.maxLocals = 9) (hX : va_X b N xs X.2.2.2.1 X.2.2.2.1.heap) (hbB : b < X.2.2.2.1.heap.size ∧ b < gB g) (hc : cells + 4 ≤ 601024) (hs : slots + 24 ≤ 7293034) (h r : Hp) (hf : K_18 h = some r) (kk : PW g X false Q (cells + 4) (slots + 24) sh r 1989 [some (.ref b), some (.ref (gB g + 0)), some (.ref (gB g + 140)), some (.ref (gB g + 150)), some (.int i), none, none, none, none] []) : PW g X false Q cells slots sh h 841 [some (.ref b), some (.ref (gB g + 0)), some (.ref (gB g + 140)), some (.ref (gB g + 150)), some (.int i), none, none, none, none] [] := by
  have hi5 : 5 < X.2.2.2.2.2.2.2.2.maxLocals := by rw [hml]; exact Nat.le_of_ble_eq_true rfl
  have hi6 : 6 < X.2.2.2.2.2.2.2.2.maxLocals := by rw [hml]; exact Nat.le_of_ble_eq_true rfl
  have hi7 : 7 < X.2.2.2.2.2.2.2.2.maxLocals := by rw [hml]; exact Nat.le_of_ble_eq_true rfl
  have hi8 : 8 < X.2.2.2.2.2.2.2.2.maxLocals := by rw [hml]; exact Nat.le_of_ble_eq_true rfl
  unfold K_18 at hf
  refine PW.aload_n cx qL_law_841 rfl ?_
  refine PW.callVRI (As := []) (st := []) cx hR qL_law_842 klL_221 mvX6_scriptErrorKind (sh_0 hx) rfl rfl rfl rfl (Nat.le_of_ble_eq_true rfl) (Nat.le_of_ble_eq_true rfl) (Nat.le_of_ble_eq_true rfl) (by omega) (by omega) hf sne (fun t e => ctX6_scriptErrorKind hx h t e) (fun t1 hf => ?_)
  refine PW.pop cx qL_law_845 rfl ?_
  refine PW.aload_n cx qL_law_846 rfl ?_
  refine PW.callVWIc (As := []) (st := []) cx hR qL_law_847 klL_224 mvX7_scriptErrorKind (sh_140 hm) rfl rfl rfl rfl (Nat.le_of_ble_eq_true rfl) (Nat.le_of_ble_eq_true rfl) (Nat.le_of_ble_eq_true rfl) (by omega) (by omega) hf sne (fun t e => ctX7_scriptErrorKind hm h t e) (fun t2 h3 hf => ?_)
  refine PW.pop cx qL_law_850 rfl ?_
  refine PW.goto cx qL_law_851 ?_
  cases hf
  exact PW.widen (by omega) (by omega) (PW.locs (Lsub.keep (Lsub.keep (Lsub.keep (Lsub.keep (Lsub.keep (Lsub.drop (Lsub.drop (Lsub.drop (Lsub.drop Lsub.nil))))))))) kk)
set_option maxRecDepth 20000 in
theorem ctK_19 {g : GT} {X : XT} {Q : State → Prop} {cells slots b N : Nat} {xs : Nat → Int32} {sh : List Shp} {i : Int32} (hx : XSh sh) (hm : MSh sh) (ho : sh[150]? = some (.inr (3, 1, []))) (cx : Cx g X RL code) (hR : RmG X.2.2.1 40 601024 7293034) (hml : X.2.2.2.2.2.2.2.2.maxLocals = 9) (hX : va_X b N xs X.2.2.2.1 X.2.2.2.1.heap) (hbB : b < X.2.2.2.1.heap.size ∧ b < gB g) (hc : cells + 4 ≤ 601024) (hs : slots + 24 ≤ 7293034) (h r : Hp) (hf : K_19 h = some r) (kk : PW g X false Q (cells + 4) (slots + 24) sh r 1989 [some (.ref b), some (.ref (gB g + 0)), some (.ref (gB g + 140)), some (.ref (gB g + 150)), some (.int i), none, none, none, none] []) : PW g X false Q cells slots sh h 854 [some (.ref b), some (.ref (gB g + 0)), some (.ref (gB g + 140)), some (.ref (gB g + 150)), some (.int i), none, none, none, none] [] := by
  have hi5 : 5 < X.2.2.2.2.2.2.2.2.maxLocals := by rw [hml]; exact Nat.le_of_ble_eq_true rfl
  have hi6 : 6 < X.2.2.2.2.2.2.2.2.maxLocals := by rw [hml]; exact Nat.le_of_ble_eq_true rfl
  have hi7 : 7 < X.2.2.2.2.2.2.2.2.maxLocals := by rw [hml]; exact Nat.le_of_ble_eq_true rfl
  have hi8 : 8 < X.2.2.2.2.2.2.2.2.maxLocals := by rw [hml]; exact Nat.le_of_ble_eq_true rfl
  unfold K_19 at hf
  refine PW.aload_n cx qL_law_854 rfl ?_
  refine PW.callVRI (As := []) (st := []) cx hR qL_law_855 klL_225 mvX6_scriptErrorOffset (sh_0 hx) rfl rfl rfl rfl (Nat.le_of_ble_eq_true rfl) (Nat.le_of_ble_eq_true rfl) (Nat.le_of_ble_eq_true rfl) (by omega) (by omega) hf sne (fun t e => ctX6_scriptErrorOffset hx h t e) (fun t1 hf => ?_)
  refine PW.pop cx qL_law_858 rfl ?_
  refine PW.aload_n cx qL_law_859 rfl ?_
  refine PW.callVWIc (As := []) (st := []) cx hR qL_law_860 klL_228 mvX7_scriptErrorOffset (sh_140 hm) rfl rfl rfl rfl (Nat.le_of_ble_eq_true rfl) (Nat.le_of_ble_eq_true rfl) (Nat.le_of_ble_eq_true rfl) (by omega) (by omega) hf sne (fun t e => ctX7_scriptErrorOffset hm h t e) (fun t2 h3 hf => ?_)
  refine PW.pop cx qL_law_863 rfl ?_
  refine PW.goto cx qL_law_864 ?_
  cases hf
  exact PW.widen (by omega) (by omega) (PW.locs (Lsub.keep (Lsub.keep (Lsub.keep (Lsub.keep (Lsub.keep (Lsub.drop (Lsub.drop (Lsub.drop (Lsub.drop Lsub.nil))))))))) kk)
set_option maxRecDepth 20000 in
theorem ctK_20 {g : GT} {X : XT} {Q : State → Prop} {cells slots b N : Nat} {xs : Nat → Int32} {sh : List Shp} {i : Int32} (hx : XSh sh) (hm : MSh sh) (ho : sh[150]? = some (.inr (3, 1, []))) (cx : Cx g X RL code) (hR : RmG X.2.2.1 40 601024 7293034) (hml : X.2.2.2.2.2.2.2.2.maxLocals = 9) (hX : va_X b N xs X.2.2.2.1 X.2.2.2.1.heap) (hbB : b < X.2.2.2.1.heap.size ∧ b < gB g) (hc : cells + 4 ≤ 601024) (hs : slots + 24 ≤ 7293034) (h r : Hp) (hf : K_20 h = some r) (kk : PW g X false Q (cells + 4) (slots + 24) sh r 1989 [some (.ref b), some (.ref (gB g + 0)), some (.ref (gB g + 140)), some (.ref (gB g + 150)), some (.int i), none, none, none, none] []) : PW g X false Q cells slots sh h 867 [some (.ref b), some (.ref (gB g + 0)), some (.ref (gB g + 140)), some (.ref (gB g + 150)), some (.int i), none, none, none, none] [] := by
  have hi5 : 5 < X.2.2.2.2.2.2.2.2.maxLocals := by rw [hml]; exact Nat.le_of_ble_eq_true rfl
  have hi6 : 6 < X.2.2.2.2.2.2.2.2.maxLocals := by rw [hml]; exact Nat.le_of_ble_eq_true rfl
  have hi7 : 7 < X.2.2.2.2.2.2.2.2.maxLocals := by rw [hml]; exact Nat.le_of_ble_eq_true rfl
  have hi8 : 8 < X.2.2.2.2.2.2.2.2.maxLocals := by rw [hml]; exact Nat.le_of_ble_eq_true rfl
  unfold K_20 at hf
  refine PW.aload_n cx qL_law_867 rfl ?_
  refine PW.callVRI (As := []) (st := []) cx hR qL_law_868 klL_229 mvX6_week (sh_0 hx) rfl rfl rfl rfl (Nat.le_of_ble_eq_true rfl) (Nat.le_of_ble_eq_true rfl) (Nat.le_of_ble_eq_true rfl) (by omega) (by omega) hf sne (fun t e => ctX6_week hx h t e) (fun t1 hf => ?_)
  refine PW.pop cx qL_law_871 rfl ?_
  refine PW.aload_n cx qL_law_872 rfl ?_
  refine PW.callVWIc (As := []) (st := []) cx hR qL_law_873 klL_232 mvX7_week (sh_140 hm) rfl rfl rfl rfl (Nat.le_of_ble_eq_true rfl) (Nat.le_of_ble_eq_true rfl) (Nat.le_of_ble_eq_true rfl) (by omega) (by omega) hf sne (fun t e => ctX7_week hm h t e) (fun t2 h3 hf => ?_)
  refine PW.pop cx qL_law_876 rfl ?_
  refine PW.goto cx qL_law_877 ?_
  cases hf
  exact PW.widen (by omega) (by omega) (PW.locs (Lsub.keep (Lsub.keep (Lsub.keep (Lsub.keep (Lsub.keep (Lsub.drop (Lsub.drop (Lsub.drop (Lsub.drop Lsub.nil))))))))) kk)
