set_option maxRecDepth 20000 in
theorem ctK_0 {g : GT} {X : XT} {Q : State → Prop} {cells slots b N : Nat} {xs : Nat → Int32} {sh : List Shp} {i : Int32} {a1 : Int32} {a2 : Int32} {a3 : Int32} {a4 : Int32} {a5 : Int32} (hx : XSh sh) (hm : MSh sh) (ho : sh[150]? = some (.inr (3, 1, []))) (cx : Cx g X RL code) (hR : RmG X.2.2.1 40 600002 7302232) (hml : X.2.2.2.2.2.2.2.2.maxLocals = 9) (hX : va_X b N xs X.2.2.2.1 X.2.2.2.1.heap) (hbB : b < X.2.2.2.1.heap.size ∧ b < gB g) (ha1 : vp_in (i + 1) N ∧ xs (i + 1).toNatClampNeg = a1) (ha2 : vp_in (i + 2) N ∧ xs (i + 2).toNatClampNeg = a2) (ha3 : vp_in (i + 3) N ∧ xs (i + 3).toNatClampNeg = a3) (ha4 : vp_in (i + 4) N ∧ xs (i + 4).toNatClampNeg = a4) (ha5 : vp_in (i + 5) N ∧ xs (i + 5).toNatClampNeg = a5) (hc : cells + 4 ≤ 600002) (hs : slots + 24 ≤ 7302232) (h r : Hp) (hf : K_0 h a1 a2 a3 a4 a5 = some r) (kk : PW g X false Q (cells + 4) (slots + 24) sh r 3252 [some (.ref b), some (.ref (gB g + 0)), some (.ref (gB g + 140)), some (.ref (gB g + 150)), some (.int i), none, none, none, none] []) : PW g X false Q cells slots sh h 304 [some (.ref b), some (.ref (gB g + 0)), some (.ref (gB g + 140)), some (.ref (gB g + 150)), some (.int i), none, none, none, none] [] := by
  have hi5 : 5 < X.2.2.2.2.2.2.2.2.maxLocals := by rw [hml]; exact Nat.le_of_ble_eq_true rfl
  have hi6 : 6 < X.2.2.2.2.2.2.2.2.maxLocals := by rw [hml]; exact Nat.le_of_ble_eq_true rfl
  have hi7 : 7 < X.2.2.2.2.2.2.2.2.maxLocals := by rw [hml]; exact Nat.le_of_ble_eq_true rfl
  have hi8 : 8 < X.2.2.2.2.2.2.2.2.maxLocals := by rw [hml]; exact Nat.le_of_ble_eq_true rfl
  unfold K_0 at hf
  refine PW.aload_n cx qL_law_304 rfl ?_
  refine PW.aload_n cx qL_law_305 rfl ?_
  refine PW.iload cx qL_law_306 rfl ?_
  refine PW.iconst (v := 1) cx qL_law_308 rfl ?_
  refine PW.iadd cx qL_law_309 ?_
  refine PW.sld cx qL_law_310 hX hbB ha1 ?_
  refine PW.aload_n cx qL_law_311 rfl ?_
  refine PW.iload cx qL_law_312 rfl ?_
  refine PW.iconst (v := 2) cx qL_law_314 rfl ?_
  refine PW.iadd cx qL_law_315 ?_
  refine PW.sld cx qL_law_316 hX hbB ha2 ?_
  refine PW.aload_n cx qL_law_317 rfl ?_
  refine PW.iload cx qL_law_318 rfl ?_
  refine PW.iconst (v := 3) cx qL_law_320 rfl ?_
  refine PW.iadd cx qL_law_321 ?_
  refine PW.sld cx qL_law_322 hX hbB ha3 ?_
  refine PW.aload_n cx qL_law_323 rfl ?_
  refine PW.iload cx qL_law_324 rfl ?_
  refine PW.iconst (v := 4) cx qL_law_326 rfl ?_
  refine PW.iadd cx qL_law_327 ?_
  refine PW.sld cx qL_law_328 hX hbB ha4 ?_
  refine PW.aload_n cx qL_law_329 rfl ?_
  refine PW.iload cx qL_law_330 rfl ?_
  refine PW.iconst (v := 5) cx qL_law_332 rfl ?_
  refine PW.iadd cx qL_law_333 ?_
  refine PW.sld cx qL_law_334 hX hbB ha5 ?_
  refine PW.callVWIc (As := [.int a1, .int a2, .int a3, .int a4, .int a5]) (st := []) cx hR qL_law_335 klL_155 mvX6_append (sh_0 hx) rfl rfl rfl rfl (Nat.le_of_ble_eq_true rfl) (Nat.le_of_ble_eq_true rfl) (Nat.le_of_ble_eq_true rfl) (by omega) (by omega) hf sne (fun t e => ctX6_append hx h a1 a2 a3 a4 a5 t e) (fun t1 h2 hf => ?_)
  refine PW.aload_n cx qL_law_338 rfl ?_
  refine PW.aload_n cx qL_law_339 rfl ?_
  refine PW.iload cx qL_law_340 rfl ?_
  refine PW.iconst (v := 1) cx qL_law_342 rfl ?_
  refine PW.iadd cx qL_law_343 ?_
  refine PW.sld cx qL_law_344 hX hbB ha1 ?_
  refine PW.aload_n cx qL_law_345 rfl ?_
  refine PW.iload cx qL_law_346 rfl ?_
  refine PW.iconst (v := 2) cx qL_law_348 rfl ?_
  refine PW.iadd cx qL_law_349 ?_
  refine PW.sld cx qL_law_350 hX hbB ha2 ?_
  refine PW.aload_n cx qL_law_351 rfl ?_
  refine PW.iload cx qL_law_352 rfl ?_
  refine PW.iconst (v := 3) cx qL_law_354 rfl ?_
  refine PW.iadd cx qL_law_355 ?_
  refine PW.sld cx qL_law_356 hX hbB ha3 ?_
  refine PW.aload_n cx qL_law_357 rfl ?_
  refine PW.iload cx qL_law_358 rfl ?_
  refine PW.iconst (v := 4) cx qL_law_360 rfl ?_
  refine PW.iadd cx qL_law_361 ?_
  refine PW.sld cx qL_law_362 hX hbB ha4 ?_
  refine PW.aload_n cx qL_law_363 rfl ?_
  refine PW.iload cx qL_law_364 rfl ?_
  refine PW.iconst (v := 5) cx qL_law_366 rfl ?_
  refine PW.iadd cx qL_law_367 ?_
  refine PW.sld cx qL_law_368 hX hbB ha5 ?_
  refine PW.callVWIc (As := [.int a1, .int a2, .int a3, .int a4, .int a5]) (st := [.int t1]) cx hR qL_law_369 klL_159 mvX7_append (sh_140 hm) rfl rfl rfl rfl (Nat.le_of_ble_eq_true rfl) (Nat.le_of_ble_eq_true rfl) (Nat.le_of_ble_eq_true rfl) (by omega) (by omega) hf sne (fun t e => ctX7_append hm h2 a1 a2 a3 a4 a5 t e) (fun t3 h4 hf => ?_)
  refine PW.icmp_eq cx qL_law_372 hf (fun hf => ?_) (fun hf => ?_)
  · cases hf
    exact PW.widen (by omega) (by omega) (PW.locs (Lsub.keep (Lsub.keep (Lsub.keep (Lsub.keep (Lsub.keep (Lsub.drop (Lsub.drop (Lsub.drop (Lsub.drop Lsub.nil))))))))) kk)
  · cases hf
set_option maxRecDepth 20000 in
theorem ctK_1 {g : GT} {X : XT} {Q : State → Prop} {cells slots b N : Nat} {xs : Nat → Int32} {sh : List Shp} {i : Int32} {a1 : Int32} (hx : XSh sh) (hm : MSh sh) (ho : sh[150]? = some (.inr (3, 1, []))) (cx : Cx g X RL code) (hR : RmG X.2.2.1 40 600002 7302232) (hml : X.2.2.2.2.2.2.2.2.maxLocals = 9) (hX : va_X b N xs X.2.2.2.1 X.2.2.2.1.heap) (hbB : b < X.2.2.2.1.heap.size ∧ b < gB g) (ha1 : vp_in (i + 1) N ∧ xs (i + 1).toNatClampNeg = a1) (hc : cells + 4 ≤ 600002) (hs : slots + 24 ≤ 7302232) (h r : Hp) (hf : K_1 h a1 = some r) (kk : PW g X false Q (cells + 4) (slots + 24) sh r 3252 [some (.ref b), some (.ref (gB g + 0)), some (.ref (gB g + 140)), some (.ref (gB g + 150)), some (.int i), none, none, none, none] []) : PW g X false Q cells slots sh h 377 [some (.ref b), some (.ref (gB g + 0)), some (.ref (gB g + 140)), some (.ref (gB g + 150)), some (.int i), none, none, none, none] [] := by
  have hi5 : 5 < X.2.2.2.2.2.2.2.2.maxLocals := by rw [hml]; exact Nat.le_of_ble_eq_true rfl
  have hi6 : 6 < X.2.2.2.2.2.2.2.2.maxLocals := by rw [hml]; exact Nat.le_of_ble_eq_true rfl
  have hi7 : 7 < X.2.2.2.2.2.2.2.2.maxLocals := by rw [hml]; exact Nat.le_of_ble_eq_true rfl
  have hi8 : 8 < X.2.2.2.2.2.2.2.2.maxLocals := by rw [hml]; exact Nat.le_of_ble_eq_true rfl
  unfold K_1 at hf
  refine PW.aload_n cx qL_law_377 rfl ?_
  refine PW.aload_n cx qL_law_378 rfl ?_
  refine PW.iload cx qL_law_379 rfl ?_
  refine PW.iconst (v := 1) cx qL_law_381 rfl ?_
  refine PW.iadd cx qL_law_382 ?_
  refine PW.sld cx qL_law_383 hX hbB ha1 ?_
  refine PW.aload_n cx qL_law_384 rfl ?_
  refine PW.callWI (As := [.ref (gB g + 0), .int a1, .ref (gB g + 150)]) (st := []) cx hR qL_law_385 kw160 mw_truncateInput rfl rfl (Nat.le_of_ble_eq_true rfl) (Nat.le_of_ble_eq_true rfl) (Nat.le_of_ble_eq_true rfl) (by omega) (by omega) hf sne (fun t e => ctL_truncateInput hx ho h a1 t e) (fun t1 h2 hf => ?_)
  refine PW.istore (L' := [some (.ref b), some (.ref (gB g + 0)), some (.ref (gB g + 140)), some (.ref (gB g + 150)), some (.int i), some (.int t1), none, none, none]) cx qL_law_388 hi5 rfl rfl ?_
  refine PW.aload_n cx qL_law_390 rfl ?_
  refine PW.aload_n cx qL_law_391 rfl ?_
  refine PW.iload cx qL_law_392 rfl ?_
  refine PW.iconst (v := 1) cx qL_law_394 rfl ?_
  refine PW.iadd cx qL_law_395 ?_
  refine PW.sld cx qL_law_396 hX hbB ha1 ?_
  refine PW.callVWIc (As := [.int a1]) (st := []) cx hR qL_law_397 klL_165 mvX7_truncateInput (sh_140 hm) rfl rfl rfl rfl (Nat.le_of_ble_eq_true rfl) (Nat.le_of_ble_eq_true rfl) (Nat.le_of_ble_eq_true rfl) (by omega) (by omega) hf sne (fun t e => ctX7_truncateInput hm h2 a1 t e) (fun t3 h4 hf => ?_)
  refine PW.istore (L' := [some (.ref b), some (.ref (gB g + 0)), some (.ref (gB g + 140)), some (.ref (gB g + 150)), some (.int i), some (.int t1), some (.int t3), none, none]) cx qL_law_400 hi6 rfl rfl ?_
  refine PW.aload_n cx qL_law_402 rfl ?_
  refine PW.callVRI (As := []) (st := []) cx hR qL_law_403 klL_166 mvX7_thrown (sh_140 hm) rfl rfl rfl rfl (Nat.le_of_ble_eq_true rfl) (Nat.le_of_ble_eq_true rfl) (Nat.le_of_ble_eq_true rfl) (by omega) (by omega) hf sne (fun t e => ctX7_thrown hm h4 t e) (fun t5 hf => ?_)
  refine PW.iload cx qL_law_406 rfl ?_
  refine PW.icmp_eq cx qL_law_408 hf (fun hf => ?_) (fun hf => ?_)
  · refine PW.iload cx qL_law_413 rfl ?_
    refine PW.if_ne cx qL_law_415 hf (fun hf => ?_) (fun hf => ?_)
    · refine PW.aload_n cx qL_law_418 rfl ?_
      refine PW.iconst (v := 0) cx qL_law_419 rfl ?_
      refine PW.lald1 cx qL_law_420 ho ?_
      refine PW.iload cx qL_law_421 rfl ?_
      refine PW.i2l cx qL_law_423 ?_
      refine PW.lcmp cx qL_law_424 ?_
      refine PW.if_eq cx qL_law_425 hf (fun hf => ?_) (fun hf => ?_)
      · refine PW.goto cx qL_law_430 ?_
        cases hf
        exact PW.widen (by omega) (by omega) (PW.locs (Lsub.keep (Lsub.keep (Lsub.keep (Lsub.keep (Lsub.keep (Lsub.drop (Lsub.drop (Lsub.drop (Lsub.drop Lsub.nil))))))))) kk)
      · cases hf
    · refine PW.goto cx qL_law_430 ?_
      cases hf
      exact PW.widen (by omega) (by omega) (PW.locs (Lsub.keep (Lsub.keep (Lsub.keep (Lsub.keep (Lsub.keep (Lsub.drop (Lsub.drop (Lsub.drop (Lsub.drop Lsub.nil))))))))) kk)
  · cases hf
set_option maxRecDepth 20000 in
theorem ctK_2 {g : GT} {X : XT} {Q : State → Prop} {cells slots b N : Nat} {xs : Nat → Int32} {sh : List Shp} {i : Int32} (hx : XSh sh) (hm : MSh sh) (ho : sh[150]? = some (.inr (3, 1, []))) (cx : Cx g X RL code) (hR : RmG X.2.2.1 40 600002 7302232) (hml : X.2.2.2.2.2.2.2.2.maxLocals = 9) (hX : va_X b N xs X.2.2.2.1 X.2.2.2.1.heap) (hbB : b < X.2.2.2.1.heap.size ∧ b < gB g) (hc : cells + 4 ≤ 600002) (hs : slots + 24 ≤ 7302232) (h r : Hp) (hf : K_2 h = some r) (kk : PW g X false Q (cells + 4) (slots + 24) sh r 3252 [some (.ref b), some (.ref (gB g + 0)), some (.ref (gB g + 140)), some (.ref (gB g + 150)), some (.int i), none, none, none, none] []) : PW g X false Q cells slots sh h 433 [some (.ref b), some (.ref (gB g + 0)), some (.ref (gB g + 140)), some (.ref (gB g + 150)), some (.int i), none, none, none, none] [] := by
  have hi5 : 5 < X.2.2.2.2.2.2.2.2.maxLocals := by rw [hml]; exact Nat.le_of_ble_eq_true rfl
  have hi6 : 6 < X.2.2.2.2.2.2.2.2.maxLocals := by rw [hml]; exact Nat.le_of_ble_eq_true rfl
  have hi7 : 7 < X.2.2.2.2.2.2.2.2.maxLocals := by rw [hml]; exact Nat.le_of_ble_eq_true rfl
  have hi8 : 8 < X.2.2.2.2.2.2.2.2.maxLocals := by rw [hml]; exact Nat.le_of_ble_eq_true rfl
  unfold K_2 at hf
  refine PW.aload_n cx qL_law_433 rfl ?_
  refine PW.callVWIc (As := []) (st := []) cx hR qL_law_434 klL_169 mvX6_runScript (sh_0 hx) rfl rfl rfl rfl (Nat.le_of_ble_eq_true rfl) (Nat.le_of_ble_eq_true rfl) (Nat.le_of_ble_eq_true rfl) (by omega) (by omega) hf sne (fun t e => ctX6_runScript hx h t e) (fun t1 h2 hf => ?_)
  refine PW.aload_n cx qL_law_437 rfl ?_
  refine PW.callVWIc (As := []) (st := [.int t1]) cx hR qL_law_438 klL_172 mvX7_runScript (sh_140 hm) rfl rfl rfl rfl (Nat.le_of_ble_eq_true rfl) (Nat.le_of_ble_eq_true rfl) (Nat.le_of_ble_eq_true rfl) (by omega) (by omega) hf sne (fun t e => ctX7_runScript hm h2 t e) (fun t3 h4 hf => ?_)
  refine PW.icmp_eq cx qL_law_441 hf (fun hf => ?_) (fun hf => ?_)
  · cases hf
    exact PW.widen (by omega) (by omega) (PW.locs (Lsub.keep (Lsub.keep (Lsub.keep (Lsub.keep (Lsub.keep (Lsub.drop (Lsub.drop (Lsub.drop (Lsub.drop Lsub.nil))))))))) kk)
  · cases hf
set_option maxRecDepth 20000 in
theorem ctK_3 {g : GT} {X : XT} {Q : State → Prop} {cells slots b N : Nat} {xs : Nat → Int32} {sh : List Shp} {i : Int32} {a1 : Int32} (hx : XSh sh) (hm : MSh sh) (ho : sh[150]? = some (.inr (3, 1, []))) (cx : Cx g X RL code) (hR : RmG X.2.2.1 40 600002 7302232) (hml : X.2.2.2.2.2.2.2.2.maxLocals = 9) (hX : va_X b N xs X.2.2.2.1 X.2.2.2.1.heap) (hbB : b < X.2.2.2.1.heap.size ∧ b < gB g) (ha1 : vp_in (i + 1) N ∧ xs (i + 1).toNatClampNeg = a1) (hc : cells + 4 ≤ 600002) (hs : slots + 24 ≤ 7302232) (h r : Hp) (hf : K_3 h a1 = some r) (kk : PW g X false Q (cells + 4) (slots + 24) sh r 3252 [some (.ref b), some (.ref (gB g + 0)), some (.ref (gB g + 140)), some (.ref (gB g + 150)), some (.int i), none, none, none, none] []) : PW g X false Q cells slots sh h 446 [some (.ref b), some (.ref (gB g + 0)), some (.ref (gB g + 140)), some (.ref (gB g + 150)), some (.int i), none, none, none, none] [] := by
  have hi5 : 5 < X.2.2.2.2.2.2.2.2.maxLocals := by rw [hml]; exact Nat.le_of_ble_eq_true rfl
  have hi6 : 6 < X.2.2.2.2.2.2.2.2.maxLocals := by rw [hml]; exact Nat.le_of_ble_eq_true rfl
  have hi7 : 7 < X.2.2.2.2.2.2.2.2.maxLocals := by rw [hml]; exact Nat.le_of_ble_eq_true rfl
  have hi8 : 8 < X.2.2.2.2.2.2.2.2.maxLocals := by rw [hml]; exact Nat.le_of_ble_eq_true rfl
  unfold K_3 at hf
  refine PW.aload_n cx qL_law_446 rfl ?_
  refine PW.aload_n cx qL_law_447 rfl ?_
  refine PW.iload cx qL_law_448 rfl ?_
  refine PW.iconst (v := 1) cx qL_law_450 rfl ?_
  refine PW.iadd cx qL_law_451 ?_
  refine PW.sld cx qL_law_452 hX hbB ha1 ?_
  refine PW.aload_n cx qL_law_453 rfl ?_
  refine PW.callWI (As := [.ref (gB g + 0), .int a1, .ref (gB g + 150)]) (st := []) cx hR qL_law_454 kw173 mw_addClip rfl rfl (Nat.le_of_ble_eq_true rfl) (Nat.le_of_ble_eq_true rfl) (Nat.le_of_ble_eq_true rfl) (by omega) (by omega) hf sne (fun t e => ctL_addClip hx ho h a1 t e) (fun t1 h2 hf => ?_)
  refine PW.istore (L' := [some (.ref b), some (.ref (gB g + 0)), some (.ref (gB g + 140)), some (.ref (gB g + 150)), some (.int i), some (.int t1), none, none, none]) cx qL_law_457 hi5 rfl rfl ?_
  refine PW.aload_n cx qL_law_459 rfl ?_
  refine PW.aload_n cx qL_law_460 rfl ?_
  refine PW.iload cx qL_law_461 rfl ?_
  refine PW.iconst (v := 1) cx qL_law_463 rfl ?_
  refine PW.iadd cx qL_law_464 ?_
  refine PW.sld cx qL_law_465 hX hbB ha1 ?_
  refine PW.callVWIc (As := [.int a1]) (st := []) cx hR qL_law_466 klL_175 mvX7_addClip (sh_140 hm) rfl rfl rfl rfl (Nat.le_of_ble_eq_true rfl) (Nat.le_of_ble_eq_true rfl) (Nat.le_of_ble_eq_true rfl) (by omega) (by omega) hf sne (fun t e => ctX7_addClip hm h2 a1 t e) (fun t3 h4 hf => ?_)
  refine PW.istore (L' := [some (.ref b), some (.ref (gB g + 0)), some (.ref (gB g + 140)), some (.ref (gB g + 150)), some (.int i), some (.int t1), some (.int t3), none, none]) cx qL_law_469 hi6 rfl rfl ?_
  refine PW.aload_n cx qL_law_471 rfl ?_
  refine PW.callVRI (As := []) (st := []) cx hR qL_law_472 klL_166 mvX7_thrown (sh_140 hm) rfl rfl rfl rfl (Nat.le_of_ble_eq_true rfl) (Nat.le_of_ble_eq_true rfl) (Nat.le_of_ble_eq_true rfl) (by omega) (by omega) hf sne (fun t e => ctX7_thrown hm h4 t e) (fun t5 hf => ?_)
  refine PW.iload cx qL_law_475 rfl ?_
  refine PW.icmp_eq cx qL_law_477 hf (fun hf => ?_) (fun hf => ?_)
  · refine PW.iload cx qL_law_482 rfl ?_
    refine PW.if_ne cx qL_law_484 hf (fun hf => ?_) (fun hf => ?_)
    · refine PW.aload_n cx qL_law_487 rfl ?_
      refine PW.iconst (v := 0) cx qL_law_488 rfl ?_
      refine PW.lald1 cx qL_law_489 ho ?_
      refine PW.iload cx qL_law_490 rfl ?_
      refine PW.i2l cx qL_law_492 ?_
      refine PW.lcmp cx qL_law_493 ?_
      refine PW.if_eq cx qL_law_494 hf (fun hf => ?_) (fun hf => ?_)
      · refine PW.goto cx qL_law_499 ?_
        cases hf
        exact PW.widen (by omega) (by omega) (PW.locs (Lsub.keep (Lsub.keep (Lsub.keep (Lsub.keep (Lsub.keep (Lsub.drop (Lsub.drop (Lsub.drop (Lsub.drop Lsub.nil))))))))) kk)
      · cases hf
    · refine PW.goto cx qL_law_499 ?_
      cases hf
      exact PW.widen (by omega) (by omega) (PW.locs (Lsub.keep (Lsub.keep (Lsub.keep (Lsub.keep (Lsub.keep (Lsub.drop (Lsub.drop (Lsub.drop (Lsub.drop Lsub.nil))))))))) kk)
  · cases hf
set_option maxRecDepth 20000 in
theorem ctK_4 {g : GT} {X : XT} {Q : State → Prop} {cells slots b N : Nat} {xs : Nat → Int32} {sh : List Shp} {i : Int32} {a1 : Int32} (hx : XSh sh) (hm : MSh sh) (ho : sh[150]? = some (.inr (3, 1, []))) (cx : Cx g X RL code) (hR : RmG X.2.2.1 40 600002 7302232) (hml : X.2.2.2.2.2.2.2.2.maxLocals = 9) (hX : va_X b N xs X.2.2.2.1 X.2.2.2.1.heap) (hbB : b < X.2.2.2.1.heap.size ∧ b < gB g) (ha1 : vp_in (i + 1) N ∧ xs (i + 1).toNatClampNeg = a1) (hc : cells + 4 ≤ 600002) (hs : slots + 24 ≤ 7302232) (h r : Hp) (hf : K_4 h a1 = some r) (kk : PW g X false Q (cells + 4) (slots + 24) sh r 3252 [some (.ref b), some (.ref (gB g + 0)), some (.ref (gB g + 140)), some (.ref (gB g + 150)), some (.int i), none, none, none, none] []) : PW g X false Q cells slots sh h 502 [some (.ref b), some (.ref (gB g + 0)), some (.ref (gB g + 140)), some (.ref (gB g + 150)), some (.int i), none, none, none, none] [] := by
  have hi5 : 5 < X.2.2.2.2.2.2.2.2.maxLocals := by rw [hml]; exact Nat.le_of_ble_eq_true rfl
  have hi6 : 6 < X.2.2.2.2.2.2.2.2.maxLocals := by rw [hml]; exact Nat.le_of_ble_eq_true rfl
  have hi7 : 7 < X.2.2.2.2.2.2.2.2.maxLocals := by rw [hml]; exact Nat.le_of_ble_eq_true rfl
  have hi8 : 8 < X.2.2.2.2.2.2.2.2.maxLocals := by rw [hml]; exact Nat.le_of_ble_eq_true rfl
  unfold K_4 at hf
  refine PW.aload_n cx qL_law_502 rfl ?_
  refine PW.aload_n cx qL_law_503 rfl ?_
  refine PW.iload cx qL_law_504 rfl ?_
  refine PW.iconst (v := 1) cx qL_law_506 rfl ?_
  refine PW.iadd cx qL_law_507 ?_
  refine PW.sld cx qL_law_508 hX hbB ha1 ?_
  refine PW.aload_n cx qL_law_509 rfl ?_
  refine PW.callWI (As := [.ref (gB g + 0), .int a1, .ref (gB g + 150)]) (st := []) cx hR qL_law_510 kw176 mw_addReel rfl rfl (Nat.le_of_ble_eq_true rfl) (Nat.le_of_ble_eq_true rfl) (Nat.le_of_ble_eq_true rfl) (by omega) (by omega) hf sne (fun t e => ctL_addReel hx ho h a1 t e) (fun t1 h2 hf => ?_)
  refine PW.istore (L' := [some (.ref b), some (.ref (gB g + 0)), some (.ref (gB g + 140)), some (.ref (gB g + 150)), some (.int i), some (.int t1), none, none, none]) cx qL_law_513 hi5 rfl rfl ?_
  refine PW.aload_n cx qL_law_515 rfl ?_
  refine PW.aload_n cx qL_law_516 rfl ?_
  refine PW.iload cx qL_law_517 rfl ?_
  refine PW.iconst (v := 1) cx qL_law_519 rfl ?_
  refine PW.iadd cx qL_law_520 ?_
  refine PW.sld cx qL_law_521 hX hbB ha1 ?_
  refine PW.callVWIc (As := [.int a1]) (st := []) cx hR qL_law_522 klL_178 mvX7_addReel (sh_140 hm) rfl rfl rfl rfl (Nat.le_of_ble_eq_true rfl) (Nat.le_of_ble_eq_true rfl) (Nat.le_of_ble_eq_true rfl) (by omega) (by omega) hf sne (fun t e => ctX7_addReel hm h2 a1 t e) (fun t3 h4 hf => ?_)
  refine PW.istore (L' := [some (.ref b), some (.ref (gB g + 0)), some (.ref (gB g + 140)), some (.ref (gB g + 150)), some (.int i), some (.int t1), some (.int t3), none, none]) cx qL_law_525 hi6 rfl rfl ?_
  refine PW.aload_n cx qL_law_527 rfl ?_
  refine PW.callVRI (As := []) (st := []) cx hR qL_law_528 klL_166 mvX7_thrown (sh_140 hm) rfl rfl rfl rfl (Nat.le_of_ble_eq_true rfl) (Nat.le_of_ble_eq_true rfl) (Nat.le_of_ble_eq_true rfl) (by omega) (by omega) hf sne (fun t e => ctX7_thrown hm h4 t e) (fun t5 hf => ?_)
  refine PW.iload cx qL_law_531 rfl ?_
  refine PW.icmp_eq cx qL_law_533 hf (fun hf => ?_) (fun hf => ?_)
  · refine PW.iload cx qL_law_538 rfl ?_
    refine PW.if_ne cx qL_law_540 hf (fun hf => ?_) (fun hf => ?_)
    · refine PW.aload_n cx qL_law_543 rfl ?_
      refine PW.iconst (v := 0) cx qL_law_544 rfl ?_
      refine PW.lald1 cx qL_law_545 ho ?_
      refine PW.iload cx qL_law_546 rfl ?_
      refine PW.i2l cx qL_law_548 ?_
      refine PW.lcmp cx qL_law_549 ?_
      refine PW.if_eq cx qL_law_550 hf (fun hf => ?_) (fun hf => ?_)
      · refine PW.goto cx qL_law_555 ?_
        cases hf
        exact PW.widen (by omega) (by omega) (PW.locs (Lsub.keep (Lsub.keep (Lsub.keep (Lsub.keep (Lsub.keep (Lsub.drop (Lsub.drop (Lsub.drop (Lsub.drop Lsub.nil))))))))) kk)
      · cases hf
    · refine PW.goto cx qL_law_555 ?_
      cases hf
      exact PW.widen (by omega) (by omega) (PW.locs (Lsub.keep (Lsub.keep (Lsub.keep (Lsub.keep (Lsub.keep (Lsub.drop (Lsub.drop (Lsub.drop (Lsub.drop Lsub.nil))))))))) kk)
  · cases hf
set_option maxRecDepth 20000 in
theorem ctK_5 {g : GT} {X : XT} {Q : State → Prop} {cells slots b N : Nat} {xs : Nat → Int32} {sh : List Shp} {i : Int32} {a1 : Int32} (hx : XSh sh) (hm : MSh sh) (ho : sh[150]? = some (.inr (3, 1, []))) (cx : Cx g X RL code) (hR : RmG X.2.2.1 40 600002 7302232) (hml : X.2.2.2.2.2.2.2.2.maxLocals = 9) (hX : va_X b N xs X.2.2.2.1 X.2.2.2.1.heap) (hbB : b < X.2.2.2.1.heap.size ∧ b < gB g) (ha1 : vp_in (i + 1) N ∧ xs (i + 1).toNatClampNeg = a1) (hc : cells + 4 ≤ 600002) (hs : slots + 24 ≤ 7302232) (h r : Hp) (hf : K_5 h a1 = some r) (kk : PW g X false Q (cells + 4) (slots + 24) sh r 3252 [some (.ref b), some (.ref (gB g + 0)), some (.ref (gB g + 140)), some (.ref (gB g + 150)), some (.int i), none, none, none, none] []) : PW g X false Q cells slots sh h 558 [some (.ref b), some (.ref (gB g + 0)), some (.ref (gB g + 140)), some (.ref (gB g + 150)), some (.int i), none, none, none, none] [] := by
  have hi5 : 5 < X.2.2.2.2.2.2.2.2.maxLocals := by rw [hml]; exact Nat.le_of_ble_eq_true rfl
  have hi6 : 6 < X.2.2.2.2.2.2.2.2.maxLocals := by rw [hml]; exact Nat.le_of_ble_eq_true rfl
  have hi7 : 7 < X.2.2.2.2.2.2.2.2.maxLocals := by rw [hml]; exact Nat.le_of_ble_eq_true rfl
  have hi8 : 8 < X.2.2.2.2.2.2.2.2.maxLocals := by rw [hml]; exact Nat.le_of_ble_eq_true rfl
  unfold K_5 at hf
  refine PW.aload_n cx qL_law_558 rfl ?_
  refine PW.aload_n cx qL_law_559 rfl ?_
  refine PW.iload cx qL_law_560 rfl ?_
  refine PW.iconst (v := 1) cx qL_law_562 rfl ?_
  refine PW.iadd cx qL_law_563 ?_
  refine PW.sld cx qL_law_564 hX hbB ha1 ?_
  refine PW.aload_n cx qL_law_565 rfl ?_
  refine PW.callWI (As := [.ref (gB g + 0), .int a1, .ref (gB g + 150)]) (st := []) cx hR qL_law_566 kw179 mw_addScene rfl rfl (Nat.le_of_ble_eq_true rfl) (Nat.le_of_ble_eq_true rfl) (Nat.le_of_ble_eq_true rfl) (by omega) (by omega) hf sne (fun t e => ctL_addScene hx ho h a1 t e) (fun t1 h2 hf => ?_)
  refine PW.istore (L' := [some (.ref b), some (.ref (gB g + 0)), some (.ref (gB g + 140)), some (.ref (gB g + 150)), some (.int i), some (.int t1), none, none, none]) cx qL_law_569 hi5 rfl rfl ?_
  refine PW.aload_n cx qL_law_571 rfl ?_
  refine PW.aload_n cx qL_law_572 rfl ?_
  refine PW.iload cx qL_law_573 rfl ?_
  refine PW.iconst (v := 1) cx qL_law_575 rfl ?_
  refine PW.iadd cx qL_law_576 ?_
  refine PW.sld cx qL_law_577 hX hbB ha1 ?_
  refine PW.callVWIc (As := [.int a1]) (st := []) cx hR qL_law_578 klL_181 mvX7_addScene (sh_140 hm) rfl rfl rfl rfl (Nat.le_of_ble_eq_true rfl) (Nat.le_of_ble_eq_true rfl) (Nat.le_of_ble_eq_true rfl) (by omega) (by omega) hf sne (fun t e => ctX7_addScene hm h2 a1 t e) (fun t3 h4 hf => ?_)
  refine PW.istore (L' := [some (.ref b), some (.ref (gB g + 0)), some (.ref (gB g + 140)), some (.ref (gB g + 150)), some (.int i), some (.int t1), some (.int t3), none, none]) cx qL_law_581 hi6 rfl rfl ?_
  refine PW.aload_n cx qL_law_583 rfl ?_
  refine PW.callVRI (As := []) (st := []) cx hR qL_law_584 klL_166 mvX7_thrown (sh_140 hm) rfl rfl rfl rfl (Nat.le_of_ble_eq_true rfl) (Nat.le_of_ble_eq_true rfl) (Nat.le_of_ble_eq_true rfl) (by omega) (by omega) hf sne (fun t e => ctX7_thrown hm h4 t e) (fun t5 hf => ?_)
  refine PW.iload cx qL_law_587 rfl ?_
  refine PW.icmp_eq cx qL_law_589 hf (fun hf => ?_) (fun hf => ?_)
  · refine PW.iload cx qL_law_594 rfl ?_
    refine PW.if_ne cx qL_law_596 hf (fun hf => ?_) (fun hf => ?_)
    · refine PW.aload_n cx qL_law_599 rfl ?_
      refine PW.iconst (v := 0) cx qL_law_600 rfl ?_
      refine PW.lald1 cx qL_law_601 ho ?_
      refine PW.iload cx qL_law_602 rfl ?_
      refine PW.i2l cx qL_law_604 ?_
      refine PW.lcmp cx qL_law_605 ?_
      refine PW.if_eq cx qL_law_606 hf (fun hf => ?_) (fun hf => ?_)
      · refine PW.goto cx qL_law_611 ?_
        cases hf
        exact PW.widen (by omega) (by omega) (PW.locs (Lsub.keep (Lsub.keep (Lsub.keep (Lsub.keep (Lsub.keep (Lsub.drop (Lsub.drop (Lsub.drop (Lsub.drop Lsub.nil))))))))) kk)
      · cases hf
    · refine PW.goto cx qL_law_611 ?_
      cases hf
      exact PW.widen (by omega) (by omega) (PW.locs (Lsub.keep (Lsub.keep (Lsub.keep (Lsub.keep (Lsub.keep (Lsub.drop (Lsub.drop (Lsub.drop (Lsub.drop Lsub.nil))))))))) kk)
  · cases hf
set_option maxRecDepth 20000 in
theorem ctK_6 {g : GT} {X : XT} {Q : State → Prop} {cells slots b N : Nat} {xs : Nat → Int32} {sh : List Shp} {i : Int32} {a1 : Int32} {a2 : Int32} (hx : XSh sh) (hm : MSh sh) (ho : sh[150]? = some (.inr (3, 1, []))) (cx : Cx g X RL code) (hR : RmG X.2.2.1 40 600002 7302232) (hml : X.2.2.2.2.2.2.2.2.maxLocals = 9) (hX : va_X b N xs X.2.2.2.1 X.2.2.2.1.heap) (hbB : b < X.2.2.2.1.heap.size ∧ b < gB g) (ha1 : vp_in (i + 1) N ∧ xs (i + 1).toNatClampNeg = a1) (ha2 : vp_in (i + 2) N ∧ xs (i + 2).toNatClampNeg = a2) (hc : cells + 4 ≤ 600002) (hs : slots + 24 ≤ 7302232) (h r : Hp) (hf : K_6 h a1 a2 = some r) (kk : PW g X false Q (cells + 4) (slots + 24) sh r 3252 [some (.ref b), some (.ref (gB g + 0)), some (.ref (gB g + 140)), some (.ref (gB g + 150)), some (.int i), none, none, none, none] []) : PW g X false Q cells slots sh h 614 [some (.ref b), some (.ref (gB g + 0)), some (.ref (gB g + 140)), some (.ref (gB g + 150)), some (.int i), none, none, none, none] [] := by
  have hi5 : 5 < X.2.2.2.2.2.2.2.2.maxLocals := by rw [hml]; exact Nat.le_of_ble_eq_true rfl
  have hi6 : 6 < X.2.2.2.2.2.2.2.2.maxLocals := by rw [hml]; exact Nat.le_of_ble_eq_true rfl
  have hi7 : 7 < X.2.2.2.2.2.2.2.2.maxLocals := by rw [hml]; exact Nat.le_of_ble_eq_true rfl
  have hi8 : 8 < X.2.2.2.2.2.2.2.2.maxLocals := by rw [hml]; exact Nat.le_of_ble_eq_true rfl
  unfold K_6 at hf
  refine PW.aload_n cx qL_law_614 rfl ?_
  refine PW.aload_n cx qL_law_615 rfl ?_
  refine PW.iload cx qL_law_616 rfl ?_
  refine PW.iconst (v := 1) cx qL_law_618 rfl ?_
  refine PW.iadd cx qL_law_619 ?_
  refine PW.sld cx qL_law_620 hX hbB ha1 ?_
  refine PW.aload_n cx qL_law_621 rfl ?_
  refine PW.iload cx qL_law_622 rfl ?_
  refine PW.iconst (v := 2) cx qL_law_624 rfl ?_
  refine PW.iadd cx qL_law_625 ?_
  refine PW.sld cx qL_law_626 hX hbB ha2 ?_
  refine PW.aload_n cx qL_law_627 rfl ?_
  refine PW.callWI (As := [.ref (gB g + 0), .int a1, .int a2, .ref (gB g + 150)]) (st := []) cx hR qL_law_628 kw182 mw_sleep rfl rfl (Nat.le_of_ble_eq_true rfl) (Nat.le_of_ble_eq_true rfl) (Nat.le_of_ble_eq_true rfl) (by omega) (by omega) hf sne (fun t e => ctL_sleep hx ho h a1 a2 t e) (fun t1 h2 hf => ?_)
  refine PW.istore (L' := [some (.ref b), some (.ref (gB g + 0)), some (.ref (gB g + 140)), some (.ref (gB g + 150)), some (.int i), some (.int t1), none, none, none]) cx qL_law_631 hi5 rfl rfl ?_
  refine PW.aload_n cx qL_law_633 rfl ?_
  refine PW.aload_n cx qL_law_634 rfl ?_
  refine PW.iload cx qL_law_635 rfl ?_
  refine PW.iconst (v := 1) cx qL_law_637 rfl ?_
  refine PW.iadd cx qL_law_638 ?_
  refine PW.sld cx qL_law_639 hX hbB ha1 ?_
  refine PW.aload_n cx qL_law_640 rfl ?_
  refine PW.iload cx qL_law_641 rfl ?_
  refine PW.iconst (v := 2) cx qL_law_643 rfl ?_
  refine PW.iadd cx qL_law_644 ?_
  refine PW.sld cx qL_law_645 hX hbB ha2 ?_
  refine PW.callVWIc (As := [.int a1, .int a2]) (st := []) cx hR qL_law_646 klL_185 mvX7_sleep (sh_140 hm) rfl rfl rfl rfl (Nat.le_of_ble_eq_true rfl) (Nat.le_of_ble_eq_true rfl) (Nat.le_of_ble_eq_true rfl) (by omega) (by omega) hf sne (fun t e => ctX7_sleep hm h2 a1 a2 t e) (fun t3 h4 hf => ?_)
  refine PW.istore (L' := [some (.ref b), some (.ref (gB g + 0)), some (.ref (gB g + 140)), some (.ref (gB g + 150)), some (.int i), some (.int t1), some (.int t3), none, none]) cx qL_law_649 hi6 rfl rfl ?_
  refine PW.aload_n cx qL_law_651 rfl ?_
  refine PW.callVRI (As := []) (st := []) cx hR qL_law_652 klL_166 mvX7_thrown (sh_140 hm) rfl rfl rfl rfl (Nat.le_of_ble_eq_true rfl) (Nat.le_of_ble_eq_true rfl) (Nat.le_of_ble_eq_true rfl) (by omega) (by omega) hf sne (fun t e => ctX7_thrown hm h4 t e) (fun t5 hf => ?_)
  refine PW.iload cx qL_law_655 rfl ?_
  refine PW.icmp_eq cx qL_law_657 hf (fun hf => ?_) (fun hf => ?_)
  · refine PW.iload cx qL_law_662 rfl ?_
    refine PW.if_ne cx qL_law_664 hf (fun hf => ?_) (fun hf => ?_)
    · refine PW.aload_n cx qL_law_667 rfl ?_
      refine PW.iconst (v := 0) cx qL_law_668 rfl ?_
      refine PW.lald1 cx qL_law_669 ho ?_
      refine PW.iload cx qL_law_670 rfl ?_
      refine PW.i2l cx qL_law_672 ?_
      refine PW.lcmp cx qL_law_673 ?_
      refine PW.if_eq cx qL_law_674 hf (fun hf => ?_) (fun hf => ?_)
      · refine PW.goto cx qL_law_679 ?_
        cases hf
        exact PW.widen (by omega) (by omega) (PW.locs (Lsub.keep (Lsub.keep (Lsub.keep (Lsub.keep (Lsub.keep (Lsub.drop (Lsub.drop (Lsub.drop (Lsub.drop Lsub.nil))))))))) kk)
      · cases hf
    · refine PW.goto cx qL_law_679 ?_
      cases hf
      exact PW.widen (by omega) (by omega) (PW.locs (Lsub.keep (Lsub.keep (Lsub.keep (Lsub.keep (Lsub.keep (Lsub.drop (Lsub.drop (Lsub.drop (Lsub.drop Lsub.nil))))))))) kk)
  · cases hf
set_option maxRecDepth 20000 in
theorem ctK_7 {g : GT} {X : XT} {Q : State → Prop} {cells slots b N : Nat} {xs : Nat → Int32} {sh : List Shp} {i : Int32} {a1 : Int32} (hx : XSh sh) (hm : MSh sh) (ho : sh[150]? = some (.inr (3, 1, []))) (cx : Cx g X RL code) (hR : RmG X.2.2.1 40 600002 7302232) (hml : X.2.2.2.2.2.2.2.2.maxLocals = 9) (hX : va_X b N xs X.2.2.2.1 X.2.2.2.1.heap) (hbB : b < X.2.2.2.1.heap.size ∧ b < gB g) (ha1 : vp_in (i + 1) N ∧ xs (i + 1).toNatClampNeg = a1) (hc : cells + 4 ≤ 600002) (hs : slots + 24 ≤ 7302232) (h r : Hp) (hf : K_7 h a1 = some r) (kk : PW g X false Q (cells + 4) (slots + 24) sh r 3252 [some (.ref b), some (.ref (gB g + 0)), some (.ref (gB g + 140)), some (.ref (gB g + 150)), some (.int i), none, none, none, none] []) : PW g X false Q cells slots sh h 682 [some (.ref b), some (.ref (gB g + 0)), some (.ref (gB g + 140)), some (.ref (gB g + 150)), some (.int i), none, none, none, none] [] := by
  have hi5 : 5 < X.2.2.2.2.2.2.2.2.maxLocals := by rw [hml]; exact Nat.le_of_ble_eq_true rfl
  have hi6 : 6 < X.2.2.2.2.2.2.2.2.maxLocals := by rw [hml]; exact Nat.le_of_ble_eq_true rfl
  have hi7 : 7 < X.2.2.2.2.2.2.2.2.maxLocals := by rw [hml]; exact Nat.le_of_ble_eq_true rfl
  have hi8 : 8 < X.2.2.2.2.2.2.2.2.maxLocals := by rw [hml]; exact Nat.le_of_ble_eq_true rfl
  unfold K_7 at hf
  refine PW.aload_n cx qL_law_682 rfl ?_
  refine PW.aload_n cx qL_law_683 rfl ?_
  refine PW.iload cx qL_law_684 rfl ?_
  refine PW.iconst (v := 1) cx qL_law_686 rfl ?_
  refine PW.iadd cx qL_law_687 ?_
  refine PW.sld cx qL_law_688 hX hbB ha1 ?_
  refine PW.aload_n cx qL_law_689 rfl ?_
  refine PW.callWI (As := [.ref (gB g + 0), .int a1, .ref (gB g + 150)]) (st := []) cx hR qL_law_690 kw186 mw_wake rfl rfl (Nat.le_of_ble_eq_true rfl) (Nat.le_of_ble_eq_true rfl) (Nat.le_of_ble_eq_true rfl) (by omega) (by omega) hf sne (fun t e => ctL_wake hx ho h a1 t e) (fun t1 h2 hf => ?_)
  refine PW.istore (L' := [some (.ref b), some (.ref (gB g + 0)), some (.ref (gB g + 140)), some (.ref (gB g + 150)), some (.int i), some (.int t1), none, none, none]) cx qL_law_693 hi5 rfl rfl ?_
  refine PW.aload_n cx qL_law_695 rfl ?_
  refine PW.aload_n cx qL_law_696 rfl ?_
  refine PW.iload cx qL_law_697 rfl ?_
  refine PW.iconst (v := 1) cx qL_law_699 rfl ?_
  refine PW.iadd cx qL_law_700 ?_
  refine PW.sld cx qL_law_701 hX hbB ha1 ?_
  refine PW.callVWIc (As := [.int a1]) (st := []) cx hR qL_law_702 klL_188 mvX7_wake (sh_140 hm) rfl rfl rfl rfl (Nat.le_of_ble_eq_true rfl) (Nat.le_of_ble_eq_true rfl) (Nat.le_of_ble_eq_true rfl) (by omega) (by omega) hf sne (fun t e => ctX7_wake hm h2 a1 t e) (fun t3 h4 hf => ?_)
  refine PW.istore (L' := [some (.ref b), some (.ref (gB g + 0)), some (.ref (gB g + 140)), some (.ref (gB g + 150)), some (.int i), some (.int t1), some (.int t3), none, none]) cx qL_law_705 hi6 rfl rfl ?_
  refine PW.aload_n cx qL_law_707 rfl ?_
  refine PW.callVRI (As := []) (st := []) cx hR qL_law_708 klL_166 mvX7_thrown (sh_140 hm) rfl rfl rfl rfl (Nat.le_of_ble_eq_true rfl) (Nat.le_of_ble_eq_true rfl) (Nat.le_of_ble_eq_true rfl) (by omega) (by omega) hf sne (fun t e => ctX7_thrown hm h4 t e) (fun t5 hf => ?_)
  refine PW.iload cx qL_law_711 rfl ?_
  refine PW.icmp_eq cx qL_law_713 hf (fun hf => ?_) (fun hf => ?_)
  · refine PW.iload cx qL_law_718 rfl ?_
    refine PW.if_ne cx qL_law_720 hf (fun hf => ?_) (fun hf => ?_)
    · refine PW.aload_n cx qL_law_723 rfl ?_
      refine PW.iconst (v := 0) cx qL_law_724 rfl ?_
      refine PW.lald1 cx qL_law_725 ho ?_
      refine PW.iload cx qL_law_726 rfl ?_
      refine PW.i2l cx qL_law_728 ?_
      refine PW.lcmp cx qL_law_729 ?_
      refine PW.if_eq cx qL_law_730 hf (fun hf => ?_) (fun hf => ?_)
      · refine PW.goto cx qL_law_735 ?_
        cases hf
        exact PW.widen (by omega) (by omega) (PW.locs (Lsub.keep (Lsub.keep (Lsub.keep (Lsub.keep (Lsub.keep (Lsub.drop (Lsub.drop (Lsub.drop (Lsub.drop Lsub.nil))))))))) kk)
      · cases hf
    · refine PW.goto cx qL_law_735 ?_
      cases hf
      exact PW.widen (by omega) (by omega) (PW.locs (Lsub.keep (Lsub.keep (Lsub.keep (Lsub.keep (Lsub.keep (Lsub.drop (Lsub.drop (Lsub.drop (Lsub.drop Lsub.nil))))))))) kk)
  · cases hf
set_option maxRecDepth 20000 in
theorem ctK_8 {g : GT} {X : XT} {Q : State → Prop} {cells slots b N : Nat} {xs : Nat → Int32} {sh : List Shp} {i : Int32} {a1 : Int32} {a2 : Int32} (hx : XSh sh) (hm : MSh sh) (ho : sh[150]? = some (.inr (3, 1, []))) (cx : Cx g X RL code) (hR : RmG X.2.2.1 40 600002 7302232) (hml : X.2.2.2.2.2.2.2.2.maxLocals = 9) (hX : va_X b N xs X.2.2.2.1 X.2.2.2.1.heap) (hbB : b < X.2.2.2.1.heap.size ∧ b < gB g) (ha1 : vp_in (i + 1) N ∧ xs (i + 1).toNatClampNeg = a1) (ha2 : vp_in (i + 2) N ∧ xs (i + 2).toNatClampNeg = a2) (hc : cells + 4 ≤ 600002) (hs : slots + 24 ≤ 7302232) (h r : Hp) (hf : K_8 h a1 a2 = some r) (kk : PW g X false Q (cells + 4) (slots + 24) sh r 3252 [some (.ref b), some (.ref (gB g + 0)), some (.ref (gB g + 140)), some (.ref (gB g + 150)), some (.int i), none, none, none, none] []) : PW g X false Q cells slots sh h 738 [some (.ref b), some (.ref (gB g + 0)), some (.ref (gB g + 140)), some (.ref (gB g + 150)), some (.int i), none, none, none, none] [] := by
  have hi5 : 5 < X.2.2.2.2.2.2.2.2.maxLocals := by rw [hml]; exact Nat.le_of_ble_eq_true rfl
  have hi6 : 6 < X.2.2.2.2.2.2.2.2.maxLocals := by rw [hml]; exact Nat.le_of_ble_eq_true rfl
  have hi7 : 7 < X.2.2.2.2.2.2.2.2.maxLocals := by rw [hml]; exact Nat.le_of_ble_eq_true rfl
  have hi8 : 8 < X.2.2.2.2.2.2.2.2.maxLocals := by rw [hml]; exact Nat.le_of_ble_eq_true rfl
  unfold K_8 at hf
  refine PW.aload_n cx qL_law_738 rfl ?_
  refine PW.aload_n cx qL_law_739 rfl ?_
  refine PW.iload cx qL_law_740 rfl ?_
  refine PW.iconst (v := 1) cx qL_law_742 rfl ?_
  refine PW.iadd cx qL_law_743 ?_
  refine PW.sld cx qL_law_744 hX hbB ha1 ?_
  refine PW.aload_n cx qL_law_745 rfl ?_
  refine PW.iload cx qL_law_746 rfl ?_
  refine PW.iconst (v := 2) cx qL_law_748 rfl ?_
  refine PW.iadd cx qL_law_749 ?_
  refine PW.sld cx qL_law_750 hX hbB ha2 ?_
  refine PW.aload_n cx qL_law_751 rfl ?_
  refine PW.callWI (As := [.ref (gB g + 0), .int a1, .int a2, .ref (gB g + 150)]) (st := []) cx hR qL_law_752 kw189 mw_cut rfl rfl (Nat.le_of_ble_eq_true rfl) (Nat.le_of_ble_eq_true rfl) (Nat.le_of_ble_eq_true rfl) (by omega) (by omega) hf sne (fun t e => ctL_cut hx ho h a1 a2 t e) (fun t1 h2 hf => ?_)
  refine PW.istore (L' := [some (.ref b), some (.ref (gB g + 0)), some (.ref (gB g + 140)), some (.ref (gB g + 150)), some (.int i), some (.int t1), none, none, none]) cx qL_law_755 hi5 rfl rfl ?_
  refine PW.aload_n cx qL_law_757 rfl ?_
  refine PW.aload_n cx qL_law_758 rfl ?_
  refine PW.iload cx qL_law_759 rfl ?_
  refine PW.iconst (v := 1) cx qL_law_761 rfl ?_
  refine PW.iadd cx qL_law_762 ?_
  refine PW.sld cx qL_law_763 hX hbB ha1 ?_
  refine PW.aload_n cx qL_law_764 rfl ?_
  refine PW.iload cx qL_law_765 rfl ?_
  refine PW.iconst (v := 2) cx qL_law_767 rfl ?_
  refine PW.iadd cx qL_law_768 ?_
  refine PW.sld cx qL_law_769 hX hbB ha2 ?_
  refine PW.callVWIc (As := [.int a1, .int a2]) (st := []) cx hR qL_law_770 klL_191 mvX7_cut (sh_140 hm) rfl rfl rfl rfl (Nat.le_of_ble_eq_true rfl) (Nat.le_of_ble_eq_true rfl) (Nat.le_of_ble_eq_true rfl) (by omega) (by omega) hf sne (fun t e => ctX7_cut hm h2 a1 a2 t e) (fun t3 h4 hf => ?_)
  refine PW.istore (L' := [some (.ref b), some (.ref (gB g + 0)), some (.ref (gB g + 140)), some (.ref (gB g + 150)), some (.int i), some (.int t1), some (.int t3), none, none]) cx qL_law_773 hi6 rfl rfl ?_
  refine PW.aload_n cx qL_law_775 rfl ?_
  refine PW.callVRI (As := []) (st := []) cx hR qL_law_776 klL_166 mvX7_thrown (sh_140 hm) rfl rfl rfl rfl (Nat.le_of_ble_eq_true rfl) (Nat.le_of_ble_eq_true rfl) (Nat.le_of_ble_eq_true rfl) (by omega) (by omega) hf sne (fun t e => ctX7_thrown hm h4 t e) (fun t5 hf => ?_)
  refine PW.iload cx qL_law_779 rfl ?_
  refine PW.icmp_eq cx qL_law_781 hf (fun hf => ?_) (fun hf => ?_)
  · refine PW.iload cx qL_law_786 rfl ?_
    refine PW.if_ne cx qL_law_788 hf (fun hf => ?_) (fun hf => ?_)
    · refine PW.aload_n cx qL_law_791 rfl ?_
      refine PW.iconst (v := 0) cx qL_law_792 rfl ?_
      refine PW.lald1 cx qL_law_793 ho ?_
      refine PW.iload cx qL_law_794 rfl ?_
      refine PW.i2l cx qL_law_796 ?_
      refine PW.lcmp cx qL_law_797 ?_
      refine PW.if_eq cx qL_law_798 hf (fun hf => ?_) (fun hf => ?_)
      · refine PW.goto cx qL_law_803 ?_
        cases hf
        exact PW.widen (by omega) (by omega) (PW.locs (Lsub.keep (Lsub.keep (Lsub.keep (Lsub.keep (Lsub.keep (Lsub.drop (Lsub.drop (Lsub.drop (Lsub.drop Lsub.nil))))))))) kk)
      · cases hf
    · refine PW.goto cx qL_law_803 ?_
      cases hf
      exact PW.widen (by omega) (by omega) (PW.locs (Lsub.keep (Lsub.keep (Lsub.keep (Lsub.keep (Lsub.keep (Lsub.drop (Lsub.drop (Lsub.drop (Lsub.drop Lsub.nil))))))))) kk)
  · cases hf
set_option maxRecDepth 20000 in
theorem ctK_9 {g : GT} {X : XT} {Q : State → Prop} {cells slots b N : Nat} {xs : Nat → Int32} {sh : List Shp} {i : Int32} {a1 : Int32} (hx : XSh sh) (hm : MSh sh) (ho : sh[150]? = some (.inr (3, 1, []))) (cx : Cx g X RL code) (hR : RmG X.2.2.1 40 600002 7302232) (hml : X.2.2.2.2.2.2.2.2.maxLocals = 9) (hX : va_X b N xs X.2.2.2.1 X.2.2.2.1.heap) (hbB : b < X.2.2.2.1.heap.size ∧ b < gB g) (ha1 : vp_in (i + 1) N ∧ xs (i + 1).toNatClampNeg = a1) (hc : cells + 4 ≤ 600002) (hs : slots + 24 ≤ 7302232) (h r : Hp) (hf : K_9 h a1 = some r) (kk : PW g X false Q (cells + 4) (slots + 24) sh r 3252 [some (.ref b), some (.ref (gB g + 0)), some (.ref (gB g + 140)), some (.ref (gB g + 150)), some (.int i), none, none, none, none] []) : PW g X false Q cells slots sh h 806 [some (.ref b), some (.ref (gB g + 0)), some (.ref (gB g + 140)), some (.ref (gB g + 150)), some (.int i), none, none, none, none] [] := by
  have hi5 : 5 < X.2.2.2.2.2.2.2.2.maxLocals := by rw [hml]; exact Nat.le_of_ble_eq_true rfl
  have hi6 : 6 < X.2.2.2.2.2.2.2.2.maxLocals := by rw [hml]; exact Nat.le_of_ble_eq_true rfl
  have hi7 : 7 < X.2.2.2.2.2.2.2.2.maxLocals := by rw [hml]; exact Nat.le_of_ble_eq_true rfl
  have hi8 : 8 < X.2.2.2.2.2.2.2.2.maxLocals := by rw [hml]; exact Nat.le_of_ble_eq_true rfl
  unfold K_9 at hf
  refine PW.aload_n cx qL_law_806 rfl ?_
  refine PW.aload_n cx qL_law_807 rfl ?_
  refine PW.iload cx qL_law_808 rfl ?_
  refine PW.iconst (v := 1) cx qL_law_810 rfl ?_
  refine PW.iadd cx qL_law_811 ?_
  refine PW.sld cx qL_law_812 hX hbB ha1 ?_
  refine PW.aload_n cx qL_law_813 rfl ?_
  refine PW.callWI (As := [.ref (gB g + 0), .int a1, .ref (gB g + 150)]) (st := []) cx hR qL_law_814 kw192 mw_air rfl rfl (Nat.le_of_ble_eq_true rfl) (Nat.le_of_ble_eq_true rfl) (Nat.le_of_ble_eq_true rfl) (by omega) (by omega) hf sne (fun t e => ctL_air hx ho h a1 t e) (fun t1 h2 hf => ?_)
  refine PW.istore (L' := [some (.ref b), some (.ref (gB g + 0)), some (.ref (gB g + 140)), some (.ref (gB g + 150)), some (.int i), some (.int t1), none, none, none]) cx qL_law_817 hi5 rfl rfl ?_
  refine PW.aload_n cx qL_law_819 rfl ?_
  refine PW.aload_n cx qL_law_820 rfl ?_
  refine PW.iload cx qL_law_821 rfl ?_
  refine PW.iconst (v := 1) cx qL_law_823 rfl ?_
  refine PW.iadd cx qL_law_824 ?_
  refine PW.sld cx qL_law_825 hX hbB ha1 ?_
  refine PW.callVWIc (As := [.int a1]) (st := []) cx hR qL_law_826 klL_194 mvX7_air (sh_140 hm) rfl rfl rfl rfl (Nat.le_of_ble_eq_true rfl) (Nat.le_of_ble_eq_true rfl) (Nat.le_of_ble_eq_true rfl) (by omega) (by omega) hf sne (fun t e => ctX7_air hm h2 a1 t e) (fun t3 h4 hf => ?_)
  refine PW.istore (L' := [some (.ref b), some (.ref (gB g + 0)), some (.ref (gB g + 140)), some (.ref (gB g + 150)), some (.int i), some (.int t1), some (.int t3), none, none]) cx qL_law_829 hi6 rfl rfl ?_
  refine PW.aload_n cx qL_law_831 rfl ?_
  refine PW.callVRI (As := []) (st := []) cx hR qL_law_832 klL_166 mvX7_thrown (sh_140 hm) rfl rfl rfl rfl (Nat.le_of_ble_eq_true rfl) (Nat.le_of_ble_eq_true rfl) (Nat.le_of_ble_eq_true rfl) (by omega) (by omega) hf sne (fun t e => ctX7_thrown hm h4 t e) (fun t5 hf => ?_)
  refine PW.iload cx qL_law_835 rfl ?_
  refine PW.icmp_eq cx qL_law_837 hf (fun hf => ?_) (fun hf => ?_)
  · refine PW.iload cx qL_law_842 rfl ?_
    refine PW.if_ne cx qL_law_844 hf (fun hf => ?_) (fun hf => ?_)
    · refine PW.aload_n cx qL_law_847 rfl ?_
      refine PW.iconst (v := 0) cx qL_law_848 rfl ?_
      refine PW.lald1 cx qL_law_849 ho ?_
      refine PW.iload cx qL_law_850 rfl ?_
      refine PW.i2l cx qL_law_852 ?_
      refine PW.lcmp cx qL_law_853 ?_
      refine PW.if_eq cx qL_law_854 hf (fun hf => ?_) (fun hf => ?_)
      · refine PW.goto cx qL_law_859 ?_
        cases hf
        exact PW.widen (by omega) (by omega) (PW.locs (Lsub.keep (Lsub.keep (Lsub.keep (Lsub.keep (Lsub.keep (Lsub.drop (Lsub.drop (Lsub.drop (Lsub.drop Lsub.nil))))))))) kk)
      · cases hf
    · refine PW.goto cx qL_law_859 ?_
      cases hf
      exact PW.widen (by omega) (by omega) (PW.locs (Lsub.keep (Lsub.keep (Lsub.keep (Lsub.keep (Lsub.keep (Lsub.drop (Lsub.drop (Lsub.drop (Lsub.drop Lsub.nil))))))))) kk)
  · cases hf
set_option maxRecDepth 20000 in
theorem ctK_10 {g : GT} {X : XT} {Q : State → Prop} {cells slots b N : Nat} {xs : Nat → Int32} {sh : List Shp} {i : Int32} {a1 : Int32} {a2 : Int32} (hx : XSh sh) (hm : MSh sh) (ho : sh[150]? = some (.inr (3, 1, []))) (cx : Cx g X RL code) (hR : RmG X.2.2.1 40 600002 7302232) (hml : X.2.2.2.2.2.2.2.2.maxLocals = 9) (hX : va_X b N xs X.2.2.2.1 X.2.2.2.1.heap) (hbB : b < X.2.2.2.1.heap.size ∧ b < gB g) (ha1 : vp_in (i + 1) N ∧ xs (i + 1).toNatClampNeg = a1) (ha2 : vp_in (i + 2) N ∧ xs (i + 2).toNatClampNeg = a2) (hc : cells + 4 ≤ 600002) (hs : slots + 24 ≤ 7302232) (h r : Hp) (hf : K_10 h a1 a2 = some r) (kk : PW g X false Q (cells + 4) (slots + 24) sh r 3252 [some (.ref b), some (.ref (gB g + 0)), some (.ref (gB g + 140)), some (.ref (gB g + 150)), some (.int i), none, none, none, none] []) : PW g X false Q cells slots sh h 862 [some (.ref b), some (.ref (gB g + 0)), some (.ref (gB g + 140)), some (.ref (gB g + 150)), some (.int i), none, none, none, none] [] := by
  have hi5 : 5 < X.2.2.2.2.2.2.2.2.maxLocals := by rw [hml]; exact Nat.le_of_ble_eq_true rfl
  have hi6 : 6 < X.2.2.2.2.2.2.2.2.maxLocals := by rw [hml]; exact Nat.le_of_ble_eq_true rfl
  have hi7 : 7 < X.2.2.2.2.2.2.2.2.maxLocals := by rw [hml]; exact Nat.le_of_ble_eq_true rfl
  have hi8 : 8 < X.2.2.2.2.2.2.2.2.maxLocals := by rw [hml]; exact Nat.le_of_ble_eq_true rfl
  unfold K_10 at hf
  refine PW.aload_n cx qL_law_862 rfl ?_
  refine PW.aload_n cx qL_law_863 rfl ?_
  refine PW.iload cx qL_law_864 rfl ?_
  refine PW.iconst (v := 1) cx qL_law_866 rfl ?_
  refine PW.iadd cx qL_law_867 ?_
  refine PW.sld cx qL_law_868 hX hbB ha1 ?_
  refine PW.aload_n cx qL_law_869 rfl ?_
  refine PW.iload cx qL_law_870 rfl ?_
  refine PW.iconst (v := 2) cx qL_law_872 rfl ?_
  refine PW.iadd cx qL_law_873 ?_
  refine PW.sld cx qL_law_874 hX hbB ha2 ?_
  refine PW.aload_n cx qL_law_875 rfl ?_
  refine PW.callWI (As := [.ref (gB g + 0), .int a1, .int a2, .ref (gB g + 150)]) (st := []) cx hR qL_law_876 kw195 mw_feed rfl rfl (Nat.le_of_ble_eq_true rfl) (Nat.le_of_ble_eq_true rfl) (Nat.le_of_ble_eq_true rfl) (by omega) (by omega) hf sne (fun t e => ctL_feed hx ho h a1 a2 t e) (fun t1 h2 hf => ?_)
  refine PW.istore (L' := [some (.ref b), some (.ref (gB g + 0)), some (.ref (gB g + 140)), some (.ref (gB g + 150)), some (.int i), some (.int t1), none, none, none]) cx qL_law_879 hi5 rfl rfl ?_
  refine PW.aload_n cx qL_law_881 rfl ?_
  refine PW.aload_n cx qL_law_882 rfl ?_
  refine PW.iload cx qL_law_883 rfl ?_
  refine PW.iconst (v := 1) cx qL_law_885 rfl ?_
  refine PW.iadd cx qL_law_886 ?_
  refine PW.sld cx qL_law_887 hX hbB ha1 ?_
  refine PW.aload_n cx qL_law_888 rfl ?_
  refine PW.iload cx qL_law_889 rfl ?_
  refine PW.iconst (v := 2) cx qL_law_891 rfl ?_
  refine PW.iadd cx qL_law_892 ?_
  refine PW.sld cx qL_law_893 hX hbB ha2 ?_
  refine PW.callVWIc (As := [.int a1, .int a2]) (st := []) cx hR qL_law_894 klL_197 mvX7_feed (sh_140 hm) rfl rfl rfl rfl (Nat.le_of_ble_eq_true rfl) (Nat.le_of_ble_eq_true rfl) (Nat.le_of_ble_eq_true rfl) (by omega) (by omega) hf sne (fun t e => ctX7_feed hm h2 a1 a2 t e) (fun t3 h4 hf => ?_)
  refine PW.istore (L' := [some (.ref b), some (.ref (gB g + 0)), some (.ref (gB g + 140)), some (.ref (gB g + 150)), some (.int i), some (.int t1), some (.int t3), none, none]) cx qL_law_897 hi6 rfl rfl ?_
  refine PW.aload_n cx qL_law_899 rfl ?_
  refine PW.callVRI (As := []) (st := []) cx hR qL_law_900 klL_166 mvX7_thrown (sh_140 hm) rfl rfl rfl rfl (Nat.le_of_ble_eq_true rfl) (Nat.le_of_ble_eq_true rfl) (Nat.le_of_ble_eq_true rfl) (by omega) (by omega) hf sne (fun t e => ctX7_thrown hm h4 t e) (fun t5 hf => ?_)
  refine PW.iload cx qL_law_903 rfl ?_
  refine PW.icmp_eq cx qL_law_905 hf (fun hf => ?_) (fun hf => ?_)
  · refine PW.iload cx qL_law_910 rfl ?_
    refine PW.if_ne cx qL_law_912 hf (fun hf => ?_) (fun hf => ?_)
    · refine PW.aload_n cx qL_law_915 rfl ?_
      refine PW.iconst (v := 0) cx qL_law_916 rfl ?_
      refine PW.lald1 cx qL_law_917 ho ?_
      refine PW.iload cx qL_law_918 rfl ?_
      refine PW.i2l cx qL_law_920 ?_
      refine PW.lcmp cx qL_law_921 ?_
      refine PW.if_eq cx qL_law_922 hf (fun hf => ?_) (fun hf => ?_)
      · refine PW.goto cx qL_law_927 ?_
        cases hf
        exact PW.widen (by omega) (by omega) (PW.locs (Lsub.keep (Lsub.keep (Lsub.keep (Lsub.keep (Lsub.keep (Lsub.drop (Lsub.drop (Lsub.drop (Lsub.drop Lsub.nil))))))))) kk)
      · cases hf
    · refine PW.goto cx qL_law_927 ?_
      cases hf
      exact PW.widen (by omega) (by omega) (PW.locs (Lsub.keep (Lsub.keep (Lsub.keep (Lsub.keep (Lsub.keep (Lsub.drop (Lsub.drop (Lsub.drop (Lsub.drop Lsub.nil))))))))) kk)
  · cases hf
set_option maxRecDepth 20000 in
theorem ctK_11 {g : GT} {X : XT} {Q : State → Prop} {cells slots b N : Nat} {xs : Nat → Int32} {sh : List Shp} {i : Int32} {a1 : Int32} (hx : XSh sh) (hm : MSh sh) (ho : sh[150]? = some (.inr (3, 1, []))) (cx : Cx g X RL code) (hR : RmG X.2.2.1 40 600002 7302232) (hml : X.2.2.2.2.2.2.2.2.maxLocals = 9) (hX : va_X b N xs X.2.2.2.1 X.2.2.2.1.heap) (hbB : b < X.2.2.2.1.heap.size ∧ b < gB g) (ha1 : vp_in (i + 1) N ∧ xs (i + 1).toNatClampNeg = a1) (hc : cells + 4 ≤ 600002) (hs : slots + 24 ≤ 7302232) (h r : Hp) (hf : K_11 h a1 = some r) (kk : PW g X false Q (cells + 4) (slots + 24) sh r 3252 [some (.ref b), some (.ref (gB g + 0)), some (.ref (gB g + 140)), some (.ref (gB g + 150)), some (.int i), none, none, none, none] []) : PW g X false Q cells slots sh h 930 [some (.ref b), some (.ref (gB g + 0)), some (.ref (gB g + 140)), some (.ref (gB g + 150)), some (.int i), none, none, none, none] [] := by
  have hi5 : 5 < X.2.2.2.2.2.2.2.2.maxLocals := by rw [hml]; exact Nat.le_of_ble_eq_true rfl
  have hi6 : 6 < X.2.2.2.2.2.2.2.2.maxLocals := by rw [hml]; exact Nat.le_of_ble_eq_true rfl
  have hi7 : 7 < X.2.2.2.2.2.2.2.2.maxLocals := by rw [hml]; exact Nat.le_of_ble_eq_true rfl
  have hi8 : 8 < X.2.2.2.2.2.2.2.2.maxLocals := by rw [hml]; exact Nat.le_of_ble_eq_true rfl
  unfold K_11 at hf
  refine PW.aload_n cx qL_law_930 rfl ?_
  refine PW.aload_n cx qL_law_931 rfl ?_
  refine PW.iload cx qL_law_932 rfl ?_
  refine PW.iconst (v := 1) cx qL_law_934 rfl ?_
  refine PW.iadd cx qL_law_935 ?_
  refine PW.sld cx qL_law_936 hX hbB ha1 ?_
  refine PW.aload_n cx qL_law_937 rfl ?_
  refine PW.callWI (As := [.ref (gB g + 0), .int a1, .ref (gB g + 150)]) (st := []) cx hR qL_law_938 kw198 mw_addFood rfl rfl (Nat.le_of_ble_eq_true rfl) (Nat.le_of_ble_eq_true rfl) (Nat.le_of_ble_eq_true rfl) (by omega) (by omega) hf sne (fun t e => ctL_addFood hx ho h a1 t e) (fun t1 h2 hf => ?_)
  refine PW.istore (L' := [some (.ref b), some (.ref (gB g + 0)), some (.ref (gB g + 140)), some (.ref (gB g + 150)), some (.int i), some (.int t1), none, none, none]) cx qL_law_941 hi5 rfl rfl ?_
  refine PW.aload_n cx qL_law_943 rfl ?_
  refine PW.aload_n cx qL_law_944 rfl ?_
  refine PW.iload cx qL_law_945 rfl ?_
  refine PW.iconst (v := 1) cx qL_law_947 rfl ?_
  refine PW.iadd cx qL_law_948 ?_
  refine PW.sld cx qL_law_949 hX hbB ha1 ?_
  refine PW.callVWIc (As := [.int a1]) (st := []) cx hR qL_law_950 klL_200 mvX7_addFood (sh_140 hm) rfl rfl rfl rfl (Nat.le_of_ble_eq_true rfl) (Nat.le_of_ble_eq_true rfl) (Nat.le_of_ble_eq_true rfl) (by omega) (by omega) hf sne (fun t e => ctX7_addFood hm h2 a1 t e) (fun t3 h4 hf => ?_)
  refine PW.istore (L' := [some (.ref b), some (.ref (gB g + 0)), some (.ref (gB g + 140)), some (.ref (gB g + 150)), some (.int i), some (.int t1), some (.int t3), none, none]) cx qL_law_953 hi6 rfl rfl ?_
  refine PW.aload_n cx qL_law_955 rfl ?_
  refine PW.callVRI (As := []) (st := []) cx hR qL_law_956 klL_166 mvX7_thrown (sh_140 hm) rfl rfl rfl rfl (Nat.le_of_ble_eq_true rfl) (Nat.le_of_ble_eq_true rfl) (Nat.le_of_ble_eq_true rfl) (by omega) (by omega) hf sne (fun t e => ctX7_thrown hm h4 t e) (fun t5 hf => ?_)
  refine PW.iload cx qL_law_959 rfl ?_
  refine PW.icmp_eq cx qL_law_961 hf (fun hf => ?_) (fun hf => ?_)
  · refine PW.iload cx qL_law_966 rfl ?_
    refine PW.if_ne cx qL_law_968 hf (fun hf => ?_) (fun hf => ?_)
    · refine PW.aload_n cx qL_law_971 rfl ?_
      refine PW.iconst (v := 0) cx qL_law_972 rfl ?_
      refine PW.lald1 cx qL_law_973 ho ?_
      refine PW.iload cx qL_law_974 rfl ?_
      refine PW.i2l cx qL_law_976 ?_
      refine PW.lcmp cx qL_law_977 ?_
      refine PW.if_eq cx qL_law_978 hf (fun hf => ?_) (fun hf => ?_)
      · refine PW.goto cx qL_law_983 ?_
        cases hf
        exact PW.widen (by omega) (by omega) (PW.locs (Lsub.keep (Lsub.keep (Lsub.keep (Lsub.keep (Lsub.keep (Lsub.drop (Lsub.drop (Lsub.drop (Lsub.drop Lsub.nil))))))))) kk)
      · cases hf
    · refine PW.goto cx qL_law_983 ?_
      cases hf
      exact PW.widen (by omega) (by omega) (PW.locs (Lsub.keep (Lsub.keep (Lsub.keep (Lsub.keep (Lsub.keep (Lsub.drop (Lsub.drop (Lsub.drop (Lsub.drop Lsub.nil))))))))) kk)
  · cases hf
set_option maxRecDepth 20000 in
theorem ctK_12 {g : GT} {X : XT} {Q : State → Prop} {cells slots b N : Nat} {xs : Nat → Int32} {sh : List Shp} {i : Int32} {a1 : Int32} {a2 : Int32} {a3 : Int32} (hx : XSh sh) (hm : MSh sh) (ho : sh[150]? = some (.inr (3, 1, []))) (cx : Cx g X RL code) (hR : RmG X.2.2.1 40 600002 7302232) (hml : X.2.2.2.2.2.2.2.2.maxLocals = 9) (hX : va_X b N xs X.2.2.2.1 X.2.2.2.1.heap) (hbB : b < X.2.2.2.1.heap.size ∧ b < gB g) (ha1 : vp_in (i + 1) N ∧ xs (i + 1).toNatClampNeg = a1) (ha2 : vp_in (i + 2) N ∧ xs (i + 2).toNatClampNeg = a2) (ha3 : vp_in (i + 3) N ∧ xs (i + 3).toNatClampNeg = a3) (hc : cells + 4 ≤ 600002) (hs : slots + 24 ≤ 7302232) (h r : Hp) (hf : K_12 h a1 a2 a3 = some r) (kk : PW g X false Q (cells + 4) (slots + 24) sh r 3252 [some (.ref b), some (.ref (gB g + 0)), some (.ref (gB g + 140)), some (.ref (gB g + 150)), some (.int i), none, none, none, none] []) : PW g X false Q cells slots sh h 986 [some (.ref b), some (.ref (gB g + 0)), some (.ref (gB g + 140)), some (.ref (gB g + 150)), some (.int i), none, none, none, none] [] := by
  have hi5 : 5 < X.2.2.2.2.2.2.2.2.maxLocals := by rw [hml]; exact Nat.le_of_ble_eq_true rfl
  have hi6 : 6 < X.2.2.2.2.2.2.2.2.maxLocals := by rw [hml]; exact Nat.le_of_ble_eq_true rfl
  have hi7 : 7 < X.2.2.2.2.2.2.2.2.maxLocals := by rw [hml]; exact Nat.le_of_ble_eq_true rfl
  have hi8 : 8 < X.2.2.2.2.2.2.2.2.maxLocals := by rw [hml]; exact Nat.le_of_ble_eq_true rfl
  unfold K_12 at hf
  refine PW.aload_n cx qL_law_986 rfl ?_
  refine PW.aload_n cx qL_law_987 rfl ?_
  refine PW.iload cx qL_law_988 rfl ?_
  refine PW.iconst (v := 1) cx qL_law_990 rfl ?_
  refine PW.iadd cx qL_law_991 ?_
  refine PW.sld cx qL_law_992 hX hbB ha1 ?_
  refine PW.aload_n cx qL_law_993 rfl ?_
  refine PW.iload cx qL_law_994 rfl ?_
  refine PW.iconst (v := 2) cx qL_law_996 rfl ?_
  refine PW.iadd cx qL_law_997 ?_
  refine PW.sld cx qL_law_998 hX hbB ha2 ?_
  refine PW.aload_n cx qL_law_999 rfl ?_
  refine PW.iload cx qL_law_1000 rfl ?_
  refine PW.iconst (v := 3) cx qL_law_1002 rfl ?_
  refine PW.iadd cx qL_law_1003 ?_
  refine PW.sld cx qL_law_1004 hX hbB ha3 ?_
  refine PW.aload_n cx qL_law_1005 rfl ?_
  refine PW.callWI (As := [.ref (gB g + 0), .int a1, .int a2, .int a3, .ref (gB g + 150)]) (st := []) cx hR qL_law_1006 kw201 mw_paint rfl rfl (Nat.le_of_ble_eq_true rfl) (Nat.le_of_ble_eq_true rfl) (Nat.le_of_ble_eq_true rfl) (by omega) (by omega) hf sne (fun t e => ctL_paint hx ho h a1 a2 a3 t e) (fun t1 h2 hf => ?_)
  refine PW.istore (L' := [some (.ref b), some (.ref (gB g + 0)), some (.ref (gB g + 140)), some (.ref (gB g + 150)), some (.int i), some (.int t1), none, none, none]) cx qL_law_1009 hi5 rfl rfl ?_
  refine PW.aload_n cx qL_law_1011 rfl ?_
  refine PW.aload_n cx qL_law_1012 rfl ?_
  refine PW.iload cx qL_law_1013 rfl ?_
  refine PW.iconst (v := 1) cx qL_law_1015 rfl ?_
  refine PW.iadd cx qL_law_1016 ?_
  refine PW.sld cx qL_law_1017 hX hbB ha1 ?_
  refine PW.aload_n cx qL_law_1018 rfl ?_
  refine PW.iload cx qL_law_1019 rfl ?_
  refine PW.iconst (v := 2) cx qL_law_1021 rfl ?_
  refine PW.iadd cx qL_law_1022 ?_
  refine PW.sld cx qL_law_1023 hX hbB ha2 ?_
  refine PW.aload_n cx qL_law_1024 rfl ?_
  refine PW.iload cx qL_law_1025 rfl ?_
  refine PW.iconst (v := 3) cx qL_law_1027 rfl ?_
  refine PW.iadd cx qL_law_1028 ?_
  refine PW.sld cx qL_law_1029 hX hbB ha3 ?_
  refine PW.callVWIc (As := [.int a1, .int a2, .int a3]) (st := []) cx hR qL_law_1030 klL_204 mvX7_paint (sh_140 hm) rfl rfl rfl rfl (Nat.le_of_ble_eq_true rfl) (Nat.le_of_ble_eq_true rfl) (Nat.le_of_ble_eq_true rfl) (by omega) (by omega) hf sne (fun t e => ctX7_paint hm h2 a1 a2 a3 t e) (fun t3 h4 hf => ?_)
  refine PW.istore (L' := [some (.ref b), some (.ref (gB g + 0)), some (.ref (gB g + 140)), some (.ref (gB g + 150)), some (.int i), some (.int t1), some (.int t3), none, none]) cx qL_law_1033 hi6 rfl rfl ?_
  refine PW.aload_n cx qL_law_1035 rfl ?_
  refine PW.callVRI (As := []) (st := []) cx hR qL_law_1036 klL_166 mvX7_thrown (sh_140 hm) rfl rfl rfl rfl (Nat.le_of_ble_eq_true rfl) (Nat.le_of_ble_eq_true rfl) (Nat.le_of_ble_eq_true rfl) (by omega) (by omega) hf sne (fun t e => ctX7_thrown hm h4 t e) (fun t5 hf => ?_)
  refine PW.iload cx qL_law_1039 rfl ?_
  refine PW.icmp_eq cx qL_law_1041 hf (fun hf => ?_) (fun hf => ?_)
  · refine PW.iload cx qL_law_1046 rfl ?_
    refine PW.if_ne cx qL_law_1048 hf (fun hf => ?_) (fun hf => ?_)
    · refine PW.aload_n cx qL_law_1051 rfl ?_
      refine PW.iconst (v := 0) cx qL_law_1052 rfl ?_
      refine PW.lald1 cx qL_law_1053 ho ?_
      refine PW.iload cx qL_law_1054 rfl ?_
      refine PW.i2l cx qL_law_1056 ?_
      refine PW.lcmp cx qL_law_1057 ?_
      refine PW.if_eq cx qL_law_1058 hf (fun hf => ?_) (fun hf => ?_)
      · refine PW.goto cx qL_law_1063 ?_
        cases hf
        exact PW.widen (by omega) (by omega) (PW.locs (Lsub.keep (Lsub.keep (Lsub.keep (Lsub.keep (Lsub.keep (Lsub.drop (Lsub.drop (Lsub.drop (Lsub.drop Lsub.nil))))))))) kk)
      · cases hf
    · refine PW.goto cx qL_law_1063 ?_
      cases hf
      exact PW.widen (by omega) (by omega) (PW.locs (Lsub.keep (Lsub.keep (Lsub.keep (Lsub.keep (Lsub.keep (Lsub.drop (Lsub.drop (Lsub.drop (Lsub.drop Lsub.nil))))))))) kk)
  · cases hf
set_option maxRecDepth 20000 in
theorem ctK_13 {g : GT} {X : XT} {Q : State → Prop} {cells slots b N : Nat} {xs : Nat → Int32} {sh : List Shp} {i : Int32} {a1 : Int32} (hx : XSh sh) (hm : MSh sh) (ho : sh[150]? = some (.inr (3, 1, []))) (cx : Cx g X RL code) (hR : RmG X.2.2.1 40 600002 7302232) (hml : X.2.2.2.2.2.2.2.2.maxLocals = 9) (hX : va_X b N xs X.2.2.2.1 X.2.2.2.1.heap) (hbB : b < X.2.2.2.1.heap.size ∧ b < gB g) (ha1 : vp_in (i + 1) N ∧ xs (i + 1).toNatClampNeg = a1) (hc : cells + 4 ≤ 600002) (hs : slots + 24 ≤ 7302232) (h r : Hp) (hf : K_13 h a1 = some r) (kk : PW g X false Q (cells + 4) (slots + 24) sh r 3252 [some (.ref b), some (.ref (gB g + 0)), some (.ref (gB g + 140)), some (.ref (gB g + 150)), some (.int i), none, none, none, none] []) : PW g X false Q cells slots sh h 1066 [some (.ref b), some (.ref (gB g + 0)), some (.ref (gB g + 140)), some (.ref (gB g + 150)), some (.int i), none, none, none, none] [] := by
  have hi5 : 5 < X.2.2.2.2.2.2.2.2.maxLocals := by rw [hml]; exact Nat.le_of_ble_eq_true rfl
  have hi6 : 6 < X.2.2.2.2.2.2.2.2.maxLocals := by rw [hml]; exact Nat.le_of_ble_eq_true rfl
  have hi7 : 7 < X.2.2.2.2.2.2.2.2.maxLocals := by rw [hml]; exact Nat.le_of_ble_eq_true rfl
  have hi8 : 8 < X.2.2.2.2.2.2.2.2.maxLocals := by rw [hml]; exact Nat.le_of_ble_eq_true rfl
  unfold K_13 at hf
  refine PW.aload_n cx qL_law_1066 rfl ?_
  refine PW.aload_n cx qL_law_1067 rfl ?_
  refine PW.iload cx qL_law_1068 rfl ?_
  refine PW.iconst (v := 1) cx qL_law_1070 rfl ?_
  refine PW.iadd cx qL_law_1071 ?_
  refine PW.sld cx qL_law_1072 hX hbB ha1 ?_
  refine PW.aload_n cx qL_law_1073 rfl ?_
  refine PW.callWI (As := [.ref (gB g + 0), .int a1, .ref (gB g + 150)]) (st := []) cx hR qL_law_1074 kw205 mw_passWeeks rfl rfl (Nat.le_of_ble_eq_true rfl) (Nat.le_of_ble_eq_true rfl) (Nat.le_of_ble_eq_true rfl) (by omega) (by omega) hf sne (fun t e => ctL_passWeeks hx ho h a1 t e) (fun t1 h2 hf => ?_)
  refine PW.istore (L' := [some (.ref b), some (.ref (gB g + 0)), some (.ref (gB g + 140)), some (.ref (gB g + 150)), some (.int i), some (.int t1), none, none, none]) cx qL_law_1077 hi5 rfl rfl ?_
  refine PW.aload_n cx qL_law_1079 rfl ?_
  refine PW.aload_n cx qL_law_1080 rfl ?_
  refine PW.iload cx qL_law_1081 rfl ?_
  refine PW.iconst (v := 1) cx qL_law_1083 rfl ?_
  refine PW.iadd cx qL_law_1084 ?_
  refine PW.sld cx qL_law_1085 hX hbB ha1 ?_
  refine PW.callVWIc (As := [.int a1]) (st := []) cx hR qL_law_1086 klL_207 mvX7_passWeeks (sh_140 hm) rfl rfl rfl rfl (Nat.le_of_ble_eq_true rfl) (Nat.le_of_ble_eq_true rfl) (Nat.le_of_ble_eq_true rfl) (by omega) (by omega) hf sne (fun t e => ctX7_passWeeks hm h2 a1 t e) (fun t3 h4 hf => ?_)
  refine PW.istore (L' := [some (.ref b), some (.ref (gB g + 0)), some (.ref (gB g + 140)), some (.ref (gB g + 150)), some (.int i), some (.int t1), some (.int t3), none, none]) cx qL_law_1089 hi6 rfl rfl ?_
  refine PW.aload_n cx qL_law_1091 rfl ?_
  refine PW.callVRI (As := []) (st := []) cx hR qL_law_1092 klL_166 mvX7_thrown (sh_140 hm) rfl rfl rfl rfl (Nat.le_of_ble_eq_true rfl) (Nat.le_of_ble_eq_true rfl) (Nat.le_of_ble_eq_true rfl) (by omega) (by omega) hf sne (fun t e => ctX7_thrown hm h4 t e) (fun t5 hf => ?_)
  refine PW.iload cx qL_law_1095 rfl ?_
  refine PW.icmp_eq cx qL_law_1097 hf (fun hf => ?_) (fun hf => ?_)
  · refine PW.iload cx qL_law_1102 rfl ?_
    refine PW.if_ne cx qL_law_1104 hf (fun hf => ?_) (fun hf => ?_)
    · refine PW.aload_n cx qL_law_1107 rfl ?_
      refine PW.iconst (v := 0) cx qL_law_1108 rfl ?_
      refine PW.lald1 cx qL_law_1109 ho ?_
      refine PW.iload cx qL_law_1110 rfl ?_
      refine PW.i2l cx qL_law_1112 ?_
      refine PW.lcmp cx qL_law_1113 ?_
      refine PW.if_eq cx qL_law_1114 hf (fun hf => ?_) (fun hf => ?_)
      · refine PW.goto cx qL_law_1119 ?_
        cases hf
        exact PW.widen (by omega) (by omega) (PW.locs (Lsub.keep (Lsub.keep (Lsub.keep (Lsub.keep (Lsub.keep (Lsub.drop (Lsub.drop (Lsub.drop (Lsub.drop Lsub.nil))))))))) kk)
      · cases hf
    · refine PW.goto cx qL_law_1119 ?_
      cases hf
      exact PW.widen (by omega) (by omega) (PW.locs (Lsub.keep (Lsub.keep (Lsub.keep (Lsub.keep (Lsub.keep (Lsub.drop (Lsub.drop (Lsub.drop (Lsub.drop Lsub.nil))))))))) kk)
  · cases hf
set_option maxRecDepth 20000 in
theorem ctK_14 {g : GT} {X : XT} {Q : State → Prop} {cells slots b N : Nat} {xs : Nat → Int32} {sh : List Shp} {i : Int32} (hx : XSh sh) (hm : MSh sh) (ho : sh[150]? = some (.inr (3, 1, []))) (cx : Cx g X RL code) (hR : RmG X.2.2.1 40 600002 7302232) (hml : X.2.2.2.2.2.2.2.2.maxLocals = 9) (hX : va_X b N xs X.2.2.2.1 X.2.2.2.1.heap) (hbB : b < X.2.2.2.1.heap.size ∧ b < gB g) (hc : cells + 4 ≤ 600002) (hs : slots + 24 ≤ 7302232) (h r : Hp) (hf : K_14 h = some r) (kk : PW g X false Q (cells + 4) (slots + 24) sh r 3252 [some (.ref b), some (.ref (gB g + 0)), some (.ref (gB g + 140)), some (.ref (gB g + 150)), some (.int i), none, none, none, none] []) : PW g X false Q cells slots sh h 1122 [some (.ref b), some (.ref (gB g + 0)), some (.ref (gB g + 140)), some (.ref (gB g + 150)), some (.int i), none, none, none, none] [] := by
  have hi5 : 5 < X.2.2.2.2.2.2.2.2.maxLocals := by rw [hml]; exact Nat.le_of_ble_eq_true rfl
  have hi6 : 6 < X.2.2.2.2.2.2.2.2.maxLocals := by rw [hml]; exact Nat.le_of_ble_eq_true rfl
  have hi7 : 7 < X.2.2.2.2.2.2.2.2.maxLocals := by rw [hml]; exact Nat.le_of_ble_eq_true rfl
  have hi8 : 8 < X.2.2.2.2.2.2.2.2.maxLocals := by rw [hml]; exact Nat.le_of_ble_eq_true rfl
  unfold K_14 at hf
  refine PW.aload_n cx qL_law_1122 rfl ?_
  refine PW.callVWIc (As := []) (st := []) cx hR qL_law_1123 klL_208 mvX6_undo (sh_0 hx) rfl rfl rfl rfl (Nat.le_of_ble_eq_true rfl) (Nat.le_of_ble_eq_true rfl) (Nat.le_of_ble_eq_true rfl) (by omega) (by omega) hf sne (fun t e => ctX6_undo hx h t e) (fun t1 h2 hf => ?_)
  refine PW.aload_n cx qL_law_1126 rfl ?_
  refine PW.callVWIc (As := []) (st := [.int t1]) cx hR qL_law_1127 klL_211 mvX7_undo (sh_140 hm) rfl rfl rfl rfl (Nat.le_of_ble_eq_true rfl) (Nat.le_of_ble_eq_true rfl) (Nat.le_of_ble_eq_true rfl) (by omega) (by omega) hf sne (fun t e => ctX7_undo hm h2 t e) (fun t3 h4 hf => ?_)
  refine PW.icmp_eq cx qL_law_1130 hf (fun hf => ?_) (fun hf => ?_)
  · cases hf
    exact PW.widen (by omega) (by omega) (PW.locs (Lsub.keep (Lsub.keep (Lsub.keep (Lsub.keep (Lsub.keep (Lsub.drop (Lsub.drop (Lsub.drop (Lsub.drop Lsub.nil))))))))) kk)
  · cases hf
set_option maxRecDepth 20000 in
theorem ctK_15 {g : GT} {X : XT} {Q : State → Prop} {cells slots b N : Nat} {xs : Nat → Int32} {sh : List Shp} {i : Int32} (hx : XSh sh) (hm : MSh sh) (ho : sh[150]? = some (.inr (3, 1, []))) (cx : Cx g X RL code) (hR : RmG X.2.2.1 40 600002 7302232) (hml : X.2.2.2.2.2.2.2.2.maxLocals = 9) (hX : va_X b N xs X.2.2.2.1 X.2.2.2.1.heap) (hbB : b < X.2.2.2.1.heap.size ∧ b < gB g) (hc : cells + 4 ≤ 600002) (hs : slots + 24 ≤ 7302232) (h r : Hp) (hf : K_15 h = some r) (kk : PW g X false Q (cells + 4) (slots + 24) sh r 3252 [some (.ref b), some (.ref (gB g + 0)), some (.ref (gB g + 140)), some (.ref (gB g + 150)), some (.int i), none, none, none, none] []) : PW g X false Q cells slots sh h 1135 [some (.ref b), some (.ref (gB g + 0)), some (.ref (gB g + 140)), some (.ref (gB g + 150)), some (.int i), none, none, none, none] [] := by
  have hi5 : 5 < X.2.2.2.2.2.2.2.2.maxLocals := by rw [hml]; exact Nat.le_of_ble_eq_true rfl
  have hi6 : 6 < X.2.2.2.2.2.2.2.2.maxLocals := by rw [hml]; exact Nat.le_of_ble_eq_true rfl
  have hi7 : 7 < X.2.2.2.2.2.2.2.2.maxLocals := by rw [hml]; exact Nat.le_of_ble_eq_true rfl
  have hi8 : 8 < X.2.2.2.2.2.2.2.2.maxLocals := by rw [hml]; exact Nat.le_of_ble_eq_true rfl
  unfold K_15 at hf
  refine PW.aload_n cx qL_law_1135 rfl ?_
  refine PW.callVRI (As := []) (st := []) cx hR qL_law_1136 klL_212 mvX6_undoCount (sh_0 hx) rfl rfl rfl rfl (Nat.le_of_ble_eq_true rfl) (Nat.le_of_ble_eq_true rfl) (Nat.le_of_ble_eq_true rfl) (by omega) (by omega) hf sne (fun t e => ctX6_undoCount hx h t e) (fun t1 hf => ?_)
  refine PW.aload_n cx qL_law_1139 rfl ?_
  refine PW.callVWIc (As := []) (st := [.int t1]) cx hR qL_law_1140 klL_215 mvX7_undoCount (sh_140 hm) rfl rfl rfl rfl (Nat.le_of_ble_eq_true rfl) (Nat.le_of_ble_eq_true rfl) (Nat.le_of_ble_eq_true rfl) (by omega) (by omega) hf sne (fun t e => ctX7_undoCount hm h t e) (fun t2 h3 hf => ?_)
  refine PW.icmp_eq cx qL_law_1143 hf (fun hf => ?_) (fun hf => ?_)
  · cases hf
    exact PW.widen (by omega) (by omega) (PW.locs (Lsub.keep (Lsub.keep (Lsub.keep (Lsub.keep (Lsub.keep (Lsub.drop (Lsub.drop (Lsub.drop (Lsub.drop Lsub.nil))))))))) kk)
  · cases hf
set_option maxRecDepth 20000 in
theorem ctK_16 {g : GT} {X : XT} {Q : State → Prop} {cells slots b N : Nat} {xs : Nat → Int32} {sh : List Shp} {i : Int32} (hx : XSh sh) (hm : MSh sh) (ho : sh[150]? = some (.inr (3, 1, []))) (cx : Cx g X RL code) (hR : RmG X.2.2.1 40 600002 7302232) (hml : X.2.2.2.2.2.2.2.2.maxLocals = 9) (hX : va_X b N xs X.2.2.2.1 X.2.2.2.1.heap) (hbB : b < X.2.2.2.1.heap.size ∧ b < gB g) (hc : cells + 4 ≤ 600002) (hs : slots + 24 ≤ 7302232) (h r : Hp) (hf : K_16 h = some r) (kk : PW g X false Q (cells + 4) (slots + 24) sh r 3252 [some (.ref b), some (.ref (gB g + 0)), some (.ref (gB g + 140)), some (.ref (gB g + 150)), some (.int i), none, none, none, none] []) : PW g X false Q cells slots sh h 1148 [some (.ref b), some (.ref (gB g + 0)), some (.ref (gB g + 140)), some (.ref (gB g + 150)), some (.int i), none, none, none, none] [] := by
  have hi5 : 5 < X.2.2.2.2.2.2.2.2.maxLocals := by rw [hml]; exact Nat.le_of_ble_eq_true rfl
  have hi6 : 6 < X.2.2.2.2.2.2.2.2.maxLocals := by rw [hml]; exact Nat.le_of_ble_eq_true rfl
  have hi7 : 7 < X.2.2.2.2.2.2.2.2.maxLocals := by rw [hml]; exact Nat.le_of_ble_eq_true rfl
  have hi8 : 8 < X.2.2.2.2.2.2.2.2.maxLocals := by rw [hml]; exact Nat.le_of_ble_eq_true rfl
  unfold K_16 at hf
  refine PW.aload_n cx qL_law_1148 rfl ?_
  refine PW.callVWIc (As := []) (st := []) cx hR qL_law_1149 klL_216 mvX6_saveSnapshot (sh_0 hx) rfl rfl rfl rfl (Nat.le_of_ble_eq_true rfl) (Nat.le_of_ble_eq_true rfl) (Nat.le_of_ble_eq_true rfl) (by omega) (by omega) hf sne (fun t e => ctX6_saveSnapshot hx h t e) (fun t1 h2 hf => ?_)
  refine PW.aload_n cx qL_law_1152 rfl ?_
  refine PW.callVWIc (As := []) (st := [.int t1]) cx hR qL_law_1153 klL_219 mvX7_saveSnapshot (sh_140 hm) rfl rfl rfl rfl (Nat.le_of_ble_eq_true rfl) (Nat.le_of_ble_eq_true rfl) (Nat.le_of_ble_eq_true rfl) (by omega) (by omega) hf sne (fun t e => ctX7_saveSnapshot hm h2 t e) (fun t3 h4 hf => ?_)
  refine PW.icmp_eq cx qL_law_1156 hf (fun hf => ?_) (fun hf => ?_)
  · cases hf
    exact PW.widen (by omega) (by omega) (PW.locs (Lsub.keep (Lsub.keep (Lsub.keep (Lsub.keep (Lsub.keep (Lsub.drop (Lsub.drop (Lsub.drop (Lsub.drop Lsub.nil))))))))) kk)
  · cases hf
set_option maxRecDepth 20000 in
theorem ctK_17 {g : GT} {X : XT} {Q : State → Prop} {cells slots b N : Nat} {xs : Nat → Int32} {sh : List Shp} {i : Int32} (hx : XSh sh) (hm : MSh sh) (ho : sh[150]? = some (.inr (3, 1, []))) (cx : Cx g X RL code) (hR : RmG X.2.2.1 40 600002 7302232) (hml : X.2.2.2.2.2.2.2.2.maxLocals = 9) (hX : va_X b N xs X.2.2.2.1 X.2.2.2.1.heap) (hbB : b < X.2.2.2.1.heap.size ∧ b < gB g) (hc : cells + 4 ≤ 600002) (hs : slots + 24 ≤ 7302232) (h r : Hp) (hf : K_17 h = some r) (kk : PW g X false Q (cells + 4) (slots + 24) sh r 3252 [some (.ref b), some (.ref (gB g + 0)), some (.ref (gB g + 140)), some (.ref (gB g + 150)), some (.int i), none, none, none, none] []) : PW g X false Q cells slots sh h 1161 [some (.ref b), some (.ref (gB g + 0)), some (.ref (gB g + 140)), some (.ref (gB g + 150)), some (.int i), none, none, none, none] [] := by
  have hi5 : 5 < X.2.2.2.2.2.2.2.2.maxLocals := by rw [hml]; exact Nat.le_of_ble_eq_true rfl
  have hi6 : 6 < X.2.2.2.2.2.2.2.2.maxLocals := by rw [hml]; exact Nat.le_of_ble_eq_true rfl
  have hi7 : 7 < X.2.2.2.2.2.2.2.2.maxLocals := by rw [hml]; exact Nat.le_of_ble_eq_true rfl
  have hi8 : 8 < X.2.2.2.2.2.2.2.2.maxLocals := by rw [hml]; exact Nat.le_of_ble_eq_true rfl
  unfold K_17 at hf
  refine PW.aload_n cx qL_law_1161 rfl ?_
  refine PW.aload_n cx qL_law_1162 rfl ?_
  refine PW.callWI (As := [.ref (gB g + 0), .ref (gB g + 150)]) (st := []) cx hR qL_law_1163 kw220 mw_restoreSnapshot rfl rfl (Nat.le_of_ble_eq_true rfl) (Nat.le_of_ble_eq_true rfl) (Nat.le_of_ble_eq_true rfl) (by omega) (by omega) hf sne (fun t e => ctL_restoreSnapshot hx ho h t e) (fun t1 h2 hf => ?_)
  refine PW.istore (L' := [some (.ref b), some (.ref (gB g + 0)), some (.ref (gB g + 140)), some (.ref (gB g + 150)), some (.int i), some (.int t1), none, none, none]) cx qL_law_1166 hi5 rfl rfl ?_
  refine PW.aload_n cx qL_law_1168 rfl ?_
  refine PW.callVWIc (As := []) (st := []) cx hR qL_law_1169 klL_223 mvX7_restoreSnapshot (sh_140 hm) rfl rfl rfl rfl (Nat.le_of_ble_eq_true rfl) (Nat.le_of_ble_eq_true rfl) (Nat.le_of_ble_eq_true rfl) (by omega) (by omega) hf sne (fun t e => ctX7_restoreSnapshot hm h2 t e) (fun t3 h4 hf => ?_)
  refine PW.istore (L' := [some (.ref b), some (.ref (gB g + 0)), some (.ref (gB g + 140)), some (.ref (gB g + 150)), some (.int i), some (.int t1), some (.int t3), none, none]) cx qL_law_1172 hi6 rfl rfl ?_
  refine PW.aload_n cx qL_law_1174 rfl ?_
  refine PW.callVRI (As := []) (st := []) cx hR qL_law_1175 klL_166 mvX7_thrown (sh_140 hm) rfl rfl rfl rfl (Nat.le_of_ble_eq_true rfl) (Nat.le_of_ble_eq_true rfl) (Nat.le_of_ble_eq_true rfl) (by omega) (by omega) hf sne (fun t e => ctX7_thrown hm h4 t e) (fun t5 hf => ?_)
  refine PW.iload cx qL_law_1178 rfl ?_
  refine PW.icmp_eq cx qL_law_1180 hf (fun hf => ?_) (fun hf => ?_)
  · refine PW.iload cx qL_law_1185 rfl ?_
    refine PW.if_ne cx qL_law_1187 hf (fun hf => ?_) (fun hf => ?_)
    · refine PW.aload_n cx qL_law_1190 rfl ?_
      refine PW.iconst (v := 0) cx qL_law_1191 rfl ?_
      refine PW.lald1 cx qL_law_1192 ho ?_
      refine PW.iload cx qL_law_1193 rfl ?_
      refine PW.i2l cx qL_law_1195 ?_
      refine PW.lcmp cx qL_law_1196 ?_
      refine PW.if_eq cx qL_law_1197 hf (fun hf => ?_) (fun hf => ?_)
      · refine PW.goto cx qL_law_1202 ?_
        cases hf
        exact PW.widen (by omega) (by omega) (PW.locs (Lsub.keep (Lsub.keep (Lsub.keep (Lsub.keep (Lsub.keep (Lsub.drop (Lsub.drop (Lsub.drop (Lsub.drop Lsub.nil))))))))) kk)
      · cases hf
    · refine PW.goto cx qL_law_1202 ?_
      cases hf
      exact PW.widen (by omega) (by omega) (PW.locs (Lsub.keep (Lsub.keep (Lsub.keep (Lsub.keep (Lsub.keep (Lsub.drop (Lsub.drop (Lsub.drop (Lsub.drop Lsub.nil))))))))) kk)
  · cases hf
set_option maxRecDepth 20000 in
theorem ctK_18 {g : GT} {X : XT} {Q : State → Prop} {cells slots b N : Nat} {xs : Nat → Int32} {sh : List Shp} {i : Int32} (hx : XSh sh) (hm : MSh sh) (ho : sh[150]? = some (.inr (3, 1, []))) (cx : Cx g X RL code) (hR : RmG X.2.2.1 40 600002 7302232) (hml : X.2.2.2.2.2.2.2.2.maxLocals = 9) (hX : va_X b N xs X.2.2.2.1 X.2.2.2.1.heap) (hbB : b < X.2.2.2.1.heap.size ∧ b < gB g) (hc : cells + 4 ≤ 600002) (hs : slots + 24 ≤ 7302232) (h r : Hp) (hf : K_18 h = some r) (kk : PW g X false Q (cells + 4) (slots + 24) sh r 3252 [some (.ref b), some (.ref (gB g + 0)), some (.ref (gB g + 140)), some (.ref (gB g + 150)), some (.int i), none, none, none, none] []) : PW g X false Q cells slots sh h 1205 [some (.ref b), some (.ref (gB g + 0)), some (.ref (gB g + 140)), some (.ref (gB g + 150)), some (.int i), none, none, none, none] [] := by
  have hi5 : 5 < X.2.2.2.2.2.2.2.2.maxLocals := by rw [hml]; exact Nat.le_of_ble_eq_true rfl
  have hi6 : 6 < X.2.2.2.2.2.2.2.2.maxLocals := by rw [hml]; exact Nat.le_of_ble_eq_true rfl
  have hi7 : 7 < X.2.2.2.2.2.2.2.2.maxLocals := by rw [hml]; exact Nat.le_of_ble_eq_true rfl
  have hi8 : 8 < X.2.2.2.2.2.2.2.2.maxLocals := by rw [hml]; exact Nat.le_of_ble_eq_true rfl
  unfold K_18 at hf
  refine PW.aload_n cx qL_law_1205 rfl ?_
  refine PW.callVRI (As := []) (st := []) cx hR qL_law_1206 klL_224 mvX6_scriptErrorKind (sh_0 hx) rfl rfl rfl rfl (Nat.le_of_ble_eq_true rfl) (Nat.le_of_ble_eq_true rfl) (Nat.le_of_ble_eq_true rfl) (by omega) (by omega) hf sne (fun t e => ctX6_scriptErrorKind hx h t e) (fun t1 hf => ?_)
  refine PW.aload_n cx qL_law_1209 rfl ?_
  refine PW.callVWIc (As := []) (st := [.int t1]) cx hR qL_law_1210 klL_227 mvX7_scriptErrorKind (sh_140 hm) rfl rfl rfl rfl (Nat.le_of_ble_eq_true rfl) (Nat.le_of_ble_eq_true rfl) (Nat.le_of_ble_eq_true rfl) (by omega) (by omega) hf sne (fun t e => ctX7_scriptErrorKind hm h t e) (fun t2 h3 hf => ?_)
  refine PW.icmp_eq cx qL_law_1213 hf (fun hf => ?_) (fun hf => ?_)
  · cases hf
    exact PW.widen (by omega) (by omega) (PW.locs (Lsub.keep (Lsub.keep (Lsub.keep (Lsub.keep (Lsub.keep (Lsub.drop (Lsub.drop (Lsub.drop (Lsub.drop Lsub.nil))))))))) kk)
  · cases hf
set_option maxRecDepth 20000 in
theorem ctK_19 {g : GT} {X : XT} {Q : State → Prop} {cells slots b N : Nat} {xs : Nat → Int32} {sh : List Shp} {i : Int32} (hx : XSh sh) (hm : MSh sh) (ho : sh[150]? = some (.inr (3, 1, []))) (cx : Cx g X RL code) (hR : RmG X.2.2.1 40 600002 7302232) (hml : X.2.2.2.2.2.2.2.2.maxLocals = 9) (hX : va_X b N xs X.2.2.2.1 X.2.2.2.1.heap) (hbB : b < X.2.2.2.1.heap.size ∧ b < gB g) (hc : cells + 4 ≤ 600002) (hs : slots + 24 ≤ 7302232) (h r : Hp) (hf : K_19 h = some r) (kk : PW g X false Q (cells + 4) (slots + 24) sh r 3252 [some (.ref b), some (.ref (gB g + 0)), some (.ref (gB g + 140)), some (.ref (gB g + 150)), some (.int i), none, none, none, none] []) : PW g X false Q cells slots sh h 1218 [some (.ref b), some (.ref (gB g + 0)), some (.ref (gB g + 140)), some (.ref (gB g + 150)), some (.int i), none, none, none, none] [] := by
  have hi5 : 5 < X.2.2.2.2.2.2.2.2.maxLocals := by rw [hml]; exact Nat.le_of_ble_eq_true rfl
  have hi6 : 6 < X.2.2.2.2.2.2.2.2.maxLocals := by rw [hml]; exact Nat.le_of_ble_eq_true rfl
  have hi7 : 7 < X.2.2.2.2.2.2.2.2.maxLocals := by rw [hml]; exact Nat.le_of_ble_eq_true rfl
  have hi8 : 8 < X.2.2.2.2.2.2.2.2.maxLocals := by rw [hml]; exact Nat.le_of_ble_eq_true rfl
  unfold K_19 at hf
  refine PW.aload_n cx qL_law_1218 rfl ?_
  refine PW.callVRI (As := []) (st := []) cx hR qL_law_1219 klL_228 mvX6_scriptErrorOffset (sh_0 hx) rfl rfl rfl rfl (Nat.le_of_ble_eq_true rfl) (Nat.le_of_ble_eq_true rfl) (Nat.le_of_ble_eq_true rfl) (by omega) (by omega) hf sne (fun t e => ctX6_scriptErrorOffset hx h t e) (fun t1 hf => ?_)
  refine PW.aload_n cx qL_law_1222 rfl ?_
  refine PW.callVWIc (As := []) (st := [.int t1]) cx hR qL_law_1223 klL_231 mvX7_scriptErrorOffset (sh_140 hm) rfl rfl rfl rfl (Nat.le_of_ble_eq_true rfl) (Nat.le_of_ble_eq_true rfl) (Nat.le_of_ble_eq_true rfl) (by omega) (by omega) hf sne (fun t e => ctX7_scriptErrorOffset hm h t e) (fun t2 h3 hf => ?_)
  refine PW.icmp_eq cx qL_law_1226 hf (fun hf => ?_) (fun hf => ?_)
  · cases hf
    exact PW.widen (by omega) (by omega) (PW.locs (Lsub.keep (Lsub.keep (Lsub.keep (Lsub.keep (Lsub.keep (Lsub.drop (Lsub.drop (Lsub.drop (Lsub.drop Lsub.nil))))))))) kk)
  · cases hf
set_option maxRecDepth 20000 in
theorem ctK_20 {g : GT} {X : XT} {Q : State → Prop} {cells slots b N : Nat} {xs : Nat → Int32} {sh : List Shp} {i : Int32} (hx : XSh sh) (hm : MSh sh) (ho : sh[150]? = some (.inr (3, 1, []))) (cx : Cx g X RL code) (hR : RmG X.2.2.1 40 600002 7302232) (hml : X.2.2.2.2.2.2.2.2.maxLocals = 9) (hX : va_X b N xs X.2.2.2.1 X.2.2.2.1.heap) (hbB : b < X.2.2.2.1.heap.size ∧ b < gB g) (hc : cells + 4 ≤ 600002) (hs : slots + 24 ≤ 7302232) (h r : Hp) (hf : K_20 h = some r) (kk : PW g X false Q (cells + 4) (slots + 24) sh r 3252 [some (.ref b), some (.ref (gB g + 0)), some (.ref (gB g + 140)), some (.ref (gB g + 150)), some (.int i), none, none, none, none] []) : PW g X false Q cells slots sh h 1231 [some (.ref b), some (.ref (gB g + 0)), some (.ref (gB g + 140)), some (.ref (gB g + 150)), some (.int i), none, none, none, none] [] := by
  have hi5 : 5 < X.2.2.2.2.2.2.2.2.maxLocals := by rw [hml]; exact Nat.le_of_ble_eq_true rfl
  have hi6 : 6 < X.2.2.2.2.2.2.2.2.maxLocals := by rw [hml]; exact Nat.le_of_ble_eq_true rfl
  have hi7 : 7 < X.2.2.2.2.2.2.2.2.maxLocals := by rw [hml]; exact Nat.le_of_ble_eq_true rfl
  have hi8 : 8 < X.2.2.2.2.2.2.2.2.maxLocals := by rw [hml]; exact Nat.le_of_ble_eq_true rfl
  unfold K_20 at hf
  refine PW.aload_n cx qL_law_1231 rfl ?_
  refine PW.callVRI (As := []) (st := []) cx hR qL_law_1232 klL_232 mvX6_week (sh_0 hx) rfl rfl rfl rfl (Nat.le_of_ble_eq_true rfl) (Nat.le_of_ble_eq_true rfl) (Nat.le_of_ble_eq_true rfl) (by omega) (by omega) hf sne (fun t e => ctX6_week hx h t e) (fun t1 hf => ?_)
  refine PW.aload_n cx qL_law_1235 rfl ?_
  refine PW.callVWIc (As := []) (st := [.int t1]) cx hR qL_law_1236 klL_235 mvX7_week (sh_140 hm) rfl rfl rfl rfl (Nat.le_of_ble_eq_true rfl) (Nat.le_of_ble_eq_true rfl) (Nat.le_of_ble_eq_true rfl) (by omega) (by omega) hf sne (fun t e => ctX7_week hm h t e) (fun t2 h3 hf => ?_)
  refine PW.icmp_eq cx qL_law_1239 hf (fun hf => ?_) (fun hf => ?_)
  · cases hf
    exact PW.widen (by omega) (by omega) (PW.locs (Lsub.keep (Lsub.keep (Lsub.keep (Lsub.keep (Lsub.keep (Lsub.drop (Lsub.drop (Lsub.drop (Lsub.drop Lsub.nil))))))))) kk)
  · cases hf
set_option maxRecDepth 20000 in
theorem ctK_21 {g : GT} {X : XT} {Q : State → Prop} {cells slots b N : Nat} {xs : Nat → Int32} {sh : List Shp} {i : Int32} (hx : XSh sh) (hm : MSh sh) (ho : sh[150]? = some (.inr (3, 1, []))) (cx : Cx g X RL code) (hR : RmG X.2.2.1 40 600002 7302232) (hml : X.2.2.2.2.2.2.2.2.maxLocals = 9) (hX : va_X b N xs X.2.2.2.1 X.2.2.2.1.heap) (hbB : b < X.2.2.2.1.heap.size ∧ b < gB g) (hc : cells + 4 ≤ 600002) (hs : slots + 24 ≤ 7302232) (h r : Hp) (hf : K_21 h = some r) (kk : PW g X false Q (cells + 4) (slots + 24) sh r 3252 [some (.ref b), some (.ref (gB g + 0)), some (.ref (gB g + 140)), some (.ref (gB g + 150)), some (.int i), none, none, none, none] []) : PW g X false Q cells slots sh h 1244 [some (.ref b), some (.ref (gB g + 0)), some (.ref (gB g + 140)), some (.ref (gB g + 150)), some (.int i), none, none, none, none] [] := by
  have hi5 : 5 < X.2.2.2.2.2.2.2.2.maxLocals := by rw [hml]; exact Nat.le_of_ble_eq_true rfl
  have hi6 : 6 < X.2.2.2.2.2.2.2.2.maxLocals := by rw [hml]; exact Nat.le_of_ble_eq_true rfl
  have hi7 : 7 < X.2.2.2.2.2.2.2.2.maxLocals := by rw [hml]; exact Nat.le_of_ble_eq_true rfl
  have hi8 : 8 < X.2.2.2.2.2.2.2.2.maxLocals := by rw [hml]; exact Nat.le_of_ble_eq_true rfl
  unfold K_21 at hf
  refine PW.aload_n cx qL_law_1244 rfl ?_
  refine PW.callVRI (As := []) (st := []) cx hR qL_law_1245 klL_236 mvX6_food (sh_0 hx) rfl rfl rfl rfl (Nat.le_of_ble_eq_true rfl) (Nat.le_of_ble_eq_true rfl) (Nat.le_of_ble_eq_true rfl) (by omega) (by omega) hf sne (fun t e => ctX6_food hx h t e) (fun t1 hf => ?_)
  refine PW.aload_n cx qL_law_1248 rfl ?_
  refine PW.callVWIc (As := []) (st := [.int t1]) cx hR qL_law_1249 klL_239 mvX7_food (sh_140 hm) rfl rfl rfl rfl (Nat.le_of_ble_eq_true rfl) (Nat.le_of_ble_eq_true rfl) (Nat.le_of_ble_eq_true rfl) (by omega) (by omega) hf sne (fun t e => ctX7_food hm h t e) (fun t2 h3 hf => ?_)
  refine PW.icmp_eq cx qL_law_1252 hf (fun hf => ?_) (fun hf => ?_)
  · cases hf
    exact PW.widen (by omega) (by omega) (PW.locs (Lsub.keep (Lsub.keep (Lsub.keep (Lsub.keep (Lsub.keep (Lsub.drop (Lsub.drop (Lsub.drop (Lsub.drop Lsub.nil))))))))) kk)
  · cases hf
