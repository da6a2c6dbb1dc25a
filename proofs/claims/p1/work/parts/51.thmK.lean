set_option maxRecDepth 20000 in
theorem ctK_42 {g : GT} {X : XT} {Q : State → Prop} {cells slots b N : Nat} {xs : Nat → Int32} {sh : List Shp} {i : Int32} {a1 : Int32} {a2 : Int32} (hx : XSh sh) (hm : MSh sh) (ho : sh[150]? = some (.inr (3, 1, []))) (cx : Cx g X RL code) (hR : RmG X.2.2.1 40 600002 7302232) (hml : X.2.2.2.2.2.2.2.2.maxLocals = 9) (hX : va_X b N xs X.2.2.2.1 X.2.2.2.1.heap) (hbB : b < X.2.2.2.1.heap.size ∧ b < gB g) (ha1 : vp_in (i + 1) N ∧ xs (i + 1).toNatClampNeg = a1) (ha2 : vp_in (i + 2) N ∧ xs (i + 2).toNatClampNeg = a2) (hc : cells + 4 ≤ 600002) (hs : slots + 24 ≤ 7302232) (h r : Hp) (hf : K_42 h a1 a2 = some r) (kk : PW g X false Q (cells + 4) (slots + 24) sh r 3252 [some (.ref b), some (.ref (gB g + 0)), some (.ref (gB g + 140)), some (.ref (gB g + 150)), some (.int i), none, none, none, none] []) : PW g X false Q cells slots sh h 2284 [some (.ref b), some (.ref (gB g + 0)), some (.ref (gB g + 140)), some (.ref (gB g + 150)), some (.int i), none, none, none, none] [] := by
  have hi5 : 5 < X.2.2.2.2.2.2.2.2.maxLocals := by rw [hml]; exact Nat.le_of_ble_eq_true rfl
  have hi6 : 6 < X.2.2.2.2.2.2.2.2.maxLocals := by rw [hml]; exact Nat.le_of_ble_eq_true rfl
  have hi7 : 7 < X.2.2.2.2.2.2.2.2.maxLocals := by rw [hml]; exact Nat.le_of_ble_eq_true rfl
  have hi8 : 8 < X.2.2.2.2.2.2.2.2.maxLocals := by rw [hml]; exact Nat.le_of_ble_eq_true rfl
  unfold K_42 at hf
  refine PW.aload_n cx qL_law_2284 rfl ?_
  refine PW.aload_n cx qL_law_2285 rfl ?_
  refine PW.iload cx qL_law_2286 rfl ?_
  refine PW.iconst (v := 1) cx qL_law_2288 rfl ?_
  refine PW.iadd cx qL_law_2289 ?_
  refine PW.sld cx qL_law_2290 hX hbB ha1 ?_
  refine PW.aload_n cx qL_law_2291 rfl ?_
  refine PW.iload cx qL_law_2292 rfl ?_
  refine PW.iconst (v := 2) cx qL_law_2294 rfl ?_
  refine PW.iadd cx qL_law_2295 ?_
  refine PW.sld cx qL_law_2296 hX hbB ha2 ?_
  refine PW.aload_n cx qL_law_2297 rfl ?_
  refine PW.callWI (As := [.ref (gB g + 0), .int a1, .int a2, .ref (gB g + 150)]) (st := []) cx hR qL_law_2298 kw303 mw_whyNoSleep rfl rfl (Nat.le_of_ble_eq_true rfl) (Nat.le_of_ble_eq_true rfl) (Nat.le_of_ble_eq_true rfl) (by omega) (by omega) hf sne (fun t e => ctL_whyNoSleep hx ho h a1 a2 t e) (fun t1 h2 hf => ?_)
  refine PW.istore (L' := [some (.ref b), some (.ref (gB g + 0)), some (.ref (gB g + 140)), some (.ref (gB g + 150)), some (.int i), some (.int t1), none, none, none]) cx qL_law_2301 hi5 rfl rfl ?_
  refine PW.aload_n cx qL_law_2303 rfl ?_
  refine PW.aload_n cx qL_law_2304 rfl ?_
  refine PW.iload cx qL_law_2305 rfl ?_
  refine PW.iconst (v := 1) cx qL_law_2307 rfl ?_
  refine PW.iadd cx qL_law_2308 ?_
  refine PW.sld cx qL_law_2309 hX hbB ha1 ?_
  refine PW.aload_n cx qL_law_2310 rfl ?_
  refine PW.iload cx qL_law_2311 rfl ?_
  refine PW.iconst (v := 2) cx qL_law_2313 rfl ?_
  refine PW.iadd cx qL_law_2314 ?_
  refine PW.sld cx qL_law_2315 hX hbB ha2 ?_
  refine PW.callVWIc (As := [.int a1, .int a2]) (st := []) cx hR qL_law_2316 klL_305 mvX7_whyNoSleep (sh_140 hm) rfl rfl rfl rfl (Nat.le_of_ble_eq_true rfl) (Nat.le_of_ble_eq_true rfl) (Nat.le_of_ble_eq_true rfl) (by omega) (by omega) hf sne (fun t e => ctX7_whyNoSleep hm h2 a1 a2 t e) (fun t3 h4 hf => ?_)
  refine PW.istore (L' := [some (.ref b), some (.ref (gB g + 0)), some (.ref (gB g + 140)), some (.ref (gB g + 150)), some (.int i), some (.int t1), some (.int t3), none, none]) cx qL_law_2319 hi6 rfl rfl ?_
  refine PW.aload_n cx qL_law_2321 rfl ?_
  refine PW.callVRI (As := []) (st := []) cx hR qL_law_2322 klL_166 mvX7_thrown (sh_140 hm) rfl rfl rfl rfl (Nat.le_of_ble_eq_true rfl) (Nat.le_of_ble_eq_true rfl) (Nat.le_of_ble_eq_true rfl) (by omega) (by omega) hf sne (fun t e => ctX7_thrown hm h4 t e) (fun t5 hf => ?_)
  refine PW.iload cx qL_law_2325 rfl ?_
  refine PW.icmp_eq cx qL_law_2327 hf (fun hf => ?_) (fun hf => ?_)
  · refine PW.iload cx qL_law_2332 rfl ?_
    refine PW.if_ne cx qL_law_2334 hf (fun hf => ?_) (fun hf => ?_)
    · refine PW.aload_n cx qL_law_2337 rfl ?_
      refine PW.iconst (v := 0) cx qL_law_2338 rfl ?_
      refine PW.lald1 cx qL_law_2339 ho ?_
      refine PW.iload cx qL_law_2340 rfl ?_
      refine PW.i2l cx qL_law_2342 ?_
      refine PW.lcmp cx qL_law_2343 ?_
      refine PW.if_eq cx qL_law_2344 hf (fun hf => ?_) (fun hf => ?_)
      · refine PW.goto cx qL_law_2349 ?_
        cases hf
        exact PW.widen (by omega) (by omega) (PW.locs (Lsub.keep (Lsub.keep (Lsub.keep (Lsub.keep (Lsub.keep (Lsub.drop (Lsub.drop (Lsub.drop (Lsub.drop Lsub.nil))))))))) kk)
      · cases hf
    · refine PW.goto cx qL_law_2349 ?_
      cases hf
      exact PW.widen (by omega) (by omega) (PW.locs (Lsub.keep (Lsub.keep (Lsub.keep (Lsub.keep (Lsub.keep (Lsub.drop (Lsub.drop (Lsub.drop (Lsub.drop Lsub.nil))))))))) kk)
  · cases hf
set_option maxRecDepth 20000 in
theorem ctK_43 {g : GT} {X : XT} {Q : State → Prop} {cells slots b N : Nat} {xs : Nat → Int32} {sh : List Shp} {i : Int32} {a1 : Int32} {a2 : Int32} (hx : XSh sh) (hm : MSh sh) (ho : sh[150]? = some (.inr (3, 1, []))) (cx : Cx g X RL code) (hR : RmG X.2.2.1 40 600002 7302232) (hml : X.2.2.2.2.2.2.2.2.maxLocals = 9) (hX : va_X b N xs X.2.2.2.1 X.2.2.2.1.heap) (hbB : b < X.2.2.2.1.heap.size ∧ b < gB g) (ha1 : vp_in (i + 1) N ∧ xs (i + 1).toNatClampNeg = a1) (ha2 : vp_in (i + 2) N ∧ xs (i + 2).toNatClampNeg = a2) (hc : cells + 4 ≤ 600002) (hs : slots + 24 ≤ 7302232) (h r : Hp) (hf : K_43 h a1 a2 = some r) (kk : PW g X false Q (cells + 4) (slots + 24) sh r 3252 [some (.ref b), some (.ref (gB g + 0)), some (.ref (gB g + 140)), some (.ref (gB g + 150)), some (.int i), none, none, none, none] []) : PW g X false Q cells slots sh h 2352 [some (.ref b), some (.ref (gB g + 0)), some (.ref (gB g + 140)), some (.ref (gB g + 150)), some (.int i), none, none, none, none] [] := by
  have hi5 : 5 < X.2.2.2.2.2.2.2.2.maxLocals := by rw [hml]; exact Nat.le_of_ble_eq_true rfl
  have hi6 : 6 < X.2.2.2.2.2.2.2.2.maxLocals := by rw [hml]; exact Nat.le_of_ble_eq_true rfl
  have hi7 : 7 < X.2.2.2.2.2.2.2.2.maxLocals := by rw [hml]; exact Nat.le_of_ble_eq_true rfl
  have hi8 : 8 < X.2.2.2.2.2.2.2.2.maxLocals := by rw [hml]; exact Nat.le_of_ble_eq_true rfl
  unfold K_43 at hf
  refine PW.aload_n cx qL_law_2352 rfl ?_
  refine PW.aload_n cx qL_law_2353 rfl ?_
  refine PW.iload cx qL_law_2354 rfl ?_
  refine PW.iconst (v := 1) cx qL_law_2356 rfl ?_
  refine PW.iadd cx qL_law_2357 ?_
  refine PW.sld cx qL_law_2358 hX hbB ha1 ?_
  refine PW.aload_n cx qL_law_2359 rfl ?_
  refine PW.iload cx qL_law_2360 rfl ?_
  refine PW.iconst (v := 2) cx qL_law_2362 rfl ?_
  refine PW.iadd cx qL_law_2363 ?_
  refine PW.sld cx qL_law_2364 hX hbB ha2 ?_
  refine PW.aload_n cx qL_law_2365 rfl ?_
  refine PW.callWI (As := [.ref (gB g + 0), .int a1, .int a2, .ref (gB g + 150)]) (st := []) cx hR qL_law_2366 kw306 mw_bedFor rfl rfl (Nat.le_of_ble_eq_true rfl) (Nat.le_of_ble_eq_true rfl) (Nat.le_of_ble_eq_true rfl) (by omega) (by omega) hf sne (fun t e => ctL_bedFor hx ho h a1 a2 t e) (fun t1 h2 hf => ?_)
  refine PW.istore (L' := [some (.ref b), some (.ref (gB g + 0)), some (.ref (gB g + 140)), some (.ref (gB g + 150)), some (.int i), some (.int t1), none, none, none]) cx qL_law_2369 hi5 rfl rfl ?_
  refine PW.aload_n cx qL_law_2371 rfl ?_
  refine PW.aload_n cx qL_law_2372 rfl ?_
  refine PW.iload cx qL_law_2373 rfl ?_
  refine PW.iconst (v := 1) cx qL_law_2375 rfl ?_
  refine PW.iadd cx qL_law_2376 ?_
  refine PW.sld cx qL_law_2377 hX hbB ha1 ?_
  refine PW.aload_n cx qL_law_2378 rfl ?_
  refine PW.iload cx qL_law_2379 rfl ?_
  refine PW.iconst (v := 2) cx qL_law_2381 rfl ?_
  refine PW.iadd cx qL_law_2382 ?_
  refine PW.sld cx qL_law_2383 hX hbB ha2 ?_
  refine PW.callVWIc (As := [.int a1, .int a2]) (st := []) cx hR qL_law_2384 klL_308 mvX7_bedFor (sh_140 hm) rfl rfl rfl rfl (Nat.le_of_ble_eq_true rfl) (Nat.le_of_ble_eq_true rfl) (Nat.le_of_ble_eq_true rfl) (by omega) (by omega) hf sne (fun t e => ctX7_bedFor hm h2 a1 a2 t e) (fun t3 h4 hf => ?_)
  refine PW.istore (L' := [some (.ref b), some (.ref (gB g + 0)), some (.ref (gB g + 140)), some (.ref (gB g + 150)), some (.int i), some (.int t1), some (.int t3), none, none]) cx qL_law_2387 hi6 rfl rfl ?_
  refine PW.aload_n cx qL_law_2389 rfl ?_
  refine PW.callVRI (As := []) (st := []) cx hR qL_law_2390 klL_166 mvX7_thrown (sh_140 hm) rfl rfl rfl rfl (Nat.le_of_ble_eq_true rfl) (Nat.le_of_ble_eq_true rfl) (Nat.le_of_ble_eq_true rfl) (by omega) (by omega) hf sne (fun t e => ctX7_thrown hm h4 t e) (fun t5 hf => ?_)
  refine PW.iload cx qL_law_2393 rfl ?_
  refine PW.icmp_eq cx qL_law_2395 hf (fun hf => ?_) (fun hf => ?_)
  · refine PW.iload cx qL_law_2400 rfl ?_
    refine PW.if_ne cx qL_law_2402 hf (fun hf => ?_) (fun hf => ?_)
    · refine PW.aload_n cx qL_law_2405 rfl ?_
      refine PW.iconst (v := 0) cx qL_law_2406 rfl ?_
      refine PW.lald1 cx qL_law_2407 ho ?_
      refine PW.iload cx qL_law_2408 rfl ?_
      refine PW.i2l cx qL_law_2410 ?_
      refine PW.lcmp cx qL_law_2411 ?_
      refine PW.if_eq cx qL_law_2412 hf (fun hf => ?_) (fun hf => ?_)
      · refine PW.goto cx qL_law_2417 ?_
        cases hf
        exact PW.widen (by omega) (by omega) (PW.locs (Lsub.keep (Lsub.keep (Lsub.keep (Lsub.keep (Lsub.keep (Lsub.drop (Lsub.drop (Lsub.drop (Lsub.drop Lsub.nil))))))))) kk)
      · cases hf
    · refine PW.goto cx qL_law_2417 ?_
      cases hf
      exact PW.widen (by omega) (by omega) (PW.locs (Lsub.keep (Lsub.keep (Lsub.keep (Lsub.keep (Lsub.keep (Lsub.drop (Lsub.drop (Lsub.drop (Lsub.drop Lsub.nil))))))))) kk)
  · cases hf
set_option maxRecDepth 20000 in
theorem ctK_44 {g : GT} {X : XT} {Q : State → Prop} {cells slots b N : Nat} {xs : Nat → Int32} {sh : List Shp} {i : Int32} {a1 : Int32} {a2 : Int32} (hx : XSh sh) (hm : MSh sh) (ho : sh[150]? = some (.inr (3, 1, []))) (cx : Cx g X RL code) (hR : RmG X.2.2.1 40 600002 7302232) (hml : X.2.2.2.2.2.2.2.2.maxLocals = 9) (hX : va_X b N xs X.2.2.2.1 X.2.2.2.1.heap) (hbB : b < X.2.2.2.1.heap.size ∧ b < gB g) (ha1 : vp_in (i + 1) N ∧ xs (i + 1).toNatClampNeg = a1) (ha2 : vp_in (i + 2) N ∧ xs (i + 2).toNatClampNeg = a2) (hc : cells + 4 ≤ 600002) (hs : slots + 24 ≤ 7302232) (h r : Hp) (hf : K_44 h a1 a2 = some r) (kk : PW g X false Q (cells + 4) (slots + 24) sh r 3252 [some (.ref b), some (.ref (gB g + 0)), some (.ref (gB g + 140)), some (.ref (gB g + 150)), some (.int i), none, none, none, none] []) : PW g X false Q cells slots sh h 2420 [some (.ref b), some (.ref (gB g + 0)), some (.ref (gB g + 140)), some (.ref (gB g + 150)), some (.int i), none, none, none, none] [] := by
  have hi5 : 5 < X.2.2.2.2.2.2.2.2.maxLocals := by rw [hml]; exact Nat.le_of_ble_eq_true rfl
  have hi6 : 6 < X.2.2.2.2.2.2.2.2.maxLocals := by rw [hml]; exact Nat.le_of_ble_eq_true rfl
  have hi7 : 7 < X.2.2.2.2.2.2.2.2.maxLocals := by rw [hml]; exact Nat.le_of_ble_eq_true rfl
  have hi8 : 8 < X.2.2.2.2.2.2.2.2.maxLocals := by rw [hml]; exact Nat.le_of_ble_eq_true rfl
  unfold K_44 at hf
  refine PW.aload_n cx qL_law_2420 rfl ?_
  refine PW.aload_n cx qL_law_2421 rfl ?_
  refine PW.iload cx qL_law_2422 rfl ?_
  refine PW.iconst (v := 1) cx qL_law_2424 rfl ?_
  refine PW.iadd cx qL_law_2425 ?_
  refine PW.sld cx qL_law_2426 hX hbB ha1 ?_
  refine PW.aload_n cx qL_law_2427 rfl ?_
  refine PW.iload cx qL_law_2428 rfl ?_
  refine PW.iconst (v := 2) cx qL_law_2430 rfl ?_
  refine PW.iadd cx qL_law_2431 ?_
  refine PW.sld cx qL_law_2432 hX hbB ha2 ?_
  refine PW.aload_n cx qL_law_2433 rfl ?_
  refine PW.callWI (As := [.ref (gB g + 0), .int a1, .int a2, .ref (gB g + 150)]) (st := []) cx hR qL_law_2434 kw309 mw_looksFor rfl rfl (Nat.le_of_ble_eq_true rfl) (Nat.le_of_ble_eq_true rfl) (Nat.le_of_ble_eq_true rfl) (by omega) (by omega) hf sne (fun t e => ctL_looksFor hx ho h a1 a2 t e) (fun t1 h2 hf => ?_)
  refine PW.istore (L' := [some (.ref b), some (.ref (gB g + 0)), some (.ref (gB g + 140)), some (.ref (gB g + 150)), some (.int i), some (.int t1), none, none, none]) cx qL_law_2437 hi5 rfl rfl ?_
  refine PW.aload_n cx qL_law_2439 rfl ?_
  refine PW.aload_n cx qL_law_2440 rfl ?_
  refine PW.iload cx qL_law_2441 rfl ?_
  refine PW.iconst (v := 1) cx qL_law_2443 rfl ?_
  refine PW.iadd cx qL_law_2444 ?_
  refine PW.sld cx qL_law_2445 hX hbB ha1 ?_
  refine PW.aload_n cx qL_law_2446 rfl ?_
  refine PW.iload cx qL_law_2447 rfl ?_
  refine PW.iconst (v := 2) cx qL_law_2449 rfl ?_
  refine PW.iadd cx qL_law_2450 ?_
  refine PW.sld cx qL_law_2451 hX hbB ha2 ?_
  refine PW.callVWIc (As := [.int a1, .int a2]) (st := []) cx hR qL_law_2452 klL_311 mvX7_looksFor (sh_140 hm) rfl rfl rfl rfl (Nat.le_of_ble_eq_true rfl) (Nat.le_of_ble_eq_true rfl) (Nat.le_of_ble_eq_true rfl) (by omega) (by omega) hf sne (fun t e => ctX7_looksFor hm h2 a1 a2 t e) (fun t3 h4 hf => ?_)
  refine PW.istore (L' := [some (.ref b), some (.ref (gB g + 0)), some (.ref (gB g + 140)), some (.ref (gB g + 150)), some (.int i), some (.int t1), some (.int t3), none, none]) cx qL_law_2455 hi6 rfl rfl ?_
  refine PW.aload_n cx qL_law_2457 rfl ?_
  refine PW.callVRI (As := []) (st := []) cx hR qL_law_2458 klL_166 mvX7_thrown (sh_140 hm) rfl rfl rfl rfl (Nat.le_of_ble_eq_true rfl) (Nat.le_of_ble_eq_true rfl) (Nat.le_of_ble_eq_true rfl) (by omega) (by omega) hf sne (fun t e => ctX7_thrown hm h4 t e) (fun t5 hf => ?_)
  refine PW.iload cx qL_law_2461 rfl ?_
  refine PW.icmp_eq cx qL_law_2463 hf (fun hf => ?_) (fun hf => ?_)
  · refine PW.iload cx qL_law_2468 rfl ?_
    refine PW.if_ne cx qL_law_2470 hf (fun hf => ?_) (fun hf => ?_)
    · refine PW.aload_n cx qL_law_2473 rfl ?_
      refine PW.iconst (v := 0) cx qL_law_2474 rfl ?_
      refine PW.lald1 cx qL_law_2475 ho ?_
      refine PW.iload cx qL_law_2476 rfl ?_
      refine PW.i2l cx qL_law_2478 ?_
      refine PW.lcmp cx qL_law_2479 ?_
      refine PW.if_eq cx qL_law_2480 hf (fun hf => ?_) (fun hf => ?_)
      · refine PW.goto cx qL_law_2485 ?_
        cases hf
        exact PW.widen (by omega) (by omega) (PW.locs (Lsub.keep (Lsub.keep (Lsub.keep (Lsub.keep (Lsub.keep (Lsub.drop (Lsub.drop (Lsub.drop (Lsub.drop Lsub.nil))))))))) kk)
      · cases hf
    · refine PW.goto cx qL_law_2485 ?_
      cases hf
      exact PW.widen (by omega) (by omega) (PW.locs (Lsub.keep (Lsub.keep (Lsub.keep (Lsub.keep (Lsub.keep (Lsub.drop (Lsub.drop (Lsub.drop (Lsub.drop Lsub.nil))))))))) kk)
  · cases hf
set_option maxRecDepth 20000 in
theorem ctK_45 {g : GT} {X : XT} {Q : State → Prop} {cells slots b N : Nat} {xs : Nat → Int32} {sh : List Shp} {i : Int32} {a1 : Int32} (hx : XSh sh) (hm : MSh sh) (ho : sh[150]? = some (.inr (3, 1, []))) (cx : Cx g X RL code) (hR : RmG X.2.2.1 40 600002 7302232) (hml : X.2.2.2.2.2.2.2.2.maxLocals = 9) (hX : va_X b N xs X.2.2.2.1 X.2.2.2.1.heap) (hbB : b < X.2.2.2.1.heap.size ∧ b < gB g) (ha1 : vp_in (i + 1) N ∧ xs (i + 1).toNatClampNeg = a1) (hc : cells + 4 ≤ 600002) (hs : slots + 24 ≤ 7302232) (h r : Hp) (hf : K_45 h a1 = some r) (kk : PW g X false Q (cells + 4) (slots + 24) sh r 3252 [some (.ref b), some (.ref (gB g + 0)), some (.ref (gB g + 140)), some (.ref (gB g + 150)), some (.int i), none, none, none, none] []) : PW g X false Q cells slots sh h 2488 [some (.ref b), some (.ref (gB g + 0)), some (.ref (gB g + 140)), some (.ref (gB g + 150)), some (.int i), none, none, none, none] [] := by
  have hi5 : 5 < X.2.2.2.2.2.2.2.2.maxLocals := by rw [hml]; exact Nat.le_of_ble_eq_true rfl
  have hi6 : 6 < X.2.2.2.2.2.2.2.2.maxLocals := by rw [hml]; exact Nat.le_of_ble_eq_true rfl
  have hi7 : 7 < X.2.2.2.2.2.2.2.2.maxLocals := by rw [hml]; exact Nat.le_of_ble_eq_true rfl
  have hi8 : 8 < X.2.2.2.2.2.2.2.2.maxLocals := by rw [hml]; exact Nat.le_of_ble_eq_true rfl
  unfold K_45 at hf
  refine PW.aload_n cx qL_law_2488 rfl ?_
  refine PW.aload_n cx qL_law_2489 rfl ?_
  refine PW.iload cx qL_law_2490 rfl ?_
  refine PW.iconst (v := 1) cx qL_law_2492 rfl ?_
  refine PW.iadd cx qL_law_2493 ?_
  refine PW.sld cx qL_law_2494 hX hbB ha1 ?_
  refine PW.aload_n cx qL_law_2495 rfl ?_
  refine PW.callWI (As := [.ref (gB g + 0), .int a1, .ref (gB g + 150)]) (st := []) cx hR qL_law_2496 kw312 mw_longestLook rfl rfl (Nat.le_of_ble_eq_true rfl) (Nat.le_of_ble_eq_true rfl) (Nat.le_of_ble_eq_true rfl) (by omega) (by omega) hf sne (fun t e => ctL_longestLook hx ho h a1 t e) (fun t1 h2 hf => ?_)
  refine PW.istore (L' := [some (.ref b), some (.ref (gB g + 0)), some (.ref (gB g + 140)), some (.ref (gB g + 150)), some (.int i), some (.int t1), none, none, none]) cx qL_law_2499 hi5 rfl rfl ?_
  refine PW.aload_n cx qL_law_2501 rfl ?_
  refine PW.aload_n cx qL_law_2502 rfl ?_
  refine PW.iload cx qL_law_2503 rfl ?_
  refine PW.iconst (v := 1) cx qL_law_2505 rfl ?_
  refine PW.iadd cx qL_law_2506 ?_
  refine PW.sld cx qL_law_2507 hX hbB ha1 ?_
  refine PW.callVWIc (As := [.int a1]) (st := []) cx hR qL_law_2508 klL_314 mvX7_longestLook (sh_140 hm) rfl rfl rfl rfl (Nat.le_of_ble_eq_true rfl) (Nat.le_of_ble_eq_true rfl) (Nat.le_of_ble_eq_true rfl) (by omega) (by omega) hf sne (fun t e => ctX7_longestLook hm h2 a1 t e) (fun t3 h4 hf => ?_)
  refine PW.istore (L' := [some (.ref b), some (.ref (gB g + 0)), some (.ref (gB g + 140)), some (.ref (gB g + 150)), some (.int i), some (.int t1), some (.int t3), none, none]) cx qL_law_2511 hi6 rfl rfl ?_
  refine PW.aload_n cx qL_law_2513 rfl ?_
  refine PW.callVRI (As := []) (st := []) cx hR qL_law_2514 klL_166 mvX7_thrown (sh_140 hm) rfl rfl rfl rfl (Nat.le_of_ble_eq_true rfl) (Nat.le_of_ble_eq_true rfl) (Nat.le_of_ble_eq_true rfl) (by omega) (by omega) hf sne (fun t e => ctX7_thrown hm h4 t e) (fun t5 hf => ?_)
  refine PW.iload cx qL_law_2517 rfl ?_
  refine PW.icmp_eq cx qL_law_2519 hf (fun hf => ?_) (fun hf => ?_)
  · refine PW.iload cx qL_law_2524 rfl ?_
    refine PW.if_ne cx qL_law_2526 hf (fun hf => ?_) (fun hf => ?_)
    · refine PW.aload_n cx qL_law_2529 rfl ?_
      refine PW.iconst (v := 0) cx qL_law_2530 rfl ?_
      refine PW.lald1 cx qL_law_2531 ho ?_
      refine PW.iload cx qL_law_2532 rfl ?_
      refine PW.i2l cx qL_law_2534 ?_
      refine PW.lcmp cx qL_law_2535 ?_
      refine PW.if_eq cx qL_law_2536 hf (fun hf => ?_) (fun hf => ?_)
      · refine PW.goto cx qL_law_2541 ?_
        cases hf
        exact PW.widen (by omega) (by omega) (PW.locs (Lsub.keep (Lsub.keep (Lsub.keep (Lsub.keep (Lsub.keep (Lsub.drop (Lsub.drop (Lsub.drop (Lsub.drop Lsub.nil))))))))) kk)
      · cases hf
    · refine PW.goto cx qL_law_2541 ?_
      cases hf
      exact PW.widen (by omega) (by omega) (PW.locs (Lsub.keep (Lsub.keep (Lsub.keep (Lsub.keep (Lsub.keep (Lsub.drop (Lsub.drop (Lsub.drop (Lsub.drop Lsub.nil))))))))) kk)
  · cases hf
set_option maxRecDepth 20000 in
theorem ctK_46 {g : GT} {X : XT} {Q : State → Prop} {cells slots b N : Nat} {xs : Nat → Int32} {sh : List Shp} {i : Int32} {a1 : Int32} (hx : XSh sh) (hm : MSh sh) (ho : sh[150]? = some (.inr (3, 1, []))) (cx : Cx g X RL code) (hR : RmG X.2.2.1 40 600002 7302232) (hml : X.2.2.2.2.2.2.2.2.maxLocals = 9) (hX : va_X b N xs X.2.2.2.1 X.2.2.2.1.heap) (hbB : b < X.2.2.2.1.heap.size ∧ b < gB g) (ha1 : vp_in (i + 1) N ∧ xs (i + 1).toNatClampNeg = a1) (hc : cells + 4 ≤ 600002) (hs : slots + 24 ≤ 7302232) (h r : Hp) (hf : K_46 h a1 = some r) (kk : PW g X false Q (cells + 4) (slots + 24) sh r 3252 [some (.ref b), some (.ref (gB g + 0)), some (.ref (gB g + 140)), some (.ref (gB g + 150)), some (.int i), none, none, none, none] []) : PW g X false Q cells slots sh h 2544 [some (.ref b), some (.ref (gB g + 0)), some (.ref (gB g + 140)), some (.ref (gB g + 150)), some (.int i), none, none, none, none] [] := by
  have hi5 : 5 < X.2.2.2.2.2.2.2.2.maxLocals := by rw [hml]; exact Nat.le_of_ble_eq_true rfl
  have hi6 : 6 < X.2.2.2.2.2.2.2.2.maxLocals := by rw [hml]; exact Nat.le_of_ble_eq_true rfl
  have hi7 : 7 < X.2.2.2.2.2.2.2.2.maxLocals := by rw [hml]; exact Nat.le_of_ble_eq_true rfl
  have hi8 : 8 < X.2.2.2.2.2.2.2.2.maxLocals := by rw [hml]; exact Nat.le_of_ble_eq_true rfl
  unfold K_46 at hf
  refine PW.aload_n cx qL_law_2544 rfl ?_
  refine PW.aload_n cx qL_law_2545 rfl ?_
  refine PW.iload cx qL_law_2546 rfl ?_
  refine PW.iconst (v := 1) cx qL_law_2548 rfl ?_
  refine PW.iadd cx qL_law_2549 ?_
  refine PW.sld cx qL_law_2550 hX hbB ha1 ?_
  refine PW.aload_n cx qL_law_2551 rfl ?_
  refine PW.callWI (As := [.ref (gB g + 0), .int a1, .ref (gB g + 150)]) (st := []) cx hR qL_law_2552 kw315 mw_looksIfAired rfl rfl (Nat.le_of_ble_eq_true rfl) (Nat.le_of_ble_eq_true rfl) (Nat.le_of_ble_eq_true rfl) (by omega) (by omega) hf sne (fun t e => ctL_looksIfAired hx ho h a1 t e) (fun t1 h2 hf => ?_)
  refine PW.istore (L' := [some (.ref b), some (.ref (gB g + 0)), some (.ref (gB g + 140)), some (.ref (gB g + 150)), some (.int i), some (.int t1), none, none, none]) cx qL_law_2555 hi5 rfl rfl ?_
  refine PW.aload_n cx qL_law_2557 rfl ?_
  refine PW.aload_n cx qL_law_2558 rfl ?_
  refine PW.iload cx qL_law_2559 rfl ?_
  refine PW.iconst (v := 1) cx qL_law_2561 rfl ?_
  refine PW.iadd cx qL_law_2562 ?_
  refine PW.sld cx qL_law_2563 hX hbB ha1 ?_
  refine PW.callVWIc (As := [.int a1]) (st := []) cx hR qL_law_2564 klL_317 mvX7_looksIfAired (sh_140 hm) rfl rfl rfl rfl (Nat.le_of_ble_eq_true rfl) (Nat.le_of_ble_eq_true rfl) (Nat.le_of_ble_eq_true rfl) (by omega) (by omega) hf sne (fun t e => ctX7_looksIfAired hm h2 a1 t e) (fun t3 h4 hf => ?_)
  refine PW.istore (L' := [some (.ref b), some (.ref (gB g + 0)), some (.ref (gB g + 140)), some (.ref (gB g + 150)), some (.int i), some (.int t1), some (.int t3), none, none]) cx qL_law_2567 hi6 rfl rfl ?_
  refine PW.aload_n cx qL_law_2569 rfl ?_
  refine PW.callVRI (As := []) (st := []) cx hR qL_law_2570 klL_166 mvX7_thrown (sh_140 hm) rfl rfl rfl rfl (Nat.le_of_ble_eq_true rfl) (Nat.le_of_ble_eq_true rfl) (Nat.le_of_ble_eq_true rfl) (by omega) (by omega) hf sne (fun t e => ctX7_thrown hm h4 t e) (fun t5 hf => ?_)
  refine PW.iload cx qL_law_2573 rfl ?_
  refine PW.icmp_eq cx qL_law_2575 hf (fun hf => ?_) (fun hf => ?_)
  · refine PW.iload cx qL_law_2580 rfl ?_
    refine PW.if_ne cx qL_law_2582 hf (fun hf => ?_) (fun hf => ?_)
    · refine PW.aload_n cx qL_law_2585 rfl ?_
      refine PW.iconst (v := 0) cx qL_law_2586 rfl ?_
      refine PW.lald1 cx qL_law_2587 ho ?_
      refine PW.iload cx qL_law_2588 rfl ?_
      refine PW.i2l cx qL_law_2590 ?_
      refine PW.lcmp cx qL_law_2591 ?_
      refine PW.if_eq cx qL_law_2592 hf (fun hf => ?_) (fun hf => ?_)
      · refine PW.goto cx qL_law_2597 ?_
        cases hf
        exact PW.widen (by omega) (by omega) (PW.locs (Lsub.keep (Lsub.keep (Lsub.keep (Lsub.keep (Lsub.keep (Lsub.drop (Lsub.drop (Lsub.drop (Lsub.drop Lsub.nil))))))))) kk)
      · cases hf
    · refine PW.goto cx qL_law_2597 ?_
      cases hf
      exact PW.widen (by omega) (by omega) (PW.locs (Lsub.keep (Lsub.keep (Lsub.keep (Lsub.keep (Lsub.keep (Lsub.drop (Lsub.drop (Lsub.drop (Lsub.drop Lsub.nil))))))))) kk)
  · cases hf
set_option maxRecDepth 20000 in
theorem ctK_47 {g : GT} {X : XT} {Q : State → Prop} {cells slots b N : Nat} {xs : Nat → Int32} {sh : List Shp} {i : Int32} {a1 : Int32} (hx : XSh sh) (hm : MSh sh) (ho : sh[150]? = some (.inr (3, 1, []))) (cx : Cx g X RL code) (hR : RmG X.2.2.1 40 600002 7302232) (hml : X.2.2.2.2.2.2.2.2.maxLocals = 9) (hX : va_X b N xs X.2.2.2.1 X.2.2.2.1.heap) (hbB : b < X.2.2.2.1.heap.size ∧ b < gB g) (ha1 : vp_in (i + 1) N ∧ xs (i + 1).toNatClampNeg = a1) (hc : cells + 4 ≤ 600002) (hs : slots + 24 ≤ 7302232) (h r : Hp) (hf : K_47 h a1 = some r) (kk : PW g X false Q (cells + 4) (slots + 24) sh r 3252 [some (.ref b), some (.ref (gB g + 0)), some (.ref (gB g + 140)), some (.ref (gB g + 150)), some (.int i), none, none, none, none] []) : PW g X false Q cells slots sh h 2600 [some (.ref b), some (.ref (gB g + 0)), some (.ref (gB g + 140)), some (.ref (gB g + 150)), some (.int i), none, none, none, none] [] := by
  have hi5 : 5 < X.2.2.2.2.2.2.2.2.maxLocals := by rw [hml]; exact Nat.le_of_ble_eq_true rfl
  have hi6 : 6 < X.2.2.2.2.2.2.2.2.maxLocals := by rw [hml]; exact Nat.le_of_ble_eq_true rfl
  have hi7 : 7 < X.2.2.2.2.2.2.2.2.maxLocals := by rw [hml]; exact Nat.le_of_ble_eq_true rfl
  have hi8 : 8 < X.2.2.2.2.2.2.2.2.maxLocals := by rw [hml]; exact Nat.le_of_ble_eq_true rfl
  unfold K_47 at hf
  refine PW.aload_n cx qL_law_2600 rfl ?_
  refine PW.aload_n cx qL_law_2601 rfl ?_
  refine PW.iload cx qL_law_2602 rfl ?_
  refine PW.iconst (v := 1) cx qL_law_2604 rfl ?_
  refine PW.iadd cx qL_law_2605 ?_
  refine PW.sld cx qL_law_2606 hX hbB ha1 ?_
  refine PW.aload_n cx qL_law_2607 rfl ?_
  refine PW.callWI (As := [.ref (gB g + 0), .int a1, .ref (gB g + 150)]) (st := []) cx hR qL_law_2608 kw318 mw_longestCluster rfl rfl (Nat.le_of_ble_eq_true rfl) (Nat.le_of_ble_eq_true rfl) (Nat.le_of_ble_eq_true rfl) (by omega) (by omega) hf sne (fun t e => ctL_longestCluster hx ho h a1 t e) (fun t1 h2 hf => ?_)
  refine PW.istore (L' := [some (.ref b), some (.ref (gB g + 0)), some (.ref (gB g + 140)), some (.ref (gB g + 150)), some (.int i), some (.int t1), none, none, none]) cx qL_law_2611 hi5 rfl rfl ?_
  refine PW.aload_n cx qL_law_2613 rfl ?_
  refine PW.aload_n cx qL_law_2614 rfl ?_
  refine PW.iload cx qL_law_2615 rfl ?_
  refine PW.iconst (v := 1) cx qL_law_2617 rfl ?_
  refine PW.iadd cx qL_law_2618 ?_
  refine PW.sld cx qL_law_2619 hX hbB ha1 ?_
  refine PW.callVWIc (As := [.int a1]) (st := []) cx hR qL_law_2620 klL_320 mvX7_longestCluster (sh_140 hm) rfl rfl rfl rfl (Nat.le_of_ble_eq_true rfl) (Nat.le_of_ble_eq_true rfl) (Nat.le_of_ble_eq_true rfl) (by omega) (by omega) hf sne (fun t e => ctX7_longestCluster hm h2 a1 t e) (fun t3 h4 hf => ?_)
  refine PW.istore (L' := [some (.ref b), some (.ref (gB g + 0)), some (.ref (gB g + 140)), some (.ref (gB g + 150)), some (.int i), some (.int t1), some (.int t3), none, none]) cx qL_law_2623 hi6 rfl rfl ?_
  refine PW.aload_n cx qL_law_2625 rfl ?_
  refine PW.callVRI (As := []) (st := []) cx hR qL_law_2626 klL_166 mvX7_thrown (sh_140 hm) rfl rfl rfl rfl (Nat.le_of_ble_eq_true rfl) (Nat.le_of_ble_eq_true rfl) (Nat.le_of_ble_eq_true rfl) (by omega) (by omega) hf sne (fun t e => ctX7_thrown hm h4 t e) (fun t5 hf => ?_)
  refine PW.iload cx qL_law_2629 rfl ?_
  refine PW.icmp_eq cx qL_law_2631 hf (fun hf => ?_) (fun hf => ?_)
  · refine PW.iload cx qL_law_2636 rfl ?_
    refine PW.if_ne cx qL_law_2638 hf (fun hf => ?_) (fun hf => ?_)
    · refine PW.aload_n cx qL_law_2641 rfl ?_
      refine PW.iconst (v := 0) cx qL_law_2642 rfl ?_
      refine PW.lald1 cx qL_law_2643 ho ?_
      refine PW.iload cx qL_law_2644 rfl ?_
      refine PW.i2l cx qL_law_2646 ?_
      refine PW.lcmp cx qL_law_2647 ?_
      refine PW.if_eq cx qL_law_2648 hf (fun hf => ?_) (fun hf => ?_)
      · refine PW.goto cx qL_law_2653 ?_
        cases hf
        exact PW.widen (by omega) (by omega) (PW.locs (Lsub.keep (Lsub.keep (Lsub.keep (Lsub.keep (Lsub.keep (Lsub.drop (Lsub.drop (Lsub.drop (Lsub.drop Lsub.nil))))))))) kk)
      · cases hf
    · refine PW.goto cx qL_law_2653 ?_
      cases hf
      exact PW.widen (by omega) (by omega) (PW.locs (Lsub.keep (Lsub.keep (Lsub.keep (Lsub.keep (Lsub.keep (Lsub.drop (Lsub.drop (Lsub.drop (Lsub.drop Lsub.nil))))))))) kk)
  · cases hf
set_option maxRecDepth 20000 in
theorem ctK_48 {g : GT} {X : XT} {Q : State → Prop} {cells slots b N : Nat} {xs : Nat → Int32} {sh : List Shp} {i : Int32} {a1 : Int32} (hx : XSh sh) (hm : MSh sh) (ho : sh[150]? = some (.inr (3, 1, []))) (cx : Cx g X RL code) (hR : RmG X.2.2.1 40 600002 7302232) (hml : X.2.2.2.2.2.2.2.2.maxLocals = 9) (hX : va_X b N xs X.2.2.2.1 X.2.2.2.1.heap) (hbB : b < X.2.2.2.1.heap.size ∧ b < gB g) (ha1 : vp_in (i + 1) N ∧ xs (i + 1).toNatClampNeg = a1) (hc : cells + 4 ≤ 600002) (hs : slots + 24 ≤ 7302232) (h r : Hp) (hf : K_48 h a1 = some r) (kk : PW g X false Q (cells + 4) (slots + 24) sh r 3252 [some (.ref b), some (.ref (gB g + 0)), some (.ref (gB g + 140)), some (.ref (gB g + 150)), some (.int i), none, none, none, none] []) : PW g X false Q cells slots sh h 2656 [some (.ref b), some (.ref (gB g + 0)), some (.ref (gB g + 140)), some (.ref (gB g + 150)), some (.int i), none, none, none, none] [] := by
  have hi5 : 5 < X.2.2.2.2.2.2.2.2.maxLocals := by rw [hml]; exact Nat.le_of_ble_eq_true rfl
  have hi6 : 6 < X.2.2.2.2.2.2.2.2.maxLocals := by rw [hml]; exact Nat.le_of_ble_eq_true rfl
  have hi7 : 7 < X.2.2.2.2.2.2.2.2.maxLocals := by rw [hml]; exact Nat.le_of_ble_eq_true rfl
  have hi8 : 8 < X.2.2.2.2.2.2.2.2.maxLocals := by rw [hml]; exact Nat.le_of_ble_eq_true rfl
  unfold K_48 at hf
  refine PW.aload_n cx qL_law_2656 rfl ?_
  refine PW.aload_n cx qL_law_2657 rfl ?_
  refine PW.iload cx qL_law_2658 rfl ?_
  refine PW.iconst (v := 1) cx qL_law_2660 rfl ?_
  refine PW.iadd cx qL_law_2661 ?_
  refine PW.sld cx qL_law_2662 hX hbB ha1 ?_
  refine PW.aload_n cx qL_law_2663 rfl ?_
  refine PW.callWI (As := [.ref (gB g + 0), .int a1, .ref (gB g + 150)]) (st := []) cx hR qL_law_2664 kw321 mw_bestReel rfl rfl (Nat.le_of_ble_eq_true rfl) (Nat.le_of_ble_eq_true rfl) (Nat.le_of_ble_eq_true rfl) (by omega) (by omega) hf sne (fun t e => ctL_bestReel hx ho h a1 t e) (fun t1 h2 hf => ?_)
  refine PW.istore (L' := [some (.ref b), some (.ref (gB g + 0)), some (.ref (gB g + 140)), some (.ref (gB g + 150)), some (.int i), some (.int t1), none, none, none]) cx qL_law_2667 hi5 rfl rfl ?_
  refine PW.aload_n cx qL_law_2669 rfl ?_
  refine PW.aload_n cx qL_law_2670 rfl ?_
  refine PW.iload cx qL_law_2671 rfl ?_
  refine PW.iconst (v := 1) cx qL_law_2673 rfl ?_
  refine PW.iadd cx qL_law_2674 ?_
  refine PW.sld cx qL_law_2675 hX hbB ha1 ?_
  refine PW.callVWIc (As := [.int a1]) (st := []) cx hR qL_law_2676 klL_323 mvX7_bestReel (sh_140 hm) rfl rfl rfl rfl (Nat.le_of_ble_eq_true rfl) (Nat.le_of_ble_eq_true rfl) (Nat.le_of_ble_eq_true rfl) (by omega) (by omega) hf sne (fun t e => ctX7_bestReel hm h2 a1 t e) (fun t3 h4 hf => ?_)
  refine PW.istore (L' := [some (.ref b), some (.ref (gB g + 0)), some (.ref (gB g + 140)), some (.ref (gB g + 150)), some (.int i), some (.int t1), some (.int t3), none, none]) cx qL_law_2679 hi6 rfl rfl ?_
  refine PW.aload_n cx qL_law_2681 rfl ?_
  refine PW.callVRI (As := []) (st := []) cx hR qL_law_2682 klL_166 mvX7_thrown (sh_140 hm) rfl rfl rfl rfl (Nat.le_of_ble_eq_true rfl) (Nat.le_of_ble_eq_true rfl) (Nat.le_of_ble_eq_true rfl) (by omega) (by omega) hf sne (fun t e => ctX7_thrown hm h4 t e) (fun t5 hf => ?_)
  refine PW.iload cx qL_law_2685 rfl ?_
  refine PW.icmp_eq cx qL_law_2687 hf (fun hf => ?_) (fun hf => ?_)
  · refine PW.iload cx qL_law_2692 rfl ?_
    refine PW.if_ne cx qL_law_2694 hf (fun hf => ?_) (fun hf => ?_)
    · refine PW.aload_n cx qL_law_2697 rfl ?_
      refine PW.iconst (v := 0) cx qL_law_2698 rfl ?_
      refine PW.lald1 cx qL_law_2699 ho ?_
      refine PW.iload cx qL_law_2700 rfl ?_
      refine PW.i2l cx qL_law_2702 ?_
      refine PW.lcmp cx qL_law_2703 ?_
      refine PW.if_eq cx qL_law_2704 hf (fun hf => ?_) (fun hf => ?_)
      · refine PW.goto cx qL_law_2709 ?_
        cases hf
        exact PW.widen (by omega) (by omega) (PW.locs (Lsub.keep (Lsub.keep (Lsub.keep (Lsub.keep (Lsub.keep (Lsub.drop (Lsub.drop (Lsub.drop (Lsub.drop Lsub.nil))))))))) kk)
      · cases hf
    · refine PW.goto cx qL_law_2709 ?_
      cases hf
      exact PW.widen (by omega) (by omega) (PW.locs (Lsub.keep (Lsub.keep (Lsub.keep (Lsub.keep (Lsub.keep (Lsub.drop (Lsub.drop (Lsub.drop (Lsub.drop Lsub.nil))))))))) kk)
  · cases hf
set_option maxRecDepth 20000 in
theorem ctK_49 {g : GT} {X : XT} {Q : State → Prop} {cells slots b N : Nat} {xs : Nat → Int32} {sh : List Shp} {i : Int32} {a1 : Int32} {a2 : Int32} (hx : XSh sh) (hm : MSh sh) (ho : sh[150]? = some (.inr (3, 1, []))) (cx : Cx g X RL code) (hR : RmG X.2.2.1 40 600002 7302232) (hml : X.2.2.2.2.2.2.2.2.maxLocals = 9) (hX : va_X b N xs X.2.2.2.1 X.2.2.2.1.heap) (hbB : b < X.2.2.2.1.heap.size ∧ b < gB g) (ha1 : vp_in (i + 1) N ∧ xs (i + 1).toNatClampNeg = a1) (ha2 : vp_in (i + 2) N ∧ xs (i + 2).toNatClampNeg = a2) (hc : cells + 4 ≤ 600002) (hs : slots + 24 ≤ 7302232) (h r : Hp) (hf : K_49 h a1 a2 = some r) (kk : PW g X false Q (cells + 4) (slots + 24) sh r 3252 [some (.ref b), some (.ref (gB g + 0)), some (.ref (gB g + 140)), some (.ref (gB g + 150)), some (.int i), none, none, none, none] []) : PW g X false Q cells slots sh h 2712 [some (.ref b), some (.ref (gB g + 0)), some (.ref (gB g + 140)), some (.ref (gB g + 150)), some (.int i), none, none, none, none] [] := by
  have hi5 : 5 < X.2.2.2.2.2.2.2.2.maxLocals := by rw [hml]; exact Nat.le_of_ble_eq_true rfl
  have hi6 : 6 < X.2.2.2.2.2.2.2.2.maxLocals := by rw [hml]; exact Nat.le_of_ble_eq_true rfl
  have hi7 : 7 < X.2.2.2.2.2.2.2.2.maxLocals := by rw [hml]; exact Nat.le_of_ble_eq_true rfl
  have hi8 : 8 < X.2.2.2.2.2.2.2.2.maxLocals := by rw [hml]; exact Nat.le_of_ble_eq_true rfl
  unfold K_49 at hf
  refine PW.aload_n cx qL_law_2712 rfl ?_
  refine PW.aload_n cx qL_law_2713 rfl ?_
  refine PW.iload cx qL_law_2714 rfl ?_
  refine PW.iconst (v := 1) cx qL_law_2716 rfl ?_
  refine PW.iadd cx qL_law_2717 ?_
  refine PW.sld cx qL_law_2718 hX hbB ha1 ?_
  refine PW.aload_n cx qL_law_2719 rfl ?_
  refine PW.iload cx qL_law_2720 rfl ?_
  refine PW.iconst (v := 2) cx qL_law_2722 rfl ?_
  refine PW.iadd cx qL_law_2723 ?_
  refine PW.sld cx qL_law_2724 hX hbB ha2 ?_
  refine PW.aload_n cx qL_law_2725 rfl ?_
  refine PW.callWI (As := [.ref (gB g + 0), .int a1, .int a2, .ref (gB g + 150)]) (st := []) cx hR qL_law_2726 kw324 mw_matches rfl rfl (Nat.le_of_ble_eq_true rfl) (Nat.le_of_ble_eq_true rfl) (Nat.le_of_ble_eq_true rfl) (by omega) (by omega) hf sne (fun t e => ctL_matches hx ho h a1 a2 t e) (fun t1 h2 hf => ?_)
  refine PW.istore (L' := [some (.ref b), some (.ref (gB g + 0)), some (.ref (gB g + 140)), some (.ref (gB g + 150)), some (.int i), some (.int t1), none, none, none]) cx qL_law_2729 hi5 rfl rfl ?_
  refine PW.aload_n cx qL_law_2731 rfl ?_
  refine PW.aload_n cx qL_law_2732 rfl ?_
  refine PW.iload cx qL_law_2733 rfl ?_
  refine PW.iconst (v := 1) cx qL_law_2735 rfl ?_
  refine PW.iadd cx qL_law_2736 ?_
  refine PW.sld cx qL_law_2737 hX hbB ha1 ?_
  refine PW.aload_n cx qL_law_2738 rfl ?_
  refine PW.iload cx qL_law_2739 rfl ?_
  refine PW.iconst (v := 2) cx qL_law_2741 rfl ?_
  refine PW.iadd cx qL_law_2742 ?_
  refine PW.sld cx qL_law_2743 hX hbB ha2 ?_
  refine PW.callVWBc (As := [.int a1, .int a2]) (st := []) cx hR qL_law_2744 klL_326 mvX7_matches (sh_140 hm) rfl rfl rfl rfl (Nat.le_of_ble_eq_true rfl) (Nat.le_of_ble_eq_true rfl) (Nat.le_of_ble_eq_true rfl) (by omega) (by omega) hf sne (fun t e => ctX7_matches hm h2 a1 a2 t e) (fun t3 h4 hf => ?_)
  refine PW.istore (L' := [some (.ref b), some (.ref (gB g + 0)), some (.ref (gB g + 140)), some (.ref (gB g + 150)), some (.int i), some (.int t1), some (.int (b2i t3)), none, none]) cx qL_law_2747 hi6 rfl rfl ?_
  refine PW.aload_n cx qL_law_2749 rfl ?_
  refine PW.callVRI (As := []) (st := []) cx hR qL_law_2750 klL_166 mvX7_thrown (sh_140 hm) rfl rfl rfl rfl (Nat.le_of_ble_eq_true rfl) (Nat.le_of_ble_eq_true rfl) (Nat.le_of_ble_eq_true rfl) (by omega) (by omega) hf sne (fun t e => ctX7_thrown hm h4 t e) (fun t5 hf => ?_)
  refine PW.iload cx qL_law_2753 rfl ?_
  refine PW.icmp_eq cx qL_law_2755 hf (fun hf => ?_) (fun hf => ?_)
  · refine PW.iload cx qL_law_2760 rfl ?_
    refine PW.if_ne cx qL_law_2762 hf (fun hf => ?_) (fun hf => ?_)
    · refine PW.aload_n cx qL_law_2765 rfl ?_
      refine PW.iconst (v := 0) cx qL_law_2766 rfl ?_
      refine PW.lald1 cx qL_law_2767 ho ?_
      refine PW.iload cx qL_law_2768 rfl ?_
      obtain ⟨j2778, ej2778, hf⟩ := lt_split hf
      have hj2778 : ∀ (z0_2778 : Int32), j2778 z0_2778 = some r → PW g X false Q (cells + 2) (slots + 12) sh h4 2778 [some (.ref b), some (.ref (gB g + 0)), some (.ref (gB g + 140)), some (.ref (gB g + 150)), some (.int i), none, none, none, none] [.long (z0_2778 : Int32).toInt64, .long ((rd h4 150 0) : Int32).toInt64] := by
        intro z0_2778 hf
        rw [ej2778] at hf
        refine PW.lcmp cx qL_law_2778 ?_
        refine PW.if_eq cx qL_law_2779 hf (fun hf => ?_) (fun hf => ?_)
        · refine PW.goto cx qL_law_2784 ?_
          cases hf
          exact PW.widen (by omega) (by omega) (PW.locs (Lsub.keep (Lsub.keep (Lsub.keep (Lsub.keep (Lsub.keep (Lsub.drop (Lsub.drop (Lsub.drop (Lsub.drop Lsub.nil))))))))) kk)
        · cases hf
      refine PW.if_eq cx qL_law_2770 hf (fun hf => ?_) (fun hf => ?_)
      · refine PW.lconst (v := (0 : Int32).toInt64) cx qL_law_2777 rfl ?_
        exact PW.locs (Lsub.keep (Lsub.keep (Lsub.keep (Lsub.keep (Lsub.keep (Lsub.drop (Lsub.drop (Lsub.drop (Lsub.drop Lsub.nil))))))))) (hj2778 0 hf)
      · refine PW.lconst (v := (1 : Int32).toInt64) cx qL_law_2773 rfl ?_
        refine PW.goto cx qL_law_2774 ?_
        exact PW.locs (Lsub.keep (Lsub.keep (Lsub.keep (Lsub.keep (Lsub.keep (Lsub.drop (Lsub.drop (Lsub.drop (Lsub.drop Lsub.nil))))))))) (hj2778 1 hf)
    · refine PW.goto cx qL_law_2784 ?_
      cases hf
      exact PW.widen (by omega) (by omega) (PW.locs (Lsub.keep (Lsub.keep (Lsub.keep (Lsub.keep (Lsub.keep (Lsub.drop (Lsub.drop (Lsub.drop (Lsub.drop Lsub.nil))))))))) kk)
  · cases hf
set_option maxRecDepth 20000 in
theorem ctK_50 {g : GT} {X : XT} {Q : State → Prop} {cells slots b N : Nat} {xs : Nat → Int32} {sh : List Shp} {i : Int32} {a1 : Int32} (hx : XSh sh) (hm : MSh sh) (ho : sh[150]? = some (.inr (3, 1, []))) (cx : Cx g X RL code) (hR : RmG X.2.2.1 40 600002 7302232) (hml : X.2.2.2.2.2.2.2.2.maxLocals = 9) (hX : va_X b N xs X.2.2.2.1 X.2.2.2.1.heap) (hbB : b < X.2.2.2.1.heap.size ∧ b < gB g) (ha1 : vp_in (i + 1) N ∧ xs (i + 1).toNatClampNeg = a1) (hc : cells + 4 ≤ 600002) (hs : slots + 24 ≤ 7302232) (h r : Hp) (hf : K_50 h a1 = some r) (kk : PW g X false Q (cells + 4) (slots + 24) sh r 3252 [some (.ref b), some (.ref (gB g + 0)), some (.ref (gB g + 140)), some (.ref (gB g + 150)), some (.int i), none, none, none, none] []) : PW g X false Q cells slots sh h 2787 [some (.ref b), some (.ref (gB g + 0)), some (.ref (gB g + 140)), some (.ref (gB g + 150)), some (.int i), none, none, none, none] [] := by
  have hi5 : 5 < X.2.2.2.2.2.2.2.2.maxLocals := by rw [hml]; exact Nat.le_of_ble_eq_true rfl
  have hi6 : 6 < X.2.2.2.2.2.2.2.2.maxLocals := by rw [hml]; exact Nat.le_of_ble_eq_true rfl
  have hi7 : 7 < X.2.2.2.2.2.2.2.2.maxLocals := by rw [hml]; exact Nat.le_of_ble_eq_true rfl
  have hi8 : 8 < X.2.2.2.2.2.2.2.2.maxLocals := by rw [hml]; exact Nat.le_of_ble_eq_true rfl
  unfold K_50 at hf
  refine PW.aload_n cx qL_law_2787 rfl ?_
  refine PW.aload_n cx qL_law_2788 rfl ?_
  refine PW.iload cx qL_law_2789 rfl ?_
  refine PW.iconst (v := 1) cx qL_law_2791 rfl ?_
  refine PW.iadd cx qL_law_2792 ?_
  refine PW.sld cx qL_law_2793 hX hbB ha1 ?_
  refine PW.aload_n cx qL_law_2794 rfl ?_
  refine PW.callWI (As := [.ref (gB g + 0), .int a1, .ref (gB g + 150)]) (st := []) cx hR qL_law_2795 kw327 mw_matchingSleepers rfl rfl (Nat.le_of_ble_eq_true rfl) (Nat.le_of_ble_eq_true rfl) (Nat.le_of_ble_eq_true rfl) (by omega) (by omega) hf sne (fun t e => ctL_matchingSleepers hx ho h a1 t e) (fun t1 h2 hf => ?_)
  refine PW.istore (L' := [some (.ref b), some (.ref (gB g + 0)), some (.ref (gB g + 140)), some (.ref (gB g + 150)), some (.int i), some (.int t1), none, none, none]) cx qL_law_2798 hi5 rfl rfl ?_
  refine PW.aload_n cx qL_law_2800 rfl ?_
  refine PW.aload_n cx qL_law_2801 rfl ?_
  refine PW.iload cx qL_law_2802 rfl ?_
  refine PW.iconst (v := 1) cx qL_law_2804 rfl ?_
  refine PW.iadd cx qL_law_2805 ?_
  refine PW.sld cx qL_law_2806 hX hbB ha1 ?_
  refine PW.callVWIc (As := [.int a1]) (st := []) cx hR qL_law_2807 klL_329 mvX7_matchingSleepers (sh_140 hm) rfl rfl rfl rfl (Nat.le_of_ble_eq_true rfl) (Nat.le_of_ble_eq_true rfl) (Nat.le_of_ble_eq_true rfl) (by omega) (by omega) hf sne (fun t e => ctX7_matchingSleepers hm h2 a1 t e) (fun t3 h4 hf => ?_)
  refine PW.istore (L' := [some (.ref b), some (.ref (gB g + 0)), some (.ref (gB g + 140)), some (.ref (gB g + 150)), some (.int i), some (.int t1), some (.int t3), none, none]) cx qL_law_2810 hi6 rfl rfl ?_
  refine PW.aload_n cx qL_law_2812 rfl ?_
  refine PW.callVRI (As := []) (st := []) cx hR qL_law_2813 klL_166 mvX7_thrown (sh_140 hm) rfl rfl rfl rfl (Nat.le_of_ble_eq_true rfl) (Nat.le_of_ble_eq_true rfl) (Nat.le_of_ble_eq_true rfl) (by omega) (by omega) hf sne (fun t e => ctX7_thrown hm h4 t e) (fun t5 hf => ?_)
  refine PW.iload cx qL_law_2816 rfl ?_
  refine PW.icmp_eq cx qL_law_2818 hf (fun hf => ?_) (fun hf => ?_)
  · refine PW.iload cx qL_law_2823 rfl ?_
    refine PW.if_ne cx qL_law_2825 hf (fun hf => ?_) (fun hf => ?_)
    · refine PW.aload_n cx qL_law_2828 rfl ?_
      refine PW.iconst (v := 0) cx qL_law_2829 rfl ?_
      refine PW.lald1 cx qL_law_2830 ho ?_
      refine PW.iload cx qL_law_2831 rfl ?_
      refine PW.i2l cx qL_law_2833 ?_
      refine PW.lcmp cx qL_law_2834 ?_
      refine PW.if_eq cx qL_law_2835 hf (fun hf => ?_) (fun hf => ?_)
      · refine PW.goto cx qL_law_2840 ?_
        cases hf
        exact PW.widen (by omega) (by omega) (PW.locs (Lsub.keep (Lsub.keep (Lsub.keep (Lsub.keep (Lsub.keep (Lsub.drop (Lsub.drop (Lsub.drop (Lsub.drop Lsub.nil))))))))) kk)
      · cases hf
    · refine PW.goto cx qL_law_2840 ?_
      cases hf
      exact PW.widen (by omega) (by omega) (PW.locs (Lsub.keep (Lsub.keep (Lsub.keep (Lsub.keep (Lsub.keep (Lsub.drop (Lsub.drop (Lsub.drop (Lsub.drop Lsub.nil))))))))) kk)
  · cases hf
set_option maxRecDepth 20000 in
theorem ctK_51 {g : GT} {X : XT} {Q : State → Prop} {cells slots b N : Nat} {xs : Nat → Int32} {sh : List Shp} {i : Int32} {a1 : Int32} {a2 : Int32} (hx : XSh sh) (hm : MSh sh) (ho : sh[150]? = some (.inr (3, 1, []))) (cx : Cx g X RL code) (hR : RmG X.2.2.1 40 600002 7302232) (hml : X.2.2.2.2.2.2.2.2.maxLocals = 9) (hX : va_X b N xs X.2.2.2.1 X.2.2.2.1.heap) (hbB : b < X.2.2.2.1.heap.size ∧ b < gB g) (ha1 : vp_in (i + 1) N ∧ xs (i + 1).toNatClampNeg = a1) (ha2 : vp_in (i + 2) N ∧ xs (i + 2).toNatClampNeg = a2) (hc : cells + 4 ≤ 600002) (hs : slots + 24 ≤ 7302232) (h r : Hp) (hf : K_51 h a1 a2 = some r) (kk : PW g X false Q (cells + 4) (slots + 24) sh r 3252 [some (.ref b), some (.ref (gB g + 0)), some (.ref (gB g + 140)), some (.ref (gB g + 150)), some (.int i), none, none, none, none] []) : PW g X false Q cells slots sh h 2843 [some (.ref b), some (.ref (gB g + 0)), some (.ref (gB g + 140)), some (.ref (gB g + 150)), some (.int i), none, none, none, none] [] := by
  have hi5 : 5 < X.2.2.2.2.2.2.2.2.maxLocals := by rw [hml]; exact Nat.le_of_ble_eq_true rfl
  have hi6 : 6 < X.2.2.2.2.2.2.2.2.maxLocals := by rw [hml]; exact Nat.le_of_ble_eq_true rfl
  have hi7 : 7 < X.2.2.2.2.2.2.2.2.maxLocals := by rw [hml]; exact Nat.le_of_ble_eq_true rfl
  have hi8 : 8 < X.2.2.2.2.2.2.2.2.maxLocals := by rw [hml]; exact Nat.le_of_ble_eq_true rfl
  unfold K_51 at hf
  refine PW.aload_n cx qL_law_2843 rfl ?_
  refine PW.aload_n cx qL_law_2844 rfl ?_
  refine PW.iload cx qL_law_2845 rfl ?_
  refine PW.iconst (v := 1) cx qL_law_2847 rfl ?_
  refine PW.iadd cx qL_law_2848 ?_
  refine PW.sld cx qL_law_2849 hX hbB ha1 ?_
  refine PW.aload_n cx qL_law_2850 rfl ?_
  refine PW.iload cx qL_law_2851 rfl ?_
  refine PW.iconst (v := 2) cx qL_law_2853 rfl ?_
  refine PW.iadd cx qL_law_2854 ?_
  refine PW.sld cx qL_law_2855 hX hbB ha2 ?_
  refine PW.aload_n cx qL_law_2856 rfl ?_
  refine PW.callWI (As := [.ref (gB g + 0), .int a1, .int a2, .ref (gB g + 150)]) (st := []) cx hR qL_law_2857 kw330 mw_wokenBy rfl rfl (Nat.le_of_ble_eq_true rfl) (Nat.le_of_ble_eq_true rfl) (Nat.le_of_ble_eq_true rfl) (by omega) (by omega) hf sne (fun t e => ctL_wokenBy hx ho h a1 a2 t e) (fun t1 h2 hf => ?_)
  refine PW.istore (L' := [some (.ref b), some (.ref (gB g + 0)), some (.ref (gB g + 140)), some (.ref (gB g + 150)), some (.int i), some (.int t1), none, none, none]) cx qL_law_2860 hi5 rfl rfl ?_
  refine PW.aload_n cx qL_law_2862 rfl ?_
  refine PW.aload_n cx qL_law_2863 rfl ?_
  refine PW.iload cx qL_law_2864 rfl ?_
  refine PW.iconst (v := 1) cx qL_law_2866 rfl ?_
  refine PW.iadd cx qL_law_2867 ?_
  refine PW.sld cx qL_law_2868 hX hbB ha1 ?_
  refine PW.aload_n cx qL_law_2869 rfl ?_
  refine PW.iload cx qL_law_2870 rfl ?_
  refine PW.iconst (v := 2) cx qL_law_2872 rfl ?_
  refine PW.iadd cx qL_law_2873 ?_
  refine PW.sld cx qL_law_2874 hX hbB ha2 ?_
  refine PW.callVWIc (As := [.int a1, .int a2]) (st := []) cx hR qL_law_2875 klL_332 mvX7_wokenBy (sh_140 hm) rfl rfl rfl rfl (Nat.le_of_ble_eq_true rfl) (Nat.le_of_ble_eq_true rfl) (Nat.le_of_ble_eq_true rfl) (by omega) (by omega) hf sne (fun t e => ctX7_wokenBy hm h2 a1 a2 t e) (fun t3 h4 hf => ?_)
  refine PW.istore (L' := [some (.ref b), some (.ref (gB g + 0)), some (.ref (gB g + 140)), some (.ref (gB g + 150)), some (.int i), some (.int t1), some (.int t3), none, none]) cx qL_law_2878 hi6 rfl rfl ?_
  refine PW.aload_n cx qL_law_2880 rfl ?_
  refine PW.callVRI (As := []) (st := []) cx hR qL_law_2881 klL_166 mvX7_thrown (sh_140 hm) rfl rfl rfl rfl (Nat.le_of_ble_eq_true rfl) (Nat.le_of_ble_eq_true rfl) (Nat.le_of_ble_eq_true rfl) (by omega) (by omega) hf sne (fun t e => ctX7_thrown hm h4 t e) (fun t5 hf => ?_)
  refine PW.iload cx qL_law_2884 rfl ?_
  refine PW.icmp_eq cx qL_law_2886 hf (fun hf => ?_) (fun hf => ?_)
  · refine PW.iload cx qL_law_2891 rfl ?_
    refine PW.if_ne cx qL_law_2893 hf (fun hf => ?_) (fun hf => ?_)
    · refine PW.aload_n cx qL_law_2896 rfl ?_
      refine PW.iconst (v := 0) cx qL_law_2897 rfl ?_
      refine PW.lald1 cx qL_law_2898 ho ?_
      refine PW.iload cx qL_law_2899 rfl ?_
      refine PW.i2l cx qL_law_2901 ?_
      refine PW.lcmp cx qL_law_2902 ?_
      refine PW.if_eq cx qL_law_2903 hf (fun hf => ?_) (fun hf => ?_)
      · refine PW.goto cx qL_law_2908 ?_
        cases hf
        exact PW.widen (by omega) (by omega) (PW.locs (Lsub.keep (Lsub.keep (Lsub.keep (Lsub.keep (Lsub.keep (Lsub.drop (Lsub.drop (Lsub.drop (Lsub.drop Lsub.nil))))))))) kk)
      · cases hf
    · refine PW.goto cx qL_law_2908 ?_
      cases hf
      exact PW.widen (by omega) (by omega) (PW.locs (Lsub.keep (Lsub.keep (Lsub.keep (Lsub.keep (Lsub.keep (Lsub.drop (Lsub.drop (Lsub.drop (Lsub.drop Lsub.nil))))))))) kk)
  · cases hf
set_option maxRecDepth 20000 in
theorem ctK_52 {g : GT} {X : XT} {Q : State → Prop} {cells slots b N : Nat} {xs : Nat → Int32} {sh : List Shp} {i : Int32} {a1 : Int32} {a2 : Int32} (hx : XSh sh) (hm : MSh sh) (ho : sh[150]? = some (.inr (3, 1, []))) (cx : Cx g X RL code) (hR : RmG X.2.2.1 40 600002 7302232) (hml : X.2.2.2.2.2.2.2.2.maxLocals = 9) (hX : va_X b N xs X.2.2.2.1 X.2.2.2.1.heap) (hbB : b < X.2.2.2.1.heap.size ∧ b < gB g) (ha1 : vp_in (i + 1) N ∧ xs (i + 1).toNatClampNeg = a1) (ha2 : vp_in (i + 2) N ∧ xs (i + 2).toNatClampNeg = a2) (hc : cells + 4 ≤ 600002) (hs : slots + 24 ≤ 7302232) (h r : Hp) (hf : K_52 h a1 a2 = some r) (kk : PW g X false Q (cells + 4) (slots + 24) sh r 3252 [some (.ref b), some (.ref (gB g + 0)), some (.ref (gB g + 140)), some (.ref (gB g + 150)), some (.int i), none, none, none, none] []) : PW g X false Q cells slots sh h 2911 [some (.ref b), some (.ref (gB g + 0)), some (.ref (gB g + 140)), some (.ref (gB g + 150)), some (.int i), none, none, none, none] [] := by
  have hi5 : 5 < X.2.2.2.2.2.2.2.2.maxLocals := by rw [hml]; exact Nat.le_of_ble_eq_true rfl
  have hi6 : 6 < X.2.2.2.2.2.2.2.2.maxLocals := by rw [hml]; exact Nat.le_of_ble_eq_true rfl
  have hi7 : 7 < X.2.2.2.2.2.2.2.2.maxLocals := by rw [hml]; exact Nat.le_of_ble_eq_true rfl
  have hi8 : 8 < X.2.2.2.2.2.2.2.2.maxLocals := by rw [hml]; exact Nat.le_of_ble_eq_true rfl
  unfold K_52 at hf
  refine PW.aload_n cx qL_law_2911 rfl ?_
  refine PW.aload_n cx qL_law_2912 rfl ?_
  refine PW.iload cx qL_law_2913 rfl ?_
  refine PW.iconst (v := 1) cx qL_law_2915 rfl ?_
  refine PW.iadd cx qL_law_2916 ?_
  refine PW.sld cx qL_law_2917 hX hbB ha1 ?_
  refine PW.aload_n cx qL_law_2918 rfl ?_
  refine PW.iload cx qL_law_2919 rfl ?_
  refine PW.iconst (v := 2) cx qL_law_2921 rfl ?_
  refine PW.iadd cx qL_law_2922 ?_
  refine PW.sld cx qL_law_2923 hX hbB ha2 ?_
  refine PW.aload_n cx qL_law_2924 rfl ?_
  refine PW.callWI (As := [.ref (gB g + 0), .int a1, .int a2, .ref (gB g + 150)]) (st := []) cx hR qL_law_2925 kw333 mw_firstMatch rfl rfl (Nat.le_of_ble_eq_true rfl) (Nat.le_of_ble_eq_true rfl) (Nat.le_of_ble_eq_true rfl) (by omega) (by omega) hf sne (fun t e => ctL_firstMatch hx ho h a1 a2 t e) (fun t1 h2 hf => ?_)
  refine PW.istore (L' := [some (.ref b), some (.ref (gB g + 0)), some (.ref (gB g + 140)), some (.ref (gB g + 150)), some (.int i), some (.int t1), none, none, none]) cx qL_law_2928 hi5 rfl rfl ?_
  refine PW.aload_n cx qL_law_2930 rfl ?_
  refine PW.aload_n cx qL_law_2931 rfl ?_
  refine PW.iload cx qL_law_2932 rfl ?_
  refine PW.iconst (v := 1) cx qL_law_2934 rfl ?_
  refine PW.iadd cx qL_law_2935 ?_
  refine PW.sld cx qL_law_2936 hX hbB ha1 ?_
  refine PW.aload_n cx qL_law_2937 rfl ?_
  refine PW.iload cx qL_law_2938 rfl ?_
  refine PW.iconst (v := 2) cx qL_law_2940 rfl ?_
  refine PW.iadd cx qL_law_2941 ?_
  refine PW.sld cx qL_law_2942 hX hbB ha2 ?_
  refine PW.callVWIc (As := [.int a1, .int a2]) (st := []) cx hR qL_law_2943 klL_335 mvX7_firstMatch (sh_140 hm) rfl rfl rfl rfl (Nat.le_of_ble_eq_true rfl) (Nat.le_of_ble_eq_true rfl) (Nat.le_of_ble_eq_true rfl) (by omega) (by omega) hf sne (fun t e => ctX7_firstMatch hm h2 a1 a2 t e) (fun t3 h4 hf => ?_)
  refine PW.istore (L' := [some (.ref b), some (.ref (gB g + 0)), some (.ref (gB g + 140)), some (.ref (gB g + 150)), some (.int i), some (.int t1), some (.int t3), none, none]) cx qL_law_2946 hi6 rfl rfl ?_
  refine PW.aload_n cx qL_law_2948 rfl ?_
  refine PW.callVRI (As := []) (st := []) cx hR qL_law_2949 klL_166 mvX7_thrown (sh_140 hm) rfl rfl rfl rfl (Nat.le_of_ble_eq_true rfl) (Nat.le_of_ble_eq_true rfl) (Nat.le_of_ble_eq_true rfl) (by omega) (by omega) hf sne (fun t e => ctX7_thrown hm h4 t e) (fun t5 hf => ?_)
  refine PW.iload cx qL_law_2952 rfl ?_
  refine PW.icmp_eq cx qL_law_2954 hf (fun hf => ?_) (fun hf => ?_)
  · refine PW.iload cx qL_law_2959 rfl ?_
    refine PW.if_ne cx qL_law_2961 hf (fun hf => ?_) (fun hf => ?_)
    · refine PW.aload_n cx qL_law_2964 rfl ?_
      refine PW.iconst (v := 0) cx qL_law_2965 rfl ?_
      refine PW.lald1 cx qL_law_2966 ho ?_
      refine PW.iload cx qL_law_2967 rfl ?_
      refine PW.i2l cx qL_law_2969 ?_
      refine PW.lcmp cx qL_law_2970 ?_
      refine PW.if_eq cx qL_law_2971 hf (fun hf => ?_) (fun hf => ?_)
      · refine PW.goto cx qL_law_2976 ?_
        cases hf
        exact PW.widen (by omega) (by omega) (PW.locs (Lsub.keep (Lsub.keep (Lsub.keep (Lsub.keep (Lsub.keep (Lsub.drop (Lsub.drop (Lsub.drop (Lsub.drop Lsub.nil))))))))) kk)
      · cases hf
    · refine PW.goto cx qL_law_2976 ?_
      cases hf
      exact PW.widen (by omega) (by omega) (PW.locs (Lsub.keep (Lsub.keep (Lsub.keep (Lsub.keep (Lsub.keep (Lsub.drop (Lsub.drop (Lsub.drop (Lsub.drop Lsub.nil))))))))) kk)
  · cases hf
set_option maxRecDepth 20000 in
theorem ctK_53 {g : GT} {X : XT} {Q : State → Prop} {cells slots b N : Nat} {xs : Nat → Int32} {sh : List Shp} {i : Int32} {a1 : Int32} (hx : XSh sh) (hm : MSh sh) (ho : sh[150]? = some (.inr (3, 1, []))) (cx : Cx g X RL code) (hR : RmG X.2.2.1 40 600002 7302232) (hml : X.2.2.2.2.2.2.2.2.maxLocals = 9) (hX : va_X b N xs X.2.2.2.1 X.2.2.2.1.heap) (hbB : b < X.2.2.2.1.heap.size ∧ b < gB g) (ha1 : vp_in (i + 1) N ∧ xs (i + 1).toNatClampNeg = a1) (hc : cells + 4 ≤ 600002) (hs : slots + 24 ≤ 7302232) (h r : Hp) (hf : K_53 h a1 = some r) (kk : PW g X false Q (cells + 4) (slots + 24) sh r 3252 [some (.ref b), some (.ref (gB g + 0)), some (.ref (gB g + 140)), some (.ref (gB g + 150)), some (.int i), none, none, none, none] []) : PW g X false Q cells slots sh h 2979 [some (.ref b), some (.ref (gB g + 0)), some (.ref (gB g + 140)), some (.ref (gB g + 150)), some (.int i), none, none, none, none] [] := by
  have hi5 : 5 < X.2.2.2.2.2.2.2.2.maxLocals := by rw [hml]; exact Nat.le_of_ble_eq_true rfl
  have hi6 : 6 < X.2.2.2.2.2.2.2.2.maxLocals := by rw [hml]; exact Nat.le_of_ble_eq_true rfl
  have hi7 : 7 < X.2.2.2.2.2.2.2.2.maxLocals := by rw [hml]; exact Nat.le_of_ble_eq_true rfl
  have hi8 : 8 < X.2.2.2.2.2.2.2.2.maxLocals := by rw [hml]; exact Nat.le_of_ble_eq_true rfl
  unfold K_53 at hf
  refine PW.aload_n cx qL_law_2979 rfl ?_
  refine PW.aload_n cx qL_law_2980 rfl ?_
  refine PW.iload cx qL_law_2981 rfl ?_
  refine PW.iconst (v := 1) cx qL_law_2983 rfl ?_
  refine PW.iadd cx qL_law_2984 ?_
  refine PW.sld cx qL_law_2985 hX hbB ha1 ?_
  refine PW.aload_n cx qL_law_2986 rfl ?_
  refine PW.callWI (As := [.ref (gB g + 0), .int a1, .ref (gB g + 150)]) (st := []) cx hR qL_law_2987 kw336 mw_bestPattern rfl rfl (Nat.le_of_ble_eq_true rfl) (Nat.le_of_ble_eq_true rfl) (Nat.le_of_ble_eq_true rfl) (by omega) (by omega) hf sne (fun t e => ctL_bestPattern hx ho h a1 t e) (fun t1 h2 hf => ?_)
  refine PW.istore (L' := [some (.ref b), some (.ref (gB g + 0)), some (.ref (gB g + 140)), some (.ref (gB g + 150)), some (.int i), some (.int t1), none, none, none]) cx qL_law_2990 hi5 rfl rfl ?_
  refine PW.aload_n cx qL_law_2992 rfl ?_
  refine PW.aload_n cx qL_law_2993 rfl ?_
  refine PW.iload cx qL_law_2994 rfl ?_
  refine PW.iconst (v := 1) cx qL_law_2996 rfl ?_
  refine PW.iadd cx qL_law_2997 ?_
  refine PW.sld cx qL_law_2998 hX hbB ha1 ?_
  refine PW.callVWIc (As := [.int a1]) (st := []) cx hR qL_law_2999 klL_338 mvX7_bestPattern (sh_140 hm) rfl rfl rfl rfl (Nat.le_of_ble_eq_true rfl) (Nat.le_of_ble_eq_true rfl) (Nat.le_of_ble_eq_true rfl) (by omega) (by omega) hf sne (fun t e => ctX7_bestPattern hm h2 a1 t e) (fun t3 h4 hf => ?_)
  refine PW.istore (L' := [some (.ref b), some (.ref (gB g + 0)), some (.ref (gB g + 140)), some (.ref (gB g + 150)), some (.int i), some (.int t1), some (.int t3), none, none]) cx qL_law_3002 hi6 rfl rfl ?_
  refine PW.aload_n cx qL_law_3004 rfl ?_
  refine PW.callVRI (As := []) (st := []) cx hR qL_law_3005 klL_166 mvX7_thrown (sh_140 hm) rfl rfl rfl rfl (Nat.le_of_ble_eq_true rfl) (Nat.le_of_ble_eq_true rfl) (Nat.le_of_ble_eq_true rfl) (by omega) (by omega) hf sne (fun t e => ctX7_thrown hm h4 t e) (fun t5 hf => ?_)
  refine PW.iload cx qL_law_3008 rfl ?_
  refine PW.icmp_eq cx qL_law_3010 hf (fun hf => ?_) (fun hf => ?_)
  · refine PW.iload cx qL_law_3015 rfl ?_
    refine PW.if_ne cx qL_law_3017 hf (fun hf => ?_) (fun hf => ?_)
    · refine PW.aload_n cx qL_law_3020 rfl ?_
      refine PW.iconst (v := 0) cx qL_law_3021 rfl ?_
      refine PW.lald1 cx qL_law_3022 ho ?_
      refine PW.iload cx qL_law_3023 rfl ?_
      refine PW.i2l cx qL_law_3025 ?_
      refine PW.lcmp cx qL_law_3026 ?_
      refine PW.if_eq cx qL_law_3027 hf (fun hf => ?_) (fun hf => ?_)
      · refine PW.goto cx qL_law_3032 ?_
        cases hf
        exact PW.widen (by omega) (by omega) (PW.locs (Lsub.keep (Lsub.keep (Lsub.keep (Lsub.keep (Lsub.keep (Lsub.drop (Lsub.drop (Lsub.drop (Lsub.drop Lsub.nil))))))))) kk)
      · cases hf
    · refine PW.goto cx qL_law_3032 ?_
      cases hf
      exact PW.widen (by omega) (by omega) (PW.locs (Lsub.keep (Lsub.keep (Lsub.keep (Lsub.keep (Lsub.keep (Lsub.drop (Lsub.drop (Lsub.drop (Lsub.drop Lsub.nil))))))))) kk)
  · cases hf
set_option maxRecDepth 20000 in
theorem ctK_54 {g : GT} {X : XT} {Q : State → Prop} {cells slots b N : Nat} {xs : Nat → Int32} {sh : List Shp} {i : Int32} (hx : XSh sh) (hm : MSh sh) (ho : sh[150]? = some (.inr (3, 1, []))) (cx : Cx g X RL code) (hR : RmG X.2.2.1 40 600002 7302232) (hml : X.2.2.2.2.2.2.2.2.maxLocals = 9) (hX : va_X b N xs X.2.2.2.1 X.2.2.2.1.heap) (hbB : b < X.2.2.2.1.heap.size ∧ b < gB g) (hc : cells + 4 ≤ 600002) (hs : slots + 24 ≤ 7302232) (h r : Hp) (hf : K_54 h = some r) (kk : PW g X false Q (cells + 4) (slots + 24) sh r 3252 [some (.ref b), some (.ref (gB g + 0)), some (.ref (gB g + 140)), some (.ref (gB g + 150)), some (.int i), none, none, none, none] []) : PW g X false Q cells slots sh h 3035 [some (.ref b), some (.ref (gB g + 0)), some (.ref (gB g + 140)), some (.ref (gB g + 150)), some (.int i), none, none, none, none] [] := by
  have hi5 : 5 < X.2.2.2.2.2.2.2.2.maxLocals := by rw [hml]; exact Nat.le_of_ble_eq_true rfl
  have hi6 : 6 < X.2.2.2.2.2.2.2.2.maxLocals := by rw [hml]; exact Nat.le_of_ble_eq_true rfl
  have hi7 : 7 < X.2.2.2.2.2.2.2.2.maxLocals := by rw [hml]; exact Nat.le_of_ble_eq_true rfl
  have hi8 : 8 < X.2.2.2.2.2.2.2.2.maxLocals := by rw [hml]; exact Nat.le_of_ble_eq_true rfl
  unfold K_54 at hf
  refine PW.aload_n cx qL_law_3035 rfl ?_
  refine PW.callVRI (As := []) (st := []) cx hR qL_law_3036 klL_339 mvX6_burnedFat (sh_0 hx) rfl rfl rfl rfl (Nat.le_of_ble_eq_true rfl) (Nat.le_of_ble_eq_true rfl) (Nat.le_of_ble_eq_true rfl) (by omega) (by omega) hf sne (fun t e => ctX6_burnedFat hx h t e) (fun t1 hf => ?_)
  refine PW.aload_n cx qL_law_3039 rfl ?_
  refine PW.callVWIc (As := []) (st := [.int t1]) cx hR qL_law_3040 klL_342 mvX7_burnedFat (sh_140 hm) rfl rfl rfl rfl (Nat.le_of_ble_eq_true rfl) (Nat.le_of_ble_eq_true rfl) (Nat.le_of_ble_eq_true rfl) (by omega) (by omega) hf sne (fun t e => ctX7_burnedFat hm h t e) (fun t2 h3 hf => ?_)
  refine PW.icmp_eq cx qL_law_3043 hf (fun hf => ?_) (fun hf => ?_)
  · cases hf
    exact PW.widen (by omega) (by omega) (PW.locs (Lsub.keep (Lsub.keep (Lsub.keep (Lsub.keep (Lsub.keep (Lsub.drop (Lsub.drop (Lsub.drop (Lsub.drop Lsub.nil))))))))) kk)
  · cases hf
set_option maxRecDepth 20000 in
theorem ctK_55 {g : GT} {X : XT} {Q : State → Prop} {cells slots b N : Nat} {xs : Nat → Int32} {sh : List Shp} {i : Int32} (hx : XSh sh) (hm : MSh sh) (ho : sh[150]? = some (.inr (3, 1, []))) (cx : Cx g X RL code) (hR : RmG X.2.2.1 40 600002 7302232) (hml : X.2.2.2.2.2.2.2.2.maxLocals = 9) (hX : va_X b N xs X.2.2.2.1 X.2.2.2.1.heap) (hbB : b < X.2.2.2.1.heap.size ∧ b < gB g) (hc : cells + 4 ≤ 600002) (hs : slots + 24 ≤ 7302232) (h r : Hp) (hf : K_55 h = some r) (kk : PW g X false Q (cells + 4) (slots + 24) sh r 3252 [some (.ref b), some (.ref (gB g + 0)), some (.ref (gB g + 140)), some (.ref (gB g + 150)), some (.int i), none, none, none, none] []) : PW g X false Q cells slots sh h 3048 [some (.ref b), some (.ref (gB g + 0)), some (.ref (gB g + 140)), some (.ref (gB g + 150)), some (.int i), none, none, none, none] [] := by
  have hi5 : 5 < X.2.2.2.2.2.2.2.2.maxLocals := by rw [hml]; exact Nat.le_of_ble_eq_true rfl
  have hi6 : 6 < X.2.2.2.2.2.2.2.2.maxLocals := by rw [hml]; exact Nat.le_of_ble_eq_true rfl
  have hi7 : 7 < X.2.2.2.2.2.2.2.2.maxLocals := by rw [hml]; exact Nat.le_of_ble_eq_true rfl
  have hi8 : 8 < X.2.2.2.2.2.2.2.2.maxLocals := by rw [hml]; exact Nat.le_of_ble_eq_true rfl
  unfold K_55 at hf
  refine PW.aload_n cx qL_law_3048 rfl ?_
  refine PW.callVRI (As := []) (st := []) cx hR qL_law_3049 klL_343 mvX6_wakings (sh_0 hx) rfl rfl rfl rfl (Nat.le_of_ble_eq_true rfl) (Nat.le_of_ble_eq_true rfl) (Nat.le_of_ble_eq_true rfl) (by omega) (by omega) hf sne (fun t e => ctX6_wakings hx h t e) (fun t1 hf => ?_)
  refine PW.aload_n cx qL_law_3052 rfl ?_
  refine PW.callVWIc (As := []) (st := [.int t1]) cx hR qL_law_3053 klL_346 mvX7_wakings (sh_140 hm) rfl rfl rfl rfl (Nat.le_of_ble_eq_true rfl) (Nat.le_of_ble_eq_true rfl) (Nat.le_of_ble_eq_true rfl) (by omega) (by omega) hf sne (fun t e => ctX7_wakings hm h t e) (fun t2 h3 hf => ?_)
  refine PW.icmp_eq cx qL_law_3056 hf (fun hf => ?_) (fun hf => ?_)
  · cases hf
    exact PW.widen (by omega) (by omega) (PW.locs (Lsub.keep (Lsub.keep (Lsub.keep (Lsub.keep (Lsub.keep (Lsub.drop (Lsub.drop (Lsub.drop (Lsub.drop Lsub.nil))))))))) kk)
  · cases hf
set_option maxRecDepth 20000 in
theorem ctK_56 {g : GT} {X : XT} {Q : State → Prop} {cells slots b N : Nat} {xs : Nat → Int32} {sh : List Shp} {i : Int32} (hx : XSh sh) (hm : MSh sh) (ho : sh[150]? = some (.inr (3, 1, []))) (cx : Cx g X RL code) (hR : RmG X.2.2.1 40 600002 7302232) (hml : X.2.2.2.2.2.2.2.2.maxLocals = 9) (hX : va_X b N xs X.2.2.2.1 X.2.2.2.1.heap) (hbB : b < X.2.2.2.1.heap.size ∧ b < gB g) (hc : cells + 4 ≤ 600002) (hs : slots + 24 ≤ 7302232) (h r : Hp) (hf : K_56 h = some r) (kk : PW g X false Q (cells + 4) (slots + 24) sh r 3252 [some (.ref b), some (.ref (gB g + 0)), some (.ref (gB g + 140)), some (.ref (gB g + 150)), some (.int i), none, none, none, none] []) : PW g X false Q cells slots sh h 3061 [some (.ref b), some (.ref (gB g + 0)), some (.ref (gB g + 140)), some (.ref (gB g + 150)), some (.int i), none, none, none, none] [] := by
  have hi5 : 5 < X.2.2.2.2.2.2.2.2.maxLocals := by rw [hml]; exact Nat.le_of_ble_eq_true rfl
  have hi6 : 6 < X.2.2.2.2.2.2.2.2.maxLocals := by rw [hml]; exact Nat.le_of_ble_eq_true rfl
  have hi7 : 7 < X.2.2.2.2.2.2.2.2.maxLocals := by rw [hml]; exact Nat.le_of_ble_eq_true rfl
  have hi8 : 8 < X.2.2.2.2.2.2.2.2.maxLocals := by rw [hml]; exact Nat.le_of_ble_eq_true rfl
  unfold K_56 at hf
  refine PW.aload_n cx qL_law_3061 rfl ?_
  refine PW.callVRI (As := []) (st := []) cx hR qL_law_3062 klL_347 mvX6_fadedClips (sh_0 hx) rfl rfl rfl rfl (Nat.le_of_ble_eq_true rfl) (Nat.le_of_ble_eq_true rfl) (Nat.le_of_ble_eq_true rfl) (by omega) (by omega) hf sne (fun t e => ctX6_fadedClips hx h t e) (fun t1 hf => ?_)
  refine PW.aload_n cx qL_law_3065 rfl ?_
  refine PW.callVWIc (As := []) (st := [.int t1]) cx hR qL_law_3066 klL_350 mvX7_fadedClips (sh_140 hm) rfl rfl rfl rfl (Nat.le_of_ble_eq_true rfl) (Nat.le_of_ble_eq_true rfl) (Nat.le_of_ble_eq_true rfl) (by omega) (by omega) hf sne (fun t e => ctX7_fadedClips hm h t e) (fun t2 h3 hf => ?_)
  refine PW.icmp_eq cx qL_law_3069 hf (fun hf => ?_) (fun hf => ?_)
  · cases hf
    exact PW.widen (by omega) (by omega) (PW.locs (Lsub.keep (Lsub.keep (Lsub.keep (Lsub.keep (Lsub.keep (Lsub.drop (Lsub.drop (Lsub.drop (Lsub.drop Lsub.nil))))))))) kk)
  · cases hf
set_option maxRecDepth 20000 in
theorem ctK_57 {g : GT} {X : XT} {Q : State → Prop} {cells slots b N : Nat} {xs : Nat → Int32} {sh : List Shp} {i : Int32} (hx : XSh sh) (hm : MSh sh) (ho : sh[150]? = some (.inr (3, 1, []))) (cx : Cx g X RL code) (hR : RmG X.2.2.1 40 600002 7302232) (hml : X.2.2.2.2.2.2.2.2.maxLocals = 9) (hX : va_X b N xs X.2.2.2.1 X.2.2.2.1.heap) (hbB : b < X.2.2.2.1.heap.size ∧ b < gB g) (hc : cells + 4 ≤ 600002) (hs : slots + 24 ≤ 7302232) (h r : Hp) (hf : K_57 h = some r) (kk : PW g X false Q (cells + 4) (slots + 24) sh r 3252 [some (.ref b), some (.ref (gB g + 0)), some (.ref (gB g + 140)), some (.ref (gB g + 150)), some (.int i), none, none, none, none] []) : PW g X false Q cells slots sh h 3074 [some (.ref b), some (.ref (gB g + 0)), some (.ref (gB g + 140)), some (.ref (gB g + 150)), some (.int i), none, none, none, none] [] := by
  have hi5 : 5 < X.2.2.2.2.2.2.2.2.maxLocals := by rw [hml]; exact Nat.le_of_ble_eq_true rfl
  have hi6 : 6 < X.2.2.2.2.2.2.2.2.maxLocals := by rw [hml]; exact Nat.le_of_ble_eq_true rfl
  have hi7 : 7 < X.2.2.2.2.2.2.2.2.maxLocals := by rw [hml]; exact Nat.le_of_ble_eq_true rfl
  have hi8 : 8 < X.2.2.2.2.2.2.2.2.maxLocals := by rw [hml]; exact Nat.le_of_ble_eq_true rfl
  unfold K_57 at hf
  refine PW.aload_n cx qL_law_3074 rfl ?_
  refine PW.callVRD (As := []) (st := []) cx hR qL_law_3075 klL_351 mvX6_meanFat (sh_0 hx) rfl rfl rfl rfl (Nat.le_of_ble_eq_true rfl) (Nat.le_of_ble_eq_true rfl) (Nat.le_of_ble_eq_true rfl) (by omega) (by omega) hf sne (fun t e => ctX6_meanFat hx h t e) (fun t1 hf => ?_)
  refine PW.dstore (L' := [some (.ref b), some (.ref (gB g + 0)), some (.ref (gB g + 140)), some (.ref (gB g + 150)), some (.int i), some (.double t1), none, none, none]) cx qL_law_3078 hi6 rfl rfl ?_
  refine PW.aload_n cx qL_law_3080 rfl ?_
  refine PW.callVWDc (As := []) (st := []) cx hR qL_law_3081 klL_355 mvX7_meanFat (sh_140 hm) rfl rfl rfl rfl (Nat.le_of_ble_eq_true rfl) (Nat.le_of_ble_eq_true rfl) (Nat.le_of_ble_eq_true rfl) (by omega) (by omega) hf sne (fun t e => ctX7_meanFat hm h t e) (fun t2 h3 hf => ?_)
  refine PW.dstore (L' := [some (.ref b), some (.ref (gB g + 0)), some (.ref (gB g + 140)), some (.ref (gB g + 150)), some (.int i), some (.double t1), none, some (.double t2), none]) cx qL_law_3084 hi8 rfl rfl ?_
  refine PW.dload cx qL_law_3086 rfl ?_
  refine PW.dload cx qL_law_3088 rfl ?_
  refine PW.dcmp cx qL_law_3090 ?_
  refine PW.if_eq cx qL_law_3091 hf (fun hf => ?_) (fun hf => ?_)
  · refine PW.goto cx qL_law_3112 ?_
    cases hf
    exact PW.widen (by omega) (by omega) (PW.locs (Lsub.keep (Lsub.keep (Lsub.keep (Lsub.keep (Lsub.keep (Lsub.drop (Lsub.drop (Lsub.drop (Lsub.drop Lsub.nil))))))))) kk)
  · refine PW.dload cx qL_law_3094 rfl ?_
    refine PW.dload cx qL_law_3096 rfl ?_
    refine PW.dcmp cx qL_law_3098 ?_
    refine PW.if_eq cx qL_law_3099 hf (fun hf => ?_) (fun hf => ?_)
    · cases hf
    · refine PW.dload cx qL_law_3102 rfl ?_
      refine PW.dload cx qL_law_3104 rfl ?_
      refine PW.dcmp cx qL_law_3106 ?_
      refine PW.if_ne cx qL_law_3107 hf (fun hf => ?_) (fun hf => ?_)
      · cases hf
      · refine PW.goto cx qL_law_3112 ?_
        cases hf
        exact PW.widen (by omega) (by omega) (PW.locs (Lsub.keep (Lsub.keep (Lsub.keep (Lsub.keep (Lsub.keep (Lsub.drop (Lsub.drop (Lsub.drop (Lsub.drop Lsub.nil))))))))) kk)
set_option maxRecDepth 20000 in
theorem ctK_58 {g : GT} {X : XT} {Q : State → Prop} {cells slots b N : Nat} {xs : Nat → Int32} {sh : List Shp} {i : Int32} (hx : XSh sh) (hm : MSh sh) (ho : sh[150]? = some (.inr (3, 1, []))) (cx : Cx g X RL code) (hR : RmG X.2.2.1 40 600002 7302232) (hml : X.2.2.2.2.2.2.2.2.maxLocals = 9) (hX : va_X b N xs X.2.2.2.1 X.2.2.2.1.heap) (hbB : b < X.2.2.2.1.heap.size ∧ b < gB g) (hc : cells + 4 ≤ 600002) (hs : slots + 24 ≤ 7302232) (h r : Hp) (hf : K_58 h = some r) (kk : PW g X false Q (cells + 4) (slots + 24) sh r 3252 [some (.ref b), some (.ref (gB g + 0)), some (.ref (gB g + 140)), some (.ref (gB g + 150)), some (.int i), none, none, none, none] []) : PW g X false Q cells slots sh h 3115 [some (.ref b), some (.ref (gB g + 0)), some (.ref (gB g + 140)), some (.ref (gB g + 150)), some (.int i), none, none, none, none] [] := by
  have hi5 : 5 < X.2.2.2.2.2.2.2.2.maxLocals := by rw [hml]; exact Nat.le_of_ble_eq_true rfl
  have hi6 : 6 < X.2.2.2.2.2.2.2.2.maxLocals := by rw [hml]; exact Nat.le_of_ble_eq_true rfl
  have hi7 : 7 < X.2.2.2.2.2.2.2.2.maxLocals := by rw [hml]; exact Nat.le_of_ble_eq_true rfl
  have hi8 : 8 < X.2.2.2.2.2.2.2.2.maxLocals := by rw [hml]; exact Nat.le_of_ble_eq_true rfl
  unfold K_58 at hf
  refine PW.aload_n cx qL_law_3115 rfl ?_
  refine PW.callVRF (As := []) (st := []) cx hR qL_law_3116 klL_356 mvX6_sleepShare (sh_0 hx) rfl rfl rfl rfl (Nat.le_of_ble_eq_true rfl) (Nat.le_of_ble_eq_true rfl) (Nat.le_of_ble_eq_true rfl) (by omega) (by omega) hf sne (fun t e => ctX6_sleepShare hx h t e) (fun t1 hf => ?_)
  refine PW.f2d cx qL_law_3119 hf sne (fun t2 hf => ?_)
  refine PW.dstore (L' := [some (.ref b), some (.ref (gB g + 0)), some (.ref (gB g + 140)), some (.ref (gB g + 150)), some (.int i), some (.double t2), none, none, none]) cx qL_law_3120 hi6 rfl rfl ?_
  refine PW.aload_n cx qL_law_3122 rfl ?_
  refine PW.callVWFc (As := []) (st := []) cx hR qL_law_3123 klL_360 mvX7_sleepShare (sh_140 hm) rfl rfl rfl rfl (Nat.le_of_ble_eq_true rfl) (Nat.le_of_ble_eq_true rfl) (Nat.le_of_ble_eq_true rfl) (by omega) (by omega) hf sne (fun t e => ctX7_sleepShare hm h t e) (fun t3 h4 hf => ?_)
  refine PW.f2d cx qL_law_3126 hf sne (fun t5 hf => ?_)
  refine PW.dstore (L' := [some (.ref b), some (.ref (gB g + 0)), some (.ref (gB g + 140)), some (.ref (gB g + 150)), some (.int i), some (.double t2), none, some (.double t5), none]) cx qL_law_3127 hi8 rfl rfl ?_
  refine PW.dload cx qL_law_3129 rfl ?_
  refine PW.dload cx qL_law_3131 rfl ?_
  refine PW.dcmp cx qL_law_3133 ?_
  refine PW.if_eq cx qL_law_3134 hf (fun hf => ?_) (fun hf => ?_)
  · refine PW.goto cx qL_law_3155 ?_
    cases hf
    exact PW.widen (by omega) (by omega) (PW.locs (Lsub.keep (Lsub.keep (Lsub.keep (Lsub.keep (Lsub.keep (Lsub.drop (Lsub.drop (Lsub.drop (Lsub.drop Lsub.nil))))))))) kk)
  · refine PW.dload cx qL_law_3137 rfl ?_
    refine PW.dload cx qL_law_3139 rfl ?_
    refine PW.dcmp cx qL_law_3141 ?_
    refine PW.if_eq cx qL_law_3142 hf (fun hf => ?_) (fun hf => ?_)
    · cases hf
    · refine PW.dload cx qL_law_3145 rfl ?_
      refine PW.dload cx qL_law_3147 rfl ?_
      refine PW.dcmp cx qL_law_3149 ?_
      refine PW.if_ne cx qL_law_3150 hf (fun hf => ?_) (fun hf => ?_)
      · cases hf
      · refine PW.goto cx qL_law_3155 ?_
        cases hf
        exact PW.widen (by omega) (by omega) (PW.locs (Lsub.keep (Lsub.keep (Lsub.keep (Lsub.keep (Lsub.keep (Lsub.drop (Lsub.drop (Lsub.drop (Lsub.drop Lsub.nil))))))))) kk)
set_option maxRecDepth 20000 in
theorem ctK_59 {g : GT} {X : XT} {Q : State → Prop} {cells slots b N : Nat} {xs : Nat → Int32} {sh : List Shp} {i : Int32} (hx : XSh sh) (hm : MSh sh) (ho : sh[150]? = some (.inr (3, 1, []))) (cx : Cx g X RL code) (hR : RmG X.2.2.1 40 600002 7302232) (hml : X.2.2.2.2.2.2.2.2.maxLocals = 9) (hX : va_X b N xs X.2.2.2.1 X.2.2.2.1.heap) (hbB : b < X.2.2.2.1.heap.size ∧ b < gB g) (hc : cells + 4 ≤ 600002) (hs : slots + 24 ≤ 7302232) (h r : Hp) (hf : K_59 h = some r) (kk : PW g X false Q (cells + 4) (slots + 24) sh r 3252 [some (.ref b), some (.ref (gB g + 0)), some (.ref (gB g + 140)), some (.ref (gB g + 150)), some (.int i), none, none, none, none] []) : PW g X false Q cells slots sh h 3158 [some (.ref b), some (.ref (gB g + 0)), some (.ref (gB g + 140)), some (.ref (gB g + 150)), some (.int i), none, none, none, none] [] := by
  have hi5 : 5 < X.2.2.2.2.2.2.2.2.maxLocals := by rw [hml]; exact Nat.le_of_ble_eq_true rfl
  have hi6 : 6 < X.2.2.2.2.2.2.2.2.maxLocals := by rw [hml]; exact Nat.le_of_ble_eq_true rfl
  have hi7 : 7 < X.2.2.2.2.2.2.2.2.maxLocals := by rw [hml]; exact Nat.le_of_ble_eq_true rfl
  have hi8 : 8 < X.2.2.2.2.2.2.2.2.maxLocals := by rw [hml]; exact Nat.le_of_ble_eq_true rfl
  unfold K_59 at hf
  refine PW.aload_n cx qL_law_3158 rfl ?_
  refine PW.callVRI (As := []) (st := []) cx hR qL_law_3159 klL_361 mvX6_violations (sh_0 hx) rfl rfl rfl rfl (Nat.le_of_ble_eq_true rfl) (Nat.le_of_ble_eq_true rfl) (Nat.le_of_ble_eq_true rfl) (by omega) (by omega) hf sne (fun t e => ctX6_violations hx h t e) (fun t1 hf => ?_)
  refine PW.aload_n cx qL_law_3162 rfl ?_
  refine PW.callVWIc (As := []) (st := [.int t1]) cx hR qL_law_3163 klL_364 mvX7_violations (sh_140 hm) rfl rfl rfl rfl (Nat.le_of_ble_eq_true rfl) (Nat.le_of_ble_eq_true rfl) (Nat.le_of_ble_eq_true rfl) (by omega) (by omega) hf sne (fun t e => ctX7_violations hm h t e) (fun t2 h3 hf => ?_)
  refine PW.icmp_eq cx qL_law_3166 hf (fun hf => ?_) (fun hf => ?_)
  · cases hf
    exact PW.widen (by omega) (by omega) (PW.locs (Lsub.keep (Lsub.keep (Lsub.keep (Lsub.keep (Lsub.keep (Lsub.drop (Lsub.drop (Lsub.drop (Lsub.drop Lsub.nil))))))))) kk)
  · cases hf
set_option maxRecDepth 20000 in
theorem ctK_60 {g : GT} {X : XT} {Q : State → Prop} {cells slots b N : Nat} {xs : Nat → Int32} {sh : List Shp} {i : Int32} {a1 : Int32} (hx : XSh sh) (hm : MSh sh) (ho : sh[150]? = some (.inr (3, 1, []))) (cx : Cx g X RL code) (hR : RmG X.2.2.1 40 600002 7302232) (hml : X.2.2.2.2.2.2.2.2.maxLocals = 9) (hX : va_X b N xs X.2.2.2.1 X.2.2.2.1.heap) (hbB : b < X.2.2.2.1.heap.size ∧ b < gB g) (ha1 : vp_in (i + 1) N ∧ xs (i + 1).toNatClampNeg = a1) (hc : cells + 4 ≤ 600002) (hs : slots + 24 ≤ 7302232) (h r : Hp) (hf : K_60 h a1 = some r) (kk : PW g X false Q (cells + 4) (slots + 24) sh r 3252 [some (.ref b), some (.ref (gB g + 0)), some (.ref (gB g + 140)), some (.ref (gB g + 150)), some (.int i), none, none, none, none] []) : PW g X false Q cells slots sh h 3171 [some (.ref b), some (.ref (gB g + 0)), some (.ref (gB g + 140)), some (.ref (gB g + 150)), some (.int i), none, none, none, none] [] := by
  have hi5 : 5 < X.2.2.2.2.2.2.2.2.maxLocals := by rw [hml]; exact Nat.le_of_ble_eq_true rfl
  have hi6 : 6 < X.2.2.2.2.2.2.2.2.maxLocals := by rw [hml]; exact Nat.le_of_ble_eq_true rfl
  have hi7 : 7 < X.2.2.2.2.2.2.2.2.maxLocals := by rw [hml]; exact Nat.le_of_ble_eq_true rfl
  have hi8 : 8 < X.2.2.2.2.2.2.2.2.maxLocals := by rw [hml]; exact Nat.le_of_ble_eq_true rfl
  unfold K_60 at hf
  refine PW.aload_n cx qL_law_3171 rfl ?_
  refine PW.aload_n cx qL_law_3172 rfl ?_
  refine PW.iload cx qL_law_3173 rfl ?_
  refine PW.iconst (v := 1) cx qL_law_3175 rfl ?_
  refine PW.iadd cx qL_law_3176 ?_
  refine PW.sld cx qL_law_3177 hX hbB ha1 ?_
  refine PW.aload_n cx qL_law_3178 rfl ?_
  refine PW.callWI (As := [.ref (gB g + 0), .int a1, .ref (gB g + 150)]) (st := []) cx hR qL_law_3179 kw365 mw_writeReel rfl rfl (Nat.le_of_ble_eq_true rfl) (Nat.le_of_ble_eq_true rfl) (Nat.le_of_ble_eq_true rfl) (by omega) (by omega) hf sne (fun t e => ctL_writeReel hx ho h a1 t e) (fun t1 h2 hf => ?_)
  refine PW.istore (L' := [some (.ref b), some (.ref (gB g + 0)), some (.ref (gB g + 140)), some (.ref (gB g + 150)), some (.int i), some (.int t1), none, none, none]) cx qL_law_3182 hi5 rfl rfl ?_
  refine PW.aload_n cx qL_law_3184 rfl ?_
  refine PW.aload_n cx qL_law_3185 rfl ?_
  refine PW.iload cx qL_law_3186 rfl ?_
  refine PW.iconst (v := 1) cx qL_law_3188 rfl ?_
  refine PW.iadd cx qL_law_3189 ?_
  refine PW.sld cx qL_law_3190 hX hbB ha1 ?_
  refine PW.callVWIc (As := [.int a1]) (st := []) cx hR qL_law_3191 klL_367 mvX7_writeReel (sh_140 hm) rfl rfl rfl rfl (Nat.le_of_ble_eq_true rfl) (Nat.le_of_ble_eq_true rfl) (Nat.le_of_ble_eq_true rfl) (by omega) (by omega) hf sne (fun t e => ctX7_writeReel hm h2 a1 t e) (fun t3 h4 hf => ?_)
  refine PW.istore (L' := [some (.ref b), some (.ref (gB g + 0)), some (.ref (gB g + 140)), some (.ref (gB g + 150)), some (.int i), some (.int t1), some (.int t3), none, none]) cx qL_law_3194 hi6 rfl rfl ?_
  refine PW.aload_n cx qL_law_3196 rfl ?_
  refine PW.callVRI (As := []) (st := []) cx hR qL_law_3197 klL_166 mvX7_thrown (sh_140 hm) rfl rfl rfl rfl (Nat.le_of_ble_eq_true rfl) (Nat.le_of_ble_eq_true rfl) (Nat.le_of_ble_eq_true rfl) (by omega) (by omega) hf sne (fun t e => ctX7_thrown hm h4 t e) (fun t5 hf => ?_)
  refine PW.iload cx qL_law_3200 rfl ?_
  refine PW.icmp_eq cx qL_law_3202 hf (fun hf => ?_) (fun hf => ?_)
  · refine PW.iload cx qL_law_3207 rfl ?_
    refine PW.if_ne cx qL_law_3209 hf (fun hf => ?_) (fun hf => ?_)
    · refine PW.aload_n cx qL_law_3212 rfl ?_
      refine PW.iconst (v := 0) cx qL_law_3213 rfl ?_
      refine PW.lald1 cx qL_law_3214 ho ?_
      refine PW.iload cx qL_law_3215 rfl ?_
      refine PW.i2l cx qL_law_3217 ?_
      refine PW.lcmp cx qL_law_3218 ?_
      refine PW.if_eq cx qL_law_3219 hf (fun hf => ?_) (fun hf => ?_)
      · refine PW.goto cx qL_law_3224 ?_
        cases hf
        exact PW.widen (by omega) (by omega) (PW.locs (Lsub.keep (Lsub.keep (Lsub.keep (Lsub.keep (Lsub.keep (Lsub.drop (Lsub.drop (Lsub.drop (Lsub.drop Lsub.nil))))))))) kk)
      · cases hf
    · refine PW.goto cx qL_law_3224 ?_
      cases hf
      exact PW.widen (by omega) (by omega) (PW.locs (Lsub.keep (Lsub.keep (Lsub.keep (Lsub.keep (Lsub.keep (Lsub.drop (Lsub.drop (Lsub.drop (Lsub.drop Lsub.nil))))))))) kk)
  · cases hf
set_option maxRecDepth 20000 in
theorem ctK_61 {g : GT} {X : XT} {Q : State → Prop} {cells slots b N : Nat} {xs : Nat → Int32} {sh : List Shp} {i : Int32} {a1 : Int32} (hx : XSh sh) (hm : MSh sh) (ho : sh[150]? = some (.inr (3, 1, []))) (cx : Cx g X RL code) (hR : RmG X.2.2.1 40 600002 7302232) (hml : X.2.2.2.2.2.2.2.2.maxLocals = 9) (hX : va_X b N xs X.2.2.2.1 X.2.2.2.1.heap) (hbB : b < X.2.2.2.1.heap.size ∧ b < gB g) (ha1 : vp_in (i + 1) N ∧ xs (i + 1).toNatClampNeg = a1) (hc : cells + 4 ≤ 600002) (hs : slots + 24 ≤ 7302232) (h r : Hp) (hf : K_61 h a1 = some r) (kk : PW g X false Q (cells + 4) (slots + 24) sh r 3252 [some (.ref b), some (.ref (gB g + 0)), some (.ref (gB g + 140)), some (.ref (gB g + 150)), some (.int i), none, none, none, none] []) : PW g X false Q cells slots sh h 3227 [some (.ref b), some (.ref (gB g + 0)), some (.ref (gB g + 140)), some (.ref (gB g + 150)), some (.int i), none, none, none, none] [] := by
  have hi5 : 5 < X.2.2.2.2.2.2.2.2.maxLocals := by rw [hml]; exact Nat.le_of_ble_eq_true rfl
  have hi6 : 6 < X.2.2.2.2.2.2.2.2.maxLocals := by rw [hml]; exact Nat.le_of_ble_eq_true rfl
  have hi7 : 7 < X.2.2.2.2.2.2.2.2.maxLocals := by rw [hml]; exact Nat.le_of_ble_eq_true rfl
  have hi8 : 8 < X.2.2.2.2.2.2.2.2.maxLocals := by rw [hml]; exact Nat.le_of_ble_eq_true rfl
  unfold K_61 at hf
  refine PW.aload_n cx qL_law_3227 rfl ?_
  refine PW.aload_n cx qL_law_3228 rfl ?_
  refine PW.iload cx qL_law_3229 rfl ?_
  refine PW.iconst (v := 1) cx qL_law_3231 rfl ?_
  refine PW.iadd cx qL_law_3232 ?_
  refine PW.sld cx qL_law_3233 hX hbB ha1 ?_
  refine PW.callVRI (As := [.int a1]) (st := []) cx hR qL_law_3234 klL_368 mvX6_reportByte (sh_0 hx) rfl rfl rfl rfl (Nat.le_of_ble_eq_true rfl) (Nat.le_of_ble_eq_true rfl) (Nat.le_of_ble_eq_true rfl) (by omega) (by omega) hf sne (fun t e => ctX6_reportByte hx h a1 t e) (fun t1 hf => ?_)
  refine PW.aload_n cx qL_law_3237 rfl ?_
  refine PW.aload_n cx qL_law_3238 rfl ?_
  refine PW.iload cx qL_law_3239 rfl ?_
  refine PW.iconst (v := 1) cx qL_law_3241 rfl ?_
  refine PW.iadd cx qL_law_3242 ?_
  refine PW.sld cx qL_law_3243 hX hbB ha1 ?_
  refine PW.callVWIc (As := [.int a1]) (st := [.int t1]) cx hR qL_law_3244 klL_371 mvX7_reportByte (sh_140 hm) rfl rfl rfl rfl (Nat.le_of_ble_eq_true rfl) (Nat.le_of_ble_eq_true rfl) (Nat.le_of_ble_eq_true rfl) (by omega) (by omega) hf sne (fun t e => ctX7_reportByte hm h a1 t e) (fun t2 h3 hf => ?_)
  refine PW.icmp_eq cx qL_law_3247 hf (fun hf => ?_) (fun hf => ?_)
  · cases hf
    exact PW.widen (by omega) (by omega) (PW.locs (Lsub.keep (Lsub.keep (Lsub.keep (Lsub.keep (Lsub.keep (Lsub.drop (Lsub.drop (Lsub.drop (Lsub.drop Lsub.nil))))))))) kk)
  · cases hf
