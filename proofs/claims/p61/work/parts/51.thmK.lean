set_option maxRecDepth 20000 in
theorem ctK_42 {g : GT} {X : XT} {Q : State → Prop} {cells slots b N : Nat} {xs : Nat → Int32} {sh : List Shp} {i : Int32} {a1 : Int32} {a2 : Int32} (hx : XSh sh) (hm : MSh sh) (ho : sh[150]? = some (.inr (3, 1, []))) (cx : Cx g X RL code) (hR : RmG X.2.2.1 40 601024 7293034) (hml : X.2.2.2.2.2.2.2.2.maxLocals = 9) (hX : va_X b N xs X.2.2.2.1 X.2.2.2.1.heap) (hbB : b < X.2.2.2.1.heap.size ∧ b < gB g) (ha1 : vp_in (i + 1) N ∧ xs (i + 1).toNatClampNeg = a1) (ha2 : vp_in (i + 2) N ∧ xs (i + 2).toNatClampNeg = a2) (hc : cells + 4 ≤ 601024) (hs : slots + 24 ≤ 7293034) (h r : Hp) (hf : K_42 h a1 a2 = some r) (kk : PW g X false Q (cells + 4) (slots + 24) sh r 1989 [some (.ref b), some (.ref (gB g + 0)), some (.ref (gB g + 140)), some (.ref (gB g + 150)), some (.int i), none, none, none, none] []) : PW g X false Q cells slots sh h 1444 [some (.ref b), some (.ref (gB g + 0)), some (.ref (gB g + 140)), some (.ref (gB g + 150)), some (.int i), none, none, none, none] [] := by
  have hi5 : 5 < X.2.2.2.2.2.2.2.2.maxLocals := by rw [hml]; exact Nat.le_of_ble_eq_true rfl
  have hi6 : 6 < X.2.2.2.2.2.2.2.2.maxLocals := by rw [hml]; exact Nat.le_of_ble_eq_true rfl
  have hi7 : 7 < X.2.2.2.2.2.2.2.2.maxLocals := by rw [hml]; exact Nat.le_of_ble_eq_true rfl
  have hi8 : 8 < X.2.2.2.2.2.2.2.2.maxLocals := by rw [hml]; exact Nat.le_of_ble_eq_true rfl
  unfold K_42 at hf
  refine PW.aload_n cx qL_law_1444 rfl ?_
  refine PW.aload_n cx qL_law_1445 rfl ?_
  refine PW.iload cx qL_law_1446 rfl ?_
  refine PW.iconst (v := 1) cx qL_law_1448 rfl ?_
  refine PW.iadd cx qL_law_1449 ?_
  refine PW.sld cx qL_law_1450 hX hbB ha1 ?_
  refine PW.aload_n cx qL_law_1451 rfl ?_
  refine PW.iload cx qL_law_1452 rfl ?_
  refine PW.iconst (v := 2) cx qL_law_1454 rfl ?_
  refine PW.iadd cx qL_law_1455 ?_
  refine PW.sld cx qL_law_1456 hX hbB ha2 ?_
  refine PW.aload_n cx qL_law_1457 rfl ?_
  refine PW.callWI (As := [.ref (gB g + 0), .int a1, .int a2, .ref (gB g + 150)]) (st := []) cx hR qL_law_1458 kw300 mw_whyNoSleep rfl rfl (Nat.le_of_ble_eq_true rfl) (Nat.le_of_ble_eq_true rfl) (Nat.le_of_ble_eq_true rfl) (by omega) (by omega) hf sne (fun t e => ctL_whyNoSleep hx ho h a1 a2 t e) (fun t1 h2 hf => ?_)
  refine PW.istore (L' := [some (.ref b), some (.ref (gB g + 0)), some (.ref (gB g + 140)), some (.ref (gB g + 150)), some (.int i), some (.int t1), none, none, none]) cx qL_law_1461 hi5 rfl rfl ?_
  refine PW.aload_n cx qL_law_1463 rfl ?_
  refine PW.aload_n cx qL_law_1464 rfl ?_
  refine PW.iload cx qL_law_1465 rfl ?_
  refine PW.iconst (v := 1) cx qL_law_1467 rfl ?_
  refine PW.iadd cx qL_law_1468 ?_
  refine PW.sld cx qL_law_1469 hX hbB ha1 ?_
  refine PW.aload_n cx qL_law_1470 rfl ?_
  refine PW.iload cx qL_law_1471 rfl ?_
  refine PW.iconst (v := 2) cx qL_law_1473 rfl ?_
  refine PW.iadd cx qL_law_1474 ?_
  refine PW.sld cx qL_law_1475 hX hbB ha2 ?_
  refine PW.callVWIc (As := [.int a1, .int a2]) (st := []) cx hR qL_law_1476 klL_302 mvX7_whyNoSleep (sh_140 hm) rfl rfl rfl rfl (Nat.le_of_ble_eq_true rfl) (Nat.le_of_ble_eq_true rfl) (Nat.le_of_ble_eq_true rfl) (by omega) (by omega) hf sne (fun t e => ctX7_whyNoSleep hm h2 a1 a2 t e) (fun t3 h4 hf => ?_)
  refine PW.istore (L' := [some (.ref b), some (.ref (gB g + 0)), some (.ref (gB g + 140)), some (.ref (gB g + 150)), some (.int i), some (.int t1), some (.int t3), none, none]) cx qL_law_1479 hi6 rfl rfl ?_
  refine PW.goto cx qL_law_1481 ?_
  cases hf
  exact PW.widen (by omega) (by omega) (PW.locs (Lsub.keep (Lsub.keep (Lsub.keep (Lsub.keep (Lsub.keep (Lsub.drop (Lsub.drop (Lsub.drop (Lsub.drop Lsub.nil))))))))) kk)
set_option maxRecDepth 20000 in
theorem ctK_43 {g : GT} {X : XT} {Q : State → Prop} {cells slots b N : Nat} {xs : Nat → Int32} {sh : List Shp} {i : Int32} {a1 : Int32} {a2 : Int32} (hx : XSh sh) (hm : MSh sh) (ho : sh[150]? = some (.inr (3, 1, []))) (cx : Cx g X RL code) (hR : RmG X.2.2.1 40 601024 7293034) (hml : X.2.2.2.2.2.2.2.2.maxLocals = 9) (hX : va_X b N xs X.2.2.2.1 X.2.2.2.1.heap) (hbB : b < X.2.2.2.1.heap.size ∧ b < gB g) (ha1 : vp_in (i + 1) N ∧ xs (i + 1).toNatClampNeg = a1) (ha2 : vp_in (i + 2) N ∧ xs (i + 2).toNatClampNeg = a2) (hc : cells + 4 ≤ 601024) (hs : slots + 24 ≤ 7293034) (h r : Hp) (hf : K_43 h a1 a2 = some r) (kk : PW g X false Q (cells + 4) (slots + 24) sh r 1989 [some (.ref b), some (.ref (gB g + 0)), some (.ref (gB g + 140)), some (.ref (gB g + 150)), some (.int i), none, none, none, none] []) : PW g X false Q cells slots sh h 1484 [some (.ref b), some (.ref (gB g + 0)), some (.ref (gB g + 140)), some (.ref (gB g + 150)), some (.int i), none, none, none, none] [] := by
  have hi5 : 5 < X.2.2.2.2.2.2.2.2.maxLocals := by rw [hml]; exact Nat.le_of_ble_eq_true rfl
  have hi6 : 6 < X.2.2.2.2.2.2.2.2.maxLocals := by rw [hml]; exact Nat.le_of_ble_eq_true rfl
  have hi7 : 7 < X.2.2.2.2.2.2.2.2.maxLocals := by rw [hml]; exact Nat.le_of_ble_eq_true rfl
  have hi8 : 8 < X.2.2.2.2.2.2.2.2.maxLocals := by rw [hml]; exact Nat.le_of_ble_eq_true rfl
  unfold K_43 at hf
  refine PW.aload_n cx qL_law_1484 rfl ?_
  refine PW.aload_n cx qL_law_1485 rfl ?_
  refine PW.iload cx qL_law_1486 rfl ?_
  refine PW.iconst (v := 1) cx qL_law_1488 rfl ?_
  refine PW.iadd cx qL_law_1489 ?_
  refine PW.sld cx qL_law_1490 hX hbB ha1 ?_
  refine PW.aload_n cx qL_law_1491 rfl ?_
  refine PW.iload cx qL_law_1492 rfl ?_
  refine PW.iconst (v := 2) cx qL_law_1494 rfl ?_
  refine PW.iadd cx qL_law_1495 ?_
  refine PW.sld cx qL_law_1496 hX hbB ha2 ?_
  refine PW.aload_n cx qL_law_1497 rfl ?_
  refine PW.callWI (As := [.ref (gB g + 0), .int a1, .int a2, .ref (gB g + 150)]) (st := []) cx hR qL_law_1498 kw303 mw_bedFor rfl rfl (Nat.le_of_ble_eq_true rfl) (Nat.le_of_ble_eq_true rfl) (Nat.le_of_ble_eq_true rfl) (by omega) (by omega) hf sne (fun t e => ctL_bedFor hx ho h a1 a2 t e) (fun t1 h2 hf => ?_)
  refine PW.istore (L' := [some (.ref b), some (.ref (gB g + 0)), some (.ref (gB g + 140)), some (.ref (gB g + 150)), some (.int i), some (.int t1), none, none, none]) cx qL_law_1501 hi5 rfl rfl ?_
  refine PW.aload_n cx qL_law_1503 rfl ?_
  refine PW.aload_n cx qL_law_1504 rfl ?_
  refine PW.iload cx qL_law_1505 rfl ?_
  refine PW.iconst (v := 1) cx qL_law_1507 rfl ?_
  refine PW.iadd cx qL_law_1508 ?_
  refine PW.sld cx qL_law_1509 hX hbB ha1 ?_
  refine PW.aload_n cx qL_law_1510 rfl ?_
  refine PW.iload cx qL_law_1511 rfl ?_
  refine PW.iconst (v := 2) cx qL_law_1513 rfl ?_
  refine PW.iadd cx qL_law_1514 ?_
  refine PW.sld cx qL_law_1515 hX hbB ha2 ?_
  refine PW.callVWIc (As := [.int a1, .int a2]) (st := []) cx hR qL_law_1516 klL_305 mvX7_bedFor (sh_140 hm) rfl rfl rfl rfl (Nat.le_of_ble_eq_true rfl) (Nat.le_of_ble_eq_true rfl) (Nat.le_of_ble_eq_true rfl) (by omega) (by omega) hf sne (fun t e => ctX7_bedFor hm h2 a1 a2 t e) (fun t3 h4 hf => ?_)
  refine PW.istore (L' := [some (.ref b), some (.ref (gB g + 0)), some (.ref (gB g + 140)), some (.ref (gB g + 150)), some (.int i), some (.int t1), some (.int t3), none, none]) cx qL_law_1519 hi6 rfl rfl ?_
  refine PW.goto cx qL_law_1521 ?_
  cases hf
  exact PW.widen (by omega) (by omega) (PW.locs (Lsub.keep (Lsub.keep (Lsub.keep (Lsub.keep (Lsub.keep (Lsub.drop (Lsub.drop (Lsub.drop (Lsub.drop Lsub.nil))))))))) kk)
set_option maxRecDepth 20000 in
theorem ctK_44 {g : GT} {X : XT} {Q : State → Prop} {cells slots b N : Nat} {xs : Nat → Int32} {sh : List Shp} {i : Int32} {a1 : Int32} {a2 : Int32} (hx : XSh sh) (hm : MSh sh) (ho : sh[150]? = some (.inr (3, 1, []))) (cx : Cx g X RL code) (hR : RmG X.2.2.1 40 601024 7293034) (hml : X.2.2.2.2.2.2.2.2.maxLocals = 9) (hX : va_X b N xs X.2.2.2.1 X.2.2.2.1.heap) (hbB : b < X.2.2.2.1.heap.size ∧ b < gB g) (ha1 : vp_in (i + 1) N ∧ xs (i + 1).toNatClampNeg = a1) (ha2 : vp_in (i + 2) N ∧ xs (i + 2).toNatClampNeg = a2) (hc : cells + 4 ≤ 601024) (hs : slots + 24 ≤ 7293034) (h r : Hp) (hf : K_44 h a1 a2 = some r) (kk : PW g X false Q (cells + 4) (slots + 24) sh r 1989 [some (.ref b), some (.ref (gB g + 0)), some (.ref (gB g + 140)), some (.ref (gB g + 150)), some (.int i), none, none, none, none] []) : PW g X false Q cells slots sh h 1524 [some (.ref b), some (.ref (gB g + 0)), some (.ref (gB g + 140)), some (.ref (gB g + 150)), some (.int i), none, none, none, none] [] := by
  have hi5 : 5 < X.2.2.2.2.2.2.2.2.maxLocals := by rw [hml]; exact Nat.le_of_ble_eq_true rfl
  have hi6 : 6 < X.2.2.2.2.2.2.2.2.maxLocals := by rw [hml]; exact Nat.le_of_ble_eq_true rfl
  have hi7 : 7 < X.2.2.2.2.2.2.2.2.maxLocals := by rw [hml]; exact Nat.le_of_ble_eq_true rfl
  have hi8 : 8 < X.2.2.2.2.2.2.2.2.maxLocals := by rw [hml]; exact Nat.le_of_ble_eq_true rfl
  unfold K_44 at hf
  refine PW.aload_n cx qL_law_1524 rfl ?_
  refine PW.aload_n cx qL_law_1525 rfl ?_
  refine PW.iload cx qL_law_1526 rfl ?_
  refine PW.iconst (v := 1) cx qL_law_1528 rfl ?_
  refine PW.iadd cx qL_law_1529 ?_
  refine PW.sld cx qL_law_1530 hX hbB ha1 ?_
  refine PW.aload_n cx qL_law_1531 rfl ?_
  refine PW.iload cx qL_law_1532 rfl ?_
  refine PW.iconst (v := 2) cx qL_law_1534 rfl ?_
  refine PW.iadd cx qL_law_1535 ?_
  refine PW.sld cx qL_law_1536 hX hbB ha2 ?_
  refine PW.aload_n cx qL_law_1537 rfl ?_
  refine PW.callWI (As := [.ref (gB g + 0), .int a1, .int a2, .ref (gB g + 150)]) (st := []) cx hR qL_law_1538 kw306 mw_looksFor rfl rfl (Nat.le_of_ble_eq_true rfl) (Nat.le_of_ble_eq_true rfl) (Nat.le_of_ble_eq_true rfl) (by omega) (by omega) hf sne (fun t e => ctL_looksFor hx ho h a1 a2 t e) (fun t1 h2 hf => ?_)
  refine PW.istore (L' := [some (.ref b), some (.ref (gB g + 0)), some (.ref (gB g + 140)), some (.ref (gB g + 150)), some (.int i), some (.int t1), none, none, none]) cx qL_law_1541 hi5 rfl rfl ?_
  refine PW.aload_n cx qL_law_1543 rfl ?_
  refine PW.aload_n cx qL_law_1544 rfl ?_
  refine PW.iload cx qL_law_1545 rfl ?_
  refine PW.iconst (v := 1) cx qL_law_1547 rfl ?_
  refine PW.iadd cx qL_law_1548 ?_
  refine PW.sld cx qL_law_1549 hX hbB ha1 ?_
  refine PW.aload_n cx qL_law_1550 rfl ?_
  refine PW.iload cx qL_law_1551 rfl ?_
  refine PW.iconst (v := 2) cx qL_law_1553 rfl ?_
  refine PW.iadd cx qL_law_1554 ?_
  refine PW.sld cx qL_law_1555 hX hbB ha2 ?_
  refine PW.callVWIc (As := [.int a1, .int a2]) (st := []) cx hR qL_law_1556 klL_308 mvX7_looksFor (sh_140 hm) rfl rfl rfl rfl (Nat.le_of_ble_eq_true rfl) (Nat.le_of_ble_eq_true rfl) (Nat.le_of_ble_eq_true rfl) (by omega) (by omega) hf sne (fun t e => ctX7_looksFor hm h2 a1 a2 t e) (fun t3 h4 hf => ?_)
  refine PW.istore (L' := [some (.ref b), some (.ref (gB g + 0)), some (.ref (gB g + 140)), some (.ref (gB g + 150)), some (.int i), some (.int t1), some (.int t3), none, none]) cx qL_law_1559 hi6 rfl rfl ?_
  refine PW.goto cx qL_law_1561 ?_
  cases hf
  exact PW.widen (by omega) (by omega) (PW.locs (Lsub.keep (Lsub.keep (Lsub.keep (Lsub.keep (Lsub.keep (Lsub.drop (Lsub.drop (Lsub.drop (Lsub.drop Lsub.nil))))))))) kk)
set_option maxRecDepth 20000 in
theorem ctK_45 {g : GT} {X : XT} {Q : State → Prop} {cells slots b N : Nat} {xs : Nat → Int32} {sh : List Shp} {i : Int32} {a1 : Int32} (hx : XSh sh) (hm : MSh sh) (ho : sh[150]? = some (.inr (3, 1, []))) (cx : Cx g X RL code) (hR : RmG X.2.2.1 40 601024 7293034) (hml : X.2.2.2.2.2.2.2.2.maxLocals = 9) (hX : va_X b N xs X.2.2.2.1 X.2.2.2.1.heap) (hbB : b < X.2.2.2.1.heap.size ∧ b < gB g) (ha1 : vp_in (i + 1) N ∧ xs (i + 1).toNatClampNeg = a1) (hc : cells + 4 ≤ 601024) (hs : slots + 24 ≤ 7293034) (h r : Hp) (hf : K_45 h a1 = some r) (kk : PW g X false Q (cells + 4) (slots + 24) sh r 1989 [some (.ref b), some (.ref (gB g + 0)), some (.ref (gB g + 140)), some (.ref (gB g + 150)), some (.int i), none, none, none, none] []) : PW g X false Q cells slots sh h 1564 [some (.ref b), some (.ref (gB g + 0)), some (.ref (gB g + 140)), some (.ref (gB g + 150)), some (.int i), none, none, none, none] [] := by
  have hi5 : 5 < X.2.2.2.2.2.2.2.2.maxLocals := by rw [hml]; exact Nat.le_of_ble_eq_true rfl
  have hi6 : 6 < X.2.2.2.2.2.2.2.2.maxLocals := by rw [hml]; exact Nat.le_of_ble_eq_true rfl
  have hi7 : 7 < X.2.2.2.2.2.2.2.2.maxLocals := by rw [hml]; exact Nat.le_of_ble_eq_true rfl
  have hi8 : 8 < X.2.2.2.2.2.2.2.2.maxLocals := by rw [hml]; exact Nat.le_of_ble_eq_true rfl
  unfold K_45 at hf
  refine PW.aload_n cx qL_law_1564 rfl ?_
  refine PW.aload_n cx qL_law_1565 rfl ?_
  refine PW.iload cx qL_law_1566 rfl ?_
  refine PW.iconst (v := 1) cx qL_law_1568 rfl ?_
  refine PW.iadd cx qL_law_1569 ?_
  refine PW.sld cx qL_law_1570 hX hbB ha1 ?_
  refine PW.aload_n cx qL_law_1571 rfl ?_
  refine PW.callWI (As := [.ref (gB g + 0), .int a1, .ref (gB g + 150)]) (st := []) cx hR qL_law_1572 kw309 mw_longestLook rfl rfl (Nat.le_of_ble_eq_true rfl) (Nat.le_of_ble_eq_true rfl) (Nat.le_of_ble_eq_true rfl) (by omega) (by omega) hf sne (fun t e => ctL_longestLook hx ho h a1 t e) (fun t1 h2 hf => ?_)
  refine PW.istore (L' := [some (.ref b), some (.ref (gB g + 0)), some (.ref (gB g + 140)), some (.ref (gB g + 150)), some (.int i), some (.int t1), none, none, none]) cx qL_law_1575 hi5 rfl rfl ?_
  refine PW.aload_n cx qL_law_1577 rfl ?_
  refine PW.aload_n cx qL_law_1578 rfl ?_
  refine PW.iload cx qL_law_1579 rfl ?_
  refine PW.iconst (v := 1) cx qL_law_1581 rfl ?_
  refine PW.iadd cx qL_law_1582 ?_
  refine PW.sld cx qL_law_1583 hX hbB ha1 ?_
  refine PW.callVWIc (As := [.int a1]) (st := []) cx hR qL_law_1584 klL_311 mvX7_longestLook (sh_140 hm) rfl rfl rfl rfl (Nat.le_of_ble_eq_true rfl) (Nat.le_of_ble_eq_true rfl) (Nat.le_of_ble_eq_true rfl) (by omega) (by omega) hf sne (fun t e => ctX7_longestLook hm h2 a1 t e) (fun t3 h4 hf => ?_)
  refine PW.istore (L' := [some (.ref b), some (.ref (gB g + 0)), some (.ref (gB g + 140)), some (.ref (gB g + 150)), some (.int i), some (.int t1), some (.int t3), none, none]) cx qL_law_1587 hi6 rfl rfl ?_
  refine PW.goto cx qL_law_1589 ?_
  cases hf
  exact PW.widen (by omega) (by omega) (PW.locs (Lsub.keep (Lsub.keep (Lsub.keep (Lsub.keep (Lsub.keep (Lsub.drop (Lsub.drop (Lsub.drop (Lsub.drop Lsub.nil))))))))) kk)
set_option maxRecDepth 20000 in
theorem ctK_46 {g : GT} {X : XT} {Q : State → Prop} {cells slots b N : Nat} {xs : Nat → Int32} {sh : List Shp} {i : Int32} {a1 : Int32} (hx : XSh sh) (hm : MSh sh) (ho : sh[150]? = some (.inr (3, 1, []))) (cx : Cx g X RL code) (hR : RmG X.2.2.1 40 601024 7293034) (hml : X.2.2.2.2.2.2.2.2.maxLocals = 9) (hX : va_X b N xs X.2.2.2.1 X.2.2.2.1.heap) (hbB : b < X.2.2.2.1.heap.size ∧ b < gB g) (ha1 : vp_in (i + 1) N ∧ xs (i + 1).toNatClampNeg = a1) (hc : cells + 4 ≤ 601024) (hs : slots + 24 ≤ 7293034) (h r : Hp) (hf : K_46 h a1 = some r) (kk : PW g X false Q (cells + 4) (slots + 24) sh r 1989 [some (.ref b), some (.ref (gB g + 0)), some (.ref (gB g + 140)), some (.ref (gB g + 150)), some (.int i), none, none, none, none] []) : PW g X false Q cells slots sh h 1592 [some (.ref b), some (.ref (gB g + 0)), some (.ref (gB g + 140)), some (.ref (gB g + 150)), some (.int i), none, none, none, none] [] := by
  have hi5 : 5 < X.2.2.2.2.2.2.2.2.maxLocals := by rw [hml]; exact Nat.le_of_ble_eq_true rfl
  have hi6 : 6 < X.2.2.2.2.2.2.2.2.maxLocals := by rw [hml]; exact Nat.le_of_ble_eq_true rfl
  have hi7 : 7 < X.2.2.2.2.2.2.2.2.maxLocals := by rw [hml]; exact Nat.le_of_ble_eq_true rfl
  have hi8 : 8 < X.2.2.2.2.2.2.2.2.maxLocals := by rw [hml]; exact Nat.le_of_ble_eq_true rfl
  unfold K_46 at hf
  refine PW.aload_n cx qL_law_1592 rfl ?_
  refine PW.aload_n cx qL_law_1593 rfl ?_
  refine PW.iload cx qL_law_1594 rfl ?_
  refine PW.iconst (v := 1) cx qL_law_1596 rfl ?_
  refine PW.iadd cx qL_law_1597 ?_
  refine PW.sld cx qL_law_1598 hX hbB ha1 ?_
  refine PW.aload_n cx qL_law_1599 rfl ?_
  refine PW.callWI (As := [.ref (gB g + 0), .int a1, .ref (gB g + 150)]) (st := []) cx hR qL_law_1600 kw312 mw_looksIfAired rfl rfl (Nat.le_of_ble_eq_true rfl) (Nat.le_of_ble_eq_true rfl) (Nat.le_of_ble_eq_true rfl) (by omega) (by omega) hf sne (fun t e => ctL_looksIfAired hx ho h a1 t e) (fun t1 h2 hf => ?_)
  refine PW.istore (L' := [some (.ref b), some (.ref (gB g + 0)), some (.ref (gB g + 140)), some (.ref (gB g + 150)), some (.int i), some (.int t1), none, none, none]) cx qL_law_1603 hi5 rfl rfl ?_
  refine PW.aload_n cx qL_law_1605 rfl ?_
  refine PW.aload_n cx qL_law_1606 rfl ?_
  refine PW.iload cx qL_law_1607 rfl ?_
  refine PW.iconst (v := 1) cx qL_law_1609 rfl ?_
  refine PW.iadd cx qL_law_1610 ?_
  refine PW.sld cx qL_law_1611 hX hbB ha1 ?_
  refine PW.callVWIc (As := [.int a1]) (st := []) cx hR qL_law_1612 klL_314 mvX7_looksIfAired (sh_140 hm) rfl rfl rfl rfl (Nat.le_of_ble_eq_true rfl) (Nat.le_of_ble_eq_true rfl) (Nat.le_of_ble_eq_true rfl) (by omega) (by omega) hf sne (fun t e => ctX7_looksIfAired hm h2 a1 t e) (fun t3 h4 hf => ?_)
  refine PW.istore (L' := [some (.ref b), some (.ref (gB g + 0)), some (.ref (gB g + 140)), some (.ref (gB g + 150)), some (.int i), some (.int t1), some (.int t3), none, none]) cx qL_law_1615 hi6 rfl rfl ?_
  refine PW.goto cx qL_law_1617 ?_
  cases hf
  exact PW.widen (by omega) (by omega) (PW.locs (Lsub.keep (Lsub.keep (Lsub.keep (Lsub.keep (Lsub.keep (Lsub.drop (Lsub.drop (Lsub.drop (Lsub.drop Lsub.nil))))))))) kk)
set_option maxRecDepth 20000 in
theorem ctK_47 {g : GT} {X : XT} {Q : State → Prop} {cells slots b N : Nat} {xs : Nat → Int32} {sh : List Shp} {i : Int32} {a1 : Int32} (hx : XSh sh) (hm : MSh sh) (ho : sh[150]? = some (.inr (3, 1, []))) (cx : Cx g X RL code) (hR : RmG X.2.2.1 40 601024 7293034) (hml : X.2.2.2.2.2.2.2.2.maxLocals = 9) (hX : va_X b N xs X.2.2.2.1 X.2.2.2.1.heap) (hbB : b < X.2.2.2.1.heap.size ∧ b < gB g) (ha1 : vp_in (i + 1) N ∧ xs (i + 1).toNatClampNeg = a1) (hc : cells + 4 ≤ 601024) (hs : slots + 24 ≤ 7293034) (h r : Hp) (hf : K_47 h a1 = some r) (kk : PW g X false Q (cells + 4) (slots + 24) sh r 1989 [some (.ref b), some (.ref (gB g + 0)), some (.ref (gB g + 140)), some (.ref (gB g + 150)), some (.int i), none, none, none, none] []) : PW g X false Q cells slots sh h 1620 [some (.ref b), some (.ref (gB g + 0)), some (.ref (gB g + 140)), some (.ref (gB g + 150)), some (.int i), none, none, none, none] [] := by
  have hi5 : 5 < X.2.2.2.2.2.2.2.2.maxLocals := by rw [hml]; exact Nat.le_of_ble_eq_true rfl
  have hi6 : 6 < X.2.2.2.2.2.2.2.2.maxLocals := by rw [hml]; exact Nat.le_of_ble_eq_true rfl
  have hi7 : 7 < X.2.2.2.2.2.2.2.2.maxLocals := by rw [hml]; exact Nat.le_of_ble_eq_true rfl
  have hi8 : 8 < X.2.2.2.2.2.2.2.2.maxLocals := by rw [hml]; exact Nat.le_of_ble_eq_true rfl
  unfold K_47 at hf
  refine PW.aload_n cx qL_law_1620 rfl ?_
  refine PW.aload_n cx qL_law_1621 rfl ?_
  refine PW.iload cx qL_law_1622 rfl ?_
  refine PW.iconst (v := 1) cx qL_law_1624 rfl ?_
  refine PW.iadd cx qL_law_1625 ?_
  refine PW.sld cx qL_law_1626 hX hbB ha1 ?_
  refine PW.aload_n cx qL_law_1627 rfl ?_
  refine PW.callWI (As := [.ref (gB g + 0), .int a1, .ref (gB g + 150)]) (st := []) cx hR qL_law_1628 kw315 mw_longestCluster rfl rfl (Nat.le_of_ble_eq_true rfl) (Nat.le_of_ble_eq_true rfl) (Nat.le_of_ble_eq_true rfl) (by omega) (by omega) hf sne (fun t e => ctL_longestCluster hx ho h a1 t e) (fun t1 h2 hf => ?_)
  refine PW.istore (L' := [some (.ref b), some (.ref (gB g + 0)), some (.ref (gB g + 140)), some (.ref (gB g + 150)), some (.int i), some (.int t1), none, none, none]) cx qL_law_1631 hi5 rfl rfl ?_
  refine PW.aload_n cx qL_law_1633 rfl ?_
  refine PW.aload_n cx qL_law_1634 rfl ?_
  refine PW.iload cx qL_law_1635 rfl ?_
  refine PW.iconst (v := 1) cx qL_law_1637 rfl ?_
  refine PW.iadd cx qL_law_1638 ?_
  refine PW.sld cx qL_law_1639 hX hbB ha1 ?_
  refine PW.callVWIc (As := [.int a1]) (st := []) cx hR qL_law_1640 klL_317 mvX7_longestCluster (sh_140 hm) rfl rfl rfl rfl (Nat.le_of_ble_eq_true rfl) (Nat.le_of_ble_eq_true rfl) (Nat.le_of_ble_eq_true rfl) (by omega) (by omega) hf sne (fun t e => ctX7_longestCluster hm h2 a1 t e) (fun t3 h4 hf => ?_)
  refine PW.istore (L' := [some (.ref b), some (.ref (gB g + 0)), some (.ref (gB g + 140)), some (.ref (gB g + 150)), some (.int i), some (.int t1), some (.int t3), none, none]) cx qL_law_1643 hi6 rfl rfl ?_
  refine PW.goto cx qL_law_1645 ?_
  cases hf
  exact PW.widen (by omega) (by omega) (PW.locs (Lsub.keep (Lsub.keep (Lsub.keep (Lsub.keep (Lsub.keep (Lsub.drop (Lsub.drop (Lsub.drop (Lsub.drop Lsub.nil))))))))) kk)
set_option maxRecDepth 20000 in
theorem ctK_48 {g : GT} {X : XT} {Q : State → Prop} {cells slots b N : Nat} {xs : Nat → Int32} {sh : List Shp} {i : Int32} {a1 : Int32} (hx : XSh sh) (hm : MSh sh) (ho : sh[150]? = some (.inr (3, 1, []))) (cx : Cx g X RL code) (hR : RmG X.2.2.1 40 601024 7293034) (hml : X.2.2.2.2.2.2.2.2.maxLocals = 9) (hX : va_X b N xs X.2.2.2.1 X.2.2.2.1.heap) (hbB : b < X.2.2.2.1.heap.size ∧ b < gB g) (ha1 : vp_in (i + 1) N ∧ xs (i + 1).toNatClampNeg = a1) (hc : cells + 4 ≤ 601024) (hs : slots + 24 ≤ 7293034) (h r : Hp) (hf : K_48 h a1 = some r) (kk : PW g X false Q (cells + 4) (slots + 24) sh r 1989 [some (.ref b), some (.ref (gB g + 0)), some (.ref (gB g + 140)), some (.ref (gB g + 150)), some (.int i), none, none, none, none] []) : PW g X false Q cells slots sh h 1648 [some (.ref b), some (.ref (gB g + 0)), some (.ref (gB g + 140)), some (.ref (gB g + 150)), some (.int i), none, none, none, none] [] := by
  have hi5 : 5 < X.2.2.2.2.2.2.2.2.maxLocals := by rw [hml]; exact Nat.le_of_ble_eq_true rfl
  have hi6 : 6 < X.2.2.2.2.2.2.2.2.maxLocals := by rw [hml]; exact Nat.le_of_ble_eq_true rfl
  have hi7 : 7 < X.2.2.2.2.2.2.2.2.maxLocals := by rw [hml]; exact Nat.le_of_ble_eq_true rfl
  have hi8 : 8 < X.2.2.2.2.2.2.2.2.maxLocals := by rw [hml]; exact Nat.le_of_ble_eq_true rfl
  unfold K_48 at hf
  refine PW.aload_n cx qL_law_1648 rfl ?_
  refine PW.aload_n cx qL_law_1649 rfl ?_
  refine PW.iload cx qL_law_1650 rfl ?_
  refine PW.iconst (v := 1) cx qL_law_1652 rfl ?_
  refine PW.iadd cx qL_law_1653 ?_
  refine PW.sld cx qL_law_1654 hX hbB ha1 ?_
  refine PW.aload_n cx qL_law_1655 rfl ?_
  refine PW.callWI (As := [.ref (gB g + 0), .int a1, .ref (gB g + 150)]) (st := []) cx hR qL_law_1656 kw318 mw_bestReel rfl rfl (Nat.le_of_ble_eq_true rfl) (Nat.le_of_ble_eq_true rfl) (Nat.le_of_ble_eq_true rfl) (by omega) (by omega) hf sne (fun t e => ctL_bestReel hx ho h a1 t e) (fun t1 h2 hf => ?_)
  refine PW.istore (L' := [some (.ref b), some (.ref (gB g + 0)), some (.ref (gB g + 140)), some (.ref (gB g + 150)), some (.int i), some (.int t1), none, none, none]) cx qL_law_1659 hi5 rfl rfl ?_
  refine PW.aload_n cx qL_law_1661 rfl ?_
  refine PW.aload_n cx qL_law_1662 rfl ?_
  refine PW.iload cx qL_law_1663 rfl ?_
  refine PW.iconst (v := 1) cx qL_law_1665 rfl ?_
  refine PW.iadd cx qL_law_1666 ?_
  refine PW.sld cx qL_law_1667 hX hbB ha1 ?_
  refine PW.callVWIc (As := [.int a1]) (st := []) cx hR qL_law_1668 klL_320 mvX7_bestReel (sh_140 hm) rfl rfl rfl rfl (Nat.le_of_ble_eq_true rfl) (Nat.le_of_ble_eq_true rfl) (Nat.le_of_ble_eq_true rfl) (by omega) (by omega) hf sne (fun t e => ctX7_bestReel hm h2 a1 t e) (fun t3 h4 hf => ?_)
  refine PW.istore (L' := [some (.ref b), some (.ref (gB g + 0)), some (.ref (gB g + 140)), some (.ref (gB g + 150)), some (.int i), some (.int t1), some (.int t3), none, none]) cx qL_law_1671 hi6 rfl rfl ?_
  refine PW.goto cx qL_law_1673 ?_
  cases hf
  exact PW.widen (by omega) (by omega) (PW.locs (Lsub.keep (Lsub.keep (Lsub.keep (Lsub.keep (Lsub.keep (Lsub.drop (Lsub.drop (Lsub.drop (Lsub.drop Lsub.nil))))))))) kk)
set_option maxRecDepth 20000 in
theorem ctK_49 {g : GT} {X : XT} {Q : State → Prop} {cells slots b N : Nat} {xs : Nat → Int32} {sh : List Shp} {i : Int32} {a1 : Int32} {a2 : Int32} (hx : XSh sh) (hm : MSh sh) (ho : sh[150]? = some (.inr (3, 1, []))) (cx : Cx g X RL code) (hR : RmG X.2.2.1 40 601024 7293034) (hml : X.2.2.2.2.2.2.2.2.maxLocals = 9) (hX : va_X b N xs X.2.2.2.1 X.2.2.2.1.heap) (hbB : b < X.2.2.2.1.heap.size ∧ b < gB g) (ha1 : vp_in (i + 1) N ∧ xs (i + 1).toNatClampNeg = a1) (ha2 : vp_in (i + 2) N ∧ xs (i + 2).toNatClampNeg = a2) (hc : cells + 4 ≤ 601024) (hs : slots + 24 ≤ 7293034) (h r : Hp) (hf : K_49 h a1 a2 = some r) (kk : PW g X false Q (cells + 4) (slots + 24) sh r 1989 [some (.ref b), some (.ref (gB g + 0)), some (.ref (gB g + 140)), some (.ref (gB g + 150)), some (.int i), none, none, none, none] []) : PW g X false Q cells slots sh h 1676 [some (.ref b), some (.ref (gB g + 0)), some (.ref (gB g + 140)), some (.ref (gB g + 150)), some (.int i), none, none, none, none] [] := by
  have hi5 : 5 < X.2.2.2.2.2.2.2.2.maxLocals := by rw [hml]; exact Nat.le_of_ble_eq_true rfl
  have hi6 : 6 < X.2.2.2.2.2.2.2.2.maxLocals := by rw [hml]; exact Nat.le_of_ble_eq_true rfl
  have hi7 : 7 < X.2.2.2.2.2.2.2.2.maxLocals := by rw [hml]; exact Nat.le_of_ble_eq_true rfl
  have hi8 : 8 < X.2.2.2.2.2.2.2.2.maxLocals := by rw [hml]; exact Nat.le_of_ble_eq_true rfl
  unfold K_49 at hf
  refine PW.aload_n cx qL_law_1676 rfl ?_
  refine PW.aload_n cx qL_law_1677 rfl ?_
  refine PW.iload cx qL_law_1678 rfl ?_
  refine PW.iconst (v := 1) cx qL_law_1680 rfl ?_
  refine PW.iadd cx qL_law_1681 ?_
  refine PW.sld cx qL_law_1682 hX hbB ha1 ?_
  refine PW.aload_n cx qL_law_1683 rfl ?_
  refine PW.iload cx qL_law_1684 rfl ?_
  refine PW.iconst (v := 2) cx qL_law_1686 rfl ?_
  refine PW.iadd cx qL_law_1687 ?_
  refine PW.sld cx qL_law_1688 hX hbB ha2 ?_
  refine PW.aload_n cx qL_law_1689 rfl ?_
  refine PW.callWI (As := [.ref (gB g + 0), .int a1, .int a2, .ref (gB g + 150)]) (st := []) cx hR qL_law_1690 kw321 mw_matches rfl rfl (Nat.le_of_ble_eq_true rfl) (Nat.le_of_ble_eq_true rfl) (Nat.le_of_ble_eq_true rfl) (by omega) (by omega) hf sne (fun t e => ctL_matches hx ho h a1 a2 t e) (fun t1 h2 hf => ?_)
  refine PW.istore (L' := [some (.ref b), some (.ref (gB g + 0)), some (.ref (gB g + 140)), some (.ref (gB g + 150)), some (.int i), some (.int t1), none, none, none]) cx qL_law_1693 hi5 rfl rfl ?_
  refine PW.aload_n cx qL_law_1695 rfl ?_
  refine PW.aload_n cx qL_law_1696 rfl ?_
  refine PW.iload cx qL_law_1697 rfl ?_
  refine PW.iconst (v := 1) cx qL_law_1699 rfl ?_
  refine PW.iadd cx qL_law_1700 ?_
  refine PW.sld cx qL_law_1701 hX hbB ha1 ?_
  refine PW.aload_n cx qL_law_1702 rfl ?_
  refine PW.iload cx qL_law_1703 rfl ?_
  refine PW.iconst (v := 2) cx qL_law_1705 rfl ?_
  refine PW.iadd cx qL_law_1706 ?_
  refine PW.sld cx qL_law_1707 hX hbB ha2 ?_
  refine PW.callVWBc (As := [.int a1, .int a2]) (st := []) cx hR qL_law_1708 klL_323 mvX7_matches (sh_140 hm) rfl rfl rfl rfl (Nat.le_of_ble_eq_true rfl) (Nat.le_of_ble_eq_true rfl) (Nat.le_of_ble_eq_true rfl) (by omega) (by omega) hf sne (fun t e => ctX7_matches hm h2 a1 a2 t e) (fun t3 h4 hf => ?_)
  refine PW.istore (L' := [some (.ref b), some (.ref (gB g + 0)), some (.ref (gB g + 140)), some (.ref (gB g + 150)), some (.int i), some (.int t1), some (.int (b2i t3)), none, none]) cx qL_law_1711 hi6 rfl rfl ?_
  refine PW.goto cx qL_law_1713 ?_
  cases hf
  exact PW.widen (by omega) (by omega) (PW.locs (Lsub.keep (Lsub.keep (Lsub.keep (Lsub.keep (Lsub.keep (Lsub.drop (Lsub.drop (Lsub.drop (Lsub.drop Lsub.nil))))))))) kk)
set_option maxRecDepth 20000 in
theorem ctK_50 {g : GT} {X : XT} {Q : State → Prop} {cells slots b N : Nat} {xs : Nat → Int32} {sh : List Shp} {i : Int32} {a1 : Int32} (hx : XSh sh) (hm : MSh sh) (ho : sh[150]? = some (.inr (3, 1, []))) (cx : Cx g X RL code) (hR : RmG X.2.2.1 40 601024 7293034) (hml : X.2.2.2.2.2.2.2.2.maxLocals = 9) (hX : va_X b N xs X.2.2.2.1 X.2.2.2.1.heap) (hbB : b < X.2.2.2.1.heap.size ∧ b < gB g) (ha1 : vp_in (i + 1) N ∧ xs (i + 1).toNatClampNeg = a1) (hc : cells + 4 ≤ 601024) (hs : slots + 24 ≤ 7293034) (h r : Hp) (hf : K_50 h a1 = some r) (kk : PW g X false Q (cells + 4) (slots + 24) sh r 1989 [some (.ref b), some (.ref (gB g + 0)), some (.ref (gB g + 140)), some (.ref (gB g + 150)), some (.int i), none, none, none, none] []) : PW g X false Q cells slots sh h 1716 [some (.ref b), some (.ref (gB g + 0)), some (.ref (gB g + 140)), some (.ref (gB g + 150)), some (.int i), none, none, none, none] [] := by
  have hi5 : 5 < X.2.2.2.2.2.2.2.2.maxLocals := by rw [hml]; exact Nat.le_of_ble_eq_true rfl
  have hi6 : 6 < X.2.2.2.2.2.2.2.2.maxLocals := by rw [hml]; exact Nat.le_of_ble_eq_true rfl
  have hi7 : 7 < X.2.2.2.2.2.2.2.2.maxLocals := by rw [hml]; exact Nat.le_of_ble_eq_true rfl
  have hi8 : 8 < X.2.2.2.2.2.2.2.2.maxLocals := by rw [hml]; exact Nat.le_of_ble_eq_true rfl
  unfold K_50 at hf
  refine PW.aload_n cx qL_law_1716 rfl ?_
  refine PW.aload_n cx qL_law_1717 rfl ?_
  refine PW.iload cx qL_law_1718 rfl ?_
  refine PW.iconst (v := 1) cx qL_law_1720 rfl ?_
  refine PW.iadd cx qL_law_1721 ?_
  refine PW.sld cx qL_law_1722 hX hbB ha1 ?_
  refine PW.aload_n cx qL_law_1723 rfl ?_
  refine PW.callWI (As := [.ref (gB g + 0), .int a1, .ref (gB g + 150)]) (st := []) cx hR qL_law_1724 kw324 mw_matchingSleepers rfl rfl (Nat.le_of_ble_eq_true rfl) (Nat.le_of_ble_eq_true rfl) (Nat.le_of_ble_eq_true rfl) (by omega) (by omega) hf sne (fun t e => ctL_matchingSleepers hx ho h a1 t e) (fun t1 h2 hf => ?_)
  refine PW.istore (L' := [some (.ref b), some (.ref (gB g + 0)), some (.ref (gB g + 140)), some (.ref (gB g + 150)), some (.int i), some (.int t1), none, none, none]) cx qL_law_1727 hi5 rfl rfl ?_
  refine PW.aload_n cx qL_law_1729 rfl ?_
  refine PW.aload_n cx qL_law_1730 rfl ?_
  refine PW.iload cx qL_law_1731 rfl ?_
  refine PW.iconst (v := 1) cx qL_law_1733 rfl ?_
  refine PW.iadd cx qL_law_1734 ?_
  refine PW.sld cx qL_law_1735 hX hbB ha1 ?_
  refine PW.callVWIc (As := [.int a1]) (st := []) cx hR qL_law_1736 klL_326 mvX7_matchingSleepers (sh_140 hm) rfl rfl rfl rfl (Nat.le_of_ble_eq_true rfl) (Nat.le_of_ble_eq_true rfl) (Nat.le_of_ble_eq_true rfl) (by omega) (by omega) hf sne (fun t e => ctX7_matchingSleepers hm h2 a1 t e) (fun t3 h4 hf => ?_)
  refine PW.istore (L' := [some (.ref b), some (.ref (gB g + 0)), some (.ref (gB g + 140)), some (.ref (gB g + 150)), some (.int i), some (.int t1), some (.int t3), none, none]) cx qL_law_1739 hi6 rfl rfl ?_
  refine PW.goto cx qL_law_1741 ?_
  cases hf
  exact PW.widen (by omega) (by omega) (PW.locs (Lsub.keep (Lsub.keep (Lsub.keep (Lsub.keep (Lsub.keep (Lsub.drop (Lsub.drop (Lsub.drop (Lsub.drop Lsub.nil))))))))) kk)
set_option maxRecDepth 20000 in
theorem ctK_51 {g : GT} {X : XT} {Q : State → Prop} {cells slots b N : Nat} {xs : Nat → Int32} {sh : List Shp} {i : Int32} {a1 : Int32} {a2 : Int32} (hx : XSh sh) (hm : MSh sh) (ho : sh[150]? = some (.inr (3, 1, []))) (cx : Cx g X RL code) (hR : RmG X.2.2.1 40 601024 7293034) (hml : X.2.2.2.2.2.2.2.2.maxLocals = 9) (hX : va_X b N xs X.2.2.2.1 X.2.2.2.1.heap) (hbB : b < X.2.2.2.1.heap.size ∧ b < gB g) (ha1 : vp_in (i + 1) N ∧ xs (i + 1).toNatClampNeg = a1) (ha2 : vp_in (i + 2) N ∧ xs (i + 2).toNatClampNeg = a2) (hc : cells + 4 ≤ 601024) (hs : slots + 24 ≤ 7293034) (h r : Hp) (hf : K_51 h a1 a2 = some r) (kk : PW g X false Q (cells + 4) (slots + 24) sh r 1989 [some (.ref b), some (.ref (gB g + 0)), some (.ref (gB g + 140)), some (.ref (gB g + 150)), some (.int i), none, none, none, none] []) : PW g X false Q cells slots sh h 1744 [some (.ref b), some (.ref (gB g + 0)), some (.ref (gB g + 140)), some (.ref (gB g + 150)), some (.int i), none, none, none, none] [] := by
  have hi5 : 5 < X.2.2.2.2.2.2.2.2.maxLocals := by rw [hml]; exact Nat.le_of_ble_eq_true rfl
  have hi6 : 6 < X.2.2.2.2.2.2.2.2.maxLocals := by rw [hml]; exact Nat.le_of_ble_eq_true rfl
  have hi7 : 7 < X.2.2.2.2.2.2.2.2.maxLocals := by rw [hml]; exact Nat.le_of_ble_eq_true rfl
  have hi8 : 8 < X.2.2.2.2.2.2.2.2.maxLocals := by rw [hml]; exact Nat.le_of_ble_eq_true rfl
  unfold K_51 at hf
  refine PW.aload_n cx qL_law_1744 rfl ?_
  refine PW.aload_n cx qL_law_1745 rfl ?_
  refine PW.iload cx qL_law_1746 rfl ?_
  refine PW.iconst (v := 1) cx qL_law_1748 rfl ?_
  refine PW.iadd cx qL_law_1749 ?_
  refine PW.sld cx qL_law_1750 hX hbB ha1 ?_
  refine PW.aload_n cx qL_law_1751 rfl ?_
  refine PW.iload cx qL_law_1752 rfl ?_
  refine PW.iconst (v := 2) cx qL_law_1754 rfl ?_
  refine PW.iadd cx qL_law_1755 ?_
  refine PW.sld cx qL_law_1756 hX hbB ha2 ?_
  refine PW.aload_n cx qL_law_1757 rfl ?_
  refine PW.callWI (As := [.ref (gB g + 0), .int a1, .int a2, .ref (gB g + 150)]) (st := []) cx hR qL_law_1758 kw327 mw_wokenBy rfl rfl (Nat.le_of_ble_eq_true rfl) (Nat.le_of_ble_eq_true rfl) (Nat.le_of_ble_eq_true rfl) (by omega) (by omega) hf sne (fun t e => ctL_wokenBy hx ho h a1 a2 t e) (fun t1 h2 hf => ?_)
  refine PW.istore (L' := [some (.ref b), some (.ref (gB g + 0)), some (.ref (gB g + 140)), some (.ref (gB g + 150)), some (.int i), some (.int t1), none, none, none]) cx qL_law_1761 hi5 rfl rfl ?_
  refine PW.aload_n cx qL_law_1763 rfl ?_
  refine PW.aload_n cx qL_law_1764 rfl ?_
  refine PW.iload cx qL_law_1765 rfl ?_
  refine PW.iconst (v := 1) cx qL_law_1767 rfl ?_
  refine PW.iadd cx qL_law_1768 ?_
  refine PW.sld cx qL_law_1769 hX hbB ha1 ?_
  refine PW.aload_n cx qL_law_1770 rfl ?_
  refine PW.iload cx qL_law_1771 rfl ?_
  refine PW.iconst (v := 2) cx qL_law_1773 rfl ?_
  refine PW.iadd cx qL_law_1774 ?_
  refine PW.sld cx qL_law_1775 hX hbB ha2 ?_
  refine PW.callVWIc (As := [.int a1, .int a2]) (st := []) cx hR qL_law_1776 klL_329 mvX7_wokenBy (sh_140 hm) rfl rfl rfl rfl (Nat.le_of_ble_eq_true rfl) (Nat.le_of_ble_eq_true rfl) (Nat.le_of_ble_eq_true rfl) (by omega) (by omega) hf sne (fun t e => ctX7_wokenBy hm h2 a1 a2 t e) (fun t3 h4 hf => ?_)
  refine PW.istore (L' := [some (.ref b), some (.ref (gB g + 0)), some (.ref (gB g + 140)), some (.ref (gB g + 150)), some (.int i), some (.int t1), some (.int t3), none, none]) cx qL_law_1779 hi6 rfl rfl ?_
  refine PW.goto cx qL_law_1781 ?_
  cases hf
  exact PW.widen (by omega) (by omega) (PW.locs (Lsub.keep (Lsub.keep (Lsub.keep (Lsub.keep (Lsub.keep (Lsub.drop (Lsub.drop (Lsub.drop (Lsub.drop Lsub.nil))))))))) kk)
set_option maxRecDepth 20000 in
theorem ctK_52 {g : GT} {X : XT} {Q : State → Prop} {cells slots b N : Nat} {xs : Nat → Int32} {sh : List Shp} {i : Int32} {a1 : Int32} {a2 : Int32} (hx : XSh sh) (hm : MSh sh) (ho : sh[150]? = some (.inr (3, 1, []))) (cx : Cx g X RL code) (hR : RmG X.2.2.1 40 601024 7293034) (hml : X.2.2.2.2.2.2.2.2.maxLocals = 9) (hX : va_X b N xs X.2.2.2.1 X.2.2.2.1.heap) (hbB : b < X.2.2.2.1.heap.size ∧ b < gB g) (ha1 : vp_in (i + 1) N ∧ xs (i + 1).toNatClampNeg = a1) (ha2 : vp_in (i + 2) N ∧ xs (i + 2).toNatClampNeg = a2) (hc : cells + 4 ≤ 601024) (hs : slots + 24 ≤ 7293034) (h r : Hp) (hf : K_52 h a1 a2 = some r) (kk : PW g X false Q (cells + 4) (slots + 24) sh r 1989 [some (.ref b), some (.ref (gB g + 0)), some (.ref (gB g + 140)), some (.ref (gB g + 150)), some (.int i), none, none, none, none] []) : PW g X false Q cells slots sh h 1784 [some (.ref b), some (.ref (gB g + 0)), some (.ref (gB g + 140)), some (.ref (gB g + 150)), some (.int i), none, none, none, none] [] := by
  have hi5 : 5 < X.2.2.2.2.2.2.2.2.maxLocals := by rw [hml]; exact Nat.le_of_ble_eq_true rfl
  have hi6 : 6 < X.2.2.2.2.2.2.2.2.maxLocals := by rw [hml]; exact Nat.le_of_ble_eq_true rfl
  have hi7 : 7 < X.2.2.2.2.2.2.2.2.maxLocals := by rw [hml]; exact Nat.le_of_ble_eq_true rfl
  have hi8 : 8 < X.2.2.2.2.2.2.2.2.maxLocals := by rw [hml]; exact Nat.le_of_ble_eq_true rfl
  unfold K_52 at hf
  refine PW.aload_n cx qL_law_1784 rfl ?_
  refine PW.aload_n cx qL_law_1785 rfl ?_
  refine PW.iload cx qL_law_1786 rfl ?_
  refine PW.iconst (v := 1) cx qL_law_1788 rfl ?_
  refine PW.iadd cx qL_law_1789 ?_
  refine PW.sld cx qL_law_1790 hX hbB ha1 ?_
  refine PW.aload_n cx qL_law_1791 rfl ?_
  refine PW.iload cx qL_law_1792 rfl ?_
  refine PW.iconst (v := 2) cx qL_law_1794 rfl ?_
  refine PW.iadd cx qL_law_1795 ?_
  refine PW.sld cx qL_law_1796 hX hbB ha2 ?_
  refine PW.aload_n cx qL_law_1797 rfl ?_
  refine PW.callWI (As := [.ref (gB g + 0), .int a1, .int a2, .ref (gB g + 150)]) (st := []) cx hR qL_law_1798 kw330 mw_firstMatch rfl rfl (Nat.le_of_ble_eq_true rfl) (Nat.le_of_ble_eq_true rfl) (Nat.le_of_ble_eq_true rfl) (by omega) (by omega) hf sne (fun t e => ctL_firstMatch hx ho h a1 a2 t e) (fun t1 h2 hf => ?_)
  refine PW.istore (L' := [some (.ref b), some (.ref (gB g + 0)), some (.ref (gB g + 140)), some (.ref (gB g + 150)), some (.int i), some (.int t1), none, none, none]) cx qL_law_1801 hi5 rfl rfl ?_
  refine PW.aload_n cx qL_law_1803 rfl ?_
  refine PW.aload_n cx qL_law_1804 rfl ?_
  refine PW.iload cx qL_law_1805 rfl ?_
  refine PW.iconst (v := 1) cx qL_law_1807 rfl ?_
  refine PW.iadd cx qL_law_1808 ?_
  refine PW.sld cx qL_law_1809 hX hbB ha1 ?_
  refine PW.aload_n cx qL_law_1810 rfl ?_
  refine PW.iload cx qL_law_1811 rfl ?_
  refine PW.iconst (v := 2) cx qL_law_1813 rfl ?_
  refine PW.iadd cx qL_law_1814 ?_
  refine PW.sld cx qL_law_1815 hX hbB ha2 ?_
  refine PW.callVWIc (As := [.int a1, .int a2]) (st := []) cx hR qL_law_1816 klL_332 mvX7_firstMatch (sh_140 hm) rfl rfl rfl rfl (Nat.le_of_ble_eq_true rfl) (Nat.le_of_ble_eq_true rfl) (Nat.le_of_ble_eq_true rfl) (by omega) (by omega) hf sne (fun t e => ctX7_firstMatch hm h2 a1 a2 t e) (fun t3 h4 hf => ?_)
  refine PW.istore (L' := [some (.ref b), some (.ref (gB g + 0)), some (.ref (gB g + 140)), some (.ref (gB g + 150)), some (.int i), some (.int t1), some (.int t3), none, none]) cx qL_law_1819 hi6 rfl rfl ?_
  refine PW.goto cx qL_law_1821 ?_
  cases hf
  exact PW.widen (by omega) (by omega) (PW.locs (Lsub.keep (Lsub.keep (Lsub.keep (Lsub.keep (Lsub.keep (Lsub.drop (Lsub.drop (Lsub.drop (Lsub.drop Lsub.nil))))))))) kk)
set_option maxRecDepth 20000 in
theorem ctK_53 {g : GT} {X : XT} {Q : State → Prop} {cells slots b N : Nat} {xs : Nat → Int32} {sh : List Shp} {i : Int32} {a1 : Int32} (hx : XSh sh) (hm : MSh sh) (ho : sh[150]? = some (.inr (3, 1, []))) (cx : Cx g X RL code) (hR : RmG X.2.2.1 40 601024 7293034) (hml : X.2.2.2.2.2.2.2.2.maxLocals = 9) (hX : va_X b N xs X.2.2.2.1 X.2.2.2.1.heap) (hbB : b < X.2.2.2.1.heap.size ∧ b < gB g) (ha1 : vp_in (i + 1) N ∧ xs (i + 1).toNatClampNeg = a1) (hc : cells + 4 ≤ 601024) (hs : slots + 24 ≤ 7293034) (h r : Hp) (hf : K_53 h a1 = some r) (kk : PW g X false Q (cells + 4) (slots + 24) sh r 1989 [some (.ref b), some (.ref (gB g + 0)), some (.ref (gB g + 140)), some (.ref (gB g + 150)), some (.int i), none, none, none, none] []) : PW g X false Q cells slots sh h 1824 [some (.ref b), some (.ref (gB g + 0)), some (.ref (gB g + 140)), some (.ref (gB g + 150)), some (.int i), none, none, none, none] [] := by
  have hi5 : 5 < X.2.2.2.2.2.2.2.2.maxLocals := by rw [hml]; exact Nat.le_of_ble_eq_true rfl
  have hi6 : 6 < X.2.2.2.2.2.2.2.2.maxLocals := by rw [hml]; exact Nat.le_of_ble_eq_true rfl
  have hi7 : 7 < X.2.2.2.2.2.2.2.2.maxLocals := by rw [hml]; exact Nat.le_of_ble_eq_true rfl
  have hi8 : 8 < X.2.2.2.2.2.2.2.2.maxLocals := by rw [hml]; exact Nat.le_of_ble_eq_true rfl
  unfold K_53 at hf
  refine PW.aload_n cx qL_law_1824 rfl ?_
  refine PW.aload_n cx qL_law_1825 rfl ?_
  refine PW.iload cx qL_law_1826 rfl ?_
  refine PW.iconst (v := 1) cx qL_law_1828 rfl ?_
  refine PW.iadd cx qL_law_1829 ?_
  refine PW.sld cx qL_law_1830 hX hbB ha1 ?_
  refine PW.aload_n cx qL_law_1831 rfl ?_
  refine PW.callWI (As := [.ref (gB g + 0), .int a1, .ref (gB g + 150)]) (st := []) cx hR qL_law_1832 kw333 mw_bestPattern rfl rfl (Nat.le_of_ble_eq_true rfl) (Nat.le_of_ble_eq_true rfl) (Nat.le_of_ble_eq_true rfl) (by omega) (by omega) hf sne (fun t e => ctL_bestPattern hx ho h a1 t e) (fun t1 h2 hf => ?_)
  refine PW.istore (L' := [some (.ref b), some (.ref (gB g + 0)), some (.ref (gB g + 140)), some (.ref (gB g + 150)), some (.int i), some (.int t1), none, none, none]) cx qL_law_1835 hi5 rfl rfl ?_
  refine PW.aload_n cx qL_law_1837 rfl ?_
  refine PW.aload_n cx qL_law_1838 rfl ?_
  refine PW.iload cx qL_law_1839 rfl ?_
  refine PW.iconst (v := 1) cx qL_law_1841 rfl ?_
  refine PW.iadd cx qL_law_1842 ?_
  refine PW.sld cx qL_law_1843 hX hbB ha1 ?_
  refine PW.callVWIc (As := [.int a1]) (st := []) cx hR qL_law_1844 klL_335 mvX7_bestPattern (sh_140 hm) rfl rfl rfl rfl (Nat.le_of_ble_eq_true rfl) (Nat.le_of_ble_eq_true rfl) (Nat.le_of_ble_eq_true rfl) (by omega) (by omega) hf sne (fun t e => ctX7_bestPattern hm h2 a1 t e) (fun t3 h4 hf => ?_)
  refine PW.istore (L' := [some (.ref b), some (.ref (gB g + 0)), some (.ref (gB g + 140)), some (.ref (gB g + 150)), some (.int i), some (.int t1), some (.int t3), none, none]) cx qL_law_1847 hi6 rfl rfl ?_
  refine PW.goto cx qL_law_1849 ?_
  cases hf
  exact PW.widen (by omega) (by omega) (PW.locs (Lsub.keep (Lsub.keep (Lsub.keep (Lsub.keep (Lsub.keep (Lsub.drop (Lsub.drop (Lsub.drop (Lsub.drop Lsub.nil))))))))) kk)
set_option maxRecDepth 20000 in
theorem ctK_54 {g : GT} {X : XT} {Q : State → Prop} {cells slots b N : Nat} {xs : Nat → Int32} {sh : List Shp} {i : Int32} (hx : XSh sh) (hm : MSh sh) (ho : sh[150]? = some (.inr (3, 1, []))) (cx : Cx g X RL code) (hR : RmG X.2.2.1 40 601024 7293034) (hml : X.2.2.2.2.2.2.2.2.maxLocals = 9) (hX : va_X b N xs X.2.2.2.1 X.2.2.2.1.heap) (hbB : b < X.2.2.2.1.heap.size ∧ b < gB g) (hc : cells + 4 ≤ 601024) (hs : slots + 24 ≤ 7293034) (h r : Hp) (hf : K_54 h = some r) (kk : PW g X false Q (cells + 4) (slots + 24) sh r 1989 [some (.ref b), some (.ref (gB g + 0)), some (.ref (gB g + 140)), some (.ref (gB g + 150)), some (.int i), none, none, none, none] []) : PW g X false Q cells slots sh h 1852 [some (.ref b), some (.ref (gB g + 0)), some (.ref (gB g + 140)), some (.ref (gB g + 150)), some (.int i), none, none, none, none] [] := by
  have hi5 : 5 < X.2.2.2.2.2.2.2.2.maxLocals := by rw [hml]; exact Nat.le_of_ble_eq_true rfl
  have hi6 : 6 < X.2.2.2.2.2.2.2.2.maxLocals := by rw [hml]; exact Nat.le_of_ble_eq_true rfl
  have hi7 : 7 < X.2.2.2.2.2.2.2.2.maxLocals := by rw [hml]; exact Nat.le_of_ble_eq_true rfl
  have hi8 : 8 < X.2.2.2.2.2.2.2.2.maxLocals := by rw [hml]; exact Nat.le_of_ble_eq_true rfl
  unfold K_54 at hf
  refine PW.aload_n cx qL_law_1852 rfl ?_
  refine PW.callVRI (As := []) (st := []) cx hR qL_law_1853 klL_336 mvX6_burnedFat (sh_0 hx) rfl rfl rfl rfl (Nat.le_of_ble_eq_true rfl) (Nat.le_of_ble_eq_true rfl) (Nat.le_of_ble_eq_true rfl) (by omega) (by omega) hf sne (fun t e => ctX6_burnedFat hx h t e) (fun t1 hf => ?_)
  refine PW.pop cx qL_law_1856 rfl ?_
  refine PW.aload_n cx qL_law_1857 rfl ?_
  refine PW.callVWIc (As := []) (st := []) cx hR qL_law_1858 klL_339 mvX7_burnedFat (sh_140 hm) rfl rfl rfl rfl (Nat.le_of_ble_eq_true rfl) (Nat.le_of_ble_eq_true rfl) (Nat.le_of_ble_eq_true rfl) (by omega) (by omega) hf sne (fun t e => ctX7_burnedFat hm h t e) (fun t2 h3 hf => ?_)
  refine PW.pop cx qL_law_1861 rfl ?_
  refine PW.goto cx qL_law_1862 ?_
  cases hf
  exact PW.widen (by omega) (by omega) (PW.locs (Lsub.keep (Lsub.keep (Lsub.keep (Lsub.keep (Lsub.keep (Lsub.drop (Lsub.drop (Lsub.drop (Lsub.drop Lsub.nil))))))))) kk)
set_option maxRecDepth 20000 in
theorem ctK_55 {g : GT} {X : XT} {Q : State → Prop} {cells slots b N : Nat} {xs : Nat → Int32} {sh : List Shp} {i : Int32} (hx : XSh sh) (hm : MSh sh) (ho : sh[150]? = some (.inr (3, 1, []))) (cx : Cx g X RL code) (hR : RmG X.2.2.1 40 601024 7293034) (hml : X.2.2.2.2.2.2.2.2.maxLocals = 9) (hX : va_X b N xs X.2.2.2.1 X.2.2.2.1.heap) (hbB : b < X.2.2.2.1.heap.size ∧ b < gB g) (hc : cells + 4 ≤ 601024) (hs : slots + 24 ≤ 7293034) (h r : Hp) (hf : K_55 h = some r) (kk : PW g X false Q (cells + 4) (slots + 24) sh r 1989 [some (.ref b), some (.ref (gB g + 0)), some (.ref (gB g + 140)), some (.ref (gB g + 150)), some (.int i), none, none, none, none] []) : PW g X false Q cells slots sh h 1865 [some (.ref b), some (.ref (gB g + 0)), some (.ref (gB g + 140)), some (.ref (gB g + 150)), some (.int i), none, none, none, none] [] := by
  have hi5 : 5 < X.2.2.2.2.2.2.2.2.maxLocals := by rw [hml]; exact Nat.le_of_ble_eq_true rfl
  have hi6 : 6 < X.2.2.2.2.2.2.2.2.maxLocals := by rw [hml]; exact Nat.le_of_ble_eq_true rfl
  have hi7 : 7 < X.2.2.2.2.2.2.2.2.maxLocals := by rw [hml]; exact Nat.le_of_ble_eq_true rfl
  have hi8 : 8 < X.2.2.2.2.2.2.2.2.maxLocals := by rw [hml]; exact Nat.le_of_ble_eq_true rfl
  unfold K_55 at hf
  refine PW.aload_n cx qL_law_1865 rfl ?_
  refine PW.callVRI (As := []) (st := []) cx hR qL_law_1866 klL_340 mvX6_wakings (sh_0 hx) rfl rfl rfl rfl (Nat.le_of_ble_eq_true rfl) (Nat.le_of_ble_eq_true rfl) (Nat.le_of_ble_eq_true rfl) (by omega) (by omega) hf sne (fun t e => ctX6_wakings hx h t e) (fun t1 hf => ?_)
  refine PW.pop cx qL_law_1869 rfl ?_
  refine PW.aload_n cx qL_law_1870 rfl ?_
  refine PW.callVWIc (As := []) (st := []) cx hR qL_law_1871 klL_343 mvX7_wakings (sh_140 hm) rfl rfl rfl rfl (Nat.le_of_ble_eq_true rfl) (Nat.le_of_ble_eq_true rfl) (Nat.le_of_ble_eq_true rfl) (by omega) (by omega) hf sne (fun t e => ctX7_wakings hm h t e) (fun t2 h3 hf => ?_)
  refine PW.pop cx qL_law_1874 rfl ?_
  refine PW.goto cx qL_law_1875 ?_
  cases hf
  exact PW.widen (by omega) (by omega) (PW.locs (Lsub.keep (Lsub.keep (Lsub.keep (Lsub.keep (Lsub.keep (Lsub.drop (Lsub.drop (Lsub.drop (Lsub.drop Lsub.nil))))))))) kk)
set_option maxRecDepth 20000 in
theorem ctK_56 {g : GT} {X : XT} {Q : State → Prop} {cells slots b N : Nat} {xs : Nat → Int32} {sh : List Shp} {i : Int32} (hx : XSh sh) (hm : MSh sh) (ho : sh[150]? = some (.inr (3, 1, []))) (cx : Cx g X RL code) (hR : RmG X.2.2.1 40 601024 7293034) (hml : X.2.2.2.2.2.2.2.2.maxLocals = 9) (hX : va_X b N xs X.2.2.2.1 X.2.2.2.1.heap) (hbB : b < X.2.2.2.1.heap.size ∧ b < gB g) (hc : cells + 4 ≤ 601024) (hs : slots + 24 ≤ 7293034) (h r : Hp) (hf : K_56 h = some r) (kk : PW g X false Q (cells + 4) (slots + 24) sh r 1989 [some (.ref b), some (.ref (gB g + 0)), some (.ref (gB g + 140)), some (.ref (gB g + 150)), some (.int i), none, none, none, none] []) : PW g X false Q cells slots sh h 1878 [some (.ref b), some (.ref (gB g + 0)), some (.ref (gB g + 140)), some (.ref (gB g + 150)), some (.int i), none, none, none, none] [] := by
  have hi5 : 5 < X.2.2.2.2.2.2.2.2.maxLocals := by rw [hml]; exact Nat.le_of_ble_eq_true rfl
  have hi6 : 6 < X.2.2.2.2.2.2.2.2.maxLocals := by rw [hml]; exact Nat.le_of_ble_eq_true rfl
  have hi7 : 7 < X.2.2.2.2.2.2.2.2.maxLocals := by rw [hml]; exact Nat.le_of_ble_eq_true rfl
  have hi8 : 8 < X.2.2.2.2.2.2.2.2.maxLocals := by rw [hml]; exact Nat.le_of_ble_eq_true rfl
  unfold K_56 at hf
  refine PW.aload_n cx qL_law_1878 rfl ?_
  refine PW.callVRI (As := []) (st := []) cx hR qL_law_1879 klL_344 mvX6_fadedClips (sh_0 hx) rfl rfl rfl rfl (Nat.le_of_ble_eq_true rfl) (Nat.le_of_ble_eq_true rfl) (Nat.le_of_ble_eq_true rfl) (by omega) (by omega) hf sne (fun t e => ctX6_fadedClips hx h t e) (fun t1 hf => ?_)
  refine PW.pop cx qL_law_1882 rfl ?_
  refine PW.aload_n cx qL_law_1883 rfl ?_
  refine PW.callVWIc (As := []) (st := []) cx hR qL_law_1884 klL_347 mvX7_fadedClips (sh_140 hm) rfl rfl rfl rfl (Nat.le_of_ble_eq_true rfl) (Nat.le_of_ble_eq_true rfl) (Nat.le_of_ble_eq_true rfl) (by omega) (by omega) hf sne (fun t e => ctX7_fadedClips hm h t e) (fun t2 h3 hf => ?_)
  refine PW.pop cx qL_law_1887 rfl ?_
  refine PW.goto cx qL_law_1888 ?_
  cases hf
  exact PW.widen (by omega) (by omega) (PW.locs (Lsub.keep (Lsub.keep (Lsub.keep (Lsub.keep (Lsub.keep (Lsub.drop (Lsub.drop (Lsub.drop (Lsub.drop Lsub.nil))))))))) kk)
set_option maxRecDepth 20000 in
theorem ctK_57 {g : GT} {X : XT} {Q : State → Prop} {cells slots b N : Nat} {xs : Nat → Int32} {sh : List Shp} {i : Int32} (hx : XSh sh) (hm : MSh sh) (ho : sh[150]? = some (.inr (3, 1, []))) (cx : Cx g X RL code) (hR : RmG X.2.2.1 40 601024 7293034) (hml : X.2.2.2.2.2.2.2.2.maxLocals = 9) (hX : va_X b N xs X.2.2.2.1 X.2.2.2.1.heap) (hbB : b < X.2.2.2.1.heap.size ∧ b < gB g) (hc : cells + 4 ≤ 601024) (hs : slots + 24 ≤ 7293034) (h r : Hp) (hf : K_57 h = some r) (kk : PW g X false Q (cells + 4) (slots + 24) sh r 1989 [some (.ref b), some (.ref (gB g + 0)), some (.ref (gB g + 140)), some (.ref (gB g + 150)), some (.int i), none, none, none, none] []) : PW g X false Q cells slots sh h 1891 [some (.ref b), some (.ref (gB g + 0)), some (.ref (gB g + 140)), some (.ref (gB g + 150)), some (.int i), none, none, none, none] [] := by
  have hi5 : 5 < X.2.2.2.2.2.2.2.2.maxLocals := by rw [hml]; exact Nat.le_of_ble_eq_true rfl
  have hi6 : 6 < X.2.2.2.2.2.2.2.2.maxLocals := by rw [hml]; exact Nat.le_of_ble_eq_true rfl
  have hi7 : 7 < X.2.2.2.2.2.2.2.2.maxLocals := by rw [hml]; exact Nat.le_of_ble_eq_true rfl
  have hi8 : 8 < X.2.2.2.2.2.2.2.2.maxLocals := by rw [hml]; exact Nat.le_of_ble_eq_true rfl
  unfold K_57 at hf
  refine PW.aload_n cx qL_law_1891 rfl ?_
  refine PW.callVRD (As := []) (st := []) cx hR qL_law_1892 klL_348 mvX6_meanFat (sh_0 hx) rfl rfl rfl rfl (Nat.le_of_ble_eq_true rfl) (Nat.le_of_ble_eq_true rfl) (Nat.le_of_ble_eq_true rfl) (by omega) (by omega) hf sne (fun t e => ctX6_meanFat hx h t e) (fun t1 hf => ?_)
  refine PW.dstore (L' := [some (.ref b), some (.ref (gB g + 0)), some (.ref (gB g + 140)), some (.ref (gB g + 150)), some (.int i), some (.double t1), none, none, none]) cx qL_law_1895 hi6 rfl rfl ?_
  refine PW.aload_n cx qL_law_1897 rfl ?_
  refine PW.callVWDc (As := []) (st := []) cx hR qL_law_1898 klL_352 mvX7_meanFat (sh_140 hm) rfl rfl rfl rfl (Nat.le_of_ble_eq_true rfl) (Nat.le_of_ble_eq_true rfl) (Nat.le_of_ble_eq_true rfl) (by omega) (by omega) hf sne (fun t e => ctX7_meanFat hm h t e) (fun t2 h3 hf => ?_)
  refine PW.dstore (L' := [some (.ref b), some (.ref (gB g + 0)), some (.ref (gB g + 140)), some (.ref (gB g + 150)), some (.int i), some (.double t1), none, some (.double t2), none]) cx qL_law_1901 hi8 rfl rfl ?_
  refine PW.goto cx qL_law_1903 ?_
  cases hf
  exact PW.widen (by omega) (by omega) (PW.locs (Lsub.keep (Lsub.keep (Lsub.keep (Lsub.keep (Lsub.keep (Lsub.drop (Lsub.drop (Lsub.drop (Lsub.drop Lsub.nil))))))))) kk)
set_option maxRecDepth 20000 in
theorem ctK_58 {g : GT} {X : XT} {Q : State → Prop} {cells slots b N : Nat} {xs : Nat → Int32} {sh : List Shp} {i : Int32} (hx : XSh sh) (hm : MSh sh) (ho : sh[150]? = some (.inr (3, 1, []))) (cx : Cx g X RL code) (hR : RmG X.2.2.1 40 601024 7293034) (hml : X.2.2.2.2.2.2.2.2.maxLocals = 9) (hX : va_X b N xs X.2.2.2.1 X.2.2.2.1.heap) (hbB : b < X.2.2.2.1.heap.size ∧ b < gB g) (hc : cells + 4 ≤ 601024) (hs : slots + 24 ≤ 7293034) (h r : Hp) (hf : K_58 h = some r) (kk : PW g X false Q (cells + 4) (slots + 24) sh r 1989 [some (.ref b), some (.ref (gB g + 0)), some (.ref (gB g + 140)), some (.ref (gB g + 150)), some (.int i), none, none, none, none] []) : PW g X false Q cells slots sh h 1906 [some (.ref b), some (.ref (gB g + 0)), some (.ref (gB g + 140)), some (.ref (gB g + 150)), some (.int i), none, none, none, none] [] := by
  have hi5 : 5 < X.2.2.2.2.2.2.2.2.maxLocals := by rw [hml]; exact Nat.le_of_ble_eq_true rfl
  have hi6 : 6 < X.2.2.2.2.2.2.2.2.maxLocals := by rw [hml]; exact Nat.le_of_ble_eq_true rfl
  have hi7 : 7 < X.2.2.2.2.2.2.2.2.maxLocals := by rw [hml]; exact Nat.le_of_ble_eq_true rfl
  have hi8 : 8 < X.2.2.2.2.2.2.2.2.maxLocals := by rw [hml]; exact Nat.le_of_ble_eq_true rfl
  unfold K_58 at hf
  refine PW.aload_n cx qL_law_1906 rfl ?_
  refine PW.callVRF (As := []) (st := []) cx hR qL_law_1907 klL_353 mvX6_sleepShare (sh_0 hx) rfl rfl rfl rfl (Nat.le_of_ble_eq_true rfl) (Nat.le_of_ble_eq_true rfl) (Nat.le_of_ble_eq_true rfl) (by omega) (by omega) hf sne (fun t e => ctX6_sleepShare hx h t e) (fun t1 hf => ?_)
  refine PW.f2d cx qL_law_1910 hf sne (fun t2 hf => ?_)
  refine PW.dstore (L' := [some (.ref b), some (.ref (gB g + 0)), some (.ref (gB g + 140)), some (.ref (gB g + 150)), some (.int i), some (.double t2), none, none, none]) cx qL_law_1911 hi6 rfl rfl ?_
  refine PW.aload_n cx qL_law_1913 rfl ?_
  refine PW.callVWFc (As := []) (st := []) cx hR qL_law_1914 klL_357 mvX7_sleepShare (sh_140 hm) rfl rfl rfl rfl (Nat.le_of_ble_eq_true rfl) (Nat.le_of_ble_eq_true rfl) (Nat.le_of_ble_eq_true rfl) (by omega) (by omega) hf sne (fun t e => ctX7_sleepShare hm h t e) (fun t3 h4 hf => ?_)
  refine PW.f2d cx qL_law_1917 hf sne (fun t5 hf => ?_)
  refine PW.dstore (L' := [some (.ref b), some (.ref (gB g + 0)), some (.ref (gB g + 140)), some (.ref (gB g + 150)), some (.int i), some (.double t2), none, some (.double t5), none]) cx qL_law_1918 hi8 rfl rfl ?_
  refine PW.goto cx qL_law_1920 ?_
  cases hf
  exact PW.widen (by omega) (by omega) (PW.locs (Lsub.keep (Lsub.keep (Lsub.keep (Lsub.keep (Lsub.keep (Lsub.drop (Lsub.drop (Lsub.drop (Lsub.drop Lsub.nil))))))))) kk)
set_option maxRecDepth 20000 in
theorem ctK_59 {g : GT} {X : XT} {Q : State → Prop} {cells slots b N : Nat} {xs : Nat → Int32} {sh : List Shp} {i : Int32} (hx : XSh sh) (hm : MSh sh) (ho : sh[150]? = some (.inr (3, 1, []))) (cx : Cx g X RL code) (hR : RmG X.2.2.1 40 601024 7293034) (hml : X.2.2.2.2.2.2.2.2.maxLocals = 9) (hX : va_X b N xs X.2.2.2.1 X.2.2.2.1.heap) (hbB : b < X.2.2.2.1.heap.size ∧ b < gB g) (hc : cells + 4 ≤ 601024) (hs : slots + 24 ≤ 7293034) (h r : Hp) (hf : K_59 h = some r) (kk : PW g X false Q (cells + 4) (slots + 24) sh r 1989 [some (.ref b), some (.ref (gB g + 0)), some (.ref (gB g + 140)), some (.ref (gB g + 150)), some (.int i), none, none, none, none] []) : PW g X false Q cells slots sh h 1923 [some (.ref b), some (.ref (gB g + 0)), some (.ref (gB g + 140)), some (.ref (gB g + 150)), some (.int i), none, none, none, none] [] := by
  have hi5 : 5 < X.2.2.2.2.2.2.2.2.maxLocals := by rw [hml]; exact Nat.le_of_ble_eq_true rfl
  have hi6 : 6 < X.2.2.2.2.2.2.2.2.maxLocals := by rw [hml]; exact Nat.le_of_ble_eq_true rfl
  have hi7 : 7 < X.2.2.2.2.2.2.2.2.maxLocals := by rw [hml]; exact Nat.le_of_ble_eq_true rfl
  have hi8 : 8 < X.2.2.2.2.2.2.2.2.maxLocals := by rw [hml]; exact Nat.le_of_ble_eq_true rfl
  unfold K_59 at hf
  refine PW.aload_n cx qL_law_1923 rfl ?_
  refine PW.callVRI (As := []) (st := []) cx hR qL_law_1924 klL_358 mvX6_violations (sh_0 hx) rfl rfl rfl rfl (Nat.le_of_ble_eq_true rfl) (Nat.le_of_ble_eq_true rfl) (Nat.le_of_ble_eq_true rfl) (by omega) (by omega) hf sne (fun t e => ctX6_violations hx h t e) (fun t1 hf => ?_)
  refine PW.aload_n cx qL_law_1927 rfl ?_
  refine PW.callVWIc (As := []) (st := [.int t1]) cx hR qL_law_1928 klL_361 mvX7_violations (sh_140 hm) rfl rfl rfl rfl (Nat.le_of_ble_eq_true rfl) (Nat.le_of_ble_eq_true rfl) (Nat.le_of_ble_eq_true rfl) (by omega) (by omega) hf sne (fun t e => ctX7_violations hm h t e) (fun t2 h3 hf => ?_)
  refine PW.icmp_eq cx qL_law_1931 hf (fun hf => ?_) (fun hf => ?_)
  · cases hf
    exact PW.widen (by omega) (by omega) (PW.locs (Lsub.keep (Lsub.keep (Lsub.keep (Lsub.keep (Lsub.keep (Lsub.drop (Lsub.drop (Lsub.drop (Lsub.drop Lsub.nil))))))))) kk)
  · cases hf
set_option maxRecDepth 20000 in
theorem ctK_60 {g : GT} {X : XT} {Q : State → Prop} {cells slots b N : Nat} {xs : Nat → Int32} {sh : List Shp} {i : Int32} {a1 : Int32} (hx : XSh sh) (hm : MSh sh) (ho : sh[150]? = some (.inr (3, 1, []))) (cx : Cx g X RL code) (hR : RmG X.2.2.1 40 601024 7293034) (hml : X.2.2.2.2.2.2.2.2.maxLocals = 9) (hX : va_X b N xs X.2.2.2.1 X.2.2.2.1.heap) (hbB : b < X.2.2.2.1.heap.size ∧ b < gB g) (ha1 : vp_in (i + 1) N ∧ xs (i + 1).toNatClampNeg = a1) (hc : cells + 4 ≤ 601024) (hs : slots + 24 ≤ 7293034) (h r : Hp) (hf : K_60 h a1 = some r) (kk : PW g X false Q (cells + 4) (slots + 24) sh r 1989 [some (.ref b), some (.ref (gB g + 0)), some (.ref (gB g + 140)), some (.ref (gB g + 150)), some (.int i), none, none, none, none] []) : PW g X false Q cells slots sh h 1936 [some (.ref b), some (.ref (gB g + 0)), some (.ref (gB g + 140)), some (.ref (gB g + 150)), some (.int i), none, none, none, none] [] := by
  have hi5 : 5 < X.2.2.2.2.2.2.2.2.maxLocals := by rw [hml]; exact Nat.le_of_ble_eq_true rfl
  have hi6 : 6 < X.2.2.2.2.2.2.2.2.maxLocals := by rw [hml]; exact Nat.le_of_ble_eq_true rfl
  have hi7 : 7 < X.2.2.2.2.2.2.2.2.maxLocals := by rw [hml]; exact Nat.le_of_ble_eq_true rfl
  have hi8 : 8 < X.2.2.2.2.2.2.2.2.maxLocals := by rw [hml]; exact Nat.le_of_ble_eq_true rfl
  unfold K_60 at hf
  refine PW.aload_n cx qL_law_1936 rfl ?_
  refine PW.aload_n cx qL_law_1937 rfl ?_
  refine PW.iload cx qL_law_1938 rfl ?_
  refine PW.iconst (v := 1) cx qL_law_1940 rfl ?_
  refine PW.iadd cx qL_law_1941 ?_
  refine PW.sld cx qL_law_1942 hX hbB ha1 ?_
  refine PW.aload_n cx qL_law_1943 rfl ?_
  refine PW.callWI (As := [.ref (gB g + 0), .int a1, .ref (gB g + 150)]) (st := []) cx hR qL_law_1944 kw362 mw_writeReel rfl rfl (Nat.le_of_ble_eq_true rfl) (Nat.le_of_ble_eq_true rfl) (Nat.le_of_ble_eq_true rfl) (by omega) (by omega) hf sne (fun t e => ctL_writeReel hx ho h a1 t e) (fun t1 h2 hf => ?_)
  refine PW.istore (L' := [some (.ref b), some (.ref (gB g + 0)), some (.ref (gB g + 140)), some (.ref (gB g + 150)), some (.int i), some (.int t1), none, none, none]) cx qL_law_1947 hi5 rfl rfl ?_
  refine PW.aload_n cx qL_law_1949 rfl ?_
  refine PW.aload_n cx qL_law_1950 rfl ?_
  refine PW.iload cx qL_law_1951 rfl ?_
  refine PW.iconst (v := 1) cx qL_law_1953 rfl ?_
  refine PW.iadd cx qL_law_1954 ?_
  refine PW.sld cx qL_law_1955 hX hbB ha1 ?_
  refine PW.callVWIc (As := [.int a1]) (st := []) cx hR qL_law_1956 klL_364 mvX7_writeReel (sh_140 hm) rfl rfl rfl rfl (Nat.le_of_ble_eq_true rfl) (Nat.le_of_ble_eq_true rfl) (Nat.le_of_ble_eq_true rfl) (by omega) (by omega) hf sne (fun t e => ctX7_writeReel hm h2 a1 t e) (fun t3 h4 hf => ?_)
  refine PW.istore (L' := [some (.ref b), some (.ref (gB g + 0)), some (.ref (gB g + 140)), some (.ref (gB g + 150)), some (.int i), some (.int t1), some (.int t3), none, none]) cx qL_law_1959 hi6 rfl rfl ?_
  refine PW.goto cx qL_law_1961 ?_
  cases hf
  exact PW.widen (by omega) (by omega) (PW.locs (Lsub.keep (Lsub.keep (Lsub.keep (Lsub.keep (Lsub.keep (Lsub.drop (Lsub.drop (Lsub.drop (Lsub.drop Lsub.nil))))))))) kk)
set_option maxRecDepth 20000 in
theorem ctK_61 {g : GT} {X : XT} {Q : State → Prop} {cells slots b N : Nat} {xs : Nat → Int32} {sh : List Shp} {i : Int32} {a1 : Int32} (hx : XSh sh) (hm : MSh sh) (ho : sh[150]? = some (.inr (3, 1, []))) (cx : Cx g X RL code) (hR : RmG X.2.2.1 40 601024 7293034) (hml : X.2.2.2.2.2.2.2.2.maxLocals = 9) (hX : va_X b N xs X.2.2.2.1 X.2.2.2.1.heap) (hbB : b < X.2.2.2.1.heap.size ∧ b < gB g) (ha1 : vp_in (i + 1) N ∧ xs (i + 1).toNatClampNeg = a1) (hc : cells + 4 ≤ 601024) (hs : slots + 24 ≤ 7293034) (h r : Hp) (hf : K_61 h a1 = some r) (kk : PW g X false Q (cells + 4) (slots + 24) sh r 1989 [some (.ref b), some (.ref (gB g + 0)), some (.ref (gB g + 140)), some (.ref (gB g + 150)), some (.int i), none, none, none, none] []) : PW g X false Q cells slots sh h 1964 [some (.ref b), some (.ref (gB g + 0)), some (.ref (gB g + 140)), some (.ref (gB g + 150)), some (.int i), none, none, none, none] [] := by
  have hi5 : 5 < X.2.2.2.2.2.2.2.2.maxLocals := by rw [hml]; exact Nat.le_of_ble_eq_true rfl
  have hi6 : 6 < X.2.2.2.2.2.2.2.2.maxLocals := by rw [hml]; exact Nat.le_of_ble_eq_true rfl
  have hi7 : 7 < X.2.2.2.2.2.2.2.2.maxLocals := by rw [hml]; exact Nat.le_of_ble_eq_true rfl
  have hi8 : 8 < X.2.2.2.2.2.2.2.2.maxLocals := by rw [hml]; exact Nat.le_of_ble_eq_true rfl
  unfold K_61 at hf
  refine PW.aload_n cx qL_law_1964 rfl ?_
  refine PW.aload_n cx qL_law_1965 rfl ?_
  refine PW.iload cx qL_law_1966 rfl ?_
  refine PW.iconst (v := 1) cx qL_law_1968 rfl ?_
  refine PW.iadd cx qL_law_1969 ?_
  refine PW.sld cx qL_law_1970 hX hbB ha1 ?_
  refine PW.callVRI (As := [.int a1]) (st := []) cx hR qL_law_1971 klL_365 mvX6_reportByte (sh_0 hx) rfl rfl rfl rfl (Nat.le_of_ble_eq_true rfl) (Nat.le_of_ble_eq_true rfl) (Nat.le_of_ble_eq_true rfl) (by omega) (by omega) hf sne (fun t e => ctX6_reportByte hx h a1 t e) (fun t1 hf => ?_)
  refine PW.pop cx qL_law_1974 rfl ?_
  refine PW.aload_n cx qL_law_1975 rfl ?_
  refine PW.aload_n cx qL_law_1976 rfl ?_
  refine PW.iload cx qL_law_1977 rfl ?_
  refine PW.iconst (v := 1) cx qL_law_1979 rfl ?_
  refine PW.iadd cx qL_law_1980 ?_
  refine PW.sld cx qL_law_1981 hX hbB ha1 ?_
  refine PW.callVWIc (As := [.int a1]) (st := []) cx hR qL_law_1982 klL_368 mvX7_reportByte (sh_140 hm) rfl rfl rfl rfl (Nat.le_of_ble_eq_true rfl) (Nat.le_of_ble_eq_true rfl) (Nat.le_of_ble_eq_true rfl) (by omega) (by omega) hf sne (fun t e => ctX7_reportByte hm h a1 t e) (fun t2 h3 hf => ?_)
  refine PW.pop cx qL_law_1985 rfl ?_
  refine PW.goto cx qL_law_1986 ?_
  cases hf
  exact PW.widen (by omega) (by omega) (PW.locs (Lsub.keep (Lsub.keep (Lsub.keep (Lsub.keep (Lsub.keep (Lsub.drop (Lsub.drop (Lsub.drop (Lsub.drop Lsub.nil))))))))) kk)
