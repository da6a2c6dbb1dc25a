set_option maxRecDepth 20000 in
theorem ctK_42 {g : GT} {X : XT} {Q : State → Prop} {cells slots b N : Nat} {xs : Nat → Int32} {sh : List Shp} {i : Int32} {a1 : Int32} {a2 : Int32} (hx : XSh sh) (hm : MSh sh) (ho : sh[150]? = some (.inr (3, 1, []))) (cx : Cx g X RL code) (hR : RmG X.2.2.1 40 601024 7293034) (hml : X.2.2.2.2.2.2.2.2.maxLocals = 9) (hX : va_X b N xs X.2.2.2.1 X.2.2.2.1.heap) (hbB : b < X.2.2.2.1.heap.size ∧ b < gB g) (ha1 : vp_in (i + 1) N ∧ xs (i + 1).toNatClampNeg = a1) (ha2 : vp_in (i + 2) N ∧ xs (i + 2).toNatClampNeg = a2) (hc : cells + 4 ≤ 601024) (hs : slots + 24 ≤ 7293034) (h r : Hp) (hf : K_42 h a1 a2 = some r) (kk : PW g X false Q (cells + 4) (slots + 24) sh r 2017 [some (.ref b), some (.ref (gB g + 0)), some (.ref (gB g + 140)), some (.ref (gB g + 150)), some (.int i), none, none, none, none] []) : PW g X false Q cells slots sh h 1472 [some (.ref b), some (.ref (gB g + 0)), some (.ref (gB g + 140)), some (.ref (gB g + 150)), some (.int i), none, none, none, none] [] := by
  have hi5 : 5 < X.2.2.2.2.2.2.2.2.maxLocals := by rw [hml]; exact Nat.le_of_ble_eq_true rfl
  have hi6 : 6 < X.2.2.2.2.2.2.2.2.maxLocals := by rw [hml]; exact Nat.le_of_ble_eq_true rfl
  have hi7 : 7 < X.2.2.2.2.2.2.2.2.maxLocals := by rw [hml]; exact Nat.le_of_ble_eq_true rfl
  have hi8 : 8 < X.2.2.2.2.2.2.2.2.maxLocals := by rw [hml]; exact Nat.le_of_ble_eq_true rfl
  unfold K_42 at hf
  refine PW.aload_n cx qL_law_1472 rfl ?_
  refine PW.aload_n cx qL_law_1473 rfl ?_
  refine PW.iload cx qL_law_1474 rfl ?_
  refine PW.iconst (v := 1) cx qL_law_1476 rfl ?_
  refine PW.iadd cx qL_law_1477 ?_
  refine PW.sld cx qL_law_1478 hX hbB ha1 ?_
  refine PW.aload_n cx qL_law_1479 rfl ?_
  refine PW.iload cx qL_law_1480 rfl ?_
  refine PW.iconst (v := 2) cx qL_law_1482 rfl ?_
  refine PW.iadd cx qL_law_1483 ?_
  refine PW.sld cx qL_law_1484 hX hbB ha2 ?_
  refine PW.aload_n cx qL_law_1485 rfl ?_
  refine PW.callWI (As := [.ref (gB g + 0), .int a1, .int a2, .ref (gB g + 150)]) (st := []) cx hR qL_law_1486 kw303 mw_whyNoSleep rfl rfl (Nat.le_of_ble_eq_true rfl) (Nat.le_of_ble_eq_true rfl) (Nat.le_of_ble_eq_true rfl) (by omega) (by omega) hf sne (fun t e => ctL_whyNoSleep hx ho h a1 a2 t e) (fun t1 h2 hf => ?_)
  refine PW.istore (L' := [some (.ref b), some (.ref (gB g + 0)), some (.ref (gB g + 140)), some (.ref (gB g + 150)), some (.int i), some (.int t1), none, none, none]) cx qL_law_1489 hi5 rfl rfl ?_
  refine PW.aload_n cx qL_law_1491 rfl ?_
  refine PW.aload_n cx qL_law_1492 rfl ?_
  refine PW.iload cx qL_law_1493 rfl ?_
  refine PW.iconst (v := 1) cx qL_law_1495 rfl ?_
  refine PW.iadd cx qL_law_1496 ?_
  refine PW.sld cx qL_law_1497 hX hbB ha1 ?_
  refine PW.aload_n cx qL_law_1498 rfl ?_
  refine PW.iload cx qL_law_1499 rfl ?_
  refine PW.iconst (v := 2) cx qL_law_1501 rfl ?_
  refine PW.iadd cx qL_law_1502 ?_
  refine PW.sld cx qL_law_1503 hX hbB ha2 ?_
  refine PW.callVWIc (As := [.int a1, .int a2]) (st := []) cx hR qL_law_1504 klL_305 mvX7_whyNoSleep (sh_140 hm) rfl rfl rfl rfl (Nat.le_of_ble_eq_true rfl) (Nat.le_of_ble_eq_true rfl) (Nat.le_of_ble_eq_true rfl) (by omega) (by omega) hf sne (fun t e => ctX7_whyNoSleep hm h2 a1 a2 t e) (fun t3 h4 hf => ?_)
  refine PW.istore (L' := [some (.ref b), some (.ref (gB g + 0)), some (.ref (gB g + 140)), some (.ref (gB g + 150)), some (.int i), some (.int t1), some (.int t3), none, none]) cx qL_law_1507 hi6 rfl rfl ?_
  refine PW.goto cx qL_law_1509 ?_
  cases hf
  exact PW.widen (by omega) (by omega) (PW.locs (Lsub.keep (Lsub.keep (Lsub.keep (Lsub.keep (Lsub.keep (Lsub.drop (Lsub.drop (Lsub.drop (Lsub.drop Lsub.nil))))))))) kk)
set_option maxRecDepth 20000 in
theorem ctK_43 {g : GT} {X : XT} {Q : State → Prop} {cells slots b N : Nat} {xs : Nat → Int32} {sh : List Shp} {i : Int32} {a1 : Int32} {a2 : Int32} (hx : XSh sh) (hm : MSh sh) (ho : sh[150]? = some (.inr (3, 1, []))) (cx : Cx g X RL code) (hR : RmG X.2.2.1 40 601024 7293034) (hml : X.2.2.2.2.2.2.2.2.maxLocals = 9) (hX : va_X b N xs X.2.2.2.1 X.2.2.2.1.heap) (hbB : b < X.2.2.2.1.heap.size ∧ b < gB g) (ha1 : vp_in (i + 1) N ∧ xs (i + 1).toNatClampNeg = a1) (ha2 : vp_in (i + 2) N ∧ xs (i + 2).toNatClampNeg = a2) (hc : cells + 4 ≤ 601024) (hs : slots + 24 ≤ 7293034) (h r : Hp) (hf : K_43 h a1 a2 = some r) (kk : PW g X false Q (cells + 4) (slots + 24) sh r 2017 [some (.ref b), some (.ref (gB g + 0)), some (.ref (gB g + 140)), some (.ref (gB g + 150)), some (.int i), none, none, none, none] []) : PW g X false Q cells slots sh h 1512 [some (.ref b), some (.ref (gB g + 0)), some (.ref (gB g + 140)), some (.ref (gB g + 150)), some (.int i), none, none, none, none] [] := by
  have hi5 : 5 < X.2.2.2.2.2.2.2.2.maxLocals := by rw [hml]; exact Nat.le_of_ble_eq_true rfl
  have hi6 : 6 < X.2.2.2.2.2.2.2.2.maxLocals := by rw [hml]; exact Nat.le_of_ble_eq_true rfl
  have hi7 : 7 < X.2.2.2.2.2.2.2.2.maxLocals := by rw [hml]; exact Nat.le_of_ble_eq_true rfl
  have hi8 : 8 < X.2.2.2.2.2.2.2.2.maxLocals := by rw [hml]; exact Nat.le_of_ble_eq_true rfl
  unfold K_43 at hf
  refine PW.aload_n cx qL_law_1512 rfl ?_
  refine PW.aload_n cx qL_law_1513 rfl ?_
  refine PW.iload cx qL_law_1514 rfl ?_
  refine PW.iconst (v := 1) cx qL_law_1516 rfl ?_
  refine PW.iadd cx qL_law_1517 ?_
  refine PW.sld cx qL_law_1518 hX hbB ha1 ?_
  refine PW.aload_n cx qL_law_1519 rfl ?_
  refine PW.iload cx qL_law_1520 rfl ?_
  refine PW.iconst (v := 2) cx qL_law_1522 rfl ?_
  refine PW.iadd cx qL_law_1523 ?_
  refine PW.sld cx qL_law_1524 hX hbB ha2 ?_
  refine PW.aload_n cx qL_law_1525 rfl ?_
  refine PW.callWI (As := [.ref (gB g + 0), .int a1, .int a2, .ref (gB g + 150)]) (st := []) cx hR qL_law_1526 kw306 mw_bedFor rfl rfl (Nat.le_of_ble_eq_true rfl) (Nat.le_of_ble_eq_true rfl) (Nat.le_of_ble_eq_true rfl) (by omega) (by omega) hf sne (fun t e => ctL_bedFor hx ho h a1 a2 t e) (fun t1 h2 hf => ?_)
  refine PW.istore (L' := [some (.ref b), some (.ref (gB g + 0)), some (.ref (gB g + 140)), some (.ref (gB g + 150)), some (.int i), some (.int t1), none, none, none]) cx qL_law_1529 hi5 rfl rfl ?_
  refine PW.aload_n cx qL_law_1531 rfl ?_
  refine PW.aload_n cx qL_law_1532 rfl ?_
  refine PW.iload cx qL_law_1533 rfl ?_
  refine PW.iconst (v := 1) cx qL_law_1535 rfl ?_
  refine PW.iadd cx qL_law_1536 ?_
  refine PW.sld cx qL_law_1537 hX hbB ha1 ?_
  refine PW.aload_n cx qL_law_1538 rfl ?_
  refine PW.iload cx qL_law_1539 rfl ?_
  refine PW.iconst (v := 2) cx qL_law_1541 rfl ?_
  refine PW.iadd cx qL_law_1542 ?_
  refine PW.sld cx qL_law_1543 hX hbB ha2 ?_
  refine PW.callVWIc (As := [.int a1, .int a2]) (st := []) cx hR qL_law_1544 klL_308 mvX7_bedFor (sh_140 hm) rfl rfl rfl rfl (Nat.le_of_ble_eq_true rfl) (Nat.le_of_ble_eq_true rfl) (Nat.le_of_ble_eq_true rfl) (by omega) (by omega) hf sne (fun t e => ctX7_bedFor hm h2 a1 a2 t e) (fun t3 h4 hf => ?_)
  refine PW.istore (L' := [some (.ref b), some (.ref (gB g + 0)), some (.ref (gB g + 140)), some (.ref (gB g + 150)), some (.int i), some (.int t1), some (.int t3), none, none]) cx qL_law_1547 hi6 rfl rfl ?_
  refine PW.goto cx qL_law_1549 ?_
  cases hf
  exact PW.widen (by omega) (by omega) (PW.locs (Lsub.keep (Lsub.keep (Lsub.keep (Lsub.keep (Lsub.keep (Lsub.drop (Lsub.drop (Lsub.drop (Lsub.drop Lsub.nil))))))))) kk)
set_option maxRecDepth 20000 in
theorem ctK_44 {g : GT} {X : XT} {Q : State → Prop} {cells slots b N : Nat} {xs : Nat → Int32} {sh : List Shp} {i : Int32} {a1 : Int32} {a2 : Int32} (hx : XSh sh) (hm : MSh sh) (ho : sh[150]? = some (.inr (3, 1, []))) (cx : Cx g X RL code) (hR : RmG X.2.2.1 40 601024 7293034) (hml : X.2.2.2.2.2.2.2.2.maxLocals = 9) (hX : va_X b N xs X.2.2.2.1 X.2.2.2.1.heap) (hbB : b < X.2.2.2.1.heap.size ∧ b < gB g) (ha1 : vp_in (i + 1) N ∧ xs (i + 1).toNatClampNeg = a1) (ha2 : vp_in (i + 2) N ∧ xs (i + 2).toNatClampNeg = a2) (hc : cells + 4 ≤ 601024) (hs : slots + 24 ≤ 7293034) (h r : Hp) (hf : K_44 h a1 a2 = some r) (kk : PW g X false Q (cells + 4) (slots + 24) sh r 2017 [some (.ref b), some (.ref (gB g + 0)), some (.ref (gB g + 140)), some (.ref (gB g + 150)), some (.int i), none, none, none, none] []) : PW g X false Q cells slots sh h 1552 [some (.ref b), some (.ref (gB g + 0)), some (.ref (gB g + 140)), some (.ref (gB g + 150)), some (.int i), none, none, none, none] [] := by
  have hi5 : 5 < X.2.2.2.2.2.2.2.2.maxLocals := by rw [hml]; exact Nat.le_of_ble_eq_true rfl
  have hi6 : 6 < X.2.2.2.2.2.2.2.2.maxLocals := by rw [hml]; exact Nat.le_of_ble_eq_true rfl
  have hi7 : 7 < X.2.2.2.2.2.2.2.2.maxLocals := by rw [hml]; exact Nat.le_of_ble_eq_true rfl
  have hi8 : 8 < X.2.2.2.2.2.2.2.2.maxLocals := by rw [hml]; exact Nat.le_of_ble_eq_true rfl
  unfold K_44 at hf
  refine PW.aload_n cx qL_law_1552 rfl ?_
  refine PW.aload_n cx qL_law_1553 rfl ?_
  refine PW.iload cx qL_law_1554 rfl ?_
  refine PW.iconst (v := 1) cx qL_law_1556 rfl ?_
  refine PW.iadd cx qL_law_1557 ?_
  refine PW.sld cx qL_law_1558 hX hbB ha1 ?_
  refine PW.aload_n cx qL_law_1559 rfl ?_
  refine PW.iload cx qL_law_1560 rfl ?_
  refine PW.iconst (v := 2) cx qL_law_1562 rfl ?_
  refine PW.iadd cx qL_law_1563 ?_
  refine PW.sld cx qL_law_1564 hX hbB ha2 ?_
  refine PW.aload_n cx qL_law_1565 rfl ?_
  refine PW.callWI (As := [.ref (gB g + 0), .int a1, .int a2, .ref (gB g + 150)]) (st := []) cx hR qL_law_1566 kw309 mw_looksFor rfl rfl (Nat.le_of_ble_eq_true rfl) (Nat.le_of_ble_eq_true rfl) (Nat.le_of_ble_eq_true rfl) (by omega) (by omega) hf sne (fun t e => ctL_looksFor hx ho h a1 a2 t e) (fun t1 h2 hf => ?_)
  refine PW.istore (L' := [some (.ref b), some (.ref (gB g + 0)), some (.ref (gB g + 140)), some (.ref (gB g + 150)), some (.int i), some (.int t1), none, none, none]) cx qL_law_1569 hi5 rfl rfl ?_
  refine PW.aload_n cx qL_law_1571 rfl ?_
  refine PW.aload_n cx qL_law_1572 rfl ?_
  refine PW.iload cx qL_law_1573 rfl ?_
  refine PW.iconst (v := 1) cx qL_law_1575 rfl ?_
  refine PW.iadd cx qL_law_1576 ?_
  refine PW.sld cx qL_law_1577 hX hbB ha1 ?_
  refine PW.aload_n cx qL_law_1578 rfl ?_
  refine PW.iload cx qL_law_1579 rfl ?_
  refine PW.iconst (v := 2) cx qL_law_1581 rfl ?_
  refine PW.iadd cx qL_law_1582 ?_
  refine PW.sld cx qL_law_1583 hX hbB ha2 ?_
  refine PW.callVWIc (As := [.int a1, .int a2]) (st := []) cx hR qL_law_1584 klL_311 mvX7_looksFor (sh_140 hm) rfl rfl rfl rfl (Nat.le_of_ble_eq_true rfl) (Nat.le_of_ble_eq_true rfl) (Nat.le_of_ble_eq_true rfl) (by omega) (by omega) hf sne (fun t e => ctX7_looksFor hm h2 a1 a2 t e) (fun t3 h4 hf => ?_)
  refine PW.istore (L' := [some (.ref b), some (.ref (gB g + 0)), some (.ref (gB g + 140)), some (.ref (gB g + 150)), some (.int i), some (.int t1), some (.int t3), none, none]) cx qL_law_1587 hi6 rfl rfl ?_
  refine PW.goto cx qL_law_1589 ?_
  cases hf
  exact PW.widen (by omega) (by omega) (PW.locs (Lsub.keep (Lsub.keep (Lsub.keep (Lsub.keep (Lsub.keep (Lsub.drop (Lsub.drop (Lsub.drop (Lsub.drop Lsub.nil))))))))) kk)
set_option maxRecDepth 20000 in
theorem ctK_45 {g : GT} {X : XT} {Q : State → Prop} {cells slots b N : Nat} {xs : Nat → Int32} {sh : List Shp} {i : Int32} {a1 : Int32} (hx : XSh sh) (hm : MSh sh) (ho : sh[150]? = some (.inr (3, 1, []))) (cx : Cx g X RL code) (hR : RmG X.2.2.1 40 601024 7293034) (hml : X.2.2.2.2.2.2.2.2.maxLocals = 9) (hX : va_X b N xs X.2.2.2.1 X.2.2.2.1.heap) (hbB : b < X.2.2.2.1.heap.size ∧ b < gB g) (ha1 : vp_in (i + 1) N ∧ xs (i + 1).toNatClampNeg = a1) (hc : cells + 4 ≤ 601024) (hs : slots + 24 ≤ 7293034) (h r : Hp) (hf : K_45 h a1 = some r) (kk : PW g X false Q (cells + 4) (slots + 24) sh r 2017 [some (.ref b), some (.ref (gB g + 0)), some (.ref (gB g + 140)), some (.ref (gB g + 150)), some (.int i), none, none, none, none] []) : PW g X false Q cells slots sh h 1592 [some (.ref b), some (.ref (gB g + 0)), some (.ref (gB g + 140)), some (.ref (gB g + 150)), some (.int i), none, none, none, none] [] := by
  have hi5 : 5 < X.2.2.2.2.2.2.2.2.maxLocals := by rw [hml]; exact Nat.le_of_ble_eq_true rfl
  have hi6 : 6 < X.2.2.2.2.2.2.2.2.maxLocals := by rw [hml]; exact Nat.le_of_ble_eq_true rfl
  have hi7 : 7 < X.2.2.2.2.2.2.2.2.maxLocals := by rw [hml]; exact Nat.le_of_ble_eq_true rfl
  have hi8 : 8 < X.2.2.2.2.2.2.2.2.maxLocals := by rw [hml]; exact Nat.le_of_ble_eq_true rfl
  unfold K_45 at hf
  refine PW.aload_n cx qL_law_1592 rfl ?_
  refine PW.aload_n cx qL_law_1593 rfl ?_
  refine PW.iload cx qL_law_1594 rfl ?_
  refine PW.iconst (v := 1) cx qL_law_1596 rfl ?_
  refine PW.iadd cx qL_law_1597 ?_
  refine PW.sld cx qL_law_1598 hX hbB ha1 ?_
  refine PW.aload_n cx qL_law_1599 rfl ?_
  refine PW.callWI (As := [.ref (gB g + 0), .int a1, .ref (gB g + 150)]) (st := []) cx hR qL_law_1600 kw312 mw_longestLook rfl rfl (Nat.le_of_ble_eq_true rfl) (Nat.le_of_ble_eq_true rfl) (Nat.le_of_ble_eq_true rfl) (by omega) (by omega) hf sne (fun t e => ctL_longestLook hx ho h a1 t e) (fun t1 h2 hf => ?_)
  refine PW.istore (L' := [some (.ref b), some (.ref (gB g + 0)), some (.ref (gB g + 140)), some (.ref (gB g + 150)), some (.int i), some (.int t1), none, none, none]) cx qL_law_1603 hi5 rfl rfl ?_
  refine PW.aload_n cx qL_law_1605 rfl ?_
  refine PW.aload_n cx qL_law_1606 rfl ?_
  refine PW.iload cx qL_law_1607 rfl ?_
  refine PW.iconst (v := 1) cx qL_law_1609 rfl ?_
  refine PW.iadd cx qL_law_1610 ?_
  refine PW.sld cx qL_law_1611 hX hbB ha1 ?_
  refine PW.callVWIc (As := [.int a1]) (st := []) cx hR qL_law_1612 klL_314 mvX7_longestLook (sh_140 hm) rfl rfl rfl rfl (Nat.le_of_ble_eq_true rfl) (Nat.le_of_ble_eq_true rfl) (Nat.le_of_ble_eq_true rfl) (by omega) (by omega) hf sne (fun t e => ctX7_longestLook hm h2 a1 t e) (fun t3 h4 hf => ?_)
  refine PW.istore (L' := [some (.ref b), some (.ref (gB g + 0)), some (.ref (gB g + 140)), some (.ref (gB g + 150)), some (.int i), some (.int t1), some (.int t3), none, none]) cx qL_law_1615 hi6 rfl rfl ?_
  refine PW.goto cx qL_law_1617 ?_
  cases hf
  exact PW.widen (by omega) (by omega) (PW.locs (Lsub.keep (Lsub.keep (Lsub.keep (Lsub.keep (Lsub.keep (Lsub.drop (Lsub.drop (Lsub.drop (Lsub.drop Lsub.nil))))))))) kk)
set_option maxRecDepth 20000 in
theorem ctK_46 {g : GT} {X : XT} {Q : State → Prop} {cells slots b N : Nat} {xs : Nat → Int32} {sh : List Shp} {i : Int32} {a1 : Int32} (hx : XSh sh) (hm : MSh sh) (ho : sh[150]? = some (.inr (3, 1, []))) (cx : Cx g X RL code) (hR : RmG X.2.2.1 40 601024 7293034) (hml : X.2.2.2.2.2.2.2.2.maxLocals = 9) (hX : va_X b N xs X.2.2.2.1 X.2.2.2.1.heap) (hbB : b < X.2.2.2.1.heap.size ∧ b < gB g) (ha1 : vp_in (i + 1) N ∧ xs (i + 1).toNatClampNeg = a1) (hc : cells + 4 ≤ 601024) (hs : slots + 24 ≤ 7293034) (h r : Hp) (hf : K_46 h a1 = some r) (kk : PW g X false Q (cells + 4) (slots + 24) sh r 2017 [some (.ref b), some (.ref (gB g + 0)), some (.ref (gB g + 140)), some (.ref (gB g + 150)), some (.int i), none, none, none, none] []) : PW g X false Q cells slots sh h 1620 [some (.ref b), some (.ref (gB g + 0)), some (.ref (gB g + 140)), some (.ref (gB g + 150)), some (.int i), none, none, none, none] [] := by
  have hi5 : 5 < X.2.2.2.2.2.2.2.2.maxLocals := by rw [hml]; exact Nat.le_of_ble_eq_true rfl
  have hi6 : 6 < X.2.2.2.2.2.2.2.2.maxLocals := by rw [hml]; exact Nat.le_of_ble_eq_true rfl
  have hi7 : 7 < X.2.2.2.2.2.2.2.2.maxLocals := by rw [hml]; exact Nat.le_of_ble_eq_true rfl
  have hi8 : 8 < X.2.2.2.2.2.2.2.2.maxLocals := by rw [hml]; exact Nat.le_of_ble_eq_true rfl
  unfold K_46 at hf
  refine PW.aload_n cx qL_law_1620 rfl ?_
  refine PW.aload_n cx qL_law_1621 rfl ?_
  refine PW.iload cx qL_law_1622 rfl ?_
  refine PW.iconst (v := 1) cx qL_law_1624 rfl ?_
  refine PW.iadd cx qL_law_1625 ?_
  refine PW.sld cx qL_law_1626 hX hbB ha1 ?_
  refine PW.aload_n cx qL_law_1627 rfl ?_
  refine PW.callWI (As := [.ref (gB g + 0), .int a1, .ref (gB g + 150)]) (st := []) cx hR qL_law_1628 kw315 mw_looksIfAired rfl rfl (Nat.le_of_ble_eq_true rfl) (Nat.le_of_ble_eq_true rfl) (Nat.le_of_ble_eq_true rfl) (by omega) (by omega) hf sne (fun t e => ctL_looksIfAired hx ho h a1 t e) (fun t1 h2 hf => ?_)
  refine PW.istore (L' := [some (.ref b), some (.ref (gB g + 0)), some (.ref (gB g + 140)), some (.ref (gB g + 150)), some (.int i), some (.int t1), none, none, none]) cx qL_law_1631 hi5 rfl rfl ?_
  refine PW.aload_n cx qL_law_1633 rfl ?_
  refine PW.aload_n cx qL_law_1634 rfl ?_
  refine PW.iload cx qL_law_1635 rfl ?_
  refine PW.iconst (v := 1) cx qL_law_1637 rfl ?_
  refine PW.iadd cx qL_law_1638 ?_
  refine PW.sld cx qL_law_1639 hX hbB ha1 ?_
  refine PW.callVWIc (As := [.int a1]) (st := []) cx hR qL_law_1640 klL_317 mvX7_looksIfAired (sh_140 hm) rfl rfl rfl rfl (Nat.le_of_ble_eq_true rfl) (Nat.le_of_ble_eq_true rfl) (Nat.le_of_ble_eq_true rfl) (by omega) (by omega) hf sne (fun t e => ctX7_looksIfAired hm h2 a1 t e) (fun t3 h4 hf => ?_)
  refine PW.istore (L' := [some (.ref b), some (.ref (gB g + 0)), some (.ref (gB g + 140)), some (.ref (gB g + 150)), some (.int i), some (.int t1), some (.int t3), none, none]) cx qL_law_1643 hi6 rfl rfl ?_
  refine PW.goto cx qL_law_1645 ?_
  cases hf
  exact PW.widen (by omega) (by omega) (PW.locs (Lsub.keep (Lsub.keep (Lsub.keep (Lsub.keep (Lsub.keep (Lsub.drop (Lsub.drop (Lsub.drop (Lsub.drop Lsub.nil))))))))) kk)
set_option maxRecDepth 20000 in
theorem ctK_47 {g : GT} {X : XT} {Q : State → Prop} {cells slots b N : Nat} {xs : Nat → Int32} {sh : List Shp} {i : Int32} {a1 : Int32} (hx : XSh sh) (hm : MSh sh) (ho : sh[150]? = some (.inr (3, 1, []))) (cx : Cx g X RL code) (hR : RmG X.2.2.1 40 601024 7293034) (hml : X.2.2.2.2.2.2.2.2.maxLocals = 9) (hX : va_X b N xs X.2.2.2.1 X.2.2.2.1.heap) (hbB : b < X.2.2.2.1.heap.size ∧ b < gB g) (ha1 : vp_in (i + 1) N ∧ xs (i + 1).toNatClampNeg = a1) (hc : cells + 4 ≤ 601024) (hs : slots + 24 ≤ 7293034) (h r : Hp) (hf : K_47 h a1 = some r) (kk : PW g X false Q (cells + 4) (slots + 24) sh r 2017 [some (.ref b), some (.ref (gB g + 0)), some (.ref (gB g + 140)), some (.ref (gB g + 150)), some (.int i), none, none, none, none] []) : PW g X false Q cells slots sh h 1648 [some (.ref b), some (.ref (gB g + 0)), some (.ref (gB g + 140)), some (.ref (gB g + 150)), some (.int i), none, none, none, none] [] := by
  have hi5 : 5 < X.2.2.2.2.2.2.2.2.maxLocals := by rw [hml]; exact Nat.le_of_ble_eq_true rfl
  have hi6 : 6 < X.2.2.2.2.2.2.2.2.maxLocals := by rw [hml]; exact Nat.le_of_ble_eq_true rfl
  have hi7 : 7 < X.2.2.2.2.2.2.2.2.maxLocals := by rw [hml]; exact Nat.le_of_ble_eq_true rfl
  have hi8 : 8 < X.2.2.2.2.2.2.2.2.maxLocals := by rw [hml]; exact Nat.le_of_ble_eq_true rfl
  unfold K_47 at hf
  refine PW.aload_n cx qL_law_1648 rfl ?_
  refine PW.aload_n cx qL_law_1649 rfl ?_
  refine PW.iload cx qL_law_1650 rfl ?_
  refine PW.iconst (v := 1) cx qL_law_1652 rfl ?_
  refine PW.iadd cx qL_law_1653 ?_
  refine PW.sld cx qL_law_1654 hX hbB ha1 ?_
  refine PW.aload_n cx qL_law_1655 rfl ?_
  refine PW.callWI (As := [.ref (gB g + 0), .int a1, .ref (gB g + 150)]) (st := []) cx hR qL_law_1656 kw318 mw_longestCluster rfl rfl (Nat.le_of_ble_eq_true rfl) (Nat.le_of_ble_eq_true rfl) (Nat.le_of_ble_eq_true rfl) (by omega) (by omega) hf sne (fun t e => ctL_longestCluster hx ho h a1 t e) (fun t1 h2 hf => ?_)
  refine PW.istore (L' := [some (.ref b), some (.ref (gB g + 0)), some (.ref (gB g + 140)), some (.ref (gB g + 150)), some (.int i), some (.int t1), none, none, none]) cx qL_law_1659 hi5 rfl rfl ?_
  refine PW.aload_n cx qL_law_1661 rfl ?_
  refine PW.aload_n cx qL_law_1662 rfl ?_
  refine PW.iload cx qL_law_1663 rfl ?_
  refine PW.iconst (v := 1) cx qL_law_1665 rfl ?_
  refine PW.iadd cx qL_law_1666 ?_
  refine PW.sld cx qL_law_1667 hX hbB ha1 ?_
  refine PW.callVWIc (As := [.int a1]) (st := []) cx hR qL_law_1668 klL_320 mvX7_longestCluster (sh_140 hm) rfl rfl rfl rfl (Nat.le_of_ble_eq_true rfl) (Nat.le_of_ble_eq_true rfl) (Nat.le_of_ble_eq_true rfl) (by omega) (by omega) hf sne (fun t e => ctX7_longestCluster hm h2 a1 t e) (fun t3 h4 hf => ?_)
  refine PW.istore (L' := [some (.ref b), some (.ref (gB g + 0)), some (.ref (gB g + 140)), some (.ref (gB g + 150)), some (.int i), some (.int t1), some (.int t3), none, none]) cx qL_law_1671 hi6 rfl rfl ?_
  refine PW.goto cx qL_law_1673 ?_
  cases hf
  exact PW.widen (by omega) (by omega) (PW.locs (Lsub.keep (Lsub.keep (Lsub.keep (Lsub.keep (Lsub.keep (Lsub.drop (Lsub.drop (Lsub.drop (Lsub.drop Lsub.nil))))))))) kk)
set_option maxRecDepth 20000 in
theorem ctK_48 {g : GT} {X : XT} {Q : State → Prop} {cells slots b N : Nat} {xs : Nat → Int32} {sh : List Shp} {i : Int32} {a1 : Int32} (hx : XSh sh) (hm : MSh sh) (ho : sh[150]? = some (.inr (3, 1, []))) (cx : Cx g X RL code) (hR : RmG X.2.2.1 40 601024 7293034) (hml : X.2.2.2.2.2.2.2.2.maxLocals = 9) (hX : va_X b N xs X.2.2.2.1 X.2.2.2.1.heap) (hbB : b < X.2.2.2.1.heap.size ∧ b < gB g) (ha1 : vp_in (i + 1) N ∧ xs (i + 1).toNatClampNeg = a1) (hc : cells + 4 ≤ 601024) (hs : slots + 24 ≤ 7293034) (h r : Hp) (hf : K_48 h a1 = some r) (kk : PW g X false Q (cells + 4) (slots + 24) sh r 2017 [some (.ref b), some (.ref (gB g + 0)), some (.ref (gB g + 140)), some (.ref (gB g + 150)), some (.int i), none, none, none, none] []) : PW g X false Q cells slots sh h 1676 [some (.ref b), some (.ref (gB g + 0)), some (.ref (gB g + 140)), some (.ref (gB g + 150)), some (.int i), none, none, none, none] [] := by
  have hi5 : 5 < X.2.2.2.2.2.2.2.2.maxLocals := by rw [hml]; exact Nat.le_of_ble_eq_true rfl
  have hi6 : 6 < X.2.2.2.2.2.2.2.2.maxLocals := by rw [hml]; exact Nat.le_of_ble_eq_true rfl
  have hi7 : 7 < X.2.2.2.2.2.2.2.2.maxLocals := by rw [hml]; exact Nat.le_of_ble_eq_true rfl
  have hi8 : 8 < X.2.2.2.2.2.2.2.2.maxLocals := by rw [hml]; exact Nat.le_of_ble_eq_true rfl
  unfold K_48 at hf
  refine PW.aload_n cx qL_law_1676 rfl ?_
  refine PW.aload_n cx qL_law_1677 rfl ?_
  refine PW.iload cx qL_law_1678 rfl ?_
  refine PW.iconst (v := 1) cx qL_law_1680 rfl ?_
  refine PW.iadd cx qL_law_1681 ?_
  refine PW.sld cx qL_law_1682 hX hbB ha1 ?_
  refine PW.aload_n cx qL_law_1683 rfl ?_
  refine PW.callWI (As := [.ref (gB g + 0), .int a1, .ref (gB g + 150)]) (st := []) cx hR qL_law_1684 kw321 mw_bestReel rfl rfl (Nat.le_of_ble_eq_true rfl) (Nat.le_of_ble_eq_true rfl) (Nat.le_of_ble_eq_true rfl) (by omega) (by omega) hf sne (fun t e => ctL_bestReel hx ho h a1 t e) (fun t1 h2 hf => ?_)
  refine PW.istore (L' := [some (.ref b), some (.ref (gB g + 0)), some (.ref (gB g + 140)), some (.ref (gB g + 150)), some (.int i), some (.int t1), none, none, none]) cx qL_law_1687 hi5 rfl rfl ?_
  refine PW.aload_n cx qL_law_1689 rfl ?_
  refine PW.aload_n cx qL_law_1690 rfl ?_
  refine PW.iload cx qL_law_1691 rfl ?_
  refine PW.iconst (v := 1) cx qL_law_1693 rfl ?_
  refine PW.iadd cx qL_law_1694 ?_
  refine PW.sld cx qL_law_1695 hX hbB ha1 ?_
  refine PW.callVWIc (As := [.int a1]) (st := []) cx hR qL_law_1696 klL_323 mvX7_bestReel (sh_140 hm) rfl rfl rfl rfl (Nat.le_of_ble_eq_true rfl) (Nat.le_of_ble_eq_true rfl) (Nat.le_of_ble_eq_true rfl) (by omega) (by omega) hf sne (fun t e => ctX7_bestReel hm h2 a1 t e) (fun t3 h4 hf => ?_)
  refine PW.istore (L' := [some (.ref b), some (.ref (gB g + 0)), some (.ref (gB g + 140)), some (.ref (gB g + 150)), some (.int i), some (.int t1), some (.int t3), none, none]) cx qL_law_1699 hi6 rfl rfl ?_
  refine PW.goto cx qL_law_1701 ?_
  cases hf
  exact PW.widen (by omega) (by omega) (PW.locs (Lsub.keep (Lsub.keep (Lsub.keep (Lsub.keep (Lsub.keep (Lsub.drop (Lsub.drop (Lsub.drop (Lsub.drop Lsub.nil))))))))) kk)
set_option maxRecDepth 20000 in
theorem ctK_49 {g : GT} {X : XT} {Q : State → Prop} {cells slots b N : Nat} {xs : Nat → Int32} {sh : List Shp} {i : Int32} {a1 : Int32} {a2 : Int32} (hx : XSh sh) (hm : MSh sh) (ho : sh[150]? = some (.inr (3, 1, []))) (cx : Cx g X RL code) (hR : RmG X.2.2.1 40 601024 7293034) (hml : X.2.2.2.2.2.2.2.2.maxLocals = 9) (hX : va_X b N xs X.2.2.2.1 X.2.2.2.1.heap) (hbB : b < X.2.2.2.1.heap.size ∧ b < gB g) (ha1 : vp_in (i + 1) N ∧ xs (i + 1).toNatClampNeg = a1) (ha2 : vp_in (i + 2) N ∧ xs (i + 2).toNatClampNeg = a2) (hc : cells + 4 ≤ 601024) (hs : slots + 24 ≤ 7293034) (h r : Hp) (hf : K_49 h a1 a2 = some r) (kk : PW g X false Q (cells + 4) (slots + 24) sh r 2017 [some (.ref b), some (.ref (gB g + 0)), some (.ref (gB g + 140)), some (.ref (gB g + 150)), some (.int i), none, none, none, none] []) : PW g X false Q cells slots sh h 1704 [some (.ref b), some (.ref (gB g + 0)), some (.ref (gB g + 140)), some (.ref (gB g + 150)), some (.int i), none, none, none, none] [] := by
  have hi5 : 5 < X.2.2.2.2.2.2.2.2.maxLocals := by rw [hml]; exact Nat.le_of_ble_eq_true rfl
  have hi6 : 6 < X.2.2.2.2.2.2.2.2.maxLocals := by rw [hml]; exact Nat.le_of_ble_eq_true rfl
  have hi7 : 7 < X.2.2.2.2.2.2.2.2.maxLocals := by rw [hml]; exact Nat.le_of_ble_eq_true rfl
  have hi8 : 8 < X.2.2.2.2.2.2.2.2.maxLocals := by rw [hml]; exact Nat.le_of_ble_eq_true rfl
  unfold K_49 at hf
  refine PW.aload_n cx qL_law_1704 rfl ?_
  refine PW.aload_n cx qL_law_1705 rfl ?_
  refine PW.iload cx qL_law_1706 rfl ?_
  refine PW.iconst (v := 1) cx qL_law_1708 rfl ?_
  refine PW.iadd cx qL_law_1709 ?_
  refine PW.sld cx qL_law_1710 hX hbB ha1 ?_
  refine PW.aload_n cx qL_law_1711 rfl ?_
  refine PW.iload cx qL_law_1712 rfl ?_
  refine PW.iconst (v := 2) cx qL_law_1714 rfl ?_
  refine PW.iadd cx qL_law_1715 ?_
  refine PW.sld cx qL_law_1716 hX hbB ha2 ?_
  refine PW.aload_n cx qL_law_1717 rfl ?_
  refine PW.callWI (As := [.ref (gB g + 0), .int a1, .int a2, .ref (gB g + 150)]) (st := []) cx hR qL_law_1718 kw324 mw_matches rfl rfl (Nat.le_of_ble_eq_true rfl) (Nat.le_of_ble_eq_true rfl) (Nat.le_of_ble_eq_true rfl) (by omega) (by omega) hf sne (fun t e => ctL_matches hx ho h a1 a2 t e) (fun t1 h2 hf => ?_)
  refine PW.istore (L' := [some (.ref b), some (.ref (gB g + 0)), some (.ref (gB g + 140)), some (.ref (gB g + 150)), some (.int i), some (.int t1), none, none, none]) cx qL_law_1721 hi5 rfl rfl ?_
  refine PW.aload_n cx qL_law_1723 rfl ?_
  refine PW.aload_n cx qL_law_1724 rfl ?_
  refine PW.iload cx qL_law_1725 rfl ?_
  refine PW.iconst (v := 1) cx qL_law_1727 rfl ?_
  refine PW.iadd cx qL_law_1728 ?_
  refine PW.sld cx qL_law_1729 hX hbB ha1 ?_
  refine PW.aload_n cx qL_law_1730 rfl ?_
  refine PW.iload cx qL_law_1731 rfl ?_
  refine PW.iconst (v := 2) cx qL_law_1733 rfl ?_
  refine PW.iadd cx qL_law_1734 ?_
  refine PW.sld cx qL_law_1735 hX hbB ha2 ?_
  refine PW.callVWBc (As := [.int a1, .int a2]) (st := []) cx hR qL_law_1736 klL_326 mvX7_matches (sh_140 hm) rfl rfl rfl rfl (Nat.le_of_ble_eq_true rfl) (Nat.le_of_ble_eq_true rfl) (Nat.le_of_ble_eq_true rfl) (by omega) (by omega) hf sne (fun t e => ctX7_matches hm h2 a1 a2 t e) (fun t3 h4 hf => ?_)
  refine PW.istore (L' := [some (.ref b), some (.ref (gB g + 0)), some (.ref (gB g + 140)), some (.ref (gB g + 150)), some (.int i), some (.int t1), some (.int (b2i t3)), none, none]) cx qL_law_1739 hi6 rfl rfl ?_
  refine PW.goto cx qL_law_1741 ?_
  cases hf
  exact PW.widen (by omega) (by omega) (PW.locs (Lsub.keep (Lsub.keep (Lsub.keep (Lsub.keep (Lsub.keep (Lsub.drop (Lsub.drop (Lsub.drop (Lsub.drop Lsub.nil))))))))) kk)
set_option maxRecDepth 20000 in
theorem ctK_50 {g : GT} {X : XT} {Q : State → Prop} {cells slots b N : Nat} {xs : Nat → Int32} {sh : List Shp} {i : Int32} {a1 : Int32} (hx : XSh sh) (hm : MSh sh) (ho : sh[150]? = some (.inr (3, 1, []))) (cx : Cx g X RL code) (hR : RmG X.2.2.1 40 601024 7293034) (hml : X.2.2.2.2.2.2.2.2.maxLocals = 9) (hX : va_X b N xs X.2.2.2.1 X.2.2.2.1.heap) (hbB : b < X.2.2.2.1.heap.size ∧ b < gB g) (ha1 : vp_in (i + 1) N ∧ xs (i + 1).toNatClampNeg = a1) (hc : cells + 4 ≤ 601024) (hs : slots + 24 ≤ 7293034) (h r : Hp) (hf : K_50 h a1 = some r) (kk : PW g X false Q (cells + 4) (slots + 24) sh r 2017 [some (.ref b), some (.ref (gB g + 0)), some (.ref (gB g + 140)), some (.ref (gB g + 150)), some (.int i), none, none, none, none] []) : PW g X false Q cells slots sh h 1744 [some (.ref b), some (.ref (gB g + 0)), some (.ref (gB g + 140)), some (.ref (gB g + 150)), some (.int i), none, none, none, none] [] := by
  have hi5 : 5 < X.2.2.2.2.2.2.2.2.maxLocals := by rw [hml]; exact Nat.le_of_ble_eq_true rfl
  have hi6 : 6 < X.2.2.2.2.2.2.2.2.maxLocals := by rw [hml]; exact Nat.le_of_ble_eq_true rfl
  have hi7 : 7 < X.2.2.2.2.2.2.2.2.maxLocals := by rw [hml]; exact Nat.le_of_ble_eq_true rfl
  have hi8 : 8 < X.2.2.2.2.2.2.2.2.maxLocals := by rw [hml]; exact Nat.le_of_ble_eq_true rfl
  unfold K_50 at hf
  refine PW.aload_n cx qL_law_1744 rfl ?_
  refine PW.aload_n cx qL_law_1745 rfl ?_
  refine PW.iload cx qL_law_1746 rfl ?_
  refine PW.iconst (v := 1) cx qL_law_1748 rfl ?_
  refine PW.iadd cx qL_law_1749 ?_
  refine PW.sld cx qL_law_1750 hX hbB ha1 ?_
  refine PW.aload_n cx qL_law_1751 rfl ?_
  refine PW.callWI (As := [.ref (gB g + 0), .int a1, .ref (gB g + 150)]) (st := []) cx hR qL_law_1752 kw327 mw_matchingSleepers rfl rfl (Nat.le_of_ble_eq_true rfl) (Nat.le_of_ble_eq_true rfl) (Nat.le_of_ble_eq_true rfl) (by omega) (by omega) hf sne (fun t e => ctL_matchingSleepers hx ho h a1 t e) (fun t1 h2 hf => ?_)
  refine PW.istore (L' := [some (.ref b), some (.ref (gB g + 0)), some (.ref (gB g + 140)), some (.ref (gB g + 150)), some (.int i), some (.int t1), none, none, none]) cx qL_law_1755 hi5 rfl rfl ?_
  refine PW.aload_n cx qL_law_1757 rfl ?_
  refine PW.aload_n cx qL_law_1758 rfl ?_
  refine PW.iload cx qL_law_1759 rfl ?_
  refine PW.iconst (v := 1) cx qL_law_1761 rfl ?_
  refine PW.iadd cx qL_law_1762 ?_
  refine PW.sld cx qL_law_1763 hX hbB ha1 ?_
  refine PW.callVWIc (As := [.int a1]) (st := []) cx hR qL_law_1764 klL_329 mvX7_matchingSleepers (sh_140 hm) rfl rfl rfl rfl (Nat.le_of_ble_eq_true rfl) (Nat.le_of_ble_eq_true rfl) (Nat.le_of_ble_eq_true rfl) (by omega) (by omega) hf sne (fun t e => ctX7_matchingSleepers hm h2 a1 t e) (fun t3 h4 hf => ?_)
  refine PW.istore (L' := [some (.ref b), some (.ref (gB g + 0)), some (.ref (gB g + 140)), some (.ref (gB g + 150)), some (.int i), some (.int t1), some (.int t3), none, none]) cx qL_law_1767 hi6 rfl rfl ?_
  refine PW.goto cx qL_law_1769 ?_
  cases hf
  exact PW.widen (by omega) (by omega) (PW.locs (Lsub.keep (Lsub.keep (Lsub.keep (Lsub.keep (Lsub.keep (Lsub.drop (Lsub.drop (Lsub.drop (Lsub.drop Lsub.nil))))))))) kk)
set_option maxRecDepth 20000 in
theorem ctK_51 {g : GT} {X : XT} {Q : State → Prop} {cells slots b N : Nat} {xs : Nat → Int32} {sh : List Shp} {i : Int32} {a1 : Int32} {a2 : Int32} (hx : XSh sh) (hm : MSh sh) (ho : sh[150]? = some (.inr (3, 1, []))) (cx : Cx g X RL code) (hR : RmG X.2.2.1 40 601024 7293034) (hml : X.2.2.2.2.2.2.2.2.maxLocals = 9) (hX : va_X b N xs X.2.2.2.1 X.2.2.2.1.heap) (hbB : b < X.2.2.2.1.heap.size ∧ b < gB g) (ha1 : vp_in (i + 1) N ∧ xs (i + 1).toNatClampNeg = a1) (ha2 : vp_in (i + 2) N ∧ xs (i + 2).toNatClampNeg = a2) (hc : cells + 4 ≤ 601024) (hs : slots + 24 ≤ 7293034) (h r : Hp) (hf : K_51 h a1 a2 = some r) (kk : PW g X false Q (cells + 4) (slots + 24) sh r 2017 [some (.ref b), some (.ref (gB g + 0)), some (.ref (gB g + 140)), some (.ref (gB g + 150)), some (.int i), none, none, none, none] []) : PW g X false Q cells slots sh h 1772 [some (.ref b), some (.ref (gB g + 0)), some (.ref (gB g + 140)), some (.ref (gB g + 150)), some (.int i), none, none, none, none] [] := by
  have hi5 : 5 < X.2.2.2.2.2.2.2.2.maxLocals := by rw [hml]; exact Nat.le_of_ble_eq_true rfl
  have hi6 : 6 < X.2.2.2.2.2.2.2.2.maxLocals := by rw [hml]; exact Nat.le_of_ble_eq_true rfl
  have hi7 : 7 < X.2.2.2.2.2.2.2.2.maxLocals := by rw [hml]; exact Nat.le_of_ble_eq_true rfl
  have hi8 : 8 < X.2.2.2.2.2.2.2.2.maxLocals := by rw [hml]; exact Nat.le_of_ble_eq_true rfl
  unfold K_51 at hf
  refine PW.aload_n cx qL_law_1772 rfl ?_
  refine PW.aload_n cx qL_law_1773 rfl ?_
  refine PW.iload cx qL_law_1774 rfl ?_
  refine PW.iconst (v := 1) cx qL_law_1776 rfl ?_
  refine PW.iadd cx qL_law_1777 ?_
  refine PW.sld cx qL_law_1778 hX hbB ha1 ?_
  refine PW.aload_n cx qL_law_1779 rfl ?_
  refine PW.iload cx qL_law_1780 rfl ?_
  refine PW.iconst (v := 2) cx qL_law_1782 rfl ?_
  refine PW.iadd cx qL_law_1783 ?_
  refine PW.sld cx qL_law_1784 hX hbB ha2 ?_
  refine PW.aload_n cx qL_law_1785 rfl ?_
  refine PW.callWI (As := [.ref (gB g + 0), .int a1, .int a2, .ref (gB g + 150)]) (st := []) cx hR qL_law_1786 kw330 mw_wokenBy rfl rfl (Nat.le_of_ble_eq_true rfl) (Nat.le_of_ble_eq_true rfl) (Nat.le_of_ble_eq_true rfl) (by omega) (by omega) hf sne (fun t e => ctL_wokenBy hx ho h a1 a2 t e) (fun t1 h2 hf => ?_)
  refine PW.istore (L' := [some (.ref b), some (.ref (gB g + 0)), some (.ref (gB g + 140)), some (.ref (gB g + 150)), some (.int i), some (.int t1), none, none, none]) cx qL_law_1789 hi5 rfl rfl ?_
  refine PW.aload_n cx qL_law_1791 rfl ?_
  refine PW.aload_n cx qL_law_1792 rfl ?_
  refine PW.iload cx qL_law_1793 rfl ?_
  refine PW.iconst (v := 1) cx qL_law_1795 rfl ?_
  refine PW.iadd cx qL_law_1796 ?_
  refine PW.sld cx qL_law_1797 hX hbB ha1 ?_
  refine PW.aload_n cx qL_law_1798 rfl ?_
  refine PW.iload cx qL_law_1799 rfl ?_
  refine PW.iconst (v := 2) cx qL_law_1801 rfl ?_
  refine PW.iadd cx qL_law_1802 ?_
  refine PW.sld cx qL_law_1803 hX hbB ha2 ?_
  refine PW.callVWIc (As := [.int a1, .int a2]) (st := []) cx hR qL_law_1804 klL_332 mvX7_wokenBy (sh_140 hm) rfl rfl rfl rfl (Nat.le_of_ble_eq_true rfl) (Nat.le_of_ble_eq_true rfl) (Nat.le_of_ble_eq_true rfl) (by omega) (by omega) hf sne (fun t e => ctX7_wokenBy hm h2 a1 a2 t e) (fun t3 h4 hf => ?_)
  refine PW.istore (L' := [some (.ref b), some (.ref (gB g + 0)), some (.ref (gB g + 140)), some (.ref (gB g + 150)), some (.int i), some (.int t1), some (.int t3), none, none]) cx qL_law_1807 hi6 rfl rfl ?_
  refine PW.goto cx qL_law_1809 ?_
  cases hf
  exact PW.widen (by omega) (by omega) (PW.locs (Lsub.keep (Lsub.keep (Lsub.keep (Lsub.keep (Lsub.keep (Lsub.drop (Lsub.drop (Lsub.drop (Lsub.drop Lsub.nil))))))))) kk)
set_option maxRecDepth 20000 in
theorem ctK_52 {g : GT} {X : XT} {Q : State → Prop} {cells slots b N : Nat} {xs : Nat → Int32} {sh : List Shp} {i : Int32} {a1 : Int32} {a2 : Int32} (hx : XSh sh) (hm : MSh sh) (ho : sh[150]? = some (.inr (3, 1, []))) (cx : Cx g X RL code) (hR : RmG X.2.2.1 40 601024 7293034) (hml : X.2.2.2.2.2.2.2.2.maxLocals = 9) (hX : va_X b N xs X.2.2.2.1 X.2.2.2.1.heap) (hbB : b < X.2.2.2.1.heap.size ∧ b < gB g) (ha1 : vp_in (i + 1) N ∧ xs (i + 1).toNatClampNeg = a1) (ha2 : vp_in (i + 2) N ∧ xs (i + 2).toNatClampNeg = a2) (hc : cells + 4 ≤ 601024) (hs : slots + 24 ≤ 7293034) (h r : Hp) (hf : K_52 h a1 a2 = some r) (kk : PW g X false Q (cells + 4) (slots + 24) sh r 2017 [some (.ref b), some (.ref (gB g + 0)), some (.ref (gB g + 140)), some (.ref (gB g + 150)), some (.int i), none, none, none, none] []) : PW g X false Q cells slots sh h 1812 [some (.ref b), some (.ref (gB g + 0)), some (.ref (gB g + 140)), some (.ref (gB g + 150)), some (.int i), none, none, none, none] [] := by
  have hi5 : 5 < X.2.2.2.2.2.2.2.2.maxLocals := by rw [hml]; exact Nat.le_of_ble_eq_true rfl
  have hi6 : 6 < X.2.2.2.2.2.2.2.2.maxLocals := by rw [hml]; exact Nat.le_of_ble_eq_true rfl
  have hi7 : 7 < X.2.2.2.2.2.2.2.2.maxLocals := by rw [hml]; exact Nat.le_of_ble_eq_true rfl
  have hi8 : 8 < X.2.2.2.2.2.2.2.2.maxLocals := by rw [hml]; exact Nat.le_of_ble_eq_true rfl
  unfold K_52 at hf
  refine PW.aload_n cx qL_law_1812 rfl ?_
  refine PW.aload_n cx qL_law_1813 rfl ?_
  refine PW.iload cx qL_law_1814 rfl ?_
  refine PW.iconst (v := 1) cx qL_law_1816 rfl ?_
  refine PW.iadd cx qL_law_1817 ?_
  refine PW.sld cx qL_law_1818 hX hbB ha1 ?_
  refine PW.aload_n cx qL_law_1819 rfl ?_
  refine PW.iload cx qL_law_1820 rfl ?_
  refine PW.iconst (v := 2) cx qL_law_1822 rfl ?_
  refine PW.iadd cx qL_law_1823 ?_
  refine PW.sld cx qL_law_1824 hX hbB ha2 ?_
  refine PW.aload_n cx qL_law_1825 rfl ?_
  refine PW.callWI (As := [.ref (gB g + 0), .int a1, .int a2, .ref (gB g + 150)]) (st := []) cx hR qL_law_1826 kw333 mw_firstMatch rfl rfl (Nat.le_of_ble_eq_true rfl) (Nat.le_of_ble_eq_true rfl) (Nat.le_of_ble_eq_true rfl) (by omega) (by omega) hf sne (fun t e => ctL_firstMatch hx ho h a1 a2 t e) (fun t1 h2 hf => ?_)
  refine PW.istore (L' := [some (.ref b), some (.ref (gB g + 0)), some (.ref (gB g + 140)), some (.ref (gB g + 150)), some (.int i), some (.int t1), none, none, none]) cx qL_law_1829 hi5 rfl rfl ?_
  refine PW.aload_n cx qL_law_1831 rfl ?_
  refine PW.aload_n cx qL_law_1832 rfl ?_
  refine PW.iload cx qL_law_1833 rfl ?_
  refine PW.iconst (v := 1) cx qL_law_1835 rfl ?_
  refine PW.iadd cx qL_law_1836 ?_
  refine PW.sld cx qL_law_1837 hX hbB ha1 ?_
  refine PW.aload_n cx qL_law_1838 rfl ?_
  refine PW.iload cx qL_law_1839 rfl ?_
  refine PW.iconst (v := 2) cx qL_law_1841 rfl ?_
  refine PW.iadd cx qL_law_1842 ?_
  refine PW.sld cx qL_law_1843 hX hbB ha2 ?_
  refine PW.callVWIc (As := [.int a1, .int a2]) (st := []) cx hR qL_law_1844 klL_335 mvX7_firstMatch (sh_140 hm) rfl rfl rfl rfl (Nat.le_of_ble_eq_true rfl) (Nat.le_of_ble_eq_true rfl) (Nat.le_of_ble_eq_true rfl) (by omega) (by omega) hf sne (fun t e => ctX7_firstMatch hm h2 a1 a2 t e) (fun t3 h4 hf => ?_)
  refine PW.istore (L' := [some (.ref b), some (.ref (gB g + 0)), some (.ref (gB g + 140)), some (.ref (gB g + 150)), some (.int i), some (.int t1), some (.int t3), none, none]) cx qL_law_1847 hi6 rfl rfl ?_
  refine PW.goto cx qL_law_1849 ?_
  cases hf
  exact PW.widen (by omega) (by omega) (PW.locs (Lsub.keep (Lsub.keep (Lsub.keep (Lsub.keep (Lsub.keep (Lsub.drop (Lsub.drop (Lsub.drop (Lsub.drop Lsub.nil))))))))) kk)
set_option maxRecDepth 20000 in
theorem ctK_53 {g : GT} {X : XT} {Q : State → Prop} {cells slots b N : Nat} {xs : Nat → Int32} {sh : List Shp} {i : Int32} {a1 : Int32} (hx : XSh sh) (hm : MSh sh) (ho : sh[150]? = some (.inr (3, 1, []))) (cx : Cx g X RL code) (hR : RmG X.2.2.1 40 601024 7293034) (hml : X.2.2.2.2.2.2.2.2.maxLocals = 9) (hX : va_X b N xs X.2.2.2.1 X.2.2.2.1.heap) (hbB : b < X.2.2.2.1.heap.size ∧ b < gB g) (ha1 : vp_in (i + 1) N ∧ xs (i + 1).toNatClampNeg = a1) (hc : cells + 4 ≤ 601024) (hs : slots + 24 ≤ 7293034) (h r : Hp) (hf : K_53 h a1 = some r) (kk : PW g X false Q (cells + 4) (slots + 24) sh r 2017 [some (.ref b), some (.ref (gB g + 0)), some (.ref (gB g + 140)), some (.ref (gB g + 150)), some (.int i), none, none, none, none] []) : PW g X false Q cells slots sh h 1852 [some (.ref b), some (.ref (gB g + 0)), some (.ref (gB g + 140)), some (.ref (gB g + 150)), some (.int i), none, none, none, none] [] := by
  have hi5 : 5 < X.2.2.2.2.2.2.2.2.maxLocals := by rw [hml]; exact Nat.le_of_ble_eq_true rfl
  have hi6 : 6 < X.2.2.2.2.2.2.2.2.maxLocals := by rw [hml]; exact Nat.le_of_ble_eq_true rfl
  have hi7 : 7 < X.2.2.2.2.2.2.2.2.maxLocals := by rw [hml]; exact Nat.le_of_ble_eq_true rfl
  have hi8 : 8 < X.2.2.2.2.2.2.2.2.maxLocals := by rw [hml]; exact Nat.le_of_ble_eq_true rfl
  unfold K_53 at hf
  refine PW.aload_n cx qL_law_1852 rfl ?_
  refine PW.aload_n cx qL_law_1853 rfl ?_
  refine PW.iload cx qL_law_1854 rfl ?_
  refine PW.iconst (v := 1) cx qL_law_1856 rfl ?_
  refine PW.iadd cx qL_law_1857 ?_
  refine PW.sld cx qL_law_1858 hX hbB ha1 ?_
  refine PW.aload_n cx qL_law_1859 rfl ?_
  refine PW.callWI (As := [.ref (gB g + 0), .int a1, .ref (gB g + 150)]) (st := []) cx hR qL_law_1860 kw336 mw_bestPattern rfl rfl (Nat.le_of_ble_eq_true rfl) (Nat.le_of_ble_eq_true rfl) (Nat.le_of_ble_eq_true rfl) (by omega) (by omega) hf sne (fun t e => ctL_bestPattern hx ho h a1 t e) (fun t1 h2 hf => ?_)
  refine PW.istore (L' := [some (.ref b), some (.ref (gB g + 0)), some (.ref (gB g + 140)), some (.ref (gB g + 150)), some (.int i), some (.int t1), none, none, none]) cx qL_law_1863 hi5 rfl rfl ?_
  refine PW.aload_n cx qL_law_1865 rfl ?_
  refine PW.aload_n cx qL_law_1866 rfl ?_
  refine PW.iload cx qL_law_1867 rfl ?_
  refine PW.iconst (v := 1) cx qL_law_1869 rfl ?_
  refine PW.iadd cx qL_law_1870 ?_
  refine PW.sld cx qL_law_1871 hX hbB ha1 ?_
  refine PW.callVWIc (As := [.int a1]) (st := []) cx hR qL_law_1872 klL_338 mvX7_bestPattern (sh_140 hm) rfl rfl rfl rfl (Nat.le_of_ble_eq_true rfl) (Nat.le_of_ble_eq_true rfl) (Nat.le_of_ble_eq_true rfl) (by omega) (by omega) hf sne (fun t e => ctX7_bestPattern hm h2 a1 t e) (fun t3 h4 hf => ?_)
  refine PW.istore (L' := [some (.ref b), some (.ref (gB g + 0)), some (.ref (gB g + 140)), some (.ref (gB g + 150)), some (.int i), some (.int t1), some (.int t3), none, none]) cx qL_law_1875 hi6 rfl rfl ?_
  refine PW.goto cx qL_law_1877 ?_
  cases hf
  exact PW.widen (by omega) (by omega) (PW.locs (Lsub.keep (Lsub.keep (Lsub.keep (Lsub.keep (Lsub.keep (Lsub.drop (Lsub.drop (Lsub.drop (Lsub.drop Lsub.nil))))))))) kk)
set_option maxRecDepth 20000 in
theorem ctK_54 {g : GT} {X : XT} {Q : State → Prop} {cells slots b N : Nat} {xs : Nat → Int32} {sh : List Shp} {i : Int32} (hx : XSh sh) (hm : MSh sh) (ho : sh[150]? = some (.inr (3, 1, []))) (cx : Cx g X RL code) (hR : RmG X.2.2.1 40 601024 7293034) (hml : X.2.2.2.2.2.2.2.2.maxLocals = 9) (hX : va_X b N xs X.2.2.2.1 X.2.2.2.1.heap) (hbB : b < X.2.2.2.1.heap.size ∧ b < gB g) (hc : cells + 4 ≤ 601024) (hs : slots + 24 ≤ 7293034) (h r : Hp) (hf : K_54 h = some r) (kk : PW g X false Q (cells + 4) (slots + 24) sh r 2017 [some (.ref b), some (.ref (gB g + 0)), some (.ref (gB g + 140)), some (.ref (gB g + 150)), some (.int i), none, none, none, none] []) : PW g X false Q cells slots sh h 1880 [some (.ref b), some (.ref (gB g + 0)), some (.ref (gB g + 140)), some (.ref (gB g + 150)), some (.int i), none, none, none, none] [] := by
  have hi5 : 5 < X.2.2.2.2.2.2.2.2.maxLocals := by rw [hml]; exact Nat.le_of_ble_eq_true rfl
  have hi6 : 6 < X.2.2.2.2.2.2.2.2.maxLocals := by rw [hml]; exact Nat.le_of_ble_eq_true rfl
  have hi7 : 7 < X.2.2.2.2.2.2.2.2.maxLocals := by rw [hml]; exact Nat.le_of_ble_eq_true rfl
  have hi8 : 8 < X.2.2.2.2.2.2.2.2.maxLocals := by rw [hml]; exact Nat.le_of_ble_eq_true rfl
  unfold K_54 at hf
  refine PW.aload_n cx qL_law_1880 rfl ?_
  refine PW.callVRI (As := []) (st := []) cx hR qL_law_1881 klL_339 mvX6_burnedFat (sh_0 hx) rfl rfl rfl rfl (Nat.le_of_ble_eq_true rfl) (Nat.le_of_ble_eq_true rfl) (Nat.le_of_ble_eq_true rfl) (by omega) (by omega) hf sne (fun t e => ctX6_burnedFat hx h t e) (fun t1 hf => ?_)
  refine PW.pop cx qL_law_1884 rfl ?_
  refine PW.aload_n cx qL_law_1885 rfl ?_
  refine PW.callVWIc (As := []) (st := []) cx hR qL_law_1886 klL_342 mvX7_burnedFat (sh_140 hm) rfl rfl rfl rfl (Nat.le_of_ble_eq_true rfl) (Nat.le_of_ble_eq_true rfl) (Nat.le_of_ble_eq_true rfl) (by omega) (by omega) hf sne (fun t e => ctX7_burnedFat hm h t e) (fun t2 h3 hf => ?_)
  refine PW.pop cx qL_law_1889 rfl ?_
  refine PW.goto cx qL_law_1890 ?_
  cases hf
  exact PW.widen (by omega) (by omega) (PW.locs (Lsub.keep (Lsub.keep (Lsub.keep (Lsub.keep (Lsub.keep (Lsub.drop (Lsub.drop (Lsub.drop (Lsub.drop Lsub.nil))))))))) kk)
set_option maxRecDepth 20000 in
theorem ctK_55 {g : GT} {X : XT} {Q : State → Prop} {cells slots b N : Nat} {xs : Nat → Int32} {sh : List Shp} {i : Int32} (hx : XSh sh) (hm : MSh sh) (ho : sh[150]? = some (.inr (3, 1, []))) (cx : Cx g X RL code) (hR : RmG X.2.2.1 40 601024 7293034) (hml : X.2.2.2.2.2.2.2.2.maxLocals = 9) (hX : va_X b N xs X.2.2.2.1 X.2.2.2.1.heap) (hbB : b < X.2.2.2.1.heap.size ∧ b < gB g) (hc : cells + 4 ≤ 601024) (hs : slots + 24 ≤ 7293034) (h r : Hp) (hf : K_55 h = some r) (kk : PW g X false Q (cells + 4) (slots + 24) sh r 2017 [some (.ref b), some (.ref (gB g + 0)), some (.ref (gB g + 140)), some (.ref (gB g + 150)), some (.int i), none, none, none, none] []) : PW g X false Q cells slots sh h 1893 [some (.ref b), some (.ref (gB g + 0)), some (.ref (gB g + 140)), some (.ref (gB g + 150)), some (.int i), none, none, none, none] [] := by
  have hi5 : 5 < X.2.2.2.2.2.2.2.2.maxLocals := by rw [hml]; exact Nat.le_of_ble_eq_true rfl
  have hi6 : 6 < X.2.2.2.2.2.2.2.2.maxLocals := by rw [hml]; exact Nat.le_of_ble_eq_true rfl
  have hi7 : 7 < X.2.2.2.2.2.2.2.2.maxLocals := by rw [hml]; exact Nat.le_of_ble_eq_true rfl
  have hi8 : 8 < X.2.2.2.2.2.2.2.2.maxLocals := by rw [hml]; exact Nat.le_of_ble_eq_true rfl
  unfold K_55 at hf
  refine PW.aload_n cx qL_law_1893 rfl ?_
  refine PW.callVRI (As := []) (st := []) cx hR qL_law_1894 klL_343 mvX6_wakings (sh_0 hx) rfl rfl rfl rfl (Nat.le_of_ble_eq_true rfl) (Nat.le_of_ble_eq_true rfl) (Nat.le_of_ble_eq_true rfl) (by omega) (by omega) hf sne (fun t e => ctX6_wakings hx h t e) (fun t1 hf => ?_)
  refine PW.pop cx qL_law_1897 rfl ?_
  refine PW.aload_n cx qL_law_1898 rfl ?_
  refine PW.callVWIc (As := []) (st := []) cx hR qL_law_1899 klL_346 mvX7_wakings (sh_140 hm) rfl rfl rfl rfl (Nat.le_of_ble_eq_true rfl) (Nat.le_of_ble_eq_true rfl) (Nat.le_of_ble_eq_true rfl) (by omega) (by omega) hf sne (fun t e => ctX7_wakings hm h t e) (fun t2 h3 hf => ?_)
  refine PW.pop cx qL_law_1902 rfl ?_
  refine PW.goto cx qL_law_1903 ?_
  cases hf
  exact PW.widen (by omega) (by omega) (PW.locs (Lsub.keep (Lsub.keep (Lsub.keep (Lsub.keep (Lsub.keep (Lsub.drop (Lsub.drop (Lsub.drop (Lsub.drop Lsub.nil))))))))) kk)
set_option maxRecDepth 20000 in
theorem ctK_56 {g : GT} {X : XT} {Q : State → Prop} {cells slots b N : Nat} {xs : Nat → Int32} {sh : List Shp} {i : Int32} (hx : XSh sh) (hm : MSh sh) (ho : sh[150]? = some (.inr (3, 1, []))) (cx : Cx g X RL code) (hR : RmG X.2.2.1 40 601024 7293034) (hml : X.2.2.2.2.2.2.2.2.maxLocals = 9) (hX : va_X b N xs X.2.2.2.1 X.2.2.2.1.heap) (hbB : b < X.2.2.2.1.heap.size ∧ b < gB g) (hc : cells + 4 ≤ 601024) (hs : slots + 24 ≤ 7293034) (h r : Hp) (hf : K_56 h = some r) (kk : PW g X false Q (cells + 4) (slots + 24) sh r 2017 [some (.ref b), some (.ref (gB g + 0)), some (.ref (gB g + 140)), some (.ref (gB g + 150)), some (.int i), none, none, none, none] []) : PW g X false Q cells slots sh h 1906 [some (.ref b), some (.ref (gB g + 0)), some (.ref (gB g + 140)), some (.ref (gB g + 150)), some (.int i), none, none, none, none] [] := by
  have hi5 : 5 < X.2.2.2.2.2.2.2.2.maxLocals := by rw [hml]; exact Nat.le_of_ble_eq_true rfl
  have hi6 : 6 < X.2.2.2.2.2.2.2.2.maxLocals := by rw [hml]; exact Nat.le_of_ble_eq_true rfl
  have hi7 : 7 < X.2.2.2.2.2.2.2.2.maxLocals := by rw [hml]; exact Nat.le_of_ble_eq_true rfl
  have hi8 : 8 < X.2.2.2.2.2.2.2.2.maxLocals := by rw [hml]; exact Nat.le_of_ble_eq_true rfl
  unfold K_56 at hf
  refine PW.aload_n cx qL_law_1906 rfl ?_
  refine PW.callVRI (As := []) (st := []) cx hR qL_law_1907 klL_347 mvX6_fadedClips (sh_0 hx) rfl rfl rfl rfl (Nat.le_of_ble_eq_true rfl) (Nat.le_of_ble_eq_true rfl) (Nat.le_of_ble_eq_true rfl) (by omega) (by omega) hf sne (fun t e => ctX6_fadedClips hx h t e) (fun t1 hf => ?_)
  refine PW.pop cx qL_law_1910 rfl ?_
  refine PW.aload_n cx qL_law_1911 rfl ?_
  refine PW.callVWIc (As := []) (st := []) cx hR qL_law_1912 klL_350 mvX7_fadedClips (sh_140 hm) rfl rfl rfl rfl (Nat.le_of_ble_eq_true rfl) (Nat.le_of_ble_eq_true rfl) (Nat.le_of_ble_eq_true rfl) (by omega) (by omega) hf sne (fun t e => ctX7_fadedClips hm h t e) (fun t2 h3 hf => ?_)
  refine PW.pop cx qL_law_1915 rfl ?_
  refine PW.goto cx qL_law_1916 ?_
  cases hf
  exact PW.widen (by omega) (by omega) (PW.locs (Lsub.keep (Lsub.keep (Lsub.keep (Lsub.keep (Lsub.keep (Lsub.drop (Lsub.drop (Lsub.drop (Lsub.drop Lsub.nil))))))))) kk)
set_option maxRecDepth 20000 in
theorem ctK_57 {g : GT} {X : XT} {Q : State → Prop} {cells slots b N : Nat} {xs : Nat → Int32} {sh : List Shp} {i : Int32} (hx : XSh sh) (hm : MSh sh) (ho : sh[150]? = some (.inr (3, 1, []))) (cx : Cx g X RL code) (hR : RmG X.2.2.1 40 601024 7293034) (hml : X.2.2.2.2.2.2.2.2.maxLocals = 9) (hX : va_X b N xs X.2.2.2.1 X.2.2.2.1.heap) (hbB : b < X.2.2.2.1.heap.size ∧ b < gB g) (hc : cells + 4 ≤ 601024) (hs : slots + 24 ≤ 7293034) (h r : Hp) (hf : K_57 h = some r) (kk : PW g X false Q (cells + 4) (slots + 24) sh r 2017 [some (.ref b), some (.ref (gB g + 0)), some (.ref (gB g + 140)), some (.ref (gB g + 150)), some (.int i), none, none, none, none] []) : PW g X false Q cells slots sh h 1919 [some (.ref b), some (.ref (gB g + 0)), some (.ref (gB g + 140)), some (.ref (gB g + 150)), some (.int i), none, none, none, none] [] := by
  have hi5 : 5 < X.2.2.2.2.2.2.2.2.maxLocals := by rw [hml]; exact Nat.le_of_ble_eq_true rfl
  have hi6 : 6 < X.2.2.2.2.2.2.2.2.maxLocals := by rw [hml]; exact Nat.le_of_ble_eq_true rfl
  have hi7 : 7 < X.2.2.2.2.2.2.2.2.maxLocals := by rw [hml]; exact Nat.le_of_ble_eq_true rfl
  have hi8 : 8 < X.2.2.2.2.2.2.2.2.maxLocals := by rw [hml]; exact Nat.le_of_ble_eq_true rfl
  unfold K_57 at hf
  refine PW.aload_n cx qL_law_1919 rfl ?_
  refine PW.callVRD (As := []) (st := []) cx hR qL_law_1920 klL_351 mvX6_meanFat (sh_0 hx) rfl rfl rfl rfl (Nat.le_of_ble_eq_true rfl) (Nat.le_of_ble_eq_true rfl) (Nat.le_of_ble_eq_true rfl) (by omega) (by omega) hf sne (fun t e => ctX6_meanFat hx h t e) (fun t1 hf => ?_)
  refine PW.dstore (L' := [some (.ref b), some (.ref (gB g + 0)), some (.ref (gB g + 140)), some (.ref (gB g + 150)), some (.int i), some (.double t1), none, none, none]) cx qL_law_1923 hi6 rfl rfl ?_
  refine PW.aload_n cx qL_law_1925 rfl ?_
  refine PW.callVWDc (As := []) (st := []) cx hR qL_law_1926 klL_355 mvX7_meanFat (sh_140 hm) rfl rfl rfl rfl (Nat.le_of_ble_eq_true rfl) (Nat.le_of_ble_eq_true rfl) (Nat.le_of_ble_eq_true rfl) (by omega) (by omega) hf sne (fun t e => ctX7_meanFat hm h t e) (fun t2 h3 hf => ?_)
  refine PW.dstore (L' := [some (.ref b), some (.ref (gB g + 0)), some (.ref (gB g + 140)), some (.ref (gB g + 150)), some (.int i), some (.double t1), none, some (.double t2), none]) cx qL_law_1929 hi8 rfl rfl ?_
  refine PW.goto cx qL_law_1931 ?_
  cases hf
  exact PW.widen (by omega) (by omega) (PW.locs (Lsub.keep (Lsub.keep (Lsub.keep (Lsub.keep (Lsub.keep (Lsub.drop (Lsub.drop (Lsub.drop (Lsub.drop Lsub.nil))))))))) kk)
set_option maxRecDepth 20000 in
theorem ctK_58 {g : GT} {X : XT} {Q : State → Prop} {cells slots b N : Nat} {xs : Nat → Int32} {sh : List Shp} {i : Int32} (hx : XSh sh) (hm : MSh sh) (ho : sh[150]? = some (.inr (3, 1, []))) (cx : Cx g X RL code) (hR : RmG X.2.2.1 40 601024 7293034) (hml : X.2.2.2.2.2.2.2.2.maxLocals = 9) (hX : va_X b N xs X.2.2.2.1 X.2.2.2.1.heap) (hbB : b < X.2.2.2.1.heap.size ∧ b < gB g) (hc : cells + 4 ≤ 601024) (hs : slots + 24 ≤ 7293034) (h r : Hp) (hf : K_58 h = some r) (kk : PW g X false Q (cells + 4) (slots + 24) sh r 2017 [some (.ref b), some (.ref (gB g + 0)), some (.ref (gB g + 140)), some (.ref (gB g + 150)), some (.int i), none, none, none, none] []) : PW g X false Q cells slots sh h 1934 [some (.ref b), some (.ref (gB g + 0)), some (.ref (gB g + 140)), some (.ref (gB g + 150)), some (.int i), none, none, none, none] [] := by
  have hi5 : 5 < X.2.2.2.2.2.2.2.2.maxLocals := by rw [hml]; exact Nat.le_of_ble_eq_true rfl
  have hi6 : 6 < X.2.2.2.2.2.2.2.2.maxLocals := by rw [hml]; exact Nat.le_of_ble_eq_true rfl
  have hi7 : 7 < X.2.2.2.2.2.2.2.2.maxLocals := by rw [hml]; exact Nat.le_of_ble_eq_true rfl
  have hi8 : 8 < X.2.2.2.2.2.2.2.2.maxLocals := by rw [hml]; exact Nat.le_of_ble_eq_true rfl
  unfold K_58 at hf
  refine PW.aload_n cx qL_law_1934 rfl ?_
  refine PW.callVRF (As := []) (st := []) cx hR qL_law_1935 klL_356 mvX6_sleepShare (sh_0 hx) rfl rfl rfl rfl (Nat.le_of_ble_eq_true rfl) (Nat.le_of_ble_eq_true rfl) (Nat.le_of_ble_eq_true rfl) (by omega) (by omega) hf sne (fun t e => ctX6_sleepShare hx h t e) (fun t1 hf => ?_)
  refine PW.f2d cx qL_law_1938 hf sne (fun t2 hf => ?_)
  refine PW.dstore (L' := [some (.ref b), some (.ref (gB g + 0)), some (.ref (gB g + 140)), some (.ref (gB g + 150)), some (.int i), some (.double t2), none, none, none]) cx qL_law_1939 hi6 rfl rfl ?_
  refine PW.aload_n cx qL_law_1941 rfl ?_
  refine PW.callVWFc (As := []) (st := []) cx hR qL_law_1942 klL_360 mvX7_sleepShare (sh_140 hm) rfl rfl rfl rfl (Nat.le_of_ble_eq_true rfl) (Nat.le_of_ble_eq_true rfl) (Nat.le_of_ble_eq_true rfl) (by omega) (by omega) hf sne (fun t e => ctX7_sleepShare hm h t e) (fun t3 h4 hf => ?_)
  refine PW.f2d cx qL_law_1945 hf sne (fun t5 hf => ?_)
  refine PW.dstore (L' := [some (.ref b), some (.ref (gB g + 0)), some (.ref (gB g + 140)), some (.ref (gB g + 150)), some (.int i), some (.double t2), none, some (.double t5), none]) cx qL_law_1946 hi8 rfl rfl ?_
  refine PW.goto cx qL_law_1948 ?_
  cases hf
  exact PW.widen (by omega) (by omega) (PW.locs (Lsub.keep (Lsub.keep (Lsub.keep (Lsub.keep (Lsub.keep (Lsub.drop (Lsub.drop (Lsub.drop (Lsub.drop Lsub.nil))))))))) kk)
set_option maxRecDepth 20000 in
theorem ctK_59 {g : GT} {X : XT} {Q : State → Prop} {cells slots b N : Nat} {xs : Nat → Int32} {sh : List Shp} {i : Int32} (hx : XSh sh) (hm : MSh sh) (ho : sh[150]? = some (.inr (3, 1, []))) (cx : Cx g X RL code) (hR : RmG X.2.2.1 40 601024 7293034) (hml : X.2.2.2.2.2.2.2.2.maxLocals = 9) (hX : va_X b N xs X.2.2.2.1 X.2.2.2.1.heap) (hbB : b < X.2.2.2.1.heap.size ∧ b < gB g) (hc : cells + 4 ≤ 601024) (hs : slots + 24 ≤ 7293034) (h r : Hp) (hf : K_59 h = some r) (kk : PW g X false Q (cells + 4) (slots + 24) sh r 2017 [some (.ref b), some (.ref (gB g + 0)), some (.ref (gB g + 140)), some (.ref (gB g + 150)), some (.int i), none, none, none, none] []) : PW g X false Q cells slots sh h 1951 [some (.ref b), some (.ref (gB g + 0)), some (.ref (gB g + 140)), some (.ref (gB g + 150)), some (.int i), none, none, none, none] [] := by
  have hi5 : 5 < X.2.2.2.2.2.2.2.2.maxLocals := by rw [hml]; exact Nat.le_of_ble_eq_true rfl
  have hi6 : 6 < X.2.2.2.2.2.2.2.2.maxLocals := by rw [hml]; exact Nat.le_of_ble_eq_true rfl
  have hi7 : 7 < X.2.2.2.2.2.2.2.2.maxLocals := by rw [hml]; exact Nat.le_of_ble_eq_true rfl
  have hi8 : 8 < X.2.2.2.2.2.2.2.2.maxLocals := by rw [hml]; exact Nat.le_of_ble_eq_true rfl
  unfold K_59 at hf
  refine PW.aload_n cx qL_law_1951 rfl ?_
  refine PW.callVRI (As := []) (st := []) cx hR qL_law_1952 klL_361 mvX6_violations (sh_0 hx) rfl rfl rfl rfl (Nat.le_of_ble_eq_true rfl) (Nat.le_of_ble_eq_true rfl) (Nat.le_of_ble_eq_true rfl) (by omega) (by omega) hf sne (fun t e => ctX6_violations hx h t e) (fun t1 hf => ?_)
  refine PW.pop cx qL_law_1955 rfl ?_
  refine PW.aload_n cx qL_law_1956 rfl ?_
  refine PW.callVWIc (As := []) (st := []) cx hR qL_law_1957 klL_364 mvX7_violations (sh_140 hm) rfl rfl rfl rfl (Nat.le_of_ble_eq_true rfl) (Nat.le_of_ble_eq_true rfl) (Nat.le_of_ble_eq_true rfl) (by omega) (by omega) hf sne (fun t e => ctX7_violations hm h t e) (fun t2 h3 hf => ?_)
  refine PW.pop cx qL_law_1960 rfl ?_
  refine PW.goto cx qL_law_1961 ?_
  cases hf
  exact PW.widen (by omega) (by omega) (PW.locs (Lsub.keep (Lsub.keep (Lsub.keep (Lsub.keep (Lsub.keep (Lsub.drop (Lsub.drop (Lsub.drop (Lsub.drop Lsub.nil))))))))) kk)
set_option maxRecDepth 20000 in
theorem ctK_60 {g : GT} {X : XT} {Q : State → Prop} {cells slots b N : Nat} {xs : Nat → Int32} {sh : List Shp} {i : Int32} {a1 : Int32} (hx : XSh sh) (hm : MSh sh) (ho : sh[150]? = some (.inr (3, 1, []))) (cx : Cx g X RL code) (hR : RmG X.2.2.1 40 601024 7293034) (hml : X.2.2.2.2.2.2.2.2.maxLocals = 9) (hX : va_X b N xs X.2.2.2.1 X.2.2.2.1.heap) (hbB : b < X.2.2.2.1.heap.size ∧ b < gB g) (ha1 : vp_in (i + 1) N ∧ xs (i + 1).toNatClampNeg = a1) (hc : cells + 4 ≤ 601024) (hs : slots + 24 ≤ 7293034) (h r : Hp) (hf : K_60 h a1 = some r) (kk : PW g X false Q (cells + 4) (slots + 24) sh r 2017 [some (.ref b), some (.ref (gB g + 0)), some (.ref (gB g + 140)), some (.ref (gB g + 150)), some (.int i), none, none, none, none] []) : PW g X false Q cells slots sh h 1964 [some (.ref b), some (.ref (gB g + 0)), some (.ref (gB g + 140)), some (.ref (gB g + 150)), some (.int i), none, none, none, none] [] := by
  have hi5 : 5 < X.2.2.2.2.2.2.2.2.maxLocals := by rw [hml]; exact Nat.le_of_ble_eq_true rfl
  have hi6 : 6 < X.2.2.2.2.2.2.2.2.maxLocals := by rw [hml]; exact Nat.le_of_ble_eq_true rfl
  have hi7 : 7 < X.2.2.2.2.2.2.2.2.maxLocals := by rw [hml]; exact Nat.le_of_ble_eq_true rfl
  have hi8 : 8 < X.2.2.2.2.2.2.2.2.maxLocals := by rw [hml]; exact Nat.le_of_ble_eq_true rfl
  unfold K_60 at hf
  refine PW.aload_n cx qL_law_1964 rfl ?_
  refine PW.aload_n cx qL_law_1965 rfl ?_
  refine PW.iload cx qL_law_1966 rfl ?_
  refine PW.iconst (v := 1) cx qL_law_1968 rfl ?_
  refine PW.iadd cx qL_law_1969 ?_
  refine PW.sld cx qL_law_1970 hX hbB ha1 ?_
  refine PW.aload_n cx qL_law_1971 rfl ?_
  refine PW.callWI (As := [.ref (gB g + 0), .int a1, .ref (gB g + 150)]) (st := []) cx hR qL_law_1972 kw365 mw_writeReel rfl rfl (Nat.le_of_ble_eq_true rfl) (Nat.le_of_ble_eq_true rfl) (Nat.le_of_ble_eq_true rfl) (by omega) (by omega) hf sne (fun t e => ctL_writeReel hx ho h a1 t e) (fun t1 h2 hf => ?_)
  refine PW.istore (L' := [some (.ref b), some (.ref (gB g + 0)), some (.ref (gB g + 140)), some (.ref (gB g + 150)), some (.int i), some (.int t1), none, none, none]) cx qL_law_1975 hi5 rfl rfl ?_
  refine PW.aload_n cx qL_law_1977 rfl ?_
  refine PW.aload_n cx qL_law_1978 rfl ?_
  refine PW.iload cx qL_law_1979 rfl ?_
  refine PW.iconst (v := 1) cx qL_law_1981 rfl ?_
  refine PW.iadd cx qL_law_1982 ?_
  refine PW.sld cx qL_law_1983 hX hbB ha1 ?_
  refine PW.callVWIc (As := [.int a1]) (st := []) cx hR qL_law_1984 klL_367 mvX7_writeReel (sh_140 hm) rfl rfl rfl rfl (Nat.le_of_ble_eq_true rfl) (Nat.le_of_ble_eq_true rfl) (Nat.le_of_ble_eq_true rfl) (by omega) (by omega) hf sne (fun t e => ctX7_writeReel hm h2 a1 t e) (fun t3 h4 hf => ?_)
  refine PW.istore (L' := [some (.ref b), some (.ref (gB g + 0)), some (.ref (gB g + 140)), some (.ref (gB g + 150)), some (.int i), some (.int t1), some (.int t3), none, none]) cx qL_law_1987 hi6 rfl rfl ?_
  refine PW.goto cx qL_law_1989 ?_
  cases hf
  exact PW.widen (by omega) (by omega) (PW.locs (Lsub.keep (Lsub.keep (Lsub.keep (Lsub.keep (Lsub.keep (Lsub.drop (Lsub.drop (Lsub.drop (Lsub.drop Lsub.nil))))))))) kk)
set_option maxRecDepth 20000 in
theorem ctK_61 {g : GT} {X : XT} {Q : State → Prop} {cells slots b N : Nat} {xs : Nat → Int32} {sh : List Shp} {i : Int32} {a1 : Int32} (hx : XSh sh) (hm : MSh sh) (ho : sh[150]? = some (.inr (3, 1, []))) (cx : Cx g X RL code) (hR : RmG X.2.2.1 40 601024 7293034) (hml : X.2.2.2.2.2.2.2.2.maxLocals = 9) (hX : va_X b N xs X.2.2.2.1 X.2.2.2.1.heap) (hbB : b < X.2.2.2.1.heap.size ∧ b < gB g) (ha1 : vp_in (i + 1) N ∧ xs (i + 1).toNatClampNeg = a1) (hc : cells + 4 ≤ 601024) (hs : slots + 24 ≤ 7293034) (h r : Hp) (hf : K_61 h a1 = some r) (kk : PW g X false Q (cells + 4) (slots + 24) sh r 2017 [some (.ref b), some (.ref (gB g + 0)), some (.ref (gB g + 140)), some (.ref (gB g + 150)), some (.int i), none, none, none, none] []) : PW g X false Q cells slots sh h 1992 [some (.ref b), some (.ref (gB g + 0)), some (.ref (gB g + 140)), some (.ref (gB g + 150)), some (.int i), none, none, none, none] [] := by
  have hi5 : 5 < X.2.2.2.2.2.2.2.2.maxLocals := by rw [hml]; exact Nat.le_of_ble_eq_true rfl
  have hi6 : 6 < X.2.2.2.2.2.2.2.2.maxLocals := by rw [hml]; exact Nat.le_of_ble_eq_true rfl
  have hi7 : 7 < X.2.2.2.2.2.2.2.2.maxLocals := by rw [hml]; exact Nat.le_of_ble_eq_true rfl
  have hi8 : 8 < X.2.2.2.2.2.2.2.2.maxLocals := by rw [hml]; exact Nat.le_of_ble_eq_true rfl
  unfold K_61 at hf
  refine PW.aload_n cx qL_law_1992 rfl ?_
  refine PW.aload_n cx qL_law_1993 rfl ?_
  refine PW.iload cx qL_law_1994 rfl ?_
  refine PW.iconst (v := 1) cx qL_law_1996 rfl ?_
  refine PW.iadd cx qL_law_1997 ?_
  refine PW.sld cx qL_law_1998 hX hbB ha1 ?_
  refine PW.callVRI (As := [.int a1]) (st := []) cx hR qL_law_1999 klL_368 mvX6_reportByte (sh_0 hx) rfl rfl rfl rfl (Nat.le_of_ble_eq_true rfl) (Nat.le_of_ble_eq_true rfl) (Nat.le_of_ble_eq_true rfl) (by omega) (by omega) hf sne (fun t e => ctX6_reportByte hx h a1 t e) (fun t1 hf => ?_)
  refine PW.pop cx qL_law_2002 rfl ?_
  refine PW.aload_n cx qL_law_2003 rfl ?_
  refine PW.aload_n cx qL_law_2004 rfl ?_
  refine PW.iload cx qL_law_2005 rfl ?_
  refine PW.iconst (v := 1) cx qL_law_2007 rfl ?_
  refine PW.iadd cx qL_law_2008 ?_
  refine PW.sld cx qL_law_2009 hX hbB ha1 ?_
  refine PW.callVWIc (As := [.int a1]) (st := []) cx hR qL_law_2010 klL_371 mvX7_reportByte (sh_140 hm) rfl rfl rfl rfl (Nat.le_of_ble_eq_true rfl) (Nat.le_of_ble_eq_true rfl) (Nat.le_of_ble_eq_true rfl) (by omega) (by omega) hf sne (fun t e => ctX7_reportByte hm h a1 t e) (fun t2 h3 hf => ?_)
  refine PW.pop cx qL_law_2013 rfl ?_
  refine PW.goto cx qL_law_2014 ?_
  cases hf
  exact PW.widen (by omega) (by omega) (PW.locs (Lsub.keep (Lsub.keep (Lsub.keep (Lsub.keep (Lsub.keep (Lsub.drop (Lsub.drop (Lsub.drop (Lsub.drop Lsub.nil))))))))) kk)
