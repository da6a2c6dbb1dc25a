set_option maxRecDepth 20000 in
theorem ctK_22 {g : GT} {X : XT} {Q : State → Prop} {cells slots b N : Nat} {xs : Nat → Int32} {sh : List Shp} {i : Int32} (hx : XSh sh) (hm : MSh sh) (ho : sh[150]? = some (.inr (3, 1, []))) (cx : Cx g X RL code) (hR : RmG X.2.2.1 40 600002 7302232) (hml : X.2.2.2.2.2.2.2.2.maxLocals = 9) (hX : va_X b N xs X.2.2.2.1 X.2.2.2.1.heap) (hbB : b < X.2.2.2.1.heap.size ∧ b < gB g) (hc : cells + 4 ≤ 600002) (hs : slots + 24 ≤ 7302232) (h r : Hp) (hf : K_22 h = some r) (kk : PW g X false Q (cells + 4) (slots + 24) sh r 3252 [some (.ref b), some (.ref (gB g + 0)), some (.ref (gB g + 140)), some (.ref (gB g + 150)), some (.int i), none, none, none, none] []) : PW g X false Q cells slots sh h 1257 [some (.ref b), some (.ref (gB g + 0)), some (.ref (gB g + 140)), some (.ref (gB g + 150)), some (.int i), none, none, none, none] [] := by
  have hi5 : 5 < X.2.2.2.2.2.2.2.2.maxLocals := by rw [hml]; exact Nat.le_of_ble_eq_true rfl
  have hi6 : 6 < X.2.2.2.2.2.2.2.2.maxLocals := by rw [hml]; exact Nat.le_of_ble_eq_true rfl
  have hi7 : 7 < X.2.2.2.2.2.2.2.2.maxLocals := by rw [hml]; exact Nat.le_of_ble_eq_true rfl
  have hi8 : 8 < X.2.2.2.2.2.2.2.2.maxLocals := by rw [hml]; exact Nat.le_of_ble_eq_true rfl
  unfold K_22 at hf
  refine PW.aload_n cx qL_law_1257 rfl ?_
  refine PW.callVRI (As := []) (st := []) cx hR qL_law_1258 klL_240 mvX6_clipCount (sh_0 hx) rfl rfl rfl rfl (Nat.le_of_ble_eq_true rfl) (Nat.le_of_ble_eq_true rfl) (Nat.le_of_ble_eq_true rfl) (by omega) (by omega) hf sne (fun t e => ctX6_clipCount hx h t e) (fun t1 hf => ?_)
  refine PW.aload_n cx qL_law_1261 rfl ?_
  refine PW.callVWIc (As := []) (st := [.int t1]) cx hR qL_law_1262 klL_243 mvX7_clipCount (sh_140 hm) rfl rfl rfl rfl (Nat.le_of_ble_eq_true rfl) (Nat.le_of_ble_eq_true rfl) (Nat.le_of_ble_eq_true rfl) (by omega) (by omega) hf sne (fun t e => ctX7_clipCount hm h t e) (fun t2 h3 hf => ?_)
  refine PW.icmp_eq cx qL_law_1265 hf (fun hf => ?_) (fun hf => ?_)
  · cases hf
    exact PW.widen (by omega) (by omega) (PW.locs (Lsub.keep (Lsub.keep (Lsub.keep (Lsub.keep (Lsub.keep (Lsub.drop (Lsub.drop (Lsub.drop (Lsub.drop Lsub.nil))))))))) kk)
  · cases hf
set_option maxRecDepth 20000 in
theorem ctK_23 {g : GT} {X : XT} {Q : State → Prop} {cells slots b N : Nat} {xs : Nat → Int32} {sh : List Shp} {i : Int32} (hx : XSh sh) (hm : MSh sh) (ho : sh[150]? = some (.inr (3, 1, []))) (cx : Cx g X RL code) (hR : RmG X.2.2.1 40 600002 7302232) (hml : X.2.2.2.2.2.2.2.2.maxLocals = 9) (hX : va_X b N xs X.2.2.2.1 X.2.2.2.1.heap) (hbB : b < X.2.2.2.1.heap.size ∧ b < gB g) (hc : cells + 4 ≤ 600002) (hs : slots + 24 ≤ 7302232) (h r : Hp) (hf : K_23 h = some r) (kk : PW g X false Q (cells + 4) (slots + 24) sh r 3252 [some (.ref b), some (.ref (gB g + 0)), some (.ref (gB g + 140)), some (.ref (gB g + 150)), some (.int i), none, none, none, none] []) : PW g X false Q cells slots sh h 1270 [some (.ref b), some (.ref (gB g + 0)), some (.ref (gB g + 140)), some (.ref (gB g + 150)), some (.int i), none, none, none, none] [] := by
  have hi5 : 5 < X.2.2.2.2.2.2.2.2.maxLocals := by rw [hml]; exact Nat.le_of_ble_eq_true rfl
  have hi6 : 6 < X.2.2.2.2.2.2.2.2.maxLocals := by rw [hml]; exact Nat.le_of_ble_eq_true rfl
  have hi7 : 7 < X.2.2.2.2.2.2.2.2.maxLocals := by rw [hml]; exact Nat.le_of_ble_eq_true rfl
  have hi8 : 8 < X.2.2.2.2.2.2.2.2.maxLocals := by rw [hml]; exact Nat.le_of_ble_eq_true rfl
  unfold K_23 at hf
  refine PW.aload_n cx qL_law_1270 rfl ?_
  refine PW.callVRI (As := []) (st := []) cx hR qL_law_1271 klL_244 mvX6_reelCount (sh_0 hx) rfl rfl rfl rfl (Nat.le_of_ble_eq_true rfl) (Nat.le_of_ble_eq_true rfl) (Nat.le_of_ble_eq_true rfl) (by omega) (by omega) hf sne (fun t e => ctX6_reelCount hx h t e) (fun t1 hf => ?_)
  refine PW.aload_n cx qL_law_1274 rfl ?_
  refine PW.callVWIc (As := []) (st := [.int t1]) cx hR qL_law_1275 klL_247 mvX7_reelCount (sh_140 hm) rfl rfl rfl rfl (Nat.le_of_ble_eq_true rfl) (Nat.le_of_ble_eq_true rfl) (Nat.le_of_ble_eq_true rfl) (by omega) (by omega) hf sne (fun t e => ctX7_reelCount hm h t e) (fun t2 h3 hf => ?_)
  refine PW.icmp_eq cx qL_law_1278 hf (fun hf => ?_) (fun hf => ?_)
  · cases hf
    exact PW.widen (by omega) (by omega) (PW.locs (Lsub.keep (Lsub.keep (Lsub.keep (Lsub.keep (Lsub.keep (Lsub.drop (Lsub.drop (Lsub.drop (Lsub.drop Lsub.nil))))))))) kk)
  · cases hf
set_option maxRecDepth 20000 in
theorem ctK_24 {g : GT} {X : XT} {Q : State → Prop} {cells slots b N : Nat} {xs : Nat → Int32} {sh : List Shp} {i : Int32} (hx : XSh sh) (hm : MSh sh) (ho : sh[150]? = some (.inr (3, 1, []))) (cx : Cx g X RL code) (hR : RmG X.2.2.1 40 600002 7302232) (hml : X.2.2.2.2.2.2.2.2.maxLocals = 9) (hX : va_X b N xs X.2.2.2.1 X.2.2.2.1.heap) (hbB : b < X.2.2.2.1.heap.size ∧ b < gB g) (hc : cells + 4 ≤ 600002) (hs : slots + 24 ≤ 7302232) (h r : Hp) (hf : K_24 h = some r) (kk : PW g X false Q (cells + 4) (slots + 24) sh r 3252 [some (.ref b), some (.ref (gB g + 0)), some (.ref (gB g + 140)), some (.ref (gB g + 150)), some (.int i), none, none, none, none] []) : PW g X false Q cells slots sh h 1283 [some (.ref b), some (.ref (gB g + 0)), some (.ref (gB g + 140)), some (.ref (gB g + 150)), some (.int i), none, none, none, none] [] := by
  have hi5 : 5 < X.2.2.2.2.2.2.2.2.maxLocals := by rw [hml]; exact Nat.le_of_ble_eq_true rfl
  have hi6 : 6 < X.2.2.2.2.2.2.2.2.maxLocals := by rw [hml]; exact Nat.le_of_ble_eq_true rfl
  have hi7 : 7 < X.2.2.2.2.2.2.2.2.maxLocals := by rw [hml]; exact Nat.le_of_ble_eq_true rfl
  have hi8 : 8 < X.2.2.2.2.2.2.2.2.maxLocals := by rw [hml]; exact Nat.le_of_ble_eq_true rfl
  unfold K_24 at hf
  refine PW.aload_n cx qL_law_1283 rfl ?_
  refine PW.callVRI (As := []) (st := []) cx hR qL_law_1284 klL_248 mvX6_sceneCount (sh_0 hx) rfl rfl rfl rfl (Nat.le_of_ble_eq_true rfl) (Nat.le_of_ble_eq_true rfl) (Nat.le_of_ble_eq_true rfl) (by omega) (by omega) hf sne (fun t e => ctX6_sceneCount hx h t e) (fun t1 hf => ?_)
  refine PW.aload_n cx qL_law_1287 rfl ?_
  refine PW.callVWIc (As := []) (st := [.int t1]) cx hR qL_law_1288 klL_251 mvX7_sceneCount (sh_140 hm) rfl rfl rfl rfl (Nat.le_of_ble_eq_true rfl) (Nat.le_of_ble_eq_true rfl) (Nat.le_of_ble_eq_true rfl) (by omega) (by omega) hf sne (fun t e => ctX7_sceneCount hm h t e) (fun t2 h3 hf => ?_)
  refine PW.icmp_eq cx qL_law_1291 hf (fun hf => ?_) (fun hf => ?_)
  · cases hf
    exact PW.widen (by omega) (by omega) (PW.locs (Lsub.keep (Lsub.keep (Lsub.keep (Lsub.keep (Lsub.keep (Lsub.drop (Lsub.drop (Lsub.drop (Lsub.drop Lsub.nil))))))))) kk)
  · cases hf
set_option maxRecDepth 20000 in
theorem ctK_25 {g : GT} {X : XT} {Q : State → Prop} {cells slots b N : Nat} {xs : Nat → Int32} {sh : List Shp} {i : Int32} {a1 : Int32} (hx : XSh sh) (hm : MSh sh) (ho : sh[150]? = some (.inr (3, 1, []))) (cx : Cx g X RL code) (hR : RmG X.2.2.1 40 600002 7302232) (hml : X.2.2.2.2.2.2.2.2.maxLocals = 9) (hX : va_X b N xs X.2.2.2.1 X.2.2.2.1.heap) (hbB : b < X.2.2.2.1.heap.size ∧ b < gB g) (ha1 : vp_in (i + 1) N ∧ xs (i + 1).toNatClampNeg = a1) (hc : cells + 4 ≤ 600002) (hs : slots + 24 ≤ 7302232) (h r : Hp) (hf : K_25 h a1 = some r) (kk : PW g X false Q (cells + 4) (slots + 24) sh r 3252 [some (.ref b), some (.ref (gB g + 0)), some (.ref (gB g + 140)), some (.ref (gB g + 150)), some (.int i), none, none, none, none] []) : PW g X false Q cells slots sh h 1296 [some (.ref b), some (.ref (gB g + 0)), some (.ref (gB g + 140)), some (.ref (gB g + 150)), some (.int i), none, none, none, none] [] := by
  have hi5 : 5 < X.2.2.2.2.2.2.2.2.maxLocals := by rw [hml]; exact Nat.le_of_ble_eq_true rfl
  have hi6 : 6 < X.2.2.2.2.2.2.2.2.maxLocals := by rw [hml]; exact Nat.le_of_ble_eq_true rfl
  have hi7 : 7 < X.2.2.2.2.2.2.2.2.maxLocals := by rw [hml]; exact Nat.le_of_ble_eq_true rfl
  have hi8 : 8 < X.2.2.2.2.2.2.2.2.maxLocals := by rw [hml]; exact Nat.le_of_ble_eq_true rfl
  unfold K_25 at hf
  refine PW.aload_n cx qL_law_1296 rfl ?_
  refine PW.aload_n cx qL_law_1297 rfl ?_
  refine PW.iload cx qL_law_1298 rfl ?_
  refine PW.iconst (v := 1) cx qL_law_1300 rfl ?_
  refine PW.iadd cx qL_law_1301 ?_
  refine PW.sld cx qL_law_1302 hX hbB ha1 ?_
  refine PW.aload_n cx qL_law_1303 rfl ?_
  refine PW.callWI (As := [.ref (gB g + 0), .int a1, .ref (gB g + 150)]) (st := []) cx hR qL_law_1304 kw252 mw_springs rfl rfl (Nat.le_of_ble_eq_true rfl) (Nat.le_of_ble_eq_true rfl) (Nat.le_of_ble_eq_true rfl) (by omega) (by omega) hf sne (fun t e => ctL_springs hx ho h a1 t e) (fun t1 h2 hf => ?_)
  refine PW.istore (L' := [some (.ref b), some (.ref (gB g + 0)), some (.ref (gB g + 140)), some (.ref (gB g + 150)), some (.int i), some (.int t1), none, none, none]) cx qL_law_1307 hi5 rfl rfl ?_
  refine PW.aload_n cx qL_law_1309 rfl ?_
  refine PW.aload_n cx qL_law_1310 rfl ?_
  refine PW.iload cx qL_law_1311 rfl ?_
  refine PW.iconst (v := 1) cx qL_law_1313 rfl ?_
  refine PW.iadd cx qL_law_1314 ?_
  refine PW.sld cx qL_law_1315 hX hbB ha1 ?_
  refine PW.callVWIc (As := [.int a1]) (st := []) cx hR qL_law_1316 klL_254 mvX7_springs (sh_140 hm) rfl rfl rfl rfl (Nat.le_of_ble_eq_true rfl) (Nat.le_of_ble_eq_true rfl) (Nat.le_of_ble_eq_true rfl) (by omega) (by omega) hf sne (fun t e => ctX7_springs hm h2 a1 t e) (fun t3 h4 hf => ?_)
  refine PW.istore (L' := [some (.ref b), some (.ref (gB g + 0)), some (.ref (gB g + 140)), some (.ref (gB g + 150)), some (.int i), some (.int t1), some (.int t3), none, none]) cx qL_law_1319 hi6 rfl rfl ?_
  refine PW.aload_n cx qL_law_1321 rfl ?_
  refine PW.callVRI (As := []) (st := []) cx hR qL_law_1322 klL_166 mvX7_thrown (sh_140 hm) rfl rfl rfl rfl (Nat.le_of_ble_eq_true rfl) (Nat.le_of_ble_eq_true rfl) (Nat.le_of_ble_eq_true rfl) (by omega) (by omega) hf sne (fun t e => ctX7_thrown hm h4 t e) (fun t5 hf => ?_)
  refine PW.iload cx qL_law_1325 rfl ?_
  refine PW.icmp_eq cx qL_law_1327 hf (fun hf => ?_) (fun hf => ?_)
  · refine PW.iload cx qL_law_1332 rfl ?_
    refine PW.if_ne cx qL_law_1334 hf (fun hf => ?_) (fun hf => ?_)
    · refine PW.aload_n cx qL_law_1337 rfl ?_
      refine PW.iconst (v := 0) cx qL_law_1338 rfl ?_
      refine PW.lald1 cx qL_law_1339 ho ?_
      refine PW.iload cx qL_law_1340 rfl ?_
      refine PW.i2l cx qL_law_1342 ?_
      refine PW.lcmp cx qL_law_1343 ?_
      refine PW.if_eq cx qL_law_1344 hf (fun hf => ?_) (fun hf => ?_)
      · refine PW.goto cx qL_law_1349 ?_
        cases hf
        exact PW.widen (by omega) (by omega) (PW.locs (Lsub.keep (Lsub.keep (Lsub.keep (Lsub.keep (Lsub.keep (Lsub.drop (Lsub.drop (Lsub.drop (Lsub.drop Lsub.nil))))))))) kk)
      · cases hf
    · refine PW.goto cx qL_law_1349 ?_
      cases hf
      exact PW.widen (by omega) (by omega) (PW.locs (Lsub.keep (Lsub.keep (Lsub.keep (Lsub.keep (Lsub.keep (Lsub.drop (Lsub.drop (Lsub.drop (Lsub.drop Lsub.nil))))))))) kk)
  · cases hf
set_option maxRecDepth 20000 in
theorem ctK_26 {g : GT} {X : XT} {Q : State → Prop} {cells slots b N : Nat} {xs : Nat → Int32} {sh : List Shp} {i : Int32} {a1 : Int32} (hx : XSh sh) (hm : MSh sh) (ho : sh[150]? = some (.inr (3, 1, []))) (cx : Cx g X RL code) (hR : RmG X.2.2.1 40 600002 7302232) (hml : X.2.2.2.2.2.2.2.2.maxLocals = 9) (hX : va_X b N xs X.2.2.2.1 X.2.2.2.1.heap) (hbB : b < X.2.2.2.1.heap.size ∧ b < gB g) (ha1 : vp_in (i + 1) N ∧ xs (i + 1).toNatClampNeg = a1) (hc : cells + 4 ≤ 600002) (hs : slots + 24 ≤ 7302232) (h r : Hp) (hf : K_26 h a1 = some r) (kk : PW g X false Q (cells + 4) (slots + 24) sh r 3252 [some (.ref b), some (.ref (gB g + 0)), some (.ref (gB g + 140)), some (.ref (gB g + 150)), some (.int i), none, none, none, none] []) : PW g X false Q cells slots sh h 1352 [some (.ref b), some (.ref (gB g + 0)), some (.ref (gB g + 140)), some (.ref (gB g + 150)), some (.int i), none, none, none, none] [] := by
  have hi5 : 5 < X.2.2.2.2.2.2.2.2.maxLocals := by rw [hml]; exact Nat.le_of_ble_eq_true rfl
  have hi6 : 6 < X.2.2.2.2.2.2.2.2.maxLocals := by rw [hml]; exact Nat.le_of_ble_eq_true rfl
  have hi7 : 7 < X.2.2.2.2.2.2.2.2.maxLocals := by rw [hml]; exact Nat.le_of_ble_eq_true rfl
  have hi8 : 8 < X.2.2.2.2.2.2.2.2.maxLocals := by rw [hml]; exact Nat.le_of_ble_eq_true rfl
  unfold K_26 at hf
  refine PW.aload_n cx qL_law_1352 rfl ?_
  refine PW.aload_n cx qL_law_1353 rfl ?_
  refine PW.iload cx qL_law_1354 rfl ?_
  refine PW.iconst (v := 1) cx qL_law_1356 rfl ?_
  refine PW.iadd cx qL_law_1357 ?_
  refine PW.sld cx qL_law_1358 hX hbB ha1 ?_
  refine PW.aload_n cx qL_law_1359 rfl ?_
  refine PW.callWI (As := [.ref (gB g + 0), .int a1, .ref (gB g + 150)]) (st := []) cx hR qL_law_1360 kw255 mw_state rfl rfl (Nat.le_of_ble_eq_true rfl) (Nat.le_of_ble_eq_true rfl) (Nat.le_of_ble_eq_true rfl) (by omega) (by omega) hf sne (fun t e => ctL_state hx ho h a1 t e) (fun t1 h2 hf => ?_)
  refine PW.istore (L' := [some (.ref b), some (.ref (gB g + 0)), some (.ref (gB g + 140)), some (.ref (gB g + 150)), some (.int i), some (.int t1), none, none, none]) cx qL_law_1363 hi5 rfl rfl ?_
  refine PW.aload_n cx qL_law_1365 rfl ?_
  refine PW.aload_n cx qL_law_1366 rfl ?_
  refine PW.iload cx qL_law_1367 rfl ?_
  refine PW.iconst (v := 1) cx qL_law_1369 rfl ?_
  refine PW.iadd cx qL_law_1370 ?_
  refine PW.sld cx qL_law_1371 hX hbB ha1 ?_
  refine PW.callVWIc (As := [.int a1]) (st := []) cx hR qL_law_1372 klL_257 mvX7_state (sh_140 hm) rfl rfl rfl rfl (Nat.le_of_ble_eq_true rfl) (Nat.le_of_ble_eq_true rfl) (Nat.le_of_ble_eq_true rfl) (by omega) (by omega) hf sne (fun t e => ctX7_state hm h2 a1 t e) (fun t3 h4 hf => ?_)
  refine PW.istore (L' := [some (.ref b), some (.ref (gB g + 0)), some (.ref (gB g + 140)), some (.ref (gB g + 150)), some (.int i), some (.int t1), some (.int t3), none, none]) cx qL_law_1375 hi6 rfl rfl ?_
  refine PW.aload_n cx qL_law_1377 rfl ?_
  refine PW.callVRI (As := []) (st := []) cx hR qL_law_1378 klL_166 mvX7_thrown (sh_140 hm) rfl rfl rfl rfl (Nat.le_of_ble_eq_true rfl) (Nat.le_of_ble_eq_true rfl) (Nat.le_of_ble_eq_true rfl) (by omega) (by omega) hf sne (fun t e => ctX7_thrown hm h4 t e) (fun t5 hf => ?_)
  refine PW.iload cx qL_law_1381 rfl ?_
  refine PW.icmp_eq cx qL_law_1383 hf (fun hf => ?_) (fun hf => ?_)
  · refine PW.iload cx qL_law_1388 rfl ?_
    refine PW.if_ne cx qL_law_1390 hf (fun hf => ?_) (fun hf => ?_)
    · refine PW.aload_n cx qL_law_1393 rfl ?_
      refine PW.iconst (v := 0) cx qL_law_1394 rfl ?_
      refine PW.lald1 cx qL_law_1395 ho ?_
      refine PW.iload cx qL_law_1396 rfl ?_
      refine PW.i2l cx qL_law_1398 ?_
      refine PW.lcmp cx qL_law_1399 ?_
      refine PW.if_eq cx qL_law_1400 hf (fun hf => ?_) (fun hf => ?_)
      · refine PW.goto cx qL_law_1405 ?_
        cases hf
        exact PW.widen (by omega) (by omega) (PW.locs (Lsub.keep (Lsub.keep (Lsub.keep (Lsub.keep (Lsub.keep (Lsub.drop (Lsub.drop (Lsub.drop (Lsub.drop Lsub.nil))))))))) kk)
      · cases hf
    · refine PW.goto cx qL_law_1405 ?_
      cases hf
      exact PW.widen (by omega) (by omega) (PW.locs (Lsub.keep (Lsub.keep (Lsub.keep (Lsub.keep (Lsub.keep (Lsub.drop (Lsub.drop (Lsub.drop (Lsub.drop Lsub.nil))))))))) kk)
  · cases hf
set_option maxRecDepth 20000 in
theorem ctK_27 {g : GT} {X : XT} {Q : State → Prop} {cells slots b N : Nat} {xs : Nat → Int32} {sh : List Shp} {i : Int32} {a1 : Int32} (hx : XSh sh) (hm : MSh sh) (ho : sh[150]? = some (.inr (3, 1, []))) (cx : Cx g X RL code) (hR : RmG X.2.2.1 40 600002 7302232) (hml : X.2.2.2.2.2.2.2.2.maxLocals = 9) (hX : va_X b N xs X.2.2.2.1 X.2.2.2.1.heap) (hbB : b < X.2.2.2.1.heap.size ∧ b < gB g) (ha1 : vp_in (i + 1) N ∧ xs (i + 1).toNatClampNeg = a1) (hc : cells + 4 ≤ 600002) (hs : slots + 24 ≤ 7302232) (h r : Hp) (hf : K_27 h a1 = some r) (kk : PW g X false Q (cells + 4) (slots + 24) sh r 3252 [some (.ref b), some (.ref (gB g + 0)), some (.ref (gB g + 140)), some (.ref (gB g + 150)), some (.int i), none, none, none, none] []) : PW g X false Q cells slots sh h 1408 [some (.ref b), some (.ref (gB g + 0)), some (.ref (gB g + 140)), some (.ref (gB g + 150)), some (.int i), none, none, none, none] [] := by
  have hi5 : 5 < X.2.2.2.2.2.2.2.2.maxLocals := by rw [hml]; exact Nat.le_of_ble_eq_true rfl
  have hi6 : 6 < X.2.2.2.2.2.2.2.2.maxLocals := by rw [hml]; exact Nat.le_of_ble_eq_true rfl
  have hi7 : 7 < X.2.2.2.2.2.2.2.2.maxLocals := by rw [hml]; exact Nat.le_of_ble_eq_true rfl
  have hi8 : 8 < X.2.2.2.2.2.2.2.2.maxLocals := by rw [hml]; exact Nat.le_of_ble_eq_true rfl
  unfold K_27 at hf
  refine PW.aload_n cx qL_law_1408 rfl ?_
  refine PW.aload_n cx qL_law_1409 rfl ?_
  refine PW.iload cx qL_law_1410 rfl ?_
  refine PW.iconst (v := 1) cx qL_law_1412 rfl ?_
  refine PW.iadd cx qL_law_1413 ?_
  refine PW.sld cx qL_law_1414 hX hbB ha1 ?_
  refine PW.aload_n cx qL_law_1415 rfl ?_
  refine PW.callWI (As := [.ref (gB g + 0), .int a1, .ref (gB g + 150)]) (st := []) cx hR qL_law_1416 kw258 mw_colours rfl rfl (Nat.le_of_ble_eq_true rfl) (Nat.le_of_ble_eq_true rfl) (Nat.le_of_ble_eq_true rfl) (by omega) (by omega) hf sne (fun t e => ctL_colours hx ho h a1 t e) (fun t1 h2 hf => ?_)
  refine PW.istore (L' := [some (.ref b), some (.ref (gB g + 0)), some (.ref (gB g + 140)), some (.ref (gB g + 150)), some (.int i), some (.int t1), none, none, none]) cx qL_law_1419 hi5 rfl rfl ?_
  refine PW.aload_n cx qL_law_1421 rfl ?_
  refine PW.aload_n cx qL_law_1422 rfl ?_
  refine PW.iload cx qL_law_1423 rfl ?_
  refine PW.iconst (v := 1) cx qL_law_1425 rfl ?_
  refine PW.iadd cx qL_law_1426 ?_
  refine PW.sld cx qL_law_1427 hX hbB ha1 ?_
  refine PW.callVWIc (As := [.int a1]) (st := []) cx hR qL_law_1428 klL_260 mvX7_colours (sh_140 hm) rfl rfl rfl rfl (Nat.le_of_ble_eq_true rfl) (Nat.le_of_ble_eq_true rfl) (Nat.le_of_ble_eq_true rfl) (by omega) (by omega) hf sne (fun t e => ctX7_colours hm h2 a1 t e) (fun t3 h4 hf => ?_)
  refine PW.istore (L' := [some (.ref b), some (.ref (gB g + 0)), some (.ref (gB g + 140)), some (.ref (gB g + 150)), some (.int i), some (.int t1), some (.int t3), none, none]) cx qL_law_1431 hi6 rfl rfl ?_
  refine PW.aload_n cx qL_law_1433 rfl ?_
  refine PW.callVRI (As := []) (st := []) cx hR qL_law_1434 klL_166 mvX7_thrown (sh_140 hm) rfl rfl rfl rfl (Nat.le_of_ble_eq_true rfl) (Nat.le_of_ble_eq_true rfl) (Nat.le_of_ble_eq_true rfl) (by omega) (by omega) hf sne (fun t e => ctX7_thrown hm h4 t e) (fun t5 hf => ?_)
  refine PW.iload cx qL_law_1437 rfl ?_
  refine PW.icmp_eq cx qL_law_1439 hf (fun hf => ?_) (fun hf => ?_)
  · refine PW.iload cx qL_law_1444 rfl ?_
    refine PW.if_ne cx qL_law_1446 hf (fun hf => ?_) (fun hf => ?_)
    · refine PW.aload_n cx qL_law_1449 rfl ?_
      refine PW.iconst (v := 0) cx qL_law_1450 rfl ?_
      refine PW.lald1 cx qL_law_1451 ho ?_
      refine PW.iload cx qL_law_1452 rfl ?_
      refine PW.i2l cx qL_law_1454 ?_
      refine PW.lcmp cx qL_law_1455 ?_
      refine PW.if_eq cx qL_law_1456 hf (fun hf => ?_) (fun hf => ?_)
      · refine PW.goto cx qL_law_1461 ?_
        cases hf
        exact PW.widen (by omega) (by omega) (PW.locs (Lsub.keep (Lsub.keep (Lsub.keep (Lsub.keep (Lsub.keep (Lsub.drop (Lsub.drop (Lsub.drop (Lsub.drop Lsub.nil))))))))) kk)
      · cases hf
    · refine PW.goto cx qL_law_1461 ?_
      cases hf
      exact PW.widen (by omega) (by omega) (PW.locs (Lsub.keep (Lsub.keep (Lsub.keep (Lsub.keep (Lsub.keep (Lsub.drop (Lsub.drop (Lsub.drop (Lsub.drop Lsub.nil))))))))) kk)
  · cases hf
set_option maxRecDepth 20000 in
theorem ctK_28 {g : GT} {X : XT} {Q : State → Prop} {cells slots b N : Nat} {xs : Nat → Int32} {sh : List Shp} {i : Int32} {a1 : Int32} (hx : XSh sh) (hm : MSh sh) (ho : sh[150]? = some (.inr (3, 1, []))) (cx : Cx g X RL code) (hR : RmG X.2.2.1 40 600002 7302232) (hml : X.2.2.2.2.2.2.2.2.maxLocals = 9) (hX : va_X b N xs X.2.2.2.1 X.2.2.2.1.heap) (hbB : b < X.2.2.2.1.heap.size ∧ b < gB g) (ha1 : vp_in (i + 1) N ∧ xs (i + 1).toNatClampNeg = a1) (hc : cells + 4 ≤ 600002) (hs : slots + 24 ≤ 7302232) (h r : Hp) (hf : K_28 h a1 = some r) (kk : PW g X false Q (cells + 4) (slots + 24) sh r 3252 [some (.ref b), some (.ref (gB g + 0)), some (.ref (gB g + 140)), some (.ref (gB g + 150)), some (.int i), none, none, none, none] []) : PW g X false Q cells slots sh h 1464 [some (.ref b), some (.ref (gB g + 0)), some (.ref (gB g + 140)), some (.ref (gB g + 150)), some (.int i), none, none, none, none] [] := by
  have hi5 : 5 < X.2.2.2.2.2.2.2.2.maxLocals := by rw [hml]; exact Nat.le_of_ble_eq_true rfl
  have hi6 : 6 < X.2.2.2.2.2.2.2.2.maxLocals := by rw [hml]; exact Nat.le_of_ble_eq_true rfl
  have hi7 : 7 < X.2.2.2.2.2.2.2.2.maxLocals := by rw [hml]; exact Nat.le_of_ble_eq_true rfl
  have hi8 : 8 < X.2.2.2.2.2.2.2.2.maxLocals := by rw [hml]; exact Nat.le_of_ble_eq_true rfl
  unfold K_28 at hf
  refine PW.aload_n cx qL_law_1464 rfl ?_
  refine PW.aload_n cx qL_law_1465 rfl ?_
  refine PW.iload cx qL_law_1466 rfl ?_
  refine PW.iconst (v := 1) cx qL_law_1468 rfl ?_
  refine PW.iadd cx qL_law_1469 ?_
  refine PW.sld cx qL_law_1470 hX hbB ha1 ?_
  refine PW.aload_n cx qL_law_1471 rfl ?_
  refine PW.callWI (As := [.ref (gB g + 0), .int a1, .ref (gB g + 150)]) (st := []) cx hR qL_law_1472 kw261 mw_length rfl rfl (Nat.le_of_ble_eq_true rfl) (Nat.le_of_ble_eq_true rfl) (Nat.le_of_ble_eq_true rfl) (by omega) (by omega) hf sne (fun t e => ctL_length hx ho h a1 t e) (fun t1 h2 hf => ?_)
  refine PW.istore (L' := [some (.ref b), some (.ref (gB g + 0)), some (.ref (gB g + 140)), some (.ref (gB g + 150)), some (.int i), some (.int t1), none, none, none]) cx qL_law_1475 hi5 rfl rfl ?_
  refine PW.aload_n cx qL_law_1477 rfl ?_
  refine PW.aload_n cx qL_law_1478 rfl ?_
  refine PW.iload cx qL_law_1479 rfl ?_
  refine PW.iconst (v := 1) cx qL_law_1481 rfl ?_
  refine PW.iadd cx qL_law_1482 ?_
  refine PW.sld cx qL_law_1483 hX hbB ha1 ?_
  refine PW.callVWIc (As := [.int a1]) (st := []) cx hR qL_law_1484 klL_263 mvX7_length (sh_140 hm) rfl rfl rfl rfl (Nat.le_of_ble_eq_true rfl) (Nat.le_of_ble_eq_true rfl) (Nat.le_of_ble_eq_true rfl) (by omega) (by omega) hf sne (fun t e => ctX7_length hm h2 a1 t e) (fun t3 h4 hf => ?_)
  refine PW.istore (L' := [some (.ref b), some (.ref (gB g + 0)), some (.ref (gB g + 140)), some (.ref (gB g + 150)), some (.int i), some (.int t1), some (.int t3), none, none]) cx qL_law_1487 hi6 rfl rfl ?_
  refine PW.aload_n cx qL_law_1489 rfl ?_
  refine PW.callVRI (As := []) (st := []) cx hR qL_law_1490 klL_166 mvX7_thrown (sh_140 hm) rfl rfl rfl rfl (Nat.le_of_ble_eq_true rfl) (Nat.le_of_ble_eq_true rfl) (Nat.le_of_ble_eq_true rfl) (by omega) (by omega) hf sne (fun t e => ctX7_thrown hm h4 t e) (fun t5 hf => ?_)
  refine PW.iload cx qL_law_1493 rfl ?_
  refine PW.icmp_eq cx qL_law_1495 hf (fun hf => ?_) (fun hf => ?_)
  · refine PW.iload cx qL_law_1500 rfl ?_
    refine PW.if_ne cx qL_law_1502 hf (fun hf => ?_) (fun hf => ?_)
    · refine PW.aload_n cx qL_law_1505 rfl ?_
      refine PW.iconst (v := 0) cx qL_law_1506 rfl ?_
      refine PW.lald1 cx qL_law_1507 ho ?_
      refine PW.iload cx qL_law_1508 rfl ?_
      refine PW.i2l cx qL_law_1510 ?_
      refine PW.lcmp cx qL_law_1511 ?_
      refine PW.if_eq cx qL_law_1512 hf (fun hf => ?_) (fun hf => ?_)
      · refine PW.goto cx qL_law_1517 ?_
        cases hf
        exact PW.widen (by omega) (by omega) (PW.locs (Lsub.keep (Lsub.keep (Lsub.keep (Lsub.keep (Lsub.keep (Lsub.drop (Lsub.drop (Lsub.drop (Lsub.drop Lsub.nil))))))))) kk)
      · cases hf
    · refine PW.goto cx qL_law_1517 ?_
      cases hf
      exact PW.widen (by omega) (by omega) (PW.locs (Lsub.keep (Lsub.keep (Lsub.keep (Lsub.keep (Lsub.keep (Lsub.drop (Lsub.drop (Lsub.drop (Lsub.drop Lsub.nil))))))))) kk)
  · cases hf
set_option maxRecDepth 20000 in
theorem ctK_29 {g : GT} {X : XT} {Q : State → Prop} {cells slots b N : Nat} {xs : Nat → Int32} {sh : List Shp} {i : Int32} {a1 : Int32} (hx : XSh sh) (hm : MSh sh) (ho : sh[150]? = some (.inr (3, 1, []))) (cx : Cx g X RL code) (hR : RmG X.2.2.1 40 600002 7302232) (hml : X.2.2.2.2.2.2.2.2.maxLocals = 9) (hX : va_X b N xs X.2.2.2.1 X.2.2.2.1.heap) (hbB : b < X.2.2.2.1.heap.size ∧ b < gB g) (ha1 : vp_in (i + 1) N ∧ xs (i + 1).toNatClampNeg = a1) (hc : cells + 4 ≤ 600002) (hs : slots + 24 ≤ 7302232) (h r : Hp) (hf : K_29 h a1 = some r) (kk : PW g X false Q (cells + 4) (slots + 24) sh r 3252 [some (.ref b), some (.ref (gB g + 0)), some (.ref (gB g + 140)), some (.ref (gB g + 150)), some (.int i), none, none, none, none] []) : PW g X false Q cells slots sh h 1520 [some (.ref b), some (.ref (gB g + 0)), some (.ref (gB g + 140)), some (.ref (gB g + 150)), some (.int i), none, none, none, none] [] := by
  have hi5 : 5 < X.2.2.2.2.2.2.2.2.maxLocals := by rw [hml]; exact Nat.le_of_ble_eq_true rfl
  have hi6 : 6 < X.2.2.2.2.2.2.2.2.maxLocals := by rw [hml]; exact Nat.le_of_ble_eq_true rfl
  have hi7 : 7 < X.2.2.2.2.2.2.2.2.maxLocals := by rw [hml]; exact Nat.le_of_ble_eq_true rfl
  have hi8 : 8 < X.2.2.2.2.2.2.2.2.maxLocals := by rw [hml]; exact Nat.le_of_ble_eq_true rfl
  unfold K_29 at hf
  refine PW.aload_n cx qL_law_1520 rfl ?_
  refine PW.aload_n cx qL_law_1521 rfl ?_
  refine PW.iload cx qL_law_1522 rfl ?_
  refine PW.iconst (v := 1) cx qL_law_1524 rfl ?_
  refine PW.iadd cx qL_law_1525 ?_
  refine PW.sld cx qL_law_1526 hX hbB ha1 ?_
  refine PW.aload_n cx qL_law_1527 rfl ?_
  refine PW.callWI (As := [.ref (gB g + 0), .int a1, .ref (gB g + 150)]) (st := []) cx hR qL_law_1528 kw264 mw_hash rfl rfl (Nat.le_of_ble_eq_true rfl) (Nat.le_of_ble_eq_true rfl) (Nat.le_of_ble_eq_true rfl) (by omega) (by omega) hf sne (fun t e => ctL_hash hx ho h a1 t e) (fun t1 h2 hf => ?_)
  refine PW.istore (L' := [some (.ref b), some (.ref (gB g + 0)), some (.ref (gB g + 140)), some (.ref (gB g + 150)), some (.int i), some (.int t1), none, none, none]) cx qL_law_1531 hi5 rfl rfl ?_
  refine PW.aload_n cx qL_law_1533 rfl ?_
  refine PW.aload_n cx qL_law_1534 rfl ?_
  refine PW.iload cx qL_law_1535 rfl ?_
  refine PW.iconst (v := 1) cx qL_law_1537 rfl ?_
  refine PW.iadd cx qL_law_1538 ?_
  refine PW.sld cx qL_law_1539 hX hbB ha1 ?_
  refine PW.callVWIc (As := [.int a1]) (st := []) cx hR qL_law_1540 klL_266 mvX7_hash (sh_140 hm) rfl rfl rfl rfl (Nat.le_of_ble_eq_true rfl) (Nat.le_of_ble_eq_true rfl) (Nat.le_of_ble_eq_true rfl) (by omega) (by omega) hf sne (fun t e => ctX7_hash hm h2 a1 t e) (fun t3 h4 hf => ?_)
  refine PW.istore (L' := [some (.ref b), some (.ref (gB g + 0)), some (.ref (gB g + 140)), some (.ref (gB g + 150)), some (.int i), some (.int t1), some (.int t3), none, none]) cx qL_law_1543 hi6 rfl rfl ?_
  refine PW.aload_n cx qL_law_1545 rfl ?_
  refine PW.callVRI (As := []) (st := []) cx hR qL_law_1546 klL_166 mvX7_thrown (sh_140 hm) rfl rfl rfl rfl (Nat.le_of_ble_eq_true rfl) (Nat.le_of_ble_eq_true rfl) (Nat.le_of_ble_eq_true rfl) (by omega) (by omega) hf sne (fun t e => ctX7_thrown hm h4 t e) (fun t5 hf => ?_)
  refine PW.iload cx qL_law_1549 rfl ?_
  refine PW.icmp_eq cx qL_law_1551 hf (fun hf => ?_) (fun hf => ?_)
  · refine PW.iload cx qL_law_1556 rfl ?_
    refine PW.if_ne cx qL_law_1558 hf (fun hf => ?_) (fun hf => ?_)
    · refine PW.aload_n cx qL_law_1561 rfl ?_
      refine PW.iconst (v := 0) cx qL_law_1562 rfl ?_
      refine PW.lald1 cx qL_law_1563 ho ?_
      refine PW.iload cx qL_law_1564 rfl ?_
      refine PW.i2l cx qL_law_1566 ?_
      refine PW.lcmp cx qL_law_1567 ?_
      refine PW.if_eq cx qL_law_1568 hf (fun hf => ?_) (fun hf => ?_)
      · refine PW.goto cx qL_law_1573 ?_
        cases hf
        exact PW.widen (by omega) (by omega) (PW.locs (Lsub.keep (Lsub.keep (Lsub.keep (Lsub.keep (Lsub.keep (Lsub.drop (Lsub.drop (Lsub.drop (Lsub.drop Lsub.nil))))))))) kk)
      · cases hf
    · refine PW.goto cx qL_law_1573 ?_
      cases hf
      exact PW.widen (by omega) (by omega) (PW.locs (Lsub.keep (Lsub.keep (Lsub.keep (Lsub.keep (Lsub.keep (Lsub.drop (Lsub.drop (Lsub.drop (Lsub.drop Lsub.nil))))))))) kk)
  · cases hf
set_option maxRecDepth 20000 in
theorem ctK_30 {g : GT} {X : XT} {Q : State → Prop} {cells slots b N : Nat} {xs : Nat → Int32} {sh : List Shp} {i : Int32} {a1 : Int32} (hx : XSh sh) (hm : MSh sh) (ho : sh[150]? = some (.inr (3, 1, []))) (cx : Cx g X RL code) (hR : RmG X.2.2.1 40 600002 7302232) (hml : X.2.2.2.2.2.2.2.2.maxLocals = 9) (hX : va_X b N xs X.2.2.2.1 X.2.2.2.1.heap) (hbB : b < X.2.2.2.1.heap.size ∧ b < gB g) (ha1 : vp_in (i + 1) N ∧ xs (i + 1).toNatClampNeg = a1) (hc : cells + 4 ≤ 600002) (hs : slots + 24 ≤ 7302232) (h r : Hp) (hf : K_30 h a1 = some r) (kk : PW g X false Q (cells + 4) (slots + 24) sh r 3252 [some (.ref b), some (.ref (gB g + 0)), some (.ref (gB g + 140)), some (.ref (gB g + 150)), some (.int i), none, none, none, none] []) : PW g X false Q cells slots sh h 1576 [some (.ref b), some (.ref (gB g + 0)), some (.ref (gB g + 140)), some (.ref (gB g + 150)), some (.int i), none, none, none, none] [] := by
  have hi5 : 5 < X.2.2.2.2.2.2.2.2.maxLocals := by rw [hml]; exact Nat.le_of_ble_eq_true rfl
  have hi6 : 6 < X.2.2.2.2.2.2.2.2.maxLocals := by rw [hml]; exact Nat.le_of_ble_eq_true rfl
  have hi7 : 7 < X.2.2.2.2.2.2.2.2.maxLocals := by rw [hml]; exact Nat.le_of_ble_eq_true rfl
  have hi8 : 8 < X.2.2.2.2.2.2.2.2.maxLocals := by rw [hml]; exact Nat.le_of_ble_eq_true rfl
  unfold K_30 at hf
  refine PW.aload_n cx qL_law_1576 rfl ?_
  refine PW.aload_n cx qL_law_1577 rfl ?_
  refine PW.iload cx qL_law_1578 rfl ?_
  refine PW.iconst (v := 1) cx qL_law_1580 rfl ?_
  refine PW.iadd cx qL_law_1581 ?_
  refine PW.sld cx qL_law_1582 hX hbB ha1 ?_
  refine PW.aload_n cx qL_law_1583 rfl ?_
  refine PW.callWI (As := [.ref (gB g + 0), .int a1, .ref (gB g + 150)]) (st := []) cx hR qL_law_1584 kw267 mw_fat rfl rfl (Nat.le_of_ble_eq_true rfl) (Nat.le_of_ble_eq_true rfl) (Nat.le_of_ble_eq_true rfl) (by omega) (by omega) hf sne (fun t e => ctL_fat hx ho h a1 t e) (fun t1 h2 hf => ?_)
  refine PW.istore (L' := [some (.ref b), some (.ref (gB g + 0)), some (.ref (gB g + 140)), some (.ref (gB g + 150)), some (.int i), some (.int t1), none, none, none]) cx qL_law_1587 hi5 rfl rfl ?_
  refine PW.aload_n cx qL_law_1589 rfl ?_
  refine PW.aload_n cx qL_law_1590 rfl ?_
  refine PW.iload cx qL_law_1591 rfl ?_
  refine PW.iconst (v := 1) cx qL_law_1593 rfl ?_
  refine PW.iadd cx qL_law_1594 ?_
  refine PW.sld cx qL_law_1595 hX hbB ha1 ?_
  refine PW.callVWIc (As := [.int a1]) (st := []) cx hR qL_law_1596 klL_269 mvX7_fat (sh_140 hm) rfl rfl rfl rfl (Nat.le_of_ble_eq_true rfl) (Nat.le_of_ble_eq_true rfl) (Nat.le_of_ble_eq_true rfl) (by omega) (by omega) hf sne (fun t e => ctX7_fat hm h2 a1 t e) (fun t3 h4 hf => ?_)
  refine PW.istore (L' := [some (.ref b), some (.ref (gB g + 0)), some (.ref (gB g + 140)), some (.ref (gB g + 150)), some (.int i), some (.int t1), some (.int t3), none, none]) cx qL_law_1599 hi6 rfl rfl ?_
  refine PW.aload_n cx qL_law_1601 rfl ?_
  refine PW.callVRI (As := []) (st := []) cx hR qL_law_1602 klL_166 mvX7_thrown (sh_140 hm) rfl rfl rfl rfl (Nat.le_of_ble_eq_true rfl) (Nat.le_of_ble_eq_true rfl) (Nat.le_of_ble_eq_true rfl) (by omega) (by omega) hf sne (fun t e => ctX7_thrown hm h4 t e) (fun t5 hf => ?_)
  refine PW.iload cx qL_law_1605 rfl ?_
  refine PW.icmp_eq cx qL_law_1607 hf (fun hf => ?_) (fun hf => ?_)
  · refine PW.iload cx qL_law_1612 rfl ?_
    refine PW.if_ne cx qL_law_1614 hf (fun hf => ?_) (fun hf => ?_)
    · refine PW.aload_n cx qL_law_1617 rfl ?_
      refine PW.iconst (v := 0) cx qL_law_1618 rfl ?_
      refine PW.lald1 cx qL_law_1619 ho ?_
      refine PW.iload cx qL_law_1620 rfl ?_
      refine PW.i2l cx qL_law_1622 ?_
      refine PW.lcmp cx qL_law_1623 ?_
      refine PW.if_eq cx qL_law_1624 hf (fun hf => ?_) (fun hf => ?_)
      · refine PW.goto cx qL_law_1629 ?_
        cases hf
        exact PW.widen (by omega) (by omega) (PW.locs (Lsub.keep (Lsub.keep (Lsub.keep (Lsub.keep (Lsub.keep (Lsub.drop (Lsub.drop (Lsub.drop (Lsub.drop Lsub.nil))))))))) kk)
      · cases hf
    · refine PW.goto cx qL_law_1629 ?_
      cases hf
      exact PW.widen (by omega) (by omega) (PW.locs (Lsub.keep (Lsub.keep (Lsub.keep (Lsub.keep (Lsub.keep (Lsub.drop (Lsub.drop (Lsub.drop (Lsub.drop Lsub.nil))))))))) kk)
  · cases hf
set_option maxRecDepth 20000 in
theorem ctK_31 {g : GT} {X : XT} {Q : State → Prop} {cells slots b N : Nat} {xs : Nat → Int32} {sh : List Shp} {i : Int32} {a1 : Int32} (hx : XSh sh) (hm : MSh sh) (ho : sh[150]? = some (.inr (3, 1, []))) (cx : Cx g X RL code) (hR : RmG X.2.2.1 40 600002 7302232) (hml : X.2.2.2.2.2.2.2.2.maxLocals = 9) (hX : va_X b N xs X.2.2.2.1 X.2.2.2.1.heap) (hbB : b < X.2.2.2.1.heap.size ∧ b < gB g) (ha1 : vp_in (i + 1) N ∧ xs (i + 1).toNatClampNeg = a1) (hc : cells + 4 ≤ 600002) (hs : slots + 24 ≤ 7302232) (h r : Hp) (hf : K_31 h a1 = some r) (kk : PW g X false Q (cells + 4) (slots + 24) sh r 3252 [some (.ref b), some (.ref (gB g + 0)), some (.ref (gB g + 140)), some (.ref (gB g + 150)), some (.int i), none, none, none, none] []) : PW g X false Q cells slots sh h 1632 [some (.ref b), some (.ref (gB g + 0)), some (.ref (gB g + 140)), some (.ref (gB g + 150)), some (.int i), none, none, none, none] [] := by
  have hi5 : 5 < X.2.2.2.2.2.2.2.2.maxLocals := by rw [hml]; exact Nat.le_of_ble_eq_true rfl
  have hi6 : 6 < X.2.2.2.2.2.2.2.2.maxLocals := by rw [hml]; exact Nat.le_of_ble_eq_true rfl
  have hi7 : 7 < X.2.2.2.2.2.2.2.2.maxLocals := by rw [hml]; exact Nat.le_of_ble_eq_true rfl
  have hi8 : 8 < X.2.2.2.2.2.2.2.2.maxLocals := by rw [hml]; exact Nat.le_of_ble_eq_true rfl
  unfold K_31 at hf
  refine PW.aload_n cx qL_law_1632 rfl ?_
  refine PW.aload_n cx qL_law_1633 rfl ?_
  refine PW.iload cx qL_law_1634 rfl ?_
  refine PW.iconst (v := 1) cx qL_law_1636 rfl ?_
  refine PW.iadd cx qL_law_1637 ?_
  refine PW.sld cx qL_law_1638 hX hbB ha1 ?_
  refine PW.aload_n cx qL_law_1639 rfl ?_
  refine PW.callWI (As := [.ref (gB g + 0), .int a1, .ref (gB g + 150)]) (st := []) cx hR qL_law_1640 kw270 mw_reelOf rfl rfl (Nat.le_of_ble_eq_true rfl) (Nat.le_of_ble_eq_true rfl) (Nat.le_of_ble_eq_true rfl) (by omega) (by omega) hf sne (fun t e => ctL_reelOf hx ho h a1 t e) (fun t1 h2 hf => ?_)
  refine PW.istore (L' := [some (.ref b), some (.ref (gB g + 0)), some (.ref (gB g + 140)), some (.ref (gB g + 150)), some (.int i), some (.int t1), none, none, none]) cx qL_law_1643 hi5 rfl rfl ?_
  refine PW.aload_n cx qL_law_1645 rfl ?_
  refine PW.aload_n cx qL_law_1646 rfl ?_
  refine PW.iload cx qL_law_1647 rfl ?_
  refine PW.iconst (v := 1) cx qL_law_1649 rfl ?_
  refine PW.iadd cx qL_law_1650 ?_
  refine PW.sld cx qL_law_1651 hX hbB ha1 ?_
  refine PW.callVWIc (As := [.int a1]) (st := []) cx hR qL_law_1652 klL_272 mvX7_reelOf (sh_140 hm) rfl rfl rfl rfl (Nat.le_of_ble_eq_true rfl) (Nat.le_of_ble_eq_true rfl) (Nat.le_of_ble_eq_true rfl) (by omega) (by omega) hf sne (fun t e => ctX7_reelOf hm h2 a1 t e) (fun t3 h4 hf => ?_)
  refine PW.istore (L' := [some (.ref b), some (.ref (gB g + 0)), some (.ref (gB g + 140)), some (.ref (gB g + 150)), some (.int i), some (.int t1), some (.int t3), none, none]) cx qL_law_1655 hi6 rfl rfl ?_
  refine PW.aload_n cx qL_law_1657 rfl ?_
  refine PW.callVRI (As := []) (st := []) cx hR qL_law_1658 klL_166 mvX7_thrown (sh_140 hm) rfl rfl rfl rfl (Nat.le_of_ble_eq_true rfl) (Nat.le_of_ble_eq_true rfl) (Nat.le_of_ble_eq_true rfl) (by omega) (by omega) hf sne (fun t e => ctX7_thrown hm h4 t e) (fun t5 hf => ?_)
  refine PW.iload cx qL_law_1661 rfl ?_
  refine PW.icmp_eq cx qL_law_1663 hf (fun hf => ?_) (fun hf => ?_)
  · refine PW.iload cx qL_law_1668 rfl ?_
    refine PW.if_ne cx qL_law_1670 hf (fun hf => ?_) (fun hf => ?_)
    · refine PW.aload_n cx qL_law_1673 rfl ?_
      refine PW.iconst (v := 0) cx qL_law_1674 rfl ?_
      refine PW.lald1 cx qL_law_1675 ho ?_
      refine PW.iload cx qL_law_1676 rfl ?_
      refine PW.i2l cx qL_law_1678 ?_
      refine PW.lcmp cx qL_law_1679 ?_
      refine PW.if_eq cx qL_law_1680 hf (fun hf => ?_) (fun hf => ?_)
      · refine PW.goto cx qL_law_1685 ?_
        cases hf
        exact PW.widen (by omega) (by omega) (PW.locs (Lsub.keep (Lsub.keep (Lsub.keep (Lsub.keep (Lsub.keep (Lsub.drop (Lsub.drop (Lsub.drop (Lsub.drop Lsub.nil))))))))) kk)
      · cases hf
    · refine PW.goto cx qL_law_1685 ?_
      cases hf
      exact PW.widen (by omega) (by omega) (PW.locs (Lsub.keep (Lsub.keep (Lsub.keep (Lsub.keep (Lsub.keep (Lsub.drop (Lsub.drop (Lsub.drop (Lsub.drop Lsub.nil))))))))) kk)
  · cases hf
set_option maxRecDepth 20000 in
theorem ctK_32 {g : GT} {X : XT} {Q : State → Prop} {cells slots b N : Nat} {xs : Nat → Int32} {sh : List Shp} {i : Int32} {a1 : Int32} (hx : XSh sh) (hm : MSh sh) (ho : sh[150]? = some (.inr (3, 1, []))) (cx : Cx g X RL code) (hR : RmG X.2.2.1 40 600002 7302232) (hml : X.2.2.2.2.2.2.2.2.maxLocals = 9) (hX : va_X b N xs X.2.2.2.1 X.2.2.2.1.heap) (hbB : b < X.2.2.2.1.heap.size ∧ b < gB g) (ha1 : vp_in (i + 1) N ∧ xs (i + 1).toNatClampNeg = a1) (hc : cells + 4 ≤ 600002) (hs : slots + 24 ≤ 7302232) (h r : Hp) (hf : K_32 h a1 = some r) (kk : PW g X false Q (cells + 4) (slots + 24) sh r 3252 [some (.ref b), some (.ref (gB g + 0)), some (.ref (gB g + 140)), some (.ref (gB g + 150)), some (.int i), none, none, none, none] []) : PW g X false Q cells slots sh h 1688 [some (.ref b), some (.ref (gB g + 0)), some (.ref (gB g + 140)), some (.ref (gB g + 150)), some (.int i), none, none, none, none] [] := by
  have hi5 : 5 < X.2.2.2.2.2.2.2.2.maxLocals := by rw [hml]; exact Nat.le_of_ble_eq_true rfl
  have hi6 : 6 < X.2.2.2.2.2.2.2.2.maxLocals := by rw [hml]; exact Nat.le_of_ble_eq_true rfl
  have hi7 : 7 < X.2.2.2.2.2.2.2.2.maxLocals := by rw [hml]; exact Nat.le_of_ble_eq_true rfl
  have hi8 : 8 < X.2.2.2.2.2.2.2.2.maxLocals := by rw [hml]; exact Nat.le_of_ble_eq_true rfl
  unfold K_32 at hf
  refine PW.aload_n cx qL_law_1688 rfl ?_
  refine PW.aload_n cx qL_law_1689 rfl ?_
  refine PW.iload cx qL_law_1690 rfl ?_
  refine PW.iconst (v := 1) cx qL_law_1692 rfl ?_
  refine PW.iadd cx qL_law_1693 ?_
  refine PW.sld cx qL_law_1694 hX hbB ha1 ?_
  refine PW.aload_n cx qL_law_1695 rfl ?_
  refine PW.callWI (As := [.ref (gB g + 0), .int a1, .ref (gB g + 150)]) (st := []) cx hR qL_law_1696 kw273 mw_bedOf rfl rfl (Nat.le_of_ble_eq_true rfl) (Nat.le_of_ble_eq_true rfl) (Nat.le_of_ble_eq_true rfl) (by omega) (by omega) hf sne (fun t e => ctL_bedOf hx ho h a1 t e) (fun t1 h2 hf => ?_)
  refine PW.istore (L' := [some (.ref b), some (.ref (gB g + 0)), some (.ref (gB g + 140)), some (.ref (gB g + 150)), some (.int i), some (.int t1), none, none, none]) cx qL_law_1699 hi5 rfl rfl ?_
  refine PW.aload_n cx qL_law_1701 rfl ?_
  refine PW.aload_n cx qL_law_1702 rfl ?_
  refine PW.iload cx qL_law_1703 rfl ?_
  refine PW.iconst (v := 1) cx qL_law_1705 rfl ?_
  refine PW.iadd cx qL_law_1706 ?_
  refine PW.sld cx qL_law_1707 hX hbB ha1 ?_
  refine PW.callVWIc (As := [.int a1]) (st := []) cx hR qL_law_1708 klL_275 mvX7_bedOf (sh_140 hm) rfl rfl rfl rfl (Nat.le_of_ble_eq_true rfl) (Nat.le_of_ble_eq_true rfl) (Nat.le_of_ble_eq_true rfl) (by omega) (by omega) hf sne (fun t e => ctX7_bedOf hm h2 a1 t e) (fun t3 h4 hf => ?_)
  refine PW.istore (L' := [some (.ref b), some (.ref (gB g + 0)), some (.ref (gB g + 140)), some (.ref (gB g + 150)), some (.int i), some (.int t1), some (.int t3), none, none]) cx qL_law_1711 hi6 rfl rfl ?_
  refine PW.aload_n cx qL_law_1713 rfl ?_
  refine PW.callVRI (As := []) (st := []) cx hR qL_law_1714 klL_166 mvX7_thrown (sh_140 hm) rfl rfl rfl rfl (Nat.le_of_ble_eq_true rfl) (Nat.le_of_ble_eq_true rfl) (Nat.le_of_ble_eq_true rfl) (by omega) (by omega) hf sne (fun t e => ctX7_thrown hm h4 t e) (fun t5 hf => ?_)
  refine PW.iload cx qL_law_1717 rfl ?_
  refine PW.icmp_eq cx qL_law_1719 hf (fun hf => ?_) (fun hf => ?_)
  · refine PW.iload cx qL_law_1724 rfl ?_
    refine PW.if_ne cx qL_law_1726 hf (fun hf => ?_) (fun hf => ?_)
    · refine PW.aload_n cx qL_law_1729 rfl ?_
      refine PW.iconst (v := 0) cx qL_law_1730 rfl ?_
      refine PW.lald1 cx qL_law_1731 ho ?_
      refine PW.iload cx qL_law_1732 rfl ?_
      refine PW.i2l cx qL_law_1734 ?_
      refine PW.lcmp cx qL_law_1735 ?_
      refine PW.if_eq cx qL_law_1736 hf (fun hf => ?_) (fun hf => ?_)
      · refine PW.goto cx qL_law_1741 ?_
        cases hf
        exact PW.widen (by omega) (by omega) (PW.locs (Lsub.keep (Lsub.keep (Lsub.keep (Lsub.keep (Lsub.keep (Lsub.drop (Lsub.drop (Lsub.drop (Lsub.drop Lsub.nil))))))))) kk)
      · cases hf
    · refine PW.goto cx qL_law_1741 ?_
      cases hf
      exact PW.widen (by omega) (by omega) (PW.locs (Lsub.keep (Lsub.keep (Lsub.keep (Lsub.keep (Lsub.keep (Lsub.drop (Lsub.drop (Lsub.drop (Lsub.drop Lsub.nil))))))))) kk)
  · cases hf
set_option maxRecDepth 20000 in
theorem ctK_33 {g : GT} {X : XT} {Q : State → Prop} {cells slots b N : Nat} {xs : Nat → Int32} {sh : List Shp} {i : Int32} {a1 : Int32} (hx : XSh sh) (hm : MSh sh) (ho : sh[150]? = some (.inr (3, 1, []))) (cx : Cx g X RL code) (hR : RmG X.2.2.1 40 600002 7302232) (hml : X.2.2.2.2.2.2.2.2.maxLocals = 9) (hX : va_X b N xs X.2.2.2.1 X.2.2.2.1.heap) (hbB : b < X.2.2.2.1.heap.size ∧ b < gB g) (ha1 : vp_in (i + 1) N ∧ xs (i + 1).toNatClampNeg = a1) (hc : cells + 4 ≤ 600002) (hs : slots + 24 ≤ 7302232) (h r : Hp) (hf : K_33 h a1 = some r) (kk : PW g X false Q (cells + 4) (slots + 24) sh r 3252 [some (.ref b), some (.ref (gB g + 0)), some (.ref (gB g + 140)), some (.ref (gB g + 150)), some (.int i), none, none, none, none] []) : PW g X false Q cells slots sh h 1744 [some (.ref b), some (.ref (gB g + 0)), some (.ref (gB g + 140)), some (.ref (gB g + 150)), some (.int i), none, none, none, none] [] := by
  have hi5 : 5 < X.2.2.2.2.2.2.2.2.maxLocals := by rw [hml]; exact Nat.le_of_ble_eq_true rfl
  have hi6 : 6 < X.2.2.2.2.2.2.2.2.maxLocals := by rw [hml]; exact Nat.le_of_ble_eq_true rfl
  have hi7 : 7 < X.2.2.2.2.2.2.2.2.maxLocals := by rw [hml]; exact Nat.le_of_ble_eq_true rfl
  have hi8 : 8 < X.2.2.2.2.2.2.2.2.maxLocals := by rw [hml]; exact Nat.le_of_ble_eq_true rfl
  unfold K_33 at hf
  refine PW.aload_n cx qL_law_1744 rfl ?_
  refine PW.aload_n cx qL_law_1745 rfl ?_
  refine PW.iload cx qL_law_1746 rfl ?_
  refine PW.iconst (v := 1) cx qL_law_1748 rfl ?_
  refine PW.iadd cx qL_law_1749 ?_
  refine PW.sld cx qL_law_1750 hX hbB ha1 ?_
  refine PW.aload_n cx qL_law_1751 rfl ?_
  refine PW.callWI (As := [.ref (gB g + 0), .int a1, .ref (gB g + 150)]) (st := []) cx hR qL_law_1752 kw276 mw_sceneOf rfl rfl (Nat.le_of_ble_eq_true rfl) (Nat.le_of_ble_eq_true rfl) (Nat.le_of_ble_eq_true rfl) (by omega) (by omega) hf sne (fun t e => ctL_sceneOf hx ho h a1 t e) (fun t1 h2 hf => ?_)
  refine PW.istore (L' := [some (.ref b), some (.ref (gB g + 0)), some (.ref (gB g + 140)), some (.ref (gB g + 150)), some (.int i), some (.int t1), none, none, none]) cx qL_law_1755 hi5 rfl rfl ?_
  refine PW.aload_n cx qL_law_1757 rfl ?_
  refine PW.aload_n cx qL_law_1758 rfl ?_
  refine PW.iload cx qL_law_1759 rfl ?_
  refine PW.iconst (v := 1) cx qL_law_1761 rfl ?_
  refine PW.iadd cx qL_law_1762 ?_
  refine PW.sld cx qL_law_1763 hX hbB ha1 ?_
  refine PW.callVWIc (As := [.int a1]) (st := []) cx hR qL_law_1764 klL_278 mvX7_sceneOf (sh_140 hm) rfl rfl rfl rfl (Nat.le_of_ble_eq_true rfl) (Nat.le_of_ble_eq_true rfl) (Nat.le_of_ble_eq_true rfl) (by omega) (by omega) hf sne (fun t e => ctX7_sceneOf hm h2 a1 t e) (fun t3 h4 hf => ?_)
  refine PW.istore (L' := [some (.ref b), some (.ref (gB g + 0)), some (.ref (gB g + 140)), some (.ref (gB g + 150)), some (.int i), some (.int t1), some (.int t3), none, none]) cx qL_law_1767 hi6 rfl rfl ?_
  refine PW.aload_n cx qL_law_1769 rfl ?_
  refine PW.callVRI (As := []) (st := []) cx hR qL_law_1770 klL_166 mvX7_thrown (sh_140 hm) rfl rfl rfl rfl (Nat.le_of_ble_eq_true rfl) (Nat.le_of_ble_eq_true rfl) (Nat.le_of_ble_eq_true rfl) (by omega) (by omega) hf sne (fun t e => ctX7_thrown hm h4 t e) (fun t5 hf => ?_)
  refine PW.iload cx qL_law_1773 rfl ?_
  refine PW.icmp_eq cx qL_law_1775 hf (fun hf => ?_) (fun hf => ?_)
  · refine PW.iload cx qL_law_1780 rfl ?_
    refine PW.if_ne cx qL_law_1782 hf (fun hf => ?_) (fun hf => ?_)
    · refine PW.aload_n cx qL_law_1785 rfl ?_
      refine PW.iconst (v := 0) cx qL_law_1786 rfl ?_
      refine PW.lald1 cx qL_law_1787 ho ?_
      refine PW.iload cx qL_law_1788 rfl ?_
      refine PW.i2l cx qL_law_1790 ?_
      refine PW.lcmp cx qL_law_1791 ?_
      refine PW.if_eq cx qL_law_1792 hf (fun hf => ?_) (fun hf => ?_)
      · refine PW.goto cx qL_law_1797 ?_
        cases hf
        exact PW.widen (by omega) (by omega) (PW.locs (Lsub.keep (Lsub.keep (Lsub.keep (Lsub.keep (Lsub.keep (Lsub.drop (Lsub.drop (Lsub.drop (Lsub.drop Lsub.nil))))))))) kk)
      · cases hf
    · refine PW.goto cx qL_law_1797 ?_
      cases hf
      exact PW.widen (by omega) (by omega) (PW.locs (Lsub.keep (Lsub.keep (Lsub.keep (Lsub.keep (Lsub.keep (Lsub.drop (Lsub.drop (Lsub.drop (Lsub.drop Lsub.nil))))))))) kk)
  · cases hf
set_option maxRecDepth 20000 in
theorem ctK_34 {g : GT} {X : XT} {Q : State → Prop} {cells slots b N : Nat} {xs : Nat → Int32} {sh : List Shp} {i : Int32} {a1 : Int32} {a2 : Int32} (hx : XSh sh) (hm : MSh sh) (ho : sh[150]? = some (.inr (3, 1, []))) (cx : Cx g X RL code) (hR : RmG X.2.2.1 40 600002 7302232) (hml : X.2.2.2.2.2.2.2.2.maxLocals = 9) (hX : va_X b N xs X.2.2.2.1 X.2.2.2.1.heap) (hbB : b < X.2.2.2.1.heap.size ∧ b < gB g) (ha1 : vp_in (i + 1) N ∧ xs (i + 1).toNatClampNeg = a1) (ha2 : vp_in (i + 2) N ∧ xs (i + 2).toNatClampNeg = a2) (hc : cells + 4 ≤ 600002) (hs : slots + 24 ≤ 7302232) (h r : Hp) (hf : K_34 h a1 a2 = some r) (kk : PW g X false Q (cells + 4) (slots + 24) sh r 3252 [some (.ref b), some (.ref (gB g + 0)), some (.ref (gB g + 140)), some (.ref (gB g + 150)), some (.int i), none, none, none, none] []) : PW g X false Q cells slots sh h 1800 [some (.ref b), some (.ref (gB g + 0)), some (.ref (gB g + 140)), some (.ref (gB g + 150)), some (.int i), none, none, none, none] [] := by
  have hi5 : 5 < X.2.2.2.2.2.2.2.2.maxLocals := by rw [hml]; exact Nat.le_of_ble_eq_true rfl
  have hi6 : 6 < X.2.2.2.2.2.2.2.2.maxLocals := by rw [hml]; exact Nat.le_of_ble_eq_true rfl
  have hi7 : 7 < X.2.2.2.2.2.2.2.2.maxLocals := by rw [hml]; exact Nat.le_of_ble_eq_true rfl
  have hi8 : 8 < X.2.2.2.2.2.2.2.2.maxLocals := by rw [hml]; exact Nat.le_of_ble_eq_true rfl
  unfold K_34 at hf
  refine PW.aload_n cx qL_law_1800 rfl ?_
  refine PW.aload_n cx qL_law_1801 rfl ?_
  refine PW.iload cx qL_law_1802 rfl ?_
  refine PW.iconst (v := 1) cx qL_law_1804 rfl ?_
  refine PW.iadd cx qL_law_1805 ?_
  refine PW.sld cx qL_law_1806 hX hbB ha1 ?_
  refine PW.aload_n cx qL_law_1807 rfl ?_
  refine PW.iload cx qL_law_1808 rfl ?_
  refine PW.iconst (v := 2) cx qL_law_1810 rfl ?_
  refine PW.iadd cx qL_law_1811 ?_
  refine PW.sld cx qL_law_1812 hX hbB ha2 ?_
  refine PW.aload_n cx qL_law_1813 rfl ?_
  refine PW.callWI (As := [.ref (gB g + 0), .int a1, .int a2, .ref (gB g + 150)]) (st := []) cx hR qL_law_1814 kw279 mw_commonRun rfl rfl (Nat.le_of_ble_eq_true rfl) (Nat.le_of_ble_eq_true rfl) (Nat.le_of_ble_eq_true rfl) (by omega) (by omega) hf sne (fun t e => ctL_commonRun hx ho h a1 a2 t e) (fun t1 h2 hf => ?_)
  refine PW.istore (L' := [some (.ref b), some (.ref (gB g + 0)), some (.ref (gB g + 140)), some (.ref (gB g + 150)), some (.int i), some (.int t1), none, none, none]) cx qL_law_1817 hi5 rfl rfl ?_
  refine PW.aload_n cx qL_law_1819 rfl ?_
  refine PW.aload_n cx qL_law_1820 rfl ?_
  refine PW.iload cx qL_law_1821 rfl ?_
  refine PW.iconst (v := 1) cx qL_law_1823 rfl ?_
  refine PW.iadd cx qL_law_1824 ?_
  refine PW.sld cx qL_law_1825 hX hbB ha1 ?_
  refine PW.aload_n cx qL_law_1826 rfl ?_
  refine PW.iload cx qL_law_1827 rfl ?_
  refine PW.iconst (v := 2) cx qL_law_1829 rfl ?_
  refine PW.iadd cx qL_law_1830 ?_
  refine PW.sld cx qL_law_1831 hX hbB ha2 ?_
  refine PW.callVWIc (As := [.int a1, .int a2]) (st := []) cx hR qL_law_1832 klL_281 mvX7_commonRun (sh_140 hm) rfl rfl rfl rfl (Nat.le_of_ble_eq_true rfl) (Nat.le_of_ble_eq_true rfl) (Nat.le_of_ble_eq_true rfl) (by omega) (by omega) hf sne (fun t e => ctX7_commonRun hm h2 a1 a2 t e) (fun t3 h4 hf => ?_)
  refine PW.istore (L' := [some (.ref b), some (.ref (gB g + 0)), some (.ref (gB g + 140)), some (.ref (gB g + 150)), some (.int i), some (.int t1), some (.int t3), none, none]) cx qL_law_1835 hi6 rfl rfl ?_
  refine PW.aload_n cx qL_law_1837 rfl ?_
  refine PW.callVRI (As := []) (st := []) cx hR qL_law_1838 klL_166 mvX7_thrown (sh_140 hm) rfl rfl rfl rfl (Nat.le_of_ble_eq_true rfl) (Nat.le_of_ble_eq_true rfl) (Nat.le_of_ble_eq_true rfl) (by omega) (by omega) hf sne (fun t e => ctX7_thrown hm h4 t e) (fun t5 hf => ?_)
  refine PW.iload cx qL_law_1841 rfl ?_
  refine PW.icmp_eq cx qL_law_1843 hf (fun hf => ?_) (fun hf => ?_)
  · refine PW.iload cx qL_law_1848 rfl ?_
    refine PW.if_ne cx qL_law_1850 hf (fun hf => ?_) (fun hf => ?_)
    · refine PW.aload_n cx qL_law_1853 rfl ?_
      refine PW.iconst (v := 0) cx qL_law_1854 rfl ?_
      refine PW.lald1 cx qL_law_1855 ho ?_
      refine PW.iload cx qL_law_1856 rfl ?_
      refine PW.i2l cx qL_law_1858 ?_
      refine PW.lcmp cx qL_law_1859 ?_
      refine PW.if_eq cx qL_law_1860 hf (fun hf => ?_) (fun hf => ?_)
      · refine PW.goto cx qL_law_1865 ?_
        cases hf
        exact PW.widen (by omega) (by omega) (PW.locs (Lsub.keep (Lsub.keep (Lsub.keep (Lsub.keep (Lsub.keep (Lsub.drop (Lsub.drop (Lsub.drop (Lsub.drop Lsub.nil))))))))) kk)
      · cases hf
    · refine PW.goto cx qL_law_1865 ?_
      cases hf
      exact PW.widen (by omega) (by omega) (PW.locs (Lsub.keep (Lsub.keep (Lsub.keep (Lsub.keep (Lsub.keep (Lsub.drop (Lsub.drop (Lsub.drop (Lsub.drop Lsub.nil))))))))) kk)
  · cases hf
set_option maxRecDepth 20000 in
theorem ctK_35 {g : GT} {X : XT} {Q : State → Prop} {cells slots b N : Nat} {xs : Nat → Int32} {sh : List Shp} {i : Int32} {a1 : Int32} (hx : XSh sh) (hm : MSh sh) (ho : sh[150]? = some (.inr (3, 1, []))) (cx : Cx g X RL code) (hR : RmG X.2.2.1 40 600002 7302232) (hml : X.2.2.2.2.2.2.2.2.maxLocals = 9) (hX : va_X b N xs X.2.2.2.1 X.2.2.2.1.heap) (hbB : b < X.2.2.2.1.heap.size ∧ b < gB g) (ha1 : vp_in (i + 1) N ∧ xs (i + 1).toNatClampNeg = a1) (hc : cells + 4 ≤ 600002) (hs : slots + 24 ≤ 7302232) (h r : Hp) (hf : K_35 h a1 = some r) (kk : PW g X false Q (cells + 4) (slots + 24) sh r 3252 [some (.ref b), some (.ref (gB g + 0)), some (.ref (gB g + 140)), some (.ref (gB g + 150)), some (.int i), none, none, none, none] []) : PW g X false Q cells slots sh h 1868 [some (.ref b), some (.ref (gB g + 0)), some (.ref (gB g + 140)), some (.ref (gB g + 150)), some (.int i), none, none, none, none] [] := by
  have hi5 : 5 < X.2.2.2.2.2.2.2.2.maxLocals := by rw [hml]; exact Nat.le_of_ble_eq_true rfl
  have hi6 : 6 < X.2.2.2.2.2.2.2.2.maxLocals := by rw [hml]; exact Nat.le_of_ble_eq_true rfl
  have hi7 : 7 < X.2.2.2.2.2.2.2.2.maxLocals := by rw [hml]; exact Nat.le_of_ble_eq_true rfl
  have hi8 : 8 < X.2.2.2.2.2.2.2.2.maxLocals := by rw [hml]; exact Nat.le_of_ble_eq_true rfl
  unfold K_35 at hf
  refine PW.aload_n cx qL_law_1868 rfl ?_
  refine PW.aload_n cx qL_law_1869 rfl ?_
  refine PW.iload cx qL_law_1870 rfl ?_
  refine PW.iconst (v := 1) cx qL_law_1872 rfl ?_
  refine PW.iadd cx qL_law_1873 ?_
  refine PW.sld cx qL_law_1874 hX hbB ha1 ?_
  refine PW.aload_n cx qL_law_1875 rfl ?_
  refine PW.callWI (As := [.ref (gB g + 0), .int a1, .ref (gB g + 150)]) (st := []) cx hR qL_law_1876 kw282 mw_nearestClip rfl rfl (Nat.le_of_ble_eq_true rfl) (Nat.le_of_ble_eq_true rfl) (Nat.le_of_ble_eq_true rfl) (by omega) (by omega) hf sne (fun t e => ctL_nearestClip hx ho h a1 t e) (fun t1 h2 hf => ?_)
  refine PW.istore (L' := [some (.ref b), some (.ref (gB g + 0)), some (.ref (gB g + 140)), some (.ref (gB g + 150)), some (.int i), some (.int t1), none, none, none]) cx qL_law_1879 hi5 rfl rfl ?_
  refine PW.aload_n cx qL_law_1881 rfl ?_
  refine PW.aload_n cx qL_law_1882 rfl ?_
  refine PW.iload cx qL_law_1883 rfl ?_
  refine PW.iconst (v := 1) cx qL_law_1885 rfl ?_
  refine PW.iadd cx qL_law_1886 ?_
  refine PW.sld cx qL_law_1887 hX hbB ha1 ?_
  refine PW.callVWIc (As := [.int a1]) (st := []) cx hR qL_law_1888 klL_284 mvX7_nearestClip (sh_140 hm) rfl rfl rfl rfl (Nat.le_of_ble_eq_true rfl) (Nat.le_of_ble_eq_true rfl) (Nat.le_of_ble_eq_true rfl) (by omega) (by omega) hf sne (fun t e => ctX7_nearestClip hm h2 a1 t e) (fun t3 h4 hf => ?_)
  refine PW.istore (L' := [some (.ref b), some (.ref (gB g + 0)), some (.ref (gB g + 140)), some (.ref (gB g + 150)), some (.int i), some (.int t1), some (.int t3), none, none]) cx qL_law_1891 hi6 rfl rfl ?_
  refine PW.aload_n cx qL_law_1893 rfl ?_
  refine PW.callVRI (As := []) (st := []) cx hR qL_law_1894 klL_166 mvX7_thrown (sh_140 hm) rfl rfl rfl rfl (Nat.le_of_ble_eq_true rfl) (Nat.le_of_ble_eq_true rfl) (Nat.le_of_ble_eq_true rfl) (by omega) (by omega) hf sne (fun t e => ctX7_thrown hm h4 t e) (fun t5 hf => ?_)
  refine PW.iload cx qL_law_1897 rfl ?_
  refine PW.icmp_eq cx qL_law_1899 hf (fun hf => ?_) (fun hf => ?_)
  · refine PW.iload cx qL_law_1904 rfl ?_
    refine PW.if_ne cx qL_law_1906 hf (fun hf => ?_) (fun hf => ?_)
    · refine PW.aload_n cx qL_law_1909 rfl ?_
      refine PW.iconst (v := 0) cx qL_law_1910 rfl ?_
      refine PW.lald1 cx qL_law_1911 ho ?_
      refine PW.iload cx qL_law_1912 rfl ?_
      refine PW.i2l cx qL_law_1914 ?_
      refine PW.lcmp cx qL_law_1915 ?_
      refine PW.if_eq cx qL_law_1916 hf (fun hf => ?_) (fun hf => ?_)
      · refine PW.goto cx qL_law_1921 ?_
        cases hf
        exact PW.widen (by omega) (by omega) (PW.locs (Lsub.keep (Lsub.keep (Lsub.keep (Lsub.keep (Lsub.keep (Lsub.drop (Lsub.drop (Lsub.drop (Lsub.drop Lsub.nil))))))))) kk)
      · cases hf
    · refine PW.goto cx qL_law_1921 ?_
      cases hf
      exact PW.widen (by omega) (by omega) (PW.locs (Lsub.keep (Lsub.keep (Lsub.keep (Lsub.keep (Lsub.keep (Lsub.drop (Lsub.drop (Lsub.drop (Lsub.drop Lsub.nil))))))))) kk)
  · cases hf
set_option maxRecDepth 20000 in
theorem ctK_36 {g : GT} {X : XT} {Q : State → Prop} {cells slots b N : Nat} {xs : Nat → Int32} {sh : List Shp} {i : Int32} {a1 : Int32} (hx : XSh sh) (hm : MSh sh) (ho : sh[150]? = some (.inr (3, 1, []))) (cx : Cx g X RL code) (hR : RmG X.2.2.1 40 600002 7302232) (hml : X.2.2.2.2.2.2.2.2.maxLocals = 9) (hX : va_X b N xs X.2.2.2.1 X.2.2.2.1.heap) (hbB : b < X.2.2.2.1.heap.size ∧ b < gB g) (ha1 : vp_in (i + 1) N ∧ xs (i + 1).toNatClampNeg = a1) (hc : cells + 4 ≤ 600002) (hs : slots + 24 ≤ 7302232) (h r : Hp) (hf : K_36 h a1 = some r) (kk : PW g X false Q (cells + 4) (slots + 24) sh r 3252 [some (.ref b), some (.ref (gB g + 0)), some (.ref (gB g + 140)), some (.ref (gB g + 150)), some (.int i), none, none, none, none] []) : PW g X false Q cells slots sh h 1924 [some (.ref b), some (.ref (gB g + 0)), some (.ref (gB g + 140)), some (.ref (gB g + 150)), some (.int i), none, none, none, none] [] := by
  have hi5 : 5 < X.2.2.2.2.2.2.2.2.maxLocals := by rw [hml]; exact Nat.le_of_ble_eq_true rfl
  have hi6 : 6 < X.2.2.2.2.2.2.2.2.maxLocals := by rw [hml]; exact Nat.le_of_ble_eq_true rfl
  have hi7 : 7 < X.2.2.2.2.2.2.2.2.maxLocals := by rw [hml]; exact Nat.le_of_ble_eq_true rfl
  have hi8 : 8 < X.2.2.2.2.2.2.2.2.maxLocals := by rw [hml]; exact Nat.le_of_ble_eq_true rfl
  unfold K_36 at hf
  refine PW.aload_n cx qL_law_1924 rfl ?_
  refine PW.aload_n cx qL_law_1925 rfl ?_
  refine PW.iload cx qL_law_1926 rfl ?_
  refine PW.iconst (v := 1) cx qL_law_1928 rfl ?_
  refine PW.iadd cx qL_law_1929 ?_
  refine PW.sld cx qL_law_1930 hX hbB ha1 ?_
  refine PW.aload_n cx qL_law_1931 rfl ?_
  refine PW.callWI (As := [.ref (gB g + 0), .int a1, .ref (gB g + 150)]) (st := []) cx hR qL_law_1932 kw285 mw_twinsOf rfl rfl (Nat.le_of_ble_eq_true rfl) (Nat.le_of_ble_eq_true rfl) (Nat.le_of_ble_eq_true rfl) (by omega) (by omega) hf sne (fun t e => ctL_twinsOf hx ho h a1 t e) (fun t1 h2 hf => ?_)
  refine PW.istore (L' := [some (.ref b), some (.ref (gB g + 0)), some (.ref (gB g + 140)), some (.ref (gB g + 150)), some (.int i), some (.int t1), none, none, none]) cx qL_law_1935 hi5 rfl rfl ?_
  refine PW.aload_n cx qL_law_1937 rfl ?_
  refine PW.aload_n cx qL_law_1938 rfl ?_
  refine PW.iload cx qL_law_1939 rfl ?_
  refine PW.iconst (v := 1) cx qL_law_1941 rfl ?_
  refine PW.iadd cx qL_law_1942 ?_
  refine PW.sld cx qL_law_1943 hX hbB ha1 ?_
  refine PW.callVWIc (As := [.int a1]) (st := []) cx hR qL_law_1944 klL_287 mvX7_twinsOf (sh_140 hm) rfl rfl rfl rfl (Nat.le_of_ble_eq_true rfl) (Nat.le_of_ble_eq_true rfl) (Nat.le_of_ble_eq_true rfl) (by omega) (by omega) hf sne (fun t e => ctX7_twinsOf hm h2 a1 t e) (fun t3 h4 hf => ?_)
  refine PW.istore (L' := [some (.ref b), some (.ref (gB g + 0)), some (.ref (gB g + 140)), some (.ref (gB g + 150)), some (.int i), some (.int t1), some (.int t3), none, none]) cx qL_law_1947 hi6 rfl rfl ?_
  refine PW.aload_n cx qL_law_1949 rfl ?_
  refine PW.callVRI (As := []) (st := []) cx hR qL_law_1950 klL_166 mvX7_thrown (sh_140 hm) rfl rfl rfl rfl (Nat.le_of_ble_eq_true rfl) (Nat.le_of_ble_eq_true rfl) (Nat.le_of_ble_eq_true rfl) (by omega) (by omega) hf sne (fun t e => ctX7_thrown hm h4 t e) (fun t5 hf => ?_)
  refine PW.iload cx qL_law_1953 rfl ?_
  refine PW.icmp_eq cx qL_law_1955 hf (fun hf => ?_) (fun hf => ?_)
  · refine PW.iload cx qL_law_1960 rfl ?_
    refine PW.if_ne cx qL_law_1962 hf (fun hf => ?_) (fun hf => ?_)
    · refine PW.aload_n cx qL_law_1965 rfl ?_
      refine PW.iconst (v := 0) cx qL_law_1966 rfl ?_
      refine PW.lald1 cx qL_law_1967 ho ?_
      refine PW.iload cx qL_law_1968 rfl ?_
      refine PW.i2l cx qL_law_1970 ?_
      refine PW.lcmp cx qL_law_1971 ?_
      refine PW.if_eq cx qL_law_1972 hf (fun hf => ?_) (fun hf => ?_)
      · refine PW.goto cx qL_law_1977 ?_
        cases hf
        exact PW.widen (by omega) (by omega) (PW.locs (Lsub.keep (Lsub.keep (Lsub.keep (Lsub.keep (Lsub.keep (Lsub.drop (Lsub.drop (Lsub.drop (Lsub.drop Lsub.nil))))))))) kk)
      · cases hf
    · refine PW.goto cx qL_law_1977 ?_
      cases hf
      exact PW.widen (by omega) (by omega) (PW.locs (Lsub.keep (Lsub.keep (Lsub.keep (Lsub.keep (Lsub.keep (Lsub.drop (Lsub.drop (Lsub.drop (Lsub.drop Lsub.nil))))))))) kk)
  · cases hf
set_option maxRecDepth 20000 in
theorem ctK_37 {g : GT} {X : XT} {Q : State → Prop} {cells slots b N : Nat} {xs : Nat → Int32} {sh : List Shp} {i : Int32} {a1 : Int32} (hx : XSh sh) (hm : MSh sh) (ho : sh[150]? = some (.inr (3, 1, []))) (cx : Cx g X RL code) (hR : RmG X.2.2.1 40 600002 7302232) (hml : X.2.2.2.2.2.2.2.2.maxLocals = 9) (hX : va_X b N xs X.2.2.2.1 X.2.2.2.1.heap) (hbB : b < X.2.2.2.1.heap.size ∧ b < gB g) (ha1 : vp_in (i + 1) N ∧ xs (i + 1).toNatClampNeg = a1) (hc : cells + 4 ≤ 600002) (hs : slots + 24 ≤ 7302232) (h r : Hp) (hf : K_37 h a1 = some r) (kk : PW g X false Q (cells + 4) (slots + 24) sh r 3252 [some (.ref b), some (.ref (gB g + 0)), some (.ref (gB g + 140)), some (.ref (gB g + 150)), some (.int i), none, none, none, none] []) : PW g X false Q cells slots sh h 1980 [some (.ref b), some (.ref (gB g + 0)), some (.ref (gB g + 140)), some (.ref (gB g + 150)), some (.int i), none, none, none, none] [] := by
  have hi5 : 5 < X.2.2.2.2.2.2.2.2.maxLocals := by rw [hml]; exact Nat.le_of_ble_eq_true rfl
  have hi6 : 6 < X.2.2.2.2.2.2.2.2.maxLocals := by rw [hml]; exact Nat.le_of_ble_eq_true rfl
  have hi7 : 7 < X.2.2.2.2.2.2.2.2.maxLocals := by rw [hml]; exact Nat.le_of_ble_eq_true rfl
  have hi8 : 8 < X.2.2.2.2.2.2.2.2.maxLocals := by rw [hml]; exact Nat.le_of_ble_eq_true rfl
  unfold K_37 at hf
  refine PW.aload_n cx qL_law_1980 rfl ?_
  refine PW.aload_n cx qL_law_1981 rfl ?_
  refine PW.iload cx qL_law_1982 rfl ?_
  refine PW.iconst (v := 1) cx qL_law_1984 rfl ?_
  refine PW.iadd cx qL_law_1985 ?_
  refine PW.sld cx qL_law_1986 hX hbB ha1 ?_
  refine PW.aload_n cx qL_law_1987 rfl ?_
  refine PW.callWI (As := [.ref (gB g + 0), .int a1, .ref (gB g + 150)]) (st := []) cx hR qL_law_1988 kw288 mw_weeksToFade rfl rfl (Nat.le_of_ble_eq_true rfl) (Nat.le_of_ble_eq_true rfl) (Nat.le_of_ble_eq_true rfl) (by omega) (by omega) hf sne (fun t e => ctL_weeksToFade hx ho h a1 t e) (fun t1 h2 hf => ?_)
  refine PW.istore (L' := [some (.ref b), some (.ref (gB g + 0)), some (.ref (gB g + 140)), some (.ref (gB g + 150)), some (.int i), some (.int t1), none, none, none]) cx qL_law_1991 hi5 rfl rfl ?_
  refine PW.aload_n cx qL_law_1993 rfl ?_
  refine PW.aload_n cx qL_law_1994 rfl ?_
  refine PW.iload cx qL_law_1995 rfl ?_
  refine PW.iconst (v := 1) cx qL_law_1997 rfl ?_
  refine PW.iadd cx qL_law_1998 ?_
  refine PW.sld cx qL_law_1999 hX hbB ha1 ?_
  refine PW.callVWIc (As := [.int a1]) (st := []) cx hR qL_law_2000 klL_290 mvX7_weeksToFade (sh_140 hm) rfl rfl rfl rfl (Nat.le_of_ble_eq_true rfl) (Nat.le_of_ble_eq_true rfl) (Nat.le_of_ble_eq_true rfl) (by omega) (by omega) hf sne (fun t e => ctX7_weeksToFade hm h2 a1 t e) (fun t3 h4 hf => ?_)
  refine PW.istore (L' := [some (.ref b), some (.ref (gB g + 0)), some (.ref (gB g + 140)), some (.ref (gB g + 150)), some (.int i), some (.int t1), some (.int t3), none, none]) cx qL_law_2003 hi6 rfl rfl ?_
  refine PW.aload_n cx qL_law_2005 rfl ?_
  refine PW.callVRI (As := []) (st := []) cx hR qL_law_2006 klL_166 mvX7_thrown (sh_140 hm) rfl rfl rfl rfl (Nat.le_of_ble_eq_true rfl) (Nat.le_of_ble_eq_true rfl) (Nat.le_of_ble_eq_true rfl) (by omega) (by omega) hf sne (fun t e => ctX7_thrown hm h4 t e) (fun t5 hf => ?_)
  refine PW.iload cx qL_law_2009 rfl ?_
  refine PW.icmp_eq cx qL_law_2011 hf (fun hf => ?_) (fun hf => ?_)
  · refine PW.iload cx qL_law_2016 rfl ?_
    refine PW.if_ne cx qL_law_2018 hf (fun hf => ?_) (fun hf => ?_)
    · refine PW.aload_n cx qL_law_2021 rfl ?_
      refine PW.iconst (v := 0) cx qL_law_2022 rfl ?_
      refine PW.lald1 cx qL_law_2023 ho ?_
      refine PW.iload cx qL_law_2024 rfl ?_
      refine PW.i2l cx qL_law_2026 ?_
      refine PW.lcmp cx qL_law_2027 ?_
      refine PW.if_eq cx qL_law_2028 hf (fun hf => ?_) (fun hf => ?_)
      · refine PW.goto cx qL_law_2033 ?_
        cases hf
        exact PW.widen (by omega) (by omega) (PW.locs (Lsub.keep (Lsub.keep (Lsub.keep (Lsub.keep (Lsub.keep (Lsub.drop (Lsub.drop (Lsub.drop (Lsub.drop Lsub.nil))))))))) kk)
      · cases hf
    · refine PW.goto cx qL_law_2033 ?_
      cases hf
      exact PW.widen (by omega) (by omega) (PW.locs (Lsub.keep (Lsub.keep (Lsub.keep (Lsub.keep (Lsub.keep (Lsub.drop (Lsub.drop (Lsub.drop (Lsub.drop Lsub.nil))))))))) kk)
  · cases hf
set_option maxRecDepth 20000 in
theorem ctK_38 {g : GT} {X : XT} {Q : State → Prop} {cells slots b N : Nat} {xs : Nat → Int32} {sh : List Shp} {i : Int32} {a1 : Int32} (hx : XSh sh) (hm : MSh sh) (ho : sh[150]? = some (.inr (3, 1, []))) (cx : Cx g X RL code) (hR : RmG X.2.2.1 40 600002 7302232) (hml : X.2.2.2.2.2.2.2.2.maxLocals = 9) (hX : va_X b N xs X.2.2.2.1 X.2.2.2.1.heap) (hbB : b < X.2.2.2.1.heap.size ∧ b < gB g) (ha1 : vp_in (i + 1) N ∧ xs (i + 1).toNatClampNeg = a1) (hc : cells + 4 ≤ 600002) (hs : slots + 24 ≤ 7302232) (h r : Hp) (hf : K_38 h a1 = some r) (kk : PW g X false Q (cells + 4) (slots + 24) sh r 3252 [some (.ref b), some (.ref (gB g + 0)), some (.ref (gB g + 140)), some (.ref (gB g + 150)), some (.int i), none, none, none, none] []) : PW g X false Q cells slots sh h 2036 [some (.ref b), some (.ref (gB g + 0)), some (.ref (gB g + 140)), some (.ref (gB g + 150)), some (.int i), none, none, none, none] [] := by
  have hi5 : 5 < X.2.2.2.2.2.2.2.2.maxLocals := by rw [hml]; exact Nat.le_of_ble_eq_true rfl
  have hi6 : 6 < X.2.2.2.2.2.2.2.2.maxLocals := by rw [hml]; exact Nat.le_of_ble_eq_true rfl
  have hi7 : 7 < X.2.2.2.2.2.2.2.2.maxLocals := by rw [hml]; exact Nat.le_of_ble_eq_true rfl
  have hi8 : 8 < X.2.2.2.2.2.2.2.2.maxLocals := by rw [hml]; exact Nat.le_of_ble_eq_true rfl
  unfold K_38 at hf
  refine PW.aload_n cx qL_law_2036 rfl ?_
  refine PW.aload_n cx qL_law_2037 rfl ?_
  refine PW.iload cx qL_law_2038 rfl ?_
  refine PW.iconst (v := 1) cx qL_law_2040 rfl ?_
  refine PW.iadd cx qL_law_2041 ?_
  refine PW.sld cx qL_law_2042 hX hbB ha1 ?_
  refine PW.aload_n cx qL_law_2043 rfl ?_
  refine PW.callWI (As := [.ref (gB g + 0), .int a1, .ref (gB g + 150)]) (st := []) cx hR qL_law_2044 kw291 mw_bedCount rfl rfl (Nat.le_of_ble_eq_true rfl) (Nat.le_of_ble_eq_true rfl) (Nat.le_of_ble_eq_true rfl) (by omega) (by omega) hf sne (fun t e => ctL_bedCount hx ho h a1 t e) (fun t1 h2 hf => ?_)
  refine PW.istore (L' := [some (.ref b), some (.ref (gB g + 0)), some (.ref (gB g + 140)), some (.ref (gB g + 150)), some (.int i), some (.int t1), none, none, none]) cx qL_law_2047 hi5 rfl rfl ?_
  refine PW.aload_n cx qL_law_2049 rfl ?_
  refine PW.aload_n cx qL_law_2050 rfl ?_
  refine PW.iload cx qL_law_2051 rfl ?_
  refine PW.iconst (v := 1) cx qL_law_2053 rfl ?_
  refine PW.iadd cx qL_law_2054 ?_
  refine PW.sld cx qL_law_2055 hX hbB ha1 ?_
  refine PW.callVWIc (As := [.int a1]) (st := []) cx hR qL_law_2056 klL_293 mvX7_bedCount (sh_140 hm) rfl rfl rfl rfl (Nat.le_of_ble_eq_true rfl) (Nat.le_of_ble_eq_true rfl) (Nat.le_of_ble_eq_true rfl) (by omega) (by omega) hf sne (fun t e => ctX7_bedCount hm h2 a1 t e) (fun t3 h4 hf => ?_)
  refine PW.istore (L' := [some (.ref b), some (.ref (gB g + 0)), some (.ref (gB g + 140)), some (.ref (gB g + 150)), some (.int i), some (.int t1), some (.int t3), none, none]) cx qL_law_2059 hi6 rfl rfl ?_
  refine PW.aload_n cx qL_law_2061 rfl ?_
  refine PW.callVRI (As := []) (st := []) cx hR qL_law_2062 klL_166 mvX7_thrown (sh_140 hm) rfl rfl rfl rfl (Nat.le_of_ble_eq_true rfl) (Nat.le_of_ble_eq_true rfl) (Nat.le_of_ble_eq_true rfl) (by omega) (by omega) hf sne (fun t e => ctX7_thrown hm h4 t e) (fun t5 hf => ?_)
  refine PW.iload cx qL_law_2065 rfl ?_
  refine PW.icmp_eq cx qL_law_2067 hf (fun hf => ?_) (fun hf => ?_)
  · refine PW.iload cx qL_law_2072 rfl ?_
    refine PW.if_ne cx qL_law_2074 hf (fun hf => ?_) (fun hf => ?_)
    · refine PW.aload_n cx qL_law_2077 rfl ?_
      refine PW.iconst (v := 0) cx qL_law_2078 rfl ?_
      refine PW.lald1 cx qL_law_2079 ho ?_
      refine PW.iload cx qL_law_2080 rfl ?_
      refine PW.i2l cx qL_law_2082 ?_
      refine PW.lcmp cx qL_law_2083 ?_
      refine PW.if_eq cx qL_law_2084 hf (fun hf => ?_) (fun hf => ?_)
      · refine PW.goto cx qL_law_2089 ?_
        cases hf
        exact PW.widen (by omega) (by omega) (PW.locs (Lsub.keep (Lsub.keep (Lsub.keep (Lsub.keep (Lsub.keep (Lsub.drop (Lsub.drop (Lsub.drop (Lsub.drop Lsub.nil))))))))) kk)
      · cases hf
    · refine PW.goto cx qL_law_2089 ?_
      cases hf
      exact PW.widen (by omega) (by omega) (PW.locs (Lsub.keep (Lsub.keep (Lsub.keep (Lsub.keep (Lsub.keep (Lsub.drop (Lsub.drop (Lsub.drop (Lsub.drop Lsub.nil))))))))) kk)
  · cases hf
set_option maxRecDepth 20000 in
theorem ctK_39 {g : GT} {X : XT} {Q : State → Prop} {cells slots b N : Nat} {xs : Nat → Int32} {sh : List Shp} {i : Int32} {a1 : Int32} {a2 : Int32} (hx : XSh sh) (hm : MSh sh) (ho : sh[150]? = some (.inr (3, 1, []))) (cx : Cx g X RL code) (hR : RmG X.2.2.1 40 600002 7302232) (hml : X.2.2.2.2.2.2.2.2.maxLocals = 9) (hX : va_X b N xs X.2.2.2.1 X.2.2.2.1.heap) (hbB : b < X.2.2.2.1.heap.size ∧ b < gB g) (ha1 : vp_in (i + 1) N ∧ xs (i + 1).toNatClampNeg = a1) (ha2 : vp_in (i + 2) N ∧ xs (i + 2).toNatClampNeg = a2) (hc : cells + 4 ≤ 600002) (hs : slots + 24 ≤ 7302232) (h r : Hp) (hf : K_39 h a1 a2 = some r) (kk : PW g X false Q (cells + 4) (slots + 24) sh r 3252 [some (.ref b), some (.ref (gB g + 0)), some (.ref (gB g + 140)), some (.ref (gB g + 150)), some (.int i), none, none, none, none] []) : PW g X false Q cells slots sh h 2092 [some (.ref b), some (.ref (gB g + 0)), some (.ref (gB g + 140)), some (.ref (gB g + 150)), some (.int i), none, none, none, none] [] := by
  have hi5 : 5 < X.2.2.2.2.2.2.2.2.maxLocals := by rw [hml]; exact Nat.le_of_ble_eq_true rfl
  have hi6 : 6 < X.2.2.2.2.2.2.2.2.maxLocals := by rw [hml]; exact Nat.le_of_ble_eq_true rfl
  have hi7 : 7 < X.2.2.2.2.2.2.2.2.maxLocals := by rw [hml]; exact Nat.le_of_ble_eq_true rfl
  have hi8 : 8 < X.2.2.2.2.2.2.2.2.maxLocals := by rw [hml]; exact Nat.le_of_ble_eq_true rfl
  unfold K_39 at hf
  refine PW.aload_n cx qL_law_2092 rfl ?_
  refine PW.aload_n cx qL_law_2093 rfl ?_
  refine PW.iload cx qL_law_2094 rfl ?_
  refine PW.iconst (v := 1) cx qL_law_2096 rfl ?_
  refine PW.iadd cx qL_law_2097 ?_
  refine PW.sld cx qL_law_2098 hX hbB ha1 ?_
  refine PW.aload_n cx qL_law_2099 rfl ?_
  refine PW.iload cx qL_law_2100 rfl ?_
  refine PW.iconst (v := 2) cx qL_law_2102 rfl ?_
  refine PW.iadd cx qL_law_2103 ?_
  refine PW.sld cx qL_law_2104 hX hbB ha2 ?_
  refine PW.aload_n cx qL_law_2105 rfl ?_
  refine PW.callWI (As := [.ref (gB g + 0), .int a1, .int a2, .ref (gB g + 150)]) (st := []) cx hR qL_law_2106 kw294 mw_bed rfl rfl (Nat.le_of_ble_eq_true rfl) (Nat.le_of_ble_eq_true rfl) (Nat.le_of_ble_eq_true rfl) (by omega) (by omega) hf sne (fun t e => ctL_bed hx ho h a1 a2 t e) (fun t1 h2 hf => ?_)
  refine PW.istore (L' := [some (.ref b), some (.ref (gB g + 0)), some (.ref (gB g + 140)), some (.ref (gB g + 150)), some (.int i), some (.int t1), none, none, none]) cx qL_law_2109 hi5 rfl rfl ?_
  refine PW.aload_n cx qL_law_2111 rfl ?_
  refine PW.aload_n cx qL_law_2112 rfl ?_
  refine PW.iload cx qL_law_2113 rfl ?_
  refine PW.iconst (v := 1) cx qL_law_2115 rfl ?_
  refine PW.iadd cx qL_law_2116 ?_
  refine PW.sld cx qL_law_2117 hX hbB ha1 ?_
  refine PW.aload_n cx qL_law_2118 rfl ?_
  refine PW.iload cx qL_law_2119 rfl ?_
  refine PW.iconst (v := 2) cx qL_law_2121 rfl ?_
  refine PW.iadd cx qL_law_2122 ?_
  refine PW.sld cx qL_law_2123 hX hbB ha2 ?_
  refine PW.callVWIc (As := [.int a1, .int a2]) (st := []) cx hR qL_law_2124 klL_296 mvX7_bed (sh_140 hm) rfl rfl rfl rfl (Nat.le_of_ble_eq_true rfl) (Nat.le_of_ble_eq_true rfl) (Nat.le_of_ble_eq_true rfl) (by omega) (by omega) hf sne (fun t e => ctX7_bed hm h2 a1 a2 t e) (fun t3 h4 hf => ?_)
  refine PW.istore (L' := [some (.ref b), some (.ref (gB g + 0)), some (.ref (gB g + 140)), some (.ref (gB g + 150)), some (.int i), some (.int t1), some (.int t3), none, none]) cx qL_law_2127 hi6 rfl rfl ?_
  refine PW.aload_n cx qL_law_2129 rfl ?_
  refine PW.callVRI (As := []) (st := []) cx hR qL_law_2130 klL_166 mvX7_thrown (sh_140 hm) rfl rfl rfl rfl (Nat.le_of_ble_eq_true rfl) (Nat.le_of_ble_eq_true rfl) (Nat.le_of_ble_eq_true rfl) (by omega) (by omega) hf sne (fun t e => ctX7_thrown hm h4 t e) (fun t5 hf => ?_)
  refine PW.iload cx qL_law_2133 rfl ?_
  refine PW.icmp_eq cx qL_law_2135 hf (fun hf => ?_) (fun hf => ?_)
  · refine PW.iload cx qL_law_2140 rfl ?_
    refine PW.if_ne cx qL_law_2142 hf (fun hf => ?_) (fun hf => ?_)
    · refine PW.aload_n cx qL_law_2145 rfl ?_
      refine PW.iconst (v := 0) cx qL_law_2146 rfl ?_
      refine PW.lald1 cx qL_law_2147 ho ?_
      refine PW.iload cx qL_law_2148 rfl ?_
      refine PW.i2l cx qL_law_2150 ?_
      refine PW.lcmp cx qL_law_2151 ?_
      refine PW.if_eq cx qL_law_2152 hf (fun hf => ?_) (fun hf => ?_)
      · refine PW.goto cx qL_law_2157 ?_
        cases hf
        exact PW.widen (by omega) (by omega) (PW.locs (Lsub.keep (Lsub.keep (Lsub.keep (Lsub.keep (Lsub.keep (Lsub.drop (Lsub.drop (Lsub.drop (Lsub.drop Lsub.nil))))))))) kk)
      · cases hf
    · refine PW.goto cx qL_law_2157 ?_
      cases hf
      exact PW.widen (by omega) (by omega) (PW.locs (Lsub.keep (Lsub.keep (Lsub.keep (Lsub.keep (Lsub.keep (Lsub.drop (Lsub.drop (Lsub.drop (Lsub.drop Lsub.nil))))))))) kk)
  · cases hf
set_option maxRecDepth 20000 in
theorem ctK_40 {g : GT} {X : XT} {Q : State → Prop} {cells slots b N : Nat} {xs : Nat → Int32} {sh : List Shp} {i : Int32} {a1 : Int32} (hx : XSh sh) (hm : MSh sh) (ho : sh[150]? = some (.inr (3, 1, []))) (cx : Cx g X RL code) (hR : RmG X.2.2.1 40 600002 7302232) (hml : X.2.2.2.2.2.2.2.2.maxLocals = 9) (hX : va_X b N xs X.2.2.2.1 X.2.2.2.1.heap) (hbB : b < X.2.2.2.1.heap.size ∧ b < gB g) (ha1 : vp_in (i + 1) N ∧ xs (i + 1).toNatClampNeg = a1) (hc : cells + 4 ≤ 600002) (hs : slots + 24 ≤ 7302232) (h r : Hp) (hf : K_40 h a1 = some r) (kk : PW g X false Q (cells + 4) (slots + 24) sh r 3252 [some (.ref b), some (.ref (gB g + 0)), some (.ref (gB g + 140)), some (.ref (gB g + 150)), some (.int i), none, none, none, none] []) : PW g X false Q cells slots sh h 2160 [some (.ref b), some (.ref (gB g + 0)), some (.ref (gB g + 140)), some (.ref (gB g + 150)), some (.int i), none, none, none, none] [] := by
  have hi5 : 5 < X.2.2.2.2.2.2.2.2.maxLocals := by rw [hml]; exact Nat.le_of_ble_eq_true rfl
  have hi6 : 6 < X.2.2.2.2.2.2.2.2.maxLocals := by rw [hml]; exact Nat.le_of_ble_eq_true rfl
  have hi7 : 7 < X.2.2.2.2.2.2.2.2.maxLocals := by rw [hml]; exact Nat.le_of_ble_eq_true rfl
  have hi8 : 8 < X.2.2.2.2.2.2.2.2.maxLocals := by rw [hml]; exact Nat.le_of_ble_eq_true rfl
  unfold K_40 at hf
  refine PW.aload_n cx qL_law_2160 rfl ?_
  refine PW.aload_n cx qL_law_2161 rfl ?_
  refine PW.iload cx qL_law_2162 rfl ?_
  refine PW.iconst (v := 1) cx qL_law_2164 rfl ?_
  refine PW.iadd cx qL_law_2165 ?_
  refine PW.sld cx qL_law_2166 hX hbB ha1 ?_
  refine PW.aload_n cx qL_law_2167 rfl ?_
  refine PW.callWI (As := [.ref (gB g + 0), .int a1, .ref (gB g + 150)]) (st := []) cx hR qL_law_2168 kw297 mw_sleepers rfl rfl (Nat.le_of_ble_eq_true rfl) (Nat.le_of_ble_eq_true rfl) (Nat.le_of_ble_eq_true rfl) (by omega) (by omega) hf sne (fun t e => ctL_sleepers hx ho h a1 t e) (fun t1 h2 hf => ?_)
  refine PW.istore (L' := [some (.ref b), some (.ref (gB g + 0)), some (.ref (gB g + 140)), some (.ref (gB g + 150)), some (.int i), some (.int t1), none, none, none]) cx qL_law_2171 hi5 rfl rfl ?_
  refine PW.aload_n cx qL_law_2173 rfl ?_
  refine PW.aload_n cx qL_law_2174 rfl ?_
  refine PW.iload cx qL_law_2175 rfl ?_
  refine PW.iconst (v := 1) cx qL_law_2177 rfl ?_
  refine PW.iadd cx qL_law_2178 ?_
  refine PW.sld cx qL_law_2179 hX hbB ha1 ?_
  refine PW.callVWIc (As := [.int a1]) (st := []) cx hR qL_law_2180 klL_299 mvX7_sleepers (sh_140 hm) rfl rfl rfl rfl (Nat.le_of_ble_eq_true rfl) (Nat.le_of_ble_eq_true rfl) (Nat.le_of_ble_eq_true rfl) (by omega) (by omega) hf sne (fun t e => ctX7_sleepers hm h2 a1 t e) (fun t3 h4 hf => ?_)
  refine PW.istore (L' := [some (.ref b), some (.ref (gB g + 0)), some (.ref (gB g + 140)), some (.ref (gB g + 150)), some (.int i), some (.int t1), some (.int t3), none, none]) cx qL_law_2183 hi6 rfl rfl ?_
  refine PW.aload_n cx qL_law_2185 rfl ?_
  refine PW.callVRI (As := []) (st := []) cx hR qL_law_2186 klL_166 mvX7_thrown (sh_140 hm) rfl rfl rfl rfl (Nat.le_of_ble_eq_true rfl) (Nat.le_of_ble_eq_true rfl) (Nat.le_of_ble_eq_true rfl) (by omega) (by omega) hf sne (fun t e => ctX7_thrown hm h4 t e) (fun t5 hf => ?_)
  refine PW.iload cx qL_law_2189 rfl ?_
  refine PW.icmp_eq cx qL_law_2191 hf (fun hf => ?_) (fun hf => ?_)
  · refine PW.iload cx qL_law_2196 rfl ?_
    refine PW.if_ne cx qL_law_2198 hf (fun hf => ?_) (fun hf => ?_)
    · refine PW.aload_n cx qL_law_2201 rfl ?_
      refine PW.iconst (v := 0) cx qL_law_2202 rfl ?_
      refine PW.lald1 cx qL_law_2203 ho ?_
      refine PW.iload cx qL_law_2204 rfl ?_
      refine PW.i2l cx qL_law_2206 ?_
      refine PW.lcmp cx qL_law_2207 ?_
      refine PW.if_eq cx qL_law_2208 hf (fun hf => ?_) (fun hf => ?_)
      · refine PW.goto cx qL_law_2213 ?_
        cases hf
        exact PW.widen (by omega) (by omega) (PW.locs (Lsub.keep (Lsub.keep (Lsub.keep (Lsub.keep (Lsub.keep (Lsub.drop (Lsub.drop (Lsub.drop (Lsub.drop Lsub.nil))))))))) kk)
      · cases hf
    · refine PW.goto cx qL_law_2213 ?_
      cases hf
      exact PW.widen (by omega) (by omega) (PW.locs (Lsub.keep (Lsub.keep (Lsub.keep (Lsub.keep (Lsub.keep (Lsub.drop (Lsub.drop (Lsub.drop (Lsub.drop Lsub.nil))))))))) kk)
  · cases hf
set_option maxRecDepth 20000 in
theorem ctK_41 {g : GT} {X : XT} {Q : State → Prop} {cells slots b N : Nat} {xs : Nat → Int32} {sh : List Shp} {i : Int32} {a1 : Int32} {a2 : Int32} (hx : XSh sh) (hm : MSh sh) (ho : sh[150]? = some (.inr (3, 1, []))) (cx : Cx g X RL code) (hR : RmG X.2.2.1 40 600002 7302232) (hml : X.2.2.2.2.2.2.2.2.maxLocals = 9) (hX : va_X b N xs X.2.2.2.1 X.2.2.2.1.heap) (hbB : b < X.2.2.2.1.heap.size ∧ b < gB g) (ha1 : vp_in (i + 1) N ∧ xs (i + 1).toNatClampNeg = a1) (ha2 : vp_in (i + 2) N ∧ xs (i + 2).toNatClampNeg = a2) (hc : cells + 4 ≤ 600002) (hs : slots + 24 ≤ 7302232) (h r : Hp) (hf : K_41 h a1 a2 = some r) (kk : PW g X false Q (cells + 4) (slots + 24) sh r 3252 [some (.ref b), some (.ref (gB g + 0)), some (.ref (gB g + 140)), some (.ref (gB g + 150)), some (.int i), none, none, none, none] []) : PW g X false Q cells slots sh h 2216 [some (.ref b), some (.ref (gB g + 0)), some (.ref (gB g + 140)), some (.ref (gB g + 150)), some (.int i), none, none, none, none] [] := by
  have hi5 : 5 < X.2.2.2.2.2.2.2.2.maxLocals := by rw [hml]; exact Nat.le_of_ble_eq_true rfl
  have hi6 : 6 < X.2.2.2.2.2.2.2.2.maxLocals := by rw [hml]; exact Nat.le_of_ble_eq_true rfl
  have hi7 : 7 < X.2.2.2.2.2.2.2.2.maxLocals := by rw [hml]; exact Nat.le_of_ble_eq_true rfl
  have hi8 : 8 < X.2.2.2.2.2.2.2.2.maxLocals := by rw [hml]; exact Nat.le_of_ble_eq_true rfl
  unfold K_41 at hf
  refine PW.aload_n cx qL_law_2216 rfl ?_
  refine PW.aload_n cx qL_law_2217 rfl ?_
  refine PW.iload cx qL_law_2218 rfl ?_
  refine PW.iconst (v := 1) cx qL_law_2220 rfl ?_
  refine PW.iadd cx qL_law_2221 ?_
  refine PW.sld cx qL_law_2222 hX hbB ha1 ?_
  refine PW.aload_n cx qL_law_2223 rfl ?_
  refine PW.iload cx qL_law_2224 rfl ?_
  refine PW.iconst (v := 2) cx qL_law_2226 rfl ?_
  refine PW.iadd cx qL_law_2227 ?_
  refine PW.sld cx qL_law_2228 hX hbB ha2 ?_
  refine PW.aload_n cx qL_law_2229 rfl ?_
  refine PW.callWI (As := [.ref (gB g + 0), .int a1, .int a2, .ref (gB g + 150)]) (st := []) cx hR qL_law_2230 kw300 mw_home rfl rfl (Nat.le_of_ble_eq_true rfl) (Nat.le_of_ble_eq_true rfl) (Nat.le_of_ble_eq_true rfl) (by omega) (by omega) hf sne (fun t e => ctL_home hx ho h a1 a2 t e) (fun t1 h2 hf => ?_)
  refine PW.istore (L' := [some (.ref b), some (.ref (gB g + 0)), some (.ref (gB g + 140)), some (.ref (gB g + 150)), some (.int i), some (.int t1), none, none, none]) cx qL_law_2233 hi5 rfl rfl ?_
  refine PW.aload_n cx qL_law_2235 rfl ?_
  refine PW.aload_n cx qL_law_2236 rfl ?_
  refine PW.iload cx qL_law_2237 rfl ?_
  refine PW.iconst (v := 1) cx qL_law_2239 rfl ?_
  refine PW.iadd cx qL_law_2240 ?_
  refine PW.sld cx qL_law_2241 hX hbB ha1 ?_
  refine PW.aload_n cx qL_law_2242 rfl ?_
  refine PW.iload cx qL_law_2243 rfl ?_
  refine PW.iconst (v := 2) cx qL_law_2245 rfl ?_
  refine PW.iadd cx qL_law_2246 ?_
  refine PW.sld cx qL_law_2247 hX hbB ha2 ?_
  refine PW.callVWIc (As := [.int a1, .int a2]) (st := []) cx hR qL_law_2248 klL_302 mvX7_home (sh_140 hm) rfl rfl rfl rfl (Nat.le_of_ble_eq_true rfl) (Nat.le_of_ble_eq_true rfl) (Nat.le_of_ble_eq_true rfl) (by omega) (by omega) hf sne (fun t e => ctX7_home hm h2 a1 a2 t e) (fun t3 h4 hf => ?_)
  refine PW.istore (L' := [some (.ref b), some (.ref (gB g + 0)), some (.ref (gB g + 140)), some (.ref (gB g + 150)), some (.int i), some (.int t1), some (.int t3), none, none]) cx qL_law_2251 hi6 rfl rfl ?_
  refine PW.aload_n cx qL_law_2253 rfl ?_
  refine PW.callVRI (As := []) (st := []) cx hR qL_law_2254 klL_166 mvX7_thrown (sh_140 hm) rfl rfl rfl rfl (Nat.le_of_ble_eq_true rfl) (Nat.le_of_ble_eq_true rfl) (Nat.le_of_ble_eq_true rfl) (by omega) (by omega) hf sne (fun t e => ctX7_thrown hm h4 t e) (fun t5 hf => ?_)
  refine PW.iload cx qL_law_2257 rfl ?_
  refine PW.icmp_eq cx qL_law_2259 hf (fun hf => ?_) (fun hf => ?_)
  · refine PW.iload cx qL_law_2264 rfl ?_
    refine PW.if_ne cx qL_law_2266 hf (fun hf => ?_) (fun hf => ?_)
    · refine PW.aload_n cx qL_law_2269 rfl ?_
      refine PW.iconst (v := 0) cx qL_law_2270 rfl ?_
      refine PW.lald1 cx qL_law_2271 ho ?_
      refine PW.iload cx qL_law_2272 rfl ?_
      refine PW.i2l cx qL_law_2274 ?_
      refine PW.lcmp cx qL_law_2275 ?_
      refine PW.if_eq cx qL_law_2276 hf (fun hf => ?_) (fun hf => ?_)
      · refine PW.goto cx qL_law_2281 ?_
        cases hf
        exact PW.widen (by omega) (by omega) (PW.locs (Lsub.keep (Lsub.keep (Lsub.keep (Lsub.keep (Lsub.keep (Lsub.drop (Lsub.drop (Lsub.drop (Lsub.drop Lsub.nil))))))))) kk)
      · cases hf
    · refine PW.goto cx qL_law_2281 ?_
      cases hf
      exact PW.widen (by omega) (by omega) (PW.locs (Lsub.keep (Lsub.keep (Lsub.keep (Lsub.keep (Lsub.keep (Lsub.drop (Lsub.drop (Lsub.drop (Lsub.drop Lsub.nil))))))))) kk)
  · cases hf
