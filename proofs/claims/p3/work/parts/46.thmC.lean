set_option maxRecDepth 20000 in
theorem ctX6_wake {g : GT} {sh : List Shp} (hx : XSh sh) (h : Hp) (p1 : Int32) (r0 : (Nat × Hp) ⊕ (Int32 × Hp)) (hf : C_wake h p1 = some r0) : CtX g mX6_wake 10 2 12 [.ref (gB g + 0), .int p1] sh h (PX r0 oI (fun v => v.2) sh) (PXx r0 sh) := by
  refine CtX.of (L := [some (.ref (gB g + 0)), some (.int p1)]) (by decide) (by intro w hw; simp only [List.mem_cons, List.not_mem_nil, or_false] at hw; rcases hw with rfl | rfl <;> rfl) (Nat.le_of_ble_eq_true rfl) rfl (fun X mx hno => ?_)
  obtain ⟨cx, hR, hml, hrt, -⟩ := mx
  have cx : Cx g X RX6 cX6_wake := cx
  have hrt : X.2.2.2.2.2.2.2.1.sig.returnType = (some .int) := hrt
  unfold C_wake at hf
  refine PW.aload_n cx qX6_wake_0 rfl ?_
  refine PW.iload_n cx qX6_wake_1 rfl ?_
  refine PW.callTV (As := [.int p1]) (st := []) cx hR hno qX6_wake_2 ktX6_116 mvX6_needClip (sh_0 hx) rfl rfl rfl rfl (Nat.le_of_ble_eq_true rfl) (Nat.le_of_ble_eq_true rfl) (Nat.le_of_ble_eq_true rfl) (Nat.le_of_ble_eq_true rfl) (Nat.le_of_ble_eq_true rfl) (Nat.le_refl _) (Nat.le_refl _) hf (fun t e => ctX6_needClip hx h p1 t e) (fun h1 hf => ?_)
  refine PW.aload_n cx qX6_wake_5 rfl ?_
  refine PW.aload_n cx qX6_wake_6 rfl ?_
  refine PW.getf (t := (2, 1)) (v := .ref (gB g + 1)) cx qX6_wake_7 (sh_0 hx) rfl flX6_12 rfl ?_
  refine PW.getf (t := (2, 1 + 4)) (v := .ref (gB g + (1 + 4))) cx qX6_wake_10 (as_1 hx).1 rfl flX6_129 rfl ?_
  refine PW.iload_n cx qX6_wake_13 rfl ?_
  refine PW.iald cx qX6_wake_14 (AS.r4 (as_1 hx)) hf sne (fun t3 hf => ?_)
  refine PW.iconst (v := 1) cx qX6_wake_15 rfl ?_
  obtain ⟨j24, ej24, hf⟩ := lt_split hf
  have hj24 : ∀ (z0_24 : Bool), j24 z0_24 = some r0 → PW g X false (QX g X (PX r0 oI (fun v => v.2) sh) (PXx r0 sh) 2 12) 1 6 sh h1 24 [some (.ref (gB g + 0)), some (.int p1)] [.int (b2i z0_24), .ref (gB g + 0)] := by
    intro z0_24 hf
    rw [ej24] at hf
    refine PW.callTV (As := [.int (b2i z0_24)]) (st := []) cx hR hno qX6_wake_24 ktX6_92 mvX6_refuseIf (sh_0 hx) rfl rfl rfl rfl (Nat.le_of_ble_eq_true rfl) (Nat.le_of_ble_eq_true rfl) (Nat.le_of_ble_eq_true rfl) (Nat.le_of_ble_eq_true rfl) (Nat.le_of_ble_eq_true rfl) (Nat.le_refl _) (Nat.le_refl _) hf (fun t e => ctX6_refuseIf hx h1 z0_24 t e) (fun h4 hf => ?_)
    refine PW.aload_n cx qX6_wake_27 rfl ?_
    refine PW.callVWV (As := []) (st := []) cx hR qX6_wake_28 klX6_76 mvX6_remember (sh_0 hx) rfl rfl rfl rfl (Nat.le_of_ble_eq_true rfl) (Nat.le_of_ble_eq_true rfl) (Nat.le_of_ble_eq_true rfl) (Nat.le_of_ble_eq_true rfl) (Nat.le_of_ble_eq_true rfl) hf sne (fun t e => ctX6_remember hx h4 t e) (fun h7 hf => ?_)
    refine PW.aload_n cx qX6_wake_31 rfl ?_
    refine PW.getf (t := (2, 1)) (v := .ref (gB g + 1)) cx qX6_wake_32 (sh_0 hx) rfl flX6_12 rfl ?_
    refine PW.iload_n cx qX6_wake_35 rfl ?_
    refine PW.callVWIc (As := [.int p1]) (st := []) cx hR qX6_wake_36 klX6_133 mvX1_rouse (as_1 hx).1 rfl rfl rfl rfl (Nat.le_of_ble_eq_true rfl) (Nat.le_of_ble_eq_true rfl) (Nat.le_of_ble_eq_true rfl) (Nat.le_of_ble_eq_true rfl) (Nat.le_of_ble_eq_true rfl) hf sne (fun t e => ctX1_rouse (as_1 hx) h7 p1 t e) (fun t8 h9 hf => ?_)
    exact PW.toX (Nat.le_of_ble_eq_true rfl) (Nat.le_of_ble_eq_true rfl) (PW.iret cx hrt qX6_wake_39 (le_xi hf))
  refine PW.icmp_eq cx qX6_wake_16 hf (fun hf => ?_) (fun hf => ?_)
  · refine PW.iconst (v := 0) cx qX6_wake_23 rfl ?_
    exact PW.locs (Lsub.keep (Lsub.keep Lsub.nil)) (hj24 false hf)
  · refine PW.iconst (v := 1) cx qX6_wake_19 rfl ?_
    refine PW.goto cx qX6_wake_20 ?_
    exact PW.locs (Lsub.keep (Lsub.keep Lsub.nil)) (hj24 true hf)
set_option maxRecDepth 20000 in
theorem ctX6_needScene {g : GT} {sh : List Shp} (hx : XSh sh) (h : Hp) (p1 : Int32) (r0 : (Nat × Hp) ⊕ (Hp)) (hf : C_needScene h p1 = some r0) : CtX g mX6_needScene 9 1 6 [.ref (gB g + 0), .int p1] sh h (PX r0 oV (fun v => v) sh) (PXx r0 sh) := by
  refine CtX.of (L := [some (.ref (gB g + 0)), some (.int p1)]) (by decide) (by intro w hw; simp only [List.mem_cons, List.not_mem_nil, or_false] at hw; rcases hw with rfl | rfl <;> rfl) (Nat.le_of_ble_eq_true rfl) rfl (fun X mx hno => ?_)
  obtain ⟨cx, hR, hml, hrt, -⟩ := mx
  have cx : Cx g X RX6 cX6_needScene := cx
  have hrt : X.2.2.2.2.2.2.2.1.sig.returnType = none := hrt
  unfold C_needScene at hf
  refine PW.iload_n cx qX6_needScene_0 rfl ?_
  refine PW.if_lt cx qX6_needScene_1 hf (fun hf => ?_) (fun hf => ?_)
  · exact PW.thrW cx hR hno teX6_164_325 qX6_needScene_15 qX6_needScene_18 qX6_needScene_19 qX6_needScene_22 qX6_needScene_25 (Nat.le_of_ble_eq_true rfl) (Nat.le_of_ble_eq_true rfl) (Nat.le_of_ble_eq_true rfl) (Nat.le_of_ble_eq_true rfl) (Nat.le_refl _) (Nat.le_refl _) (le_xx hf)
  · refine PW.iload_n cx qX6_needScene_4 rfl ?_
    refine PW.aload_n cx qX6_needScene_5 rfl ?_
    refine PW.getf (t := (2, 1)) (v := .ref (gB g + 1)) cx qX6_needScene_6 (sh_0 hx) rfl flX6_12 rfl ?_
    refine PW.getf (t := (0, 0)) (v := .int (rd h 1 15)) cx qX6_needScene_9 (as_1 hx).1 rfl flX6_206 rfl ?_
    refine PW.icmp_lt cx qX6_needScene_12 hf (fun hf => ?_) (fun hf => ?_)
    · exact PW.toX (Nat.le_of_ble_eq_true rfl) (Nat.le_of_ble_eq_true rfl) (PW.vret cx hrt qX6_needScene_26 (le_xv hf))
    · exact PW.thrW cx hR hno teX6_164_325 qX6_needScene_15 qX6_needScene_18 qX6_needScene_19 qX6_needScene_22 qX6_needScene_25 (Nat.le_of_ble_eq_true rfl) (Nat.le_of_ble_eq_true rfl) (Nat.le_of_ble_eq_true rfl) (Nat.le_of_ble_eq_true rfl) (Nat.le_refl _) (Nat.le_refl _) (le_xx hf)
set_option maxRecDepth 20000 in
theorem ctX6_needPattern {g : GT} {sh : List Shp} (hx : XSh sh) (h : Hp) (p1 : Int32) (r0 : (Nat × Hp) ⊕ (Hp)) (hf : C_needPattern h p1 = some r0) : CtX g mX6_needPattern 10 1 6 [.ref (gB g + 0), .int p1] sh h (PX r0 oV (fun v => v) sh) (PXx r0 sh) := by
  refine CtX.of (L := [some (.ref (gB g + 0)), some (.int p1)]) (by decide) (by intro w hw; simp only [List.mem_cons, List.not_mem_nil, or_false] at hw; rcases hw with rfl | rfl <;> rfl) (Nat.le_of_ble_eq_true rfl) rfl (fun X mx hno => ?_)
  obtain ⟨cx, hR, hml, hrt, -⟩ := mx
  have cx : Cx g X RX6 cX6_needPattern := cx
  have hrt : X.2.2.2.2.2.2.2.1.sig.returnType = none := hrt
  unfold C_needPattern at hf
  refine PW.aload_n cx qX6_needPattern_0 rfl ?_
  refine PW.iload_n cx qX6_needPattern_1 rfl ?_
  refine PW.iconst (v := 1) cx qX6_needPattern_2 rfl ?_
  refine PW.sipush (v := 9999) cx qX6_needPattern_3 rfl ?_
  refine PW.callTV (As := [.int p1, .int 1, .int 9999]) (st := []) cx hR hno qX6_needPattern_6 ktX6_100 mvX6_needRange (sh_0 hx) rfl rfl rfl rfl (Nat.le_of_ble_eq_true rfl) (Nat.le_of_ble_eq_true rfl) (Nat.le_of_ble_eq_true rfl) (Nat.le_of_ble_eq_true rfl) (Nat.le_of_ble_eq_true rfl) (Nat.le_refl _) (Nat.le_refl _) hf (fun t e => ctX6_needRange hx h p1 1 9999 t e) (fun h1 hf => ?_)
  exact PW.toX (Nat.le_of_ble_eq_true rfl) (Nat.le_of_ble_eq_true rfl) (PW.vret cx hrt qX6_needPattern_9 (le_xv hf))
set_option maxRecDepth 20000 in
theorem ctX6_cut {g : GT} {sh : List Shp} (hx : XSh sh) (h : Hp) (p1 : Int32) (p2 : Int32) (r0 : (Nat × Hp) ⊕ (Int32 × Hp)) (hf : C_cut h p1 p2 = some r0) : CtX g mX6_cut 11 2 12 [.ref (gB g + 0), .int p1, .int p2] sh h (PX r0 oI (fun v => v.2) sh) (PXx r0 sh) := by
  refine CtX.of (L := [some (.ref (gB g + 0)), some (.int p1), some (.int p2)]) (by decide) (by intro w hw; simp only [List.mem_cons, List.not_mem_nil, or_false] at hw; rcases hw with rfl | rfl | rfl <;> rfl) (Nat.le_of_ble_eq_true rfl) rfl (fun X mx hno => ?_)
  obtain ⟨cx, hR, hml, hrt, -⟩ := mx
  have cx : Cx g X RX6 cX6_cut := cx
  have hrt : X.2.2.2.2.2.2.2.1.sig.returnType = (some .int) := hrt
  unfold C_cut at hf
  refine PW.aload_n cx qX6_cut_0 rfl ?_
  refine PW.iload_n cx qX6_cut_1 rfl ?_
  refine PW.callTV (As := [.int p1]) (st := []) cx hR hno qX6_cut_2 ktX6_136 mvX6_needScene (sh_0 hx) rfl rfl rfl rfl (Nat.le_of_ble_eq_true rfl) (Nat.le_of_ble_eq_true rfl) (Nat.le_of_ble_eq_true rfl) (Nat.le_of_ble_eq_true rfl) (Nat.le_of_ble_eq_true rfl) (Nat.le_refl _) (Nat.le_refl _) hf (fun t e => ctX6_needScene hx h p1 t e) (fun h1 hf => ?_)
  refine PW.aload_n cx qX6_cut_5 rfl ?_
  refine PW.iload_n cx qX6_cut_6 rfl ?_
  refine PW.callTV (As := [.int p2]) (st := []) cx hR hno qX6_cut_7 ktX6_139 mvX6_needPattern (sh_0 hx) rfl rfl rfl rfl (Nat.le_of_ble_eq_true rfl) (Nat.le_of_ble_eq_true rfl) (Nat.le_of_ble_eq_true rfl) (Nat.le_of_ble_eq_true rfl) (Nat.le_of_ble_eq_true rfl) (Nat.le_refl _) (Nat.le_refl _) hf (fun t e => ctX6_needPattern hx h1 p2 t e) (fun h3 hf => ?_)
  refine PW.aload_n cx qX6_cut_10 rfl ?_
  refine PW.callVWV (As := []) (st := []) cx hR qX6_cut_11 klX6_76 mvX6_remember (sh_0 hx) rfl rfl rfl rfl (Nat.le_of_ble_eq_true rfl) (Nat.le_of_ble_eq_true rfl) (Nat.le_of_ble_eq_true rfl) (Nat.le_of_ble_eq_true rfl) (Nat.le_of_ble_eq_true rfl) hf sne (fun t e => ctX6_remember hx h3 t e) (fun h6 hf => ?_)
  refine PW.aload_n cx qX6_cut_14 rfl ?_
  refine PW.getf (t := (2, 1)) (v := .ref (gB g + 1)) cx qX6_cut_15 (sh_0 hx) rfl flX6_12 rfl ?_
  refine PW.iload_n cx qX6_cut_18 rfl ?_
  refine PW.iload_n cx qX6_cut_19 rfl ?_
  refine PW.callVWIc (As := [.int p1, .int p2]) (st := []) cx hR qX6_cut_20 klX6_142 mvX1_cutScene (as_1 hx).1 rfl rfl rfl rfl (Nat.le_of_ble_eq_true rfl) (Nat.le_of_ble_eq_true rfl) (Nat.le_of_ble_eq_true rfl) (Nat.le_of_ble_eq_true rfl) (Nat.le_of_ble_eq_true rfl) hf sne (fun t e => ctX1_cutScene (as_1 hx) h6 p1 p2 t e) (fun t7 h8 hf => ?_)
  exact PW.toX (Nat.le_of_ble_eq_true rfl) (Nat.le_of_ble_eq_true rfl) (PW.iret cx hrt qX6_cut_23 (le_xi hf))
set_option maxRecDepth 20000 in
theorem ctX6_air {g : GT} {sh : List Shp} (hx : XSh sh) (h : Hp) (p1 : Int32) (r0 : (Nat × Hp) ⊕ (Int32 × Hp)) (hf : C_air h p1 = some r0) : CtX g mX6_air 10 1 6 [.ref (gB g + 0), .int p1] sh h (PX r0 oI (fun v => v.2) sh) (PXx r0 sh) := by
  refine CtX.of (L := [some (.ref (gB g + 0)), some (.int p1)]) (by decide) (by intro w hw; simp only [List.mem_cons, List.not_mem_nil, or_false] at hw; rcases hw with rfl | rfl <;> rfl) (Nat.le_of_ble_eq_true rfl) rfl (fun X mx hno => ?_)
  obtain ⟨cx, hR, hml, hrt, -⟩ := mx
  have cx : Cx g X RX6 cX6_air := cx
  have hrt : X.2.2.2.2.2.2.2.1.sig.returnType = (some .int) := hrt
  unfold C_air at hf
  refine PW.aload_n cx qX6_air_0 rfl ?_
  refine PW.iload_n cx qX6_air_1 rfl ?_
  refine PW.callTV (As := [.int p1]) (st := []) cx hR hno qX6_air_2 ktX6_119 mvX6_needReel (sh_0 hx) rfl rfl rfl rfl (Nat.le_of_ble_eq_true rfl) (Nat.le_of_ble_eq_true rfl) (Nat.le_of_ble_eq_true rfl) (Nat.le_of_ble_eq_true rfl) (Nat.le_of_ble_eq_true rfl) (Nat.le_refl _) (Nat.le_refl _) hf (fun t e => ctX6_needReel hx h p1 t e) (fun h1 hf => ?_)
  refine PW.aload_n cx qX6_air_5 rfl ?_
  refine PW.callVWV (As := []) (st := []) cx hR qX6_air_6 klX6_76 mvX6_remember (sh_0 hx) rfl rfl rfl rfl (Nat.le_of_ble_eq_true rfl) (Nat.le_of_ble_eq_true rfl) (Nat.le_of_ble_eq_true rfl) (Nat.le_of_ble_eq_true rfl) (Nat.le_of_ble_eq_true rfl) hf sne (fun t e => ctX6_remember hx h1 t e) (fun h4 hf => ?_)
  refine PW.aload_n cx qX6_air_9 rfl ?_
  refine PW.getf (t := (2, 1)) (v := .ref (gB g + 1)) cx qX6_air_10 (sh_0 hx) rfl flX6_12 rfl ?_
  refine PW.iload_n cx qX6_air_13 rfl ?_
  refine PW.callVWIc (As := [.int p1]) (st := []) cx hR qX6_air_14 klX6_145 mvX1_airReel (as_1 hx).1 rfl rfl rfl rfl (Nat.le_of_ble_eq_true rfl) (Nat.le_of_ble_eq_true rfl) (Nat.le_of_ble_eq_true rfl) (Nat.le_of_ble_eq_true rfl) (Nat.le_of_ble_eq_true rfl) hf sne (fun t e => ctX1_airReel (as_1 hx) h4 p1 t e) (fun t5 h6 hf => ?_)
  exact PW.toX (Nat.le_of_ble_eq_true rfl) (Nat.le_of_ble_eq_true rfl) (PW.iret cx hrt qX6_air_17 (le_xi hf))
set_option maxRecDepth 20000 in
theorem ctX6_feed {g : GT} {sh : List Shp} (hx : XSh sh) (h : Hp) (p1 : Int32) (p2 : Int32) (r0 : (Nat × Hp) ⊕ (Int32 × Hp)) (hf : C_feed h p1 p2 = some r0) : CtX g mX6_feed 10 3 18 [.ref (gB g + 0), .int p1, .int p2] sh h (PX r0 oI (fun v => v.2) sh) (PXx r0 sh) := by
  refine CtX.of (L := [some (.ref (gB g + 0)), some (.int p1), some (.int p2)]) (by decide) (by intro w hw; simp only [List.mem_cons, List.not_mem_nil, or_false] at hw; rcases hw with rfl | rfl | rfl <;> rfl) (Nat.le_of_ble_eq_true rfl) rfl (fun X mx hno => ?_)
  obtain ⟨cx, hR, hml, hrt, -⟩ := mx
  have cx : Cx g X RX6 cX6_feed := cx
  have hrt : X.2.2.2.2.2.2.2.1.sig.returnType = (some .int) := hrt
  unfold C_feed at hf
  refine PW.aload_n cx qX6_feed_0 rfl ?_
  refine PW.iload_n cx qX6_feed_1 rfl ?_
  refine PW.callTV (As := [.int p1]) (st := []) cx hR hno qX6_feed_2 ktX6_116 mvX6_needClip (sh_0 hx) rfl rfl rfl rfl (Nat.le_of_ble_eq_true rfl) (Nat.le_of_ble_eq_true rfl) (Nat.le_of_ble_eq_true rfl) (Nat.le_of_ble_eq_true rfl) (Nat.le_of_ble_eq_true rfl) (Nat.le_refl _) (Nat.le_refl _) hf (fun t e => ctX6_needClip hx h p1 t e) (fun h1 hf => ?_)
  refine PW.aload_n cx qX6_feed_5 rfl ?_
  refine PW.iload_n cx qX6_feed_6 rfl ?_
  refine PW.iconst (v := 1) cx qX6_feed_7 rfl ?_
  refine PW.bipush (v := 50) cx qX6_feed_8 rfl ?_
  refine PW.callTV (As := [.int p2, .int 1, .int 50]) (st := []) cx hR hno qX6_feed_10 ktX6_100 mvX6_needRange (sh_0 hx) rfl rfl rfl rfl (Nat.le_of_ble_eq_true rfl) (Nat.le_of_ble_eq_true rfl) (Nat.le_of_ble_eq_true rfl) (Nat.le_of_ble_eq_true rfl) (Nat.le_of_ble_eq_true rfl) (Nat.le_refl _) (Nat.le_refl _) hf (fun t e => ctX6_needRange hx h1 p2 1 50 t e) (fun h3 hf => ?_)
  refine PW.aload_n cx qX6_feed_13 rfl ?_
  refine PW.aload_n cx qX6_feed_14 rfl ?_
  refine PW.getf (t := (2, 1)) (v := .ref (gB g + 1)) cx qX6_feed_15 (sh_0 hx) rfl flX6_12 rfl ?_
  refine PW.iload_n cx qX6_feed_18 rfl ?_
  refine PW.iload_n cx qX6_feed_19 rfl ?_
  refine PW.callVRB (As := [.int p1, .int p2]) (st := [.ref (gB g + 0)]) cx hR qX6_feed_20 klX6_148 mvX1_mayFeed (as_1 hx).1 rfl rfl rfl rfl (Nat.le_of_ble_eq_true rfl) (Nat.le_of_ble_eq_true rfl) (Nat.le_of_ble_eq_true rfl) (Nat.le_of_ble_eq_true rfl) (Nat.le_of_ble_eq_true rfl) hf sne (fun t e => ctX1_mayFeed (as_1 hx) h3 p1 p2 t e) (fun t5 hf => ?_)
  obtain ⟨j31, ej31, hf⟩ := lt_split hf
  have hj31 : ∀ (z0_31 : Bool), j31 z0_31 = some r0 → PW g X false (QX g X (PX r0 oI (fun v => v.2) sh) (PXx r0 sh) 3 18) 2 12 sh h3 31 [some (.ref (gB g + 0)), some (.int p1), some (.int p2)] [.int (b2i z0_31), .ref (gB g + 0)] := by
    intro z0_31 hf
    rw [ej31] at hf
    refine PW.callTV (As := [.int (b2i z0_31)]) (st := []) cx hR hno qX6_feed_31 ktX6_92 mvX6_refuseIf (sh_0 hx) rfl rfl rfl rfl (Nat.le_of_ble_eq_true rfl) (Nat.le_of_ble_eq_true rfl) (Nat.le_of_ble_eq_true rfl) (Nat.le_of_ble_eq_true rfl) (Nat.le_of_ble_eq_true rfl) (Nat.le_refl _) (Nat.le_refl _) hf (fun t e => ctX6_refuseIf hx h3 z0_31 t e) (fun h6 hf => ?_)
    refine PW.aload_n cx qX6_feed_34 rfl ?_
    refine PW.callVWV (As := []) (st := []) cx hR qX6_feed_35 klX6_76 mvX6_remember (sh_0 hx) rfl rfl rfl rfl (Nat.le_of_ble_eq_true rfl) (Nat.le_of_ble_eq_true rfl) (Nat.le_of_ble_eq_true rfl) (Nat.le_of_ble_eq_true rfl) (Nat.le_of_ble_eq_true rfl) hf sne (fun t e => ctX6_remember hx h6 t e) (fun h9 hf => ?_)
    refine PW.aload_n cx qX6_feed_38 rfl ?_
    refine PW.getf (t := (2, 1)) (v := .ref (gB g + 1)) cx qX6_feed_39 (sh_0 hx) rfl flX6_12 rfl ?_
    refine PW.iload_n cx qX6_feed_42 rfl ?_
    refine PW.iload_n cx qX6_feed_43 rfl ?_
    refine PW.callVWIc (As := [.int p1, .int p2]) (st := []) cx hR qX6_feed_44 klX6_152 mvX1_feedClip (as_1 hx).1 rfl rfl rfl rfl (Nat.le_of_ble_eq_true rfl) (Nat.le_of_ble_eq_true rfl) (Nat.le_of_ble_eq_true rfl) (Nat.le_of_ble_eq_true rfl) (Nat.le_of_ble_eq_true rfl) hf sne (fun t e => ctX1_feedClip (as_1 hx) h9 p1 p2 t e) (fun t10 h11 hf => ?_)
    exact PW.toX (Nat.le_of_ble_eq_true rfl) (Nat.le_of_ble_eq_true rfl) (PW.iret cx hrt qX6_feed_47 (le_xi hf))
  refine PW.if_ne cx qX6_feed_23 hf (fun hf => ?_) (fun hf => ?_)
  · refine PW.iconst (v := 1) cx qX6_feed_26 rfl ?_
    refine PW.goto cx qX6_feed_27 ?_
    exact PW.locs (Lsub.keep (Lsub.keep (Lsub.keep Lsub.nil))) (hj31 true hf)
  · refine PW.iconst (v := 0) cx qX6_feed_30 rfl ?_
    exact PW.locs (Lsub.keep (Lsub.keep (Lsub.keep Lsub.nil))) (hj31 false hf)
set_option maxRecDepth 20000 in
theorem ctX6_addFood {g : GT} {sh : List Shp} (hx : XSh sh) (h : Hp) (p1 : Int32) (r0 : (Nat × Hp) ⊕ (Int32 × Hp)) (hf : C_addFood h p1 = some r0) : CtX g mX6_addFood 10 2 12 [.ref (gB g + 0), .int p1] sh h (PX r0 oI (fun v => v.2) sh) (PXx r0 sh) := by
  refine CtX.of (L := [some (.ref (gB g + 0)), some (.int p1)]) (by decide) (by intro w hw; simp only [List.mem_cons, List.not_mem_nil, or_false] at hw; rcases hw with rfl | rfl <;> rfl) (Nat.le_of_ble_eq_true rfl) rfl (fun X mx hno => ?_)
  obtain ⟨cx, hR, hml, hrt, -⟩ := mx
  have cx : Cx g X RX6 cX6_addFood := cx
  have hrt : X.2.2.2.2.2.2.2.1.sig.returnType = (some .int) := hrt
  unfold C_addFood at hf
  refine PW.aload_n cx qX6_addFood_0 rfl ?_
  refine PW.iload_n cx qX6_addFood_1 rfl ?_
  refine PW.iconst (v := 1) cx qX6_addFood_2 rfl ?_
  refine PW.sipush (v := 999) cx qX6_addFood_3 rfl ?_
  refine PW.callTV (As := [.int p1, .int 1, .int 999]) (st := []) cx hR hno qX6_addFood_6 ktX6_100 mvX6_needRange (sh_0 hx) rfl rfl rfl rfl (Nat.le_of_ble_eq_true rfl) (Nat.le_of_ble_eq_true rfl) (Nat.le_of_ble_eq_true rfl) (Nat.le_of_ble_eq_true rfl) (Nat.le_of_ble_eq_true rfl) (Nat.le_refl _) (Nat.le_refl _) hf (fun t e => ctX6_needRange hx h p1 1 999 t e) (fun h1 hf => ?_)
  refine PW.aload_n cx qX6_addFood_9 rfl ?_
  refine PW.aload_n cx qX6_addFood_10 rfl ?_
  refine PW.getf (t := (2, 1)) (v := .ref (gB g + 1)) cx qX6_addFood_11 (sh_0 hx) rfl flX6_12 rfl ?_
  refine PW.iload_n cx qX6_addFood_14 rfl ?_
  refine PW.callVRB (As := [.int p1]) (st := [.ref (gB g + 0)]) cx hR qX6_addFood_15 klX6_155 mvX1_mayStore (as_1 hx).1 rfl rfl rfl rfl (Nat.le_of_ble_eq_true rfl) (Nat.le_of_ble_eq_true rfl) (Nat.le_of_ble_eq_true rfl) (Nat.le_of_ble_eq_true rfl) (Nat.le_of_ble_eq_true rfl) hf sne (fun t e => ctX1_mayStore (as_1 hx) h1 p1 t e) (fun t3 hf => ?_)
  obtain ⟨j26, ej26, hf⟩ := lt_split hf
  have hj26 : ∀ (z0_26 : Bool), j26 z0_26 = some r0 → PW g X false (QX g X (PX r0 oI (fun v => v.2) sh) (PXx r0 sh) 2 12) 1 6 sh h1 26 [some (.ref (gB g + 0)), some (.int p1)] [.int (b2i z0_26), .ref (gB g + 0)] := by
    intro z0_26 hf
    rw [ej26] at hf
    refine PW.callTV (As := [.int (b2i z0_26)]) (st := []) cx hR hno qX6_addFood_26 ktX6_92 mvX6_refuseIf (sh_0 hx) rfl rfl rfl rfl (Nat.le_of_ble_eq_true rfl) (Nat.le_of_ble_eq_true rfl) (Nat.le_of_ble_eq_true rfl) (Nat.le_of_ble_eq_true rfl) (Nat.le_of_ble_eq_true rfl) (Nat.le_refl _) (Nat.le_refl _) hf (fun t e => ctX6_refuseIf hx h1 z0_26 t e) (fun h4 hf => ?_)
    refine PW.aload_n cx qX6_addFood_29 rfl ?_
    refine PW.callVWV (As := []) (st := []) cx hR qX6_addFood_30 klX6_76 mvX6_remember (sh_0 hx) rfl rfl rfl rfl (Nat.le_of_ble_eq_true rfl) (Nat.le_of_ble_eq_true rfl) (Nat.le_of_ble_eq_true rfl) (Nat.le_of_ble_eq_true rfl) (Nat.le_of_ble_eq_true rfl) hf sne (fun t e => ctX6_remember hx h4 t e) (fun h7 hf => ?_)
    refine PW.aload_n cx qX6_addFood_33 rfl ?_
    refine PW.getf (t := (2, 1)) (v := .ref (gB g + 1)) cx qX6_addFood_34 (sh_0 hx) rfl flX6_12 rfl ?_
    refine PW.iload_n cx qX6_addFood_37 rfl ?_
    refine PW.callVWIc (As := [.int p1]) (st := []) cx hR qX6_addFood_38 klX6_158 mvX1_store (as_1 hx).1 rfl rfl rfl rfl (Nat.le_of_ble_eq_true rfl) (Nat.le_of_ble_eq_true rfl) (Nat.le_of_ble_eq_true rfl) (Nat.le_of_ble_eq_true rfl) (Nat.le_of_ble_eq_true rfl) hf sne (fun t e => ctX1_store (as_1 hx) h7 p1 t e) (fun t8 h9 hf => ?_)
    exact PW.toX (Nat.le_of_ble_eq_true rfl) (Nat.le_of_ble_eq_true rfl) (PW.iret cx hrt qX6_addFood_41 (le_xi hf))
  refine PW.if_ne cx qX6_addFood_18 hf (fun hf => ?_) (fun hf => ?_)
  · refine PW.iconst (v := 1) cx qX6_addFood_21 rfl ?_
    refine PW.goto cx qX6_addFood_22 ?_
    exact PW.locs (Lsub.keep (Lsub.keep Lsub.nil)) (hj26 true hf)
  · refine PW.iconst (v := 0) cx qX6_addFood_25 rfl ?_
    exact PW.locs (Lsub.keep (Lsub.keep Lsub.nil)) (hj26 false hf)
set_option maxRecDepth 20000 in
theorem ctX6_paint {g : GT} {sh : List Shp} (hx : XSh sh) (h : Hp) (p1 : Int32) (p2 : Int32) (p3 : Int32) (r0 : (Nat × Hp) ⊕ (Int32 × Hp)) (hf : C_paint h p1 p2 p3 = some r0) : CtX g mX6_paint 10 4 24 [.ref (gB g + 0), .int p1, .int p2, .int p3] sh h (PX r0 oI (fun v => v.2) sh) (PXx r0 sh) := by
  refine CtX.of (L := [some (.ref (gB g + 0)), some (.int p1), some (.int p2), some (.int p3)]) (by decide) (by intro w hw; simp only [List.mem_cons, List.not_mem_nil, or_false] at hw; rcases hw with rfl | rfl | rfl | rfl <;> rfl) (Nat.le_of_ble_eq_true rfl) rfl (fun X mx hno => ?_)
  obtain ⟨cx, hR, hml, hrt, -⟩ := mx
  have cx : Cx g X RX6 cX6_paint := cx
  have hrt : X.2.2.2.2.2.2.2.1.sig.returnType = (some .int) := hrt
  unfold C_paint at hf
  refine PW.aload_n cx qX6_paint_0 rfl ?_
  refine PW.iload_n cx qX6_paint_1 rfl ?_
  refine PW.callTV (As := [.int p1]) (st := []) cx hR hno qX6_paint_2 ktX6_116 mvX6_needClip (sh_0 hx) rfl rfl rfl rfl (Nat.le_of_ble_eq_true rfl) (Nat.le_of_ble_eq_true rfl) (Nat.le_of_ble_eq_true rfl) (Nat.le_of_ble_eq_true rfl) (Nat.le_of_ble_eq_true rfl) (Nat.le_refl _) (Nat.le_refl _) hf (fun t e => ctX6_needClip hx h p1 t e) (fun h1 hf => ?_)
  refine PW.iload_n cx qX6_paint_5 rfl ?_
  refine PW.if_lt cx qX6_paint_6 hf (fun hf => ?_) (fun hf => ?_)
  · exact PW.thrS cx hR hno teX6_164_166 qX6_paint_22 qX6_paint_25 qX6_paint_26 qX6_paint_28 qX6_paint_31 (Nat.le_of_ble_eq_true rfl) (Nat.le_of_ble_eq_true rfl) (Nat.le_of_ble_eq_true rfl) (Nat.le_of_ble_eq_true rfl) (Nat.le_refl _) (Nat.le_refl _) (le_xx hf)
  · refine PW.iload_n cx qX6_paint_9 rfl ?_
    refine PW.aload_n cx qX6_paint_10 rfl ?_
    refine PW.getf (t := (2, 1)) (v := .ref (gB g + 1)) cx qX6_paint_11 (sh_0 hx) rfl flX6_12 rfl ?_
    refine PW.getf (t := (2, 1 + 1)) (v := .ref (gB g + (1 + 1))) cx qX6_paint_14 (as_1 hx).1 rfl flX6_161 rfl ?_
    refine PW.iload_n cx qX6_paint_17 rfl ?_
    refine PW.iald cx qX6_paint_18 (AS.r1 (as_1 hx)) hf sne (fun t3 hf => ?_)
    refine PW.icmp_lt cx qX6_paint_19 hf (fun hf => ?_) (fun hf => ?_)
    · refine PW.aload_n cx qX6_paint_32 rfl ?_
      refine PW.iload_n cx qX6_paint_33 rfl ?_
      refine PW.iconst (v := 1) cx qX6_paint_34 rfl ?_
      refine PW.bipush (v := 9) cx qX6_paint_35 rfl ?_
      refine PW.callTV (As := [.int p3, .int 1, .int 9]) (st := []) cx hR hno qX6_paint_37 ktX6_100 mvX6_needRange (sh_0 hx) rfl rfl rfl rfl (Nat.le_of_ble_eq_true rfl) (Nat.le_of_ble_eq_true rfl) (Nat.le_of_ble_eq_true rfl) (Nat.le_of_ble_eq_true rfl) (Nat.le_of_ble_eq_true rfl) (Nat.le_refl _) (Nat.le_refl _) hf (fun t e => ctX6_needRange hx h1 p3 1 9 t e) (fun h4 hf => ?_)
      refine PW.aload_n cx qX6_paint_40 rfl ?_
      refine PW.aload_n cx qX6_paint_41 rfl ?_
      refine PW.getf (t := (2, 1)) (v := .ref (gB g + 1)) cx qX6_paint_42 (sh_0 hx) rfl flX6_12 rfl ?_
      refine PW.getf (t := (2, 1 + 4)) (v := .ref (gB g + (1 + 4))) cx qX6_paint_45 (as_1 hx).1 rfl flX6_129 rfl ?_
      refine PW.iload_n cx qX6_paint_48 rfl ?_
      refine PW.iald cx qX6_paint_49 (AS.r4 (as_1 hx)) hf sne (fun t6 hf => ?_)
      obtain ⟨j58, ej58, hf⟩ := lt_split hf
      have hj58 : ∀ (z0_58 : Bool), j58 z0_58 = some r0 → PW g X false (QX g X (PX r0 oI (fun v => v.2) sh) (PXx r0 sh) 4 24) 2 12 sh h4 58 [some (.ref (gB g + 0)), some (.int p1), some (.int p2), some (.int p3)] [.int (b2i z0_58), .ref (gB g + 0)] := by
        intro z0_58 hf
        rw [ej58] at hf
        refine PW.callTV (As := [.int (b2i z0_58)]) (st := []) cx hR hno qX6_paint_58 ktX6_92 mvX6_refuseIf (sh_0 hx) rfl rfl rfl rfl (Nat.le_of_ble_eq_true rfl) (Nat.le_of_ble_eq_true rfl) (Nat.le_of_ble_eq_true rfl) (Nat.le_of_ble_eq_true rfl) (Nat.le_of_ble_eq_true rfl) (Nat.le_refl _) (Nat.le_refl _) hf (fun t e => ctX6_refuseIf hx h4 z0_58 t e) (fun h7 hf => ?_)
        refine PW.aload_n cx qX6_paint_61 rfl ?_
        refine PW.callVWV (As := []) (st := []) cx hR qX6_paint_62 klX6_76 mvX6_remember (sh_0 hx) rfl rfl rfl rfl (Nat.le_of_ble_eq_true rfl) (Nat.le_of_ble_eq_true rfl) (Nat.le_of_ble_eq_true rfl) (Nat.le_of_ble_eq_true rfl) (Nat.le_of_ble_eq_true rfl) hf sne (fun t e => ctX6_remember hx h7 t e) (fun h10 hf => ?_)
        refine PW.aload_n cx qX6_paint_65 rfl ?_
        refine PW.getf (t := (2, 1)) (v := .ref (gB g + 1)) cx qX6_paint_66 (sh_0 hx) rfl flX6_12 rfl ?_
        refine PW.iload_n cx qX6_paint_69 rfl ?_
        refine PW.iload_n cx qX6_paint_70 rfl ?_
        refine PW.iload_n cx qX6_paint_71 rfl ?_
        refine PW.callVWIc (As := [.int p1, .int p2, .int p3]) (st := []) cx hR qX6_paint_72 klX6_169 mvX1_paintClip (as_1 hx).1 rfl rfl rfl rfl (Nat.le_of_ble_eq_true rfl) (Nat.le_of_ble_eq_true rfl) (Nat.le_of_ble_eq_true rfl) (Nat.le_of_ble_eq_true rfl) (Nat.le_of_ble_eq_true rfl) hf sne (fun t e => ctX1_paintClip (as_1 hx) h10 p1 p2 p3 t e) (fun t11 h12 hf => ?_)
        exact PW.toX (Nat.le_of_ble_eq_true rfl) (Nat.le_of_ble_eq_true rfl) (PW.iret cx hrt qX6_paint_75 (le_xi hf))
      refine PW.if_eq cx qX6_paint_50 hf (fun hf => ?_) (fun hf => ?_)
      · refine PW.iconst (v := 0) cx qX6_paint_57 rfl ?_
        exact PW.locs (Lsub.keep (Lsub.keep (Lsub.keep (Lsub.keep Lsub.nil)))) (hj58 false hf)
      · refine PW.iconst (v := 1) cx qX6_paint_53 rfl ?_
        refine PW.goto cx qX6_paint_54 ?_
        exact PW.locs (Lsub.keep (Lsub.keep (Lsub.keep (Lsub.keep Lsub.nil)))) (hj58 true hf)
    · exact PW.thrS cx hR hno teX6_164_166 qX6_paint_22 qX6_paint_25 qX6_paint_26 qX6_paint_28 qX6_paint_31 (Nat.le_of_ble_eq_true rfl) (Nat.le_of_ble_eq_true rfl) (Nat.le_of_ble_eq_true rfl) (Nat.le_of_ble_eq_true rfl) (Nat.le_refl _) (Nat.le_refl _) (le_xx hf)
set_option maxRecDepth 20000 in
theorem ctX6_passWeeks {g : GT} {sh : List Shp} (hx : XSh sh) (h : Hp) (p1 : Int32) (r0 : (Nat × Hp) ⊕ (Int32 × Hp)) (hf : C_passWeeks h p1 = some r0) : CtX g mX6_passWeeks 10 2 12 [.ref (gB g + 0), .int p1] sh h (PX r0 oI (fun v => v.2) sh) (PXx r0 sh) := by
  refine CtX.of (L := [some (.ref (gB g + 0)), some (.int p1)]) (by decide) (by intro w hw; simp only [List.mem_cons, List.not_mem_nil, or_false] at hw; rcases hw with rfl | rfl <;> rfl) (Nat.le_of_ble_eq_true rfl) rfl (fun X mx hno => ?_)
  obtain ⟨cx, hR, hml, hrt, -⟩ := mx
  have cx : Cx g X RX6 cX6_passWeeks := cx
  have hrt : X.2.2.2.2.2.2.2.1.sig.returnType = (some .int) := hrt
  unfold C_passWeeks at hf
  refine PW.aload_n cx qX6_passWeeks_0 rfl ?_
  refine PW.iload_n cx qX6_passWeeks_1 rfl ?_
  refine PW.iconst (v := 1) cx qX6_passWeeks_2 rfl ?_
  refine PW.bipush (v := 50) cx qX6_passWeeks_3 rfl ?_
  refine PW.callTV (As := [.int p1, .int 1, .int 50]) (st := []) cx hR hno qX6_passWeeks_5 ktX6_100 mvX6_needRange (sh_0 hx) rfl rfl rfl rfl (Nat.le_of_ble_eq_true rfl) (Nat.le_of_ble_eq_true rfl) (Nat.le_of_ble_eq_true rfl) (Nat.le_of_ble_eq_true rfl) (Nat.le_of_ble_eq_true rfl) (Nat.le_refl _) (Nat.le_refl _) hf (fun t e => ctX6_needRange hx h p1 1 50 t e) (fun h1 hf => ?_)
  refine PW.aload_n cx qX6_passWeeks_8 rfl ?_
  refine PW.aload_n cx qX6_passWeeks_9 rfl ?_
  refine PW.getf (t := (2, 1)) (v := .ref (gB g + 1)) cx qX6_passWeeks_10 (sh_0 hx) rfl flX6_12 rfl ?_
  refine PW.iload_n cx qX6_passWeeks_13 rfl ?_
  refine PW.callVRB (As := [.int p1]) (st := [.ref (gB g + 0)]) cx hR qX6_passWeeks_14 klX6_173 mvX1_mayPass (as_1 hx).1 rfl rfl rfl rfl (Nat.le_of_ble_eq_true rfl) (Nat.le_of_ble_eq_true rfl) (Nat.le_of_ble_eq_true rfl) (Nat.le_of_ble_eq_true rfl) (Nat.le_of_ble_eq_true rfl) hf sne (fun t e => ctX1_mayPass (as_1 hx) h1 p1 t e) (fun t3 hf => ?_)
  obtain ⟨j25, ej25, hf⟩ := lt_split hf
  have hj25 : ∀ (z0_25 : Bool), j25 z0_25 = some r0 → PW g X false (QX g X (PX r0 oI (fun v => v.2) sh) (PXx r0 sh) 2 12) 1 6 sh h1 25 [some (.ref (gB g + 0)), some (.int p1)] [.int (b2i z0_25), .ref (gB g + 0)] := by
    intro z0_25 hf
    rw [ej25] at hf
    refine PW.callTV (As := [.int (b2i z0_25)]) (st := []) cx hR hno qX6_passWeeks_25 ktX6_92 mvX6_refuseIf (sh_0 hx) rfl rfl rfl rfl (Nat.le_of_ble_eq_true rfl) (Nat.le_of_ble_eq_true rfl) (Nat.le_of_ble_eq_true rfl) (Nat.le_of_ble_eq_true rfl) (Nat.le_of_ble_eq_true rfl) (Nat.le_refl _) (Nat.le_refl _) hf (fun t e => ctX6_refuseIf hx h1 z0_25 t e) (fun h4 hf => ?_)
    refine PW.aload_n cx qX6_passWeeks_28 rfl ?_
    refine PW.callVWV (As := []) (st := []) cx hR qX6_passWeeks_29 klX6_76 mvX6_remember (sh_0 hx) rfl rfl rfl rfl (Nat.le_of_ble_eq_true rfl) (Nat.le_of_ble_eq_true rfl) (Nat.le_of_ble_eq_true rfl) (Nat.le_of_ble_eq_true rfl) (Nat.le_of_ble_eq_true rfl) hf sne (fun t e => ctX6_remember hx h4 t e) (fun h7 hf => ?_)
    refine PW.aload_n cx qX6_passWeeks_32 rfl ?_
    refine PW.getf (t := (2, 1)) (v := .ref (gB g + 1)) cx qX6_passWeeks_33 (sh_0 hx) rfl flX6_12 rfl ?_
    refine PW.iload_n cx qX6_passWeeks_36 rfl ?_
    refine PW.callVWIc (As := [.int p1]) (st := []) cx hR qX6_passWeeks_37 klX6_176 mvX1_pass (as_1 hx).1 rfl rfl rfl rfl (Nat.le_of_ble_eq_true rfl) (Nat.le_of_ble_eq_true rfl) (Nat.le_of_ble_eq_true rfl) (Nat.le_of_ble_eq_true rfl) (Nat.le_of_ble_eq_true rfl) hf sne (fun t e => ctX1_pass (as_1 hx) h7 p1 t e) (fun t8 h9 hf => ?_)
    exact PW.toX (Nat.le_of_ble_eq_true rfl) (Nat.le_of_ble_eq_true rfl) (PW.iret cx hrt qX6_passWeeks_40 (le_xi hf))
  refine PW.if_ne cx qX6_passWeeks_17 hf (fun hf => ?_) (fun hf => ?_)
  · refine PW.iconst (v := 1) cx qX6_passWeeks_20 rfl ?_
    refine PW.goto cx qX6_passWeeks_21 ?_
    exact PW.locs (Lsub.keep (Lsub.keep Lsub.nil)) (hj25 true hf)
  · refine PW.iconst (v := 0) cx qX6_passWeeks_24 rfl ?_
    exact PW.locs (Lsub.keep (Lsub.keep Lsub.nil)) (hj25 false hf)
set_option maxRecDepth 20000 in
theorem ctX6_undo {g : GT} {ex : Bool} {sh : List Shp} (hx : XSh sh) (h : Hp) (r0 : Int32 × Hp) (hf : C_undo h = some r0) : Ct g mX6_undo 2 0 0 ex [.ref (gB g + 0)] sh h (PE (some (.int r0.1)) sh r0.2) := by
  refine Ct.of (L := [some (.ref (gB g + 0)), none]) (by decide) (by intro w hw; simp only [List.mem_cons, List.not_mem_nil, or_false] at hw; rcases hw with rfl <;> rfl) (Nat.le_of_ble_eq_true rfl) rfl (fun X mx => ?_)
  obtain ⟨cx, hR, hml, hrt, -⟩ := mx
  have cx : Cx g X RX6 cX6_undo := cx
  have hrt : X.2.2.2.2.2.2.2.1.sig.returnType = (some .int) := hrt
  have hi1 : 1 < X.2.2.2.2.2.2.2.2.maxLocals := by rw [hml]; exact Nat.le_of_ble_eq_true rfl
  unfold C_undo at hf
  refine PW.aload_n cx qX6_undo_0 rfl ?_
  refine PW.getf (t := (0, 0)) (v := .int (rd h 0 5)) cx qX6_undo_1 (sh_0 hx) rfl flX6_179 rfl ?_
  refine PW.if_ne cx qX6_undo_4 hf (fun hf => ?_) (fun hf => ?_)
  · refine PW.iconst (v := (-1)) cx qX6_undo_7 rfl ?_
    exact PW.iret cx hrt qX6_undo_8 (le_wi hf)
  · refine PW.aload_n cx qX6_undo_9 rfl ?_
    refine PW.aload_n cx qX6_undo_10 rfl ?_
    refine PW.getf (t := (0, 0)) (v := .int (rd h 0 6)) cx qX6_undo_11 (sh_0 hx) rfl flX6_182 rfl ?_
    refine PW.bipush (v := 8) cx qX6_undo_14 rfl ?_
    refine PW.iadd cx qX6_undo_16 ?_
    refine PW.iconst (v := 1) cx qX6_undo_17 rfl ?_
    refine PW.isub cx qX6_undo_18 ?_
    refine PW.bipush (v := 8) cx qX6_undo_19 rfl ?_
    refine PW.iremK cx qX6_undo_21 (by decide) ?_
    refine PW.putiN cx qX6_undo_22 (sh_0 hx) rfl fpX6_182 hf (fun h1 hf => ?_)
    refine PW.aload_n cx qX6_undo_25 rfl ?_
    refine PW.dup cx qX6_undo_26 rfl ?_
    refine PW.getf (t := (0, 0)) (v := .int (rd h1 0 5)) cx qX6_undo_27 (sh_0 hx) rfl flX6_179 rfl ?_
    refine PW.iconst (v := 1) cx qX6_undo_30 rfl ?_
    refine PW.isub cx qX6_undo_31 ?_
    refine PW.putiN cx qX6_undo_32 (sh_0 hx) rfl fpX6_179 hf (fun h2 hf => ?_)
    refine PW.aload_n cx qX6_undo_35 rfl ?_
    refine PW.getf (t := (2, 34)) (v := .ref (gB g + 34)) cx qX6_undo_36 (sh_0 hx) rfl flX6_22 rfl ?_
    refine PW.aload_n cx qX6_undo_39 rfl ?_
    refine PW.getf (t := (0, 0)) (v := .int (rd h2 0 6)) cx qX6_undo_40 (sh_0 hx) rfl flX6_182 rfl ?_
    refine PW.aaldP cx qX6_undo_43 hx hf sne (fun p3 hA_p3 hf => ?_)
    refine PW.astore_n (L' := [some (.ref (gB g + 0)), some (.ref (gB g + p3))]) cx qX6_undo_44 hi1 rfl rfl ?_
    refine PW.aload_n cx qX6_undo_45 rfl ?_
    refine PW.ifnullR cx qX6_undo_46 ?_
    refine PW.aload_n cx qX6_undo_49 rfl ?_
    refine PW.getf (t := (2, 1)) (v := .ref (gB g + 1)) cx qX6_undo_50 (sh_0 hx) rfl flX6_12 rfl ?_
    refine PW.aload_n cx qX6_undo_53 rfl ?_
    refine PW.callVWV (As := [.ref (gB g + p3)]) (st := []) cx hR qX6_undo_54 klX6_55 mvX1_copyFrom (as_1 hx).1 rfl rfl rfl rfl (Nat.le_of_ble_eq_true rfl) (Nat.le_of_ble_eq_true rfl) (Nat.le_of_ble_eq_true rfl) (Nat.zero_le _) (Nat.zero_le _) hf sne (fun t e => ctX1_copyFrom (as_1 hx) hA_p3 h2 t e) (fun h5 hf => ?_)
    refine PW.aload_n cx qX6_undo_57 rfl ?_
    refine PW.getf (t := (0, 0)) (v := .int (rd h5 0 5)) cx qX6_undo_58 (sh_0 hx) rfl flX6_179 rfl ?_
    exact PW.iret cx hrt qX6_undo_61 (le_wi hf)
set_option maxRecDepth 20000 in
theorem ctX6_undoCount {g : GT} {ex : Bool} {sh : List Shp} (hx : XSh sh) (h : Hp) (r0 : Int32) (hf : C_undoCount h = some r0) : Ct g mX6_undoCount 0 0 0 ex [.ref (gB g + 0)] sh h (PE (some (.int r0)) sh h) := by
  refine Ct.of (L := [some (.ref (gB g + 0))]) (by decide) (by intro w hw; simp only [List.mem_cons, List.not_mem_nil, or_false] at hw; rcases hw with rfl <;> rfl) (Nat.le_of_ble_eq_true rfl) rfl (fun X mx => ?_)
  obtain ⟨cx, hR, hml, hrt, -⟩ := mx
  have cx : Cx g X RX6 cX6_undoCount := cx
  have hrt : X.2.2.2.2.2.2.2.1.sig.returnType = (some .int) := hrt
  unfold C_undoCount at hf
  refine PW.aload_n cx qX6_undoCount_0 rfl ?_
  refine PW.getf (t := (0, 0)) (v := .int (rd h 0 5)) cx qX6_undoCount_1 (sh_0 hx) rfl flX6_179 rfl ?_
  exact PW.iret cx hrt qX6_undoCount_4 (le_ri hf)
set_option maxRecDepth 20000 in
theorem ctX6_saveSnapshot {g : GT} {ex : Bool} {sh : List Shp} (hx : XSh sh) (h : Hp) (r0 : Int32 × Hp) (hf : C_saveSnapshot h = some r0) : Ct g mX6_saveSnapshot 2 0 0 ex [.ref (gB g + 0)] sh h (PE (some (.int r0.1)) sh r0.2) := by
  refine Ct.of (L := [some (.ref (gB g + 0))]) (by decide) (by intro w hw; simp only [List.mem_cons, List.not_mem_nil, or_false] at hw; rcases hw with rfl <;> rfl) (Nat.le_of_ble_eq_true rfl) rfl (fun X mx => ?_)
  obtain ⟨cx, hR, hml, hrt, -⟩ := mx
  have cx : Cx g X RX6 cX6_saveSnapshot := cx
  have hrt : X.2.2.2.2.2.2.2.1.sig.returnType = (some .int) := hrt
  unfold C_saveSnapshot at hf
  refine PW.aload_n cx qX6_saveSnapshot_0 rfl ?_
  refine PW.getf (t := (2, 23)) (v := .ref (gB g + 23)) cx qX6_saveSnapshot_1 (sh_0 hx) rfl flX6_19 rfl ?_
  refine PW.aload_n cx qX6_saveSnapshot_4 rfl ?_
  refine PW.getf (t := (2, 1)) (v := .ref (gB g + 1)) cx qX6_saveSnapshot_5 (sh_0 hx) rfl flX6_12 rfl ?_
  refine PW.callVWV (As := [.ref (gB g + 1)]) (st := []) cx hR qX6_saveSnapshot_8 klX6_55 mvX1_copyFrom (as_23 hx).1 rfl rfl rfl rfl (Nat.le_of_ble_eq_true rfl) (Nat.le_of_ble_eq_true rfl) (Nat.le_of_ble_eq_true rfl) (Nat.zero_le _) (Nat.zero_le _) hf sne (fun t e => ctX1_copyFrom (as_23 hx) (as_1 hx) h t e) (fun h2 hf => ?_)
  refine PW.aload_n cx qX6_saveSnapshot_11 rfl ?_
  refine PW.iconst (v := 1) cx qX6_saveSnapshot_12 rfl ?_
  refine PW.putzN cx qX6_saveSnapshot_13 (sh_0 hx) rfl fpX6_185 (by decide) (by decide) hf (fun h3 hf => ?_)
  refine PW.aload_n cx qX6_saveSnapshot_16 rfl ?_
  refine PW.getf (t := (2, 1)) (v := .ref (gB g + 1)) cx qX6_saveSnapshot_17 (sh_0 hx) rfl flX6_12 rfl ?_
  refine PW.getf (t := (0, 0)) (v := .int (rd h3 1 0)) cx qX6_saveSnapshot_20 (as_1 hx).1 rfl flX6_189 rfl ?_
  exact PW.iret cx hrt qX6_saveSnapshot_23 (le_wi hf)
set_option maxRecDepth 20000 in
theorem ctX6_restoreSnapshot {g : GT} {sh : List Shp} (hx : XSh sh) (h : Hp) (r0 : (Nat × Hp) ⊕ (Int32 × Hp)) (hf : C_restoreSnapshot h = some r0) : CtX g mX6_restoreSnapshot 9 1 6 [.ref (gB g + 0)] sh h (PX r0 oI (fun v => v.2) sh) (PXx r0 sh) := by
  refine CtX.of (L := [some (.ref (gB g + 0))]) (by decide) (by intro w hw; simp only [List.mem_cons, List.not_mem_nil, or_false] at hw; rcases hw with rfl <;> rfl) (Nat.le_of_ble_eq_true rfl) rfl (fun X mx hno => ?_)
  obtain ⟨cx, hR, hml, hrt, -⟩ := mx
  have cx : Cx g X RX6 cX6_restoreSnapshot := cx
  have hrt : X.2.2.2.2.2.2.2.1.sig.returnType = (some .int) := hrt
  unfold C_restoreSnapshot at hf
  refine PW.aload_n cx qX6_restoreSnapshot_0 rfl ?_
  refine PW.getf (t := (1, 0)) (v := .int (rd h 0 3)) cx qX6_restoreSnapshot_1 (sh_0 hx) rfl flX6_185 rfl ?_
  refine PW.if_ne cx qX6_restoreSnapshot_4 hf (fun hf => ?_) (fun hf => ?_)
  · exact PW.thrN cx hR hno teX6_192_194 qX6_restoreSnapshot_7 qX6_restoreSnapshot_10 qX6_restoreSnapshot_11 qX6_restoreSnapshot_13 qX6_restoreSnapshot_16 (Nat.le_of_ble_eq_true rfl) (Nat.le_of_ble_eq_true rfl) (Nat.le_of_ble_eq_true rfl) (Nat.le_of_ble_eq_true rfl) (Nat.le_refl _) (Nat.le_refl _) (le_xx hf)
  · refine PW.aload_n cx qX6_restoreSnapshot_17 rfl ?_
    refine PW.getf (t := (2, 1)) (v := .ref (gB g + 1)) cx qX6_restoreSnapshot_18 (sh_0 hx) rfl flX6_12 rfl ?_
    refine PW.aload_n cx qX6_restoreSnapshot_21 rfl ?_
    refine PW.getf (t := (2, 23)) (v := .ref (gB g + 23)) cx qX6_restoreSnapshot_22 (sh_0 hx) rfl flX6_19 rfl ?_
    refine PW.callVWV (As := [.ref (gB g + 23)]) (st := []) cx hR qX6_restoreSnapshot_25 klX6_55 mvX1_copyFrom (as_1 hx).1 rfl rfl rfl rfl (Nat.le_of_ble_eq_true rfl) (Nat.le_of_ble_eq_true rfl) (Nat.le_of_ble_eq_true rfl) (Nat.le_of_ble_eq_true rfl) (Nat.le_of_ble_eq_true rfl) hf sne (fun t e => ctX1_copyFrom (as_1 hx) (as_23 hx) h t e) (fun h2 hf => ?_)
    refine PW.aload_n cx qX6_restoreSnapshot_28 rfl ?_
    refine PW.iconst (v := 0) cx qX6_restoreSnapshot_29 rfl ?_
    refine PW.putiN cx qX6_restoreSnapshot_30 (sh_0 hx) rfl fpX6_179 hf (fun h3 hf => ?_)
    refine PW.aload_n cx qX6_restoreSnapshot_33 rfl ?_
    refine PW.getf (t := (2, 1)) (v := .ref (gB g + 1)) cx qX6_restoreSnapshot_34 (sh_0 hx) rfl flX6_12 rfl ?_
    refine PW.getf (t := (0, 0)) (v := .int (rd h3 1 0)) cx qX6_restoreSnapshot_37 (as_1 hx).1 rfl flX6_189 rfl ?_
    exact PW.toX (Nat.le_of_ble_eq_true rfl) (Nat.le_of_ble_eq_true rfl) (PW.iret cx hrt qX6_restoreSnapshot_40 (le_xi hf))
set_option maxRecDepth 20000 in
theorem ctX6_scriptErrorKind {g : GT} {ex : Bool} {sh : List Shp} (hx : XSh sh) (h : Hp) (r0 : Int32) (hf : C_scriptErrorKind h = some r0) : Ct g mX6_scriptErrorKind 0 0 0 ex [.ref (gB g + 0)] sh h (PE (some (.int r0)) sh h) := by
  refine Ct.of (L := [some (.ref (gB g + 0))]) (by decide) (by intro w hw; simp only [List.mem_cons, List.not_mem_nil, or_false] at hw; rcases hw with rfl <;> rfl) (Nat.le_of_ble_eq_true rfl) rfl (fun X mx => ?_)
  obtain ⟨cx, hR, hml, hrt, -⟩ := mx
  have cx : Cx g X RX6 cX6_scriptErrorKind := cx
  have hrt : X.2.2.2.2.2.2.2.1.sig.returnType = (some .int) := hrt
  unfold C_scriptErrorKind at hf
  refine PW.aload_n cx qX6_scriptErrorKind_0 rfl ?_
  refine PW.getf (t := (2, 35)) (v := .ref (gB g + 35)) cx qX6_scriptErrorKind_1 (sh_0 hx) rfl flX6_29 rfl ?_
  refine PW.getf (t := (0, 0)) (v := .int (rd h 35 2)) cx qX6_scriptErrorKind_4 (sh_35 hx) rfl flX6_73 rfl ?_
  exact PW.iret cx hrt qX6_scriptErrorKind_7 (le_ri hf)
set_option maxRecDepth 20000 in
theorem ctX6_scriptErrorOffset {g : GT} {ex : Bool} {sh : List Shp} (hx : XSh sh) (h : Hp) (r0 : Int32) (hf : C_scriptErrorOffset h = some r0) : Ct g mX6_scriptErrorOffset 0 0 0 ex [.ref (gB g + 0)] sh h (PE (some (.int r0)) sh h) := by
  refine Ct.of (L := [some (.ref (gB g + 0))]) (by decide) (by intro w hw; simp only [List.mem_cons, List.not_mem_nil, or_false] at hw; rcases hw with rfl <;> rfl) (Nat.le_of_ble_eq_true rfl) rfl (fun X mx => ?_)
  obtain ⟨cx, hR, hml, hrt, -⟩ := mx
  have cx : Cx g X RX6 cX6_scriptErrorOffset := cx
  have hrt : X.2.2.2.2.2.2.2.1.sig.returnType = (some .int) := hrt
  unfold C_scriptErrorOffset at hf
  refine PW.aload_n cx qX6_scriptErrorOffset_0 rfl ?_
  refine PW.getf (t := (2, 35)) (v := .ref (gB g + 35)) cx qX6_scriptErrorOffset_1 (sh_0 hx) rfl flX6_29 rfl ?_
  refine PW.getf (t := (0, 0)) (v := .int (rd h 35 3)) cx qX6_scriptErrorOffset_4 (sh_35 hx) rfl flX6_197 rfl ?_
  exact PW.iret cx hrt qX6_scriptErrorOffset_7 (le_ri hf)
set_option maxRecDepth 20000 in
theorem ctX6_week {g : GT} {ex : Bool} {sh : List Shp} (hx : XSh sh) (h : Hp) (r0 : Int32) (hf : C_week h = some r0) : Ct g mX6_week 0 0 0 ex [.ref (gB g + 0)] sh h (PE (some (.int r0)) sh h) := by
  refine Ct.of (L := [some (.ref (gB g + 0))]) (by decide) (by intro w hw; simp only [List.mem_cons, List.not_mem_nil, or_false] at hw; rcases hw with rfl <;> rfl) (Nat.le_of_ble_eq_true rfl) rfl (fun X mx => ?_)
  obtain ⟨cx, hR, hml, hrt, -⟩ := mx
  have cx : Cx g X RX6 cX6_week := cx
  have hrt : X.2.2.2.2.2.2.2.1.sig.returnType = (some .int) := hrt
  unfold C_week at hf
  refine PW.aload_n cx qX6_week_0 rfl ?_
  refine PW.getf (t := (2, 1)) (v := .ref (gB g + 1)) cx qX6_week_1 (sh_0 hx) rfl flX6_12 rfl ?_
  refine PW.getf (t := (0, 0)) (v := .int (rd h 1 0)) cx qX6_week_4 (as_1 hx).1 rfl flX6_189 rfl ?_
  exact PW.iret cx hrt qX6_week_7 (le_ri hf)
set_option maxRecDepth 20000 in
theorem ctX6_food {g : GT} {ex : Bool} {sh : List Shp} (hx : XSh sh) (h : Hp) (r0 : Int32) (hf : C_food h = some r0) : Ct g mX6_food 0 0 0 ex [.ref (gB g + 0)] sh h (PE (some (.int r0)) sh h) := by
  refine Ct.of (L := [some (.ref (gB g + 0))]) (by decide) (by intro w hw; simp only [List.mem_cons, List.not_mem_nil, or_false] at hw; rcases hw with rfl <;> rfl) (Nat.le_of_ble_eq_true rfl) rfl (fun X mx => ?_)
  obtain ⟨cx, hR, hml, hrt, -⟩ := mx
  have cx : Cx g X RX6 cX6_food := cx
  have hrt : X.2.2.2.2.2.2.2.1.sig.returnType = (some .int) := hrt
  unfold C_food at hf
  refine PW.aload_n cx qX6_food_0 rfl ?_
  refine PW.getf (t := (2, 1)) (v := .ref (gB g + 1)) cx qX6_food_1 (sh_0 hx) rfl flX6_12 rfl ?_
  refine PW.getf (t := (0, 0)) (v := .int (rd h 1 1)) cx qX6_food_4 (as_1 hx).1 rfl flX6_200 rfl ?_
  exact PW.iret cx hrt qX6_food_7 (le_ri hf)
set_option maxRecDepth 20000 in
theorem ctX6_clipCount {g : GT} {ex : Bool} {sh : List Shp} (hx : XSh sh) (h : Hp) (r0 : Int32) (hf : C_clipCount h = some r0) : Ct g mX6_clipCount 0 0 0 ex [.ref (gB g + 0)] sh h (PE (some (.int r0)) sh h) := by
  refine Ct.of (L := [some (.ref (gB g + 0))]) (by decide) (by intro w hw; simp only [List.mem_cons, List.not_mem_nil, or_false] at hw; rcases hw with rfl <;> rfl) (Nat.le_of_ble_eq_true rfl) rfl (fun X mx => ?_)
  obtain ⟨cx, hR, hml, hrt, -⟩ := mx
  have cx : Cx g X RX6 cX6_clipCount := cx
  have hrt : X.2.2.2.2.2.2.2.1.sig.returnType = (some .int) := hrt
  unfold C_clipCount at hf
  refine PW.aload_n cx qX6_clipCount_0 rfl ?_
  refine PW.getf (t := (2, 1)) (v := .ref (gB g + 1)) cx qX6_clipCount_1 (sh_0 hx) rfl flX6_12 rfl ?_
  refine PW.getf (t := (0, 0)) (v := .int (rd h 1 5)) cx qX6_clipCount_4 (as_1 hx).1 rfl flX6_79 rfl ?_
  exact PW.iret cx hrt qX6_clipCount_7 (le_ri hf)
set_option maxRecDepth 20000 in
theorem ctX6_reelCount {g : GT} {ex : Bool} {sh : List Shp} (hx : XSh sh) (h : Hp) (r0 : Int32) (hf : C_reelCount h = some r0) : Ct g mX6_reelCount 0 0 0 ex [.ref (gB g + 0)] sh h (PE (some (.int r0)) sh h) := by
  refine Ct.of (L := [some (.ref (gB g + 0))]) (by decide) (by intro w hw; simp only [List.mem_cons, List.not_mem_nil, or_false] at hw; rcases hw with rfl <;> rfl) (Nat.le_of_ble_eq_true rfl) rfl (fun X mx => ?_)
  obtain ⟨cx, hR, hml, hrt, -⟩ := mx
  have cx : Cx g X RX6 cX6_reelCount := cx
  have hrt : X.2.2.2.2.2.2.2.1.sig.returnType = (some .int) := hrt
  unfold C_reelCount at hf
  refine PW.aload_n cx qX6_reelCount_0 rfl ?_
  refine PW.getf (t := (2, 1)) (v := .ref (gB g + 1)) cx qX6_reelCount_1 (sh_0 hx) rfl flX6_12 rfl ?_
  refine PW.getf (t := (0, 0)) (v := .int (rd h 1 12)) cx qX6_reelCount_4 (as_1 hx).1 rfl flX6_203 rfl ?_
  exact PW.iret cx hrt qX6_reelCount_7 (le_ri hf)
set_option maxRecDepth 20000 in
theorem ctX6_sceneCount {g : GT} {ex : Bool} {sh : List Shp} (hx : XSh sh) (h : Hp) (r0 : Int32) (hf : C_sceneCount h = some r0) : Ct g mX6_sceneCount 0 0 0 ex [.ref (gB g + 0)] sh h (PE (some (.int r0)) sh h) := by
  refine Ct.of (L := [some (.ref (gB g + 0))]) (by decide) (by intro w hw; simp only [List.mem_cons, List.not_mem_nil, or_false] at hw; rcases hw with rfl <;> rfl) (Nat.le_of_ble_eq_true rfl) rfl (fun X mx => ?_)
  obtain ⟨cx, hR, hml, hrt, -⟩ := mx
  have cx : Cx g X RX6 cX6_sceneCount := cx
  have hrt : X.2.2.2.2.2.2.2.1.sig.returnType = (some .int) := hrt
  unfold C_sceneCount at hf
  refine PW.aload_n cx qX6_sceneCount_0 rfl ?_
  refine PW.getf (t := (2, 1)) (v := .ref (gB g + 1)) cx qX6_sceneCount_1 (sh_0 hx) rfl flX6_12 rfl ?_
  refine PW.getf (t := (0, 0)) (v := .int (rd h 1 15)) cx qX6_sceneCount_4 (as_1 hx).1 rfl flX6_206 rfl ?_
  exact PW.iret cx hrt qX6_sceneCount_7 (le_ri hf)
set_option maxRecDepth 20000 in
theorem ctX6_springs {g : GT} {sh : List Shp} (hx : XSh sh) (h : Hp) (p1 : Int32) (r0 : (Nat × Hp) ⊕ (Int32 × Hp)) (hf : C_springs h p1 = some r0) : CtX g mX6_springs 10 1 6 [.ref (gB g + 0), .int p1] sh h (PX r0 oI (fun v => v.2) sh) (PXx r0 sh) := by
  refine CtX.of (L := [some (.ref (gB g + 0)), some (.int p1)]) (by decide) (by intro w hw; simp only [List.mem_cons, List.not_mem_nil, or_false] at hw; rcases hw with rfl | rfl <;> rfl) (Nat.le_of_ble_eq_true rfl) rfl (fun X mx hno => ?_)
  obtain ⟨cx, hR, hml, hrt, -⟩ := mx
  have cx : Cx g X RX6 cX6_springs := cx
  have hrt : X.2.2.2.2.2.2.2.1.sig.returnType = (some .int) := hrt
  unfold C_springs at hf
  refine PW.aload_n cx qX6_springs_0 rfl ?_
  refine PW.iload_n cx qX6_springs_1 rfl ?_
  refine PW.callTV (As := [.int p1]) (st := []) cx hR hno qX6_springs_2 ktX6_136 mvX6_needScene (sh_0 hx) rfl rfl rfl rfl (Nat.le_of_ble_eq_true rfl) (Nat.le_of_ble_eq_true rfl) (Nat.le_of_ble_eq_true rfl) (Nat.le_of_ble_eq_true rfl) (Nat.le_of_ble_eq_true rfl) (Nat.le_refl _) (Nat.le_refl _) hf (fun t e => ctX6_needScene hx h p1 t e) (fun h1 hf => ?_)
  refine PW.aload_n cx qX6_springs_5 rfl ?_
  refine PW.getf (t := (2, 1)) (v := .ref (gB g + 1)) cx qX6_springs_6 (sh_0 hx) rfl flX6_12 rfl ?_
  refine PW.getf (t := (2, 1 + 10)) (v := .ref (gB g + (1 + 10))) cx qX6_springs_9 (as_1 hx).1 rfl flX6_209 rfl ?_
  refine PW.iload_n cx qX6_springs_12 rfl ?_
  refine PW.iald cx qX6_springs_13 (AS.r10 (as_1 hx)) hf sne (fun t3 hf => ?_)
  exact PW.toX (Nat.le_of_ble_eq_true rfl) (Nat.le_of_ble_eq_true rfl) (PW.iret cx hrt qX6_springs_14 (le_xi hf))
set_option maxRecDepth 20000 in
theorem ctX6_state {g : GT} {sh : List Shp} (hx : XSh sh) (h : Hp) (p1 : Int32) (r0 : (Nat × Hp) ⊕ (Int32 × Hp)) (hf : C_state h p1 = some r0) : CtX g mX6_state 10 1 6 [.ref (gB g + 0), .int p1] sh h (PX r0 oI (fun v => v.2) sh) (PXx r0 sh) := by
  refine CtX.of (L := [some (.ref (gB g + 0)), some (.int p1)]) (by decide) (by intro w hw; simp only [List.mem_cons, List.not_mem_nil, or_false] at hw; rcases hw with rfl | rfl <;> rfl) (Nat.le_of_ble_eq_true rfl) rfl (fun X mx hno => ?_)
  obtain ⟨cx, hR, hml, hrt, -⟩ := mx
  have cx : Cx g X RX6 cX6_state := cx
  have hrt : X.2.2.2.2.2.2.2.1.sig.returnType = (some .int) := hrt
  unfold C_state at hf
  refine PW.aload_n cx qX6_state_0 rfl ?_
  refine PW.iload_n cx qX6_state_1 rfl ?_
  refine PW.callTV (As := [.int p1]) (st := []) cx hR hno qX6_state_2 ktX6_116 mvX6_needClip (sh_0 hx) rfl rfl rfl rfl (Nat.le_of_ble_eq_true rfl) (Nat.le_of_ble_eq_true rfl) (Nat.le_of_ble_eq_true rfl) (Nat.le_of_ble_eq_true rfl) (Nat.le_of_ble_eq_true rfl) (Nat.le_refl _) (Nat.le_refl _) hf (fun t e => ctX6_needClip hx h p1 t e) (fun h1 hf => ?_)
  refine PW.aload_n cx qX6_state_5 rfl ?_
  refine PW.getf (t := (2, 1)) (v := .ref (gB g + 1)) cx qX6_state_6 (sh_0 hx) rfl flX6_12 rfl ?_
  refine PW.getf (t := (2, 1 + 4)) (v := .ref (gB g + (1 + 4))) cx qX6_state_9 (as_1 hx).1 rfl flX6_129 rfl ?_
  refine PW.iload_n cx qX6_state_12 rfl ?_
  refine PW.iald cx qX6_state_13 (AS.r4 (as_1 hx)) hf sne (fun t3 hf => ?_)
  exact PW.toX (Nat.le_of_ble_eq_true rfl) (Nat.le_of_ble_eq_true rfl) (PW.iret cx hrt qX6_state_14 (le_xi hf))
set_option maxRecDepth 20000 in
theorem ctX6_colours {g : GT} {sh : List Shp} (hx : XSh sh) (h : Hp) (p1 : Int32) (r0 : (Nat × Hp) ⊕ (Int32 × Hp)) (hf : C_colours h p1 = some r0) : CtX g mX6_colours 10 1 6 [.ref (gB g + 0), .int p1] sh h (PX r0 oI (fun v => v.2) sh) (PXx r0 sh) := by
  refine CtX.of (L := [some (.ref (gB g + 0)), some (.int p1)]) (by decide) (by intro w hw; simp only [List.mem_cons, List.not_mem_nil, or_false] at hw; rcases hw with rfl | rfl <;> rfl) (Nat.le_of_ble_eq_true rfl) rfl (fun X mx hno => ?_)
  obtain ⟨cx, hR, hml, hrt, -⟩ := mx
  have cx : Cx g X RX6 cX6_colours := cx
  have hrt : X.2.2.2.2.2.2.2.1.sig.returnType = (some .int) := hrt
  unfold C_colours at hf
  refine PW.aload_n cx qX6_colours_0 rfl ?_
  refine PW.iload_n cx qX6_colours_1 rfl ?_
  refine PW.callTV (As := [.int p1]) (st := []) cx hR hno qX6_colours_2 ktX6_116 mvX6_needClip (sh_0 hx) rfl rfl rfl rfl (Nat.le_of_ble_eq_true rfl) (Nat.le_of_ble_eq_true rfl) (Nat.le_of_ble_eq_true rfl) (Nat.le_of_ble_eq_true rfl) (Nat.le_of_ble_eq_true rfl) (Nat.le_refl _) (Nat.le_refl _) hf (fun t e => ctX6_needClip hx h p1 t e) (fun h1 hf => ?_)
  refine PW.aload_n cx qX6_colours_5 rfl ?_
  refine PW.getf (t := (2, 1)) (v := .ref (gB g + 1)) cx qX6_colours_6 (sh_0 hx) rfl flX6_12 rfl ?_
  refine PW.iload_n cx qX6_colours_9 rfl ?_
  refine PW.callVRI (As := [.int p1]) (st := []) cx hR qX6_colours_10 klX6_212 mvX1_coloursOf (as_1 hx).1 rfl rfl rfl rfl (Nat.le_of_ble_eq_true rfl) (Nat.le_of_ble_eq_true rfl) (Nat.le_of_ble_eq_true rfl) (Nat.le_of_ble_eq_true rfl) (Nat.le_of_ble_eq_true rfl) hf sne (fun t e => ctX1_coloursOf (as_1 hx) h1 p1 t e) (fun t3 hf => ?_)
  exact PW.toX (Nat.le_of_ble_eq_true rfl) (Nat.le_of_ble_eq_true rfl) (PW.iret cx hrt qX6_colours_13 (le_xi hf))
set_option maxRecDepth 20000 in
theorem ctX6_length {g : GT} {sh : List Shp} (hx : XSh sh) (h : Hp) (p1 : Int32) (r0 : (Nat × Hp) ⊕ (Int32 × Hp)) (hf : C_length h p1 = some r0) : CtX g mX6_length 10 1 6 [.ref (gB g + 0), .int p1] sh h (PX r0 oI (fun v => v.2) sh) (PXx r0 sh) := by
  refine CtX.of (L := [some (.ref (gB g + 0)), some (.int p1)]) (by decide) (by intro w hw; simp only [List.mem_cons, List.not_mem_nil, or_false] at hw; rcases hw with rfl | rfl <;> rfl) (Nat.le_of_ble_eq_true rfl) rfl (fun X mx hno => ?_)
  obtain ⟨cx, hR, hml, hrt, -⟩ := mx
  have cx : Cx g X RX6 cX6_length := cx
  have hrt : X.2.2.2.2.2.2.2.1.sig.returnType = (some .int) := hrt
  unfold C_length at hf
  refine PW.aload_n cx qX6_length_0 rfl ?_
  refine PW.iload_n cx qX6_length_1 rfl ?_
  refine PW.callTV (As := [.int p1]) (st := []) cx hR hno qX6_length_2 ktX6_116 mvX6_needClip (sh_0 hx) rfl rfl rfl rfl (Nat.le_of_ble_eq_true rfl) (Nat.le_of_ble_eq_true rfl) (Nat.le_of_ble_eq_true rfl) (Nat.le_of_ble_eq_true rfl) (Nat.le_of_ble_eq_true rfl) (Nat.le_refl _) (Nat.le_refl _) hf (fun t e => ctX6_needClip hx h p1 t e) (fun h1 hf => ?_)
  refine PW.aload_n cx qX6_length_5 rfl ?_
  refine PW.getf (t := (2, 1)) (v := .ref (gB g + 1)) cx qX6_length_6 (sh_0 hx) rfl flX6_12 rfl ?_
  refine PW.getf (t := (2, 1 + 1)) (v := .ref (gB g + (1 + 1))) cx qX6_length_9 (as_1 hx).1 rfl flX6_161 rfl ?_
  refine PW.iload_n cx qX6_length_12 rfl ?_
  refine PW.iald cx qX6_length_13 (AS.r1 (as_1 hx)) hf sne (fun t3 hf => ?_)
  exact PW.toX (Nat.le_of_ble_eq_true rfl) (Nat.le_of_ble_eq_true rfl) (PW.iret cx hrt qX6_length_14 (le_xi hf))
set_option maxRecDepth 20000 in
theorem ctX6_hash {g : GT} {sh : List Shp} (hx : XSh sh) (h : Hp) (p1 : Int32) (r0 : (Nat × Hp) ⊕ (Int32 × Hp)) (hf : C_hash h p1 = some r0) : CtX g mX6_hash 10 1 6 [.ref (gB g + 0), .int p1] sh h (PX r0 oI (fun v => v.2) sh) (PXx r0 sh) := by
  refine CtX.of (L := [some (.ref (gB g + 0)), some (.int p1)]) (by decide) (by intro w hw; simp only [List.mem_cons, List.not_mem_nil, or_false] at hw; rcases hw with rfl | rfl <;> rfl) (Nat.le_of_ble_eq_true rfl) rfl (fun X mx hno => ?_)
  obtain ⟨cx, hR, hml, hrt, -⟩ := mx
  have cx : Cx g X RX6 cX6_hash := cx
  have hrt : X.2.2.2.2.2.2.2.1.sig.returnType = (some .int) := hrt
  unfold C_hash at hf
  refine PW.aload_n cx qX6_hash_0 rfl ?_
  refine PW.iload_n cx qX6_hash_1 rfl ?_
  refine PW.callTV (As := [.int p1]) (st := []) cx hR hno qX6_hash_2 ktX6_116 mvX6_needClip (sh_0 hx) rfl rfl rfl rfl (Nat.le_of_ble_eq_true rfl) (Nat.le_of_ble_eq_true rfl) (Nat.le_of_ble_eq_true rfl) (Nat.le_of_ble_eq_true rfl) (Nat.le_of_ble_eq_true rfl) (Nat.le_refl _) (Nat.le_refl _) hf (fun t e => ctX6_needClip hx h p1 t e) (fun h1 hf => ?_)
  refine PW.aload_n cx qX6_hash_5 rfl ?_
  refine PW.getf (t := (2, 1)) (v := .ref (gB g + 1)) cx qX6_hash_6 (sh_0 hx) rfl flX6_12 rfl ?_
  refine PW.getf (t := (2, 1 + 3)) (v := .ref (gB g + (1 + 3))) cx qX6_hash_9 (as_1 hx).1 rfl flX6_215 rfl ?_
  refine PW.iload_n cx qX6_hash_12 rfl ?_
  refine PW.iald cx qX6_hash_13 (AS.r3 (as_1 hx)) hf sne (fun t3 hf => ?_)
  exact PW.toX (Nat.le_of_ble_eq_true rfl) (Nat.le_of_ble_eq_true rfl) (PW.iret cx hrt qX6_hash_14 (le_xi hf))
set_option maxRecDepth 20000 in
theorem ctX6_fat {g : GT} {sh : List Shp} (hx : XSh sh) (h : Hp) (p1 : Int32) (r0 : (Nat × Hp) ⊕ (Int32 × Hp)) (hf : C_fat h p1 = some r0) : CtX g mX6_fat 10 1 6 [.ref (gB g + 0), .int p1] sh h (PX r0 oI (fun v => v.2) sh) (PXx r0 sh) := by
  refine CtX.of (L := [some (.ref (gB g + 0)), some (.int p1)]) (by decide) (by intro w hw; simp only [List.mem_cons, List.not_mem_nil, or_false] at hw; rcases hw with rfl | rfl <;> rfl) (Nat.le_of_ble_eq_true rfl) rfl (fun X mx hno => ?_)
  obtain ⟨cx, hR, hml, hrt, -⟩ := mx
  have cx : Cx g X RX6 cX6_fat := cx
  have hrt : X.2.2.2.2.2.2.2.1.sig.returnType = (some .int) := hrt
  unfold C_fat at hf
  refine PW.aload_n cx qX6_fat_0 rfl ?_
  refine PW.iload_n cx qX6_fat_1 rfl ?_
  refine PW.callTV (As := [.int p1]) (st := []) cx hR hno qX6_fat_2 ktX6_116 mvX6_needClip (sh_0 hx) rfl rfl rfl rfl (Nat.le_of_ble_eq_true rfl) (Nat.le_of_ble_eq_true rfl) (Nat.le_of_ble_eq_true rfl) (Nat.le_of_ble_eq_true rfl) (Nat.le_of_ble_eq_true rfl) (Nat.le_refl _) (Nat.le_refl _) hf (fun t e => ctX6_needClip hx h p1 t e) (fun h1 hf => ?_)
  refine PW.aload_n cx qX6_fat_5 rfl ?_
  refine PW.getf (t := (2, 1)) (v := .ref (gB g + 1)) cx qX6_fat_6 (sh_0 hx) rfl flX6_12 rfl ?_
  refine PW.getf (t := (2, 1 + 5)) (v := .ref (gB g + (1 + 5))) cx qX6_fat_9 (as_1 hx).1 rfl flX6_218 rfl ?_
  refine PW.iload_n cx qX6_fat_12 rfl ?_
  refine PW.iald cx qX6_fat_13 (AS.r5 (as_1 hx)) hf sne (fun t3 hf => ?_)
  exact PW.toX (Nat.le_of_ble_eq_true rfl) (Nat.le_of_ble_eq_true rfl) (PW.iret cx hrt qX6_fat_14 (le_xi hf))
set_option maxRecDepth 20000 in
theorem ctX6_reelOf {g : GT} {sh : List Shp} (hx : XSh sh) (h : Hp) (p1 : Int32) (r0 : (Nat × Hp) ⊕ (Int32 × Hp)) (hf : C_reelOf h p1 = some r0) : CtX g mX6_reelOf 10 1 6 [.ref (gB g + 0), .int p1] sh h (PX r0 oI (fun v => v.2) sh) (PXx r0 sh) := by
  refine CtX.of (L := [some (.ref (gB g + 0)), some (.int p1), none]) (by decide) (by intro w hw; simp only [List.mem_cons, List.not_mem_nil, or_false] at hw; rcases hw with rfl | rfl <;> rfl) (Nat.le_of_ble_eq_true rfl) rfl (fun X mx hno => ?_)
  obtain ⟨cx, hR, hml, hrt, -⟩ := mx
  have cx : Cx g X RX6 cX6_reelOf := cx
  have hrt : X.2.2.2.2.2.2.2.1.sig.returnType = (some .int) := hrt
  have hi2 : 2 < X.2.2.2.2.2.2.2.2.maxLocals := by rw [hml]; exact Nat.le_of_ble_eq_true rfl
  unfold C_reelOf at hf
  refine PW.aload_n cx qX6_reelOf_0 rfl ?_
  refine PW.iload_n cx qX6_reelOf_1 rfl ?_
  refine PW.callTV (As := [.int p1]) (st := []) cx hR hno qX6_reelOf_2 ktX6_116 mvX6_needClip (sh_0 hx) rfl rfl rfl rfl (Nat.le_of_ble_eq_true rfl) (Nat.le_of_ble_eq_true rfl) (Nat.le_of_ble_eq_true rfl) (Nat.le_of_ble_eq_true rfl) (Nat.le_of_ble_eq_true rfl) (Nat.le_refl _) (Nat.le_refl _) hf (fun t e => ctX6_needClip hx h p1 t e) (fun h1 hf => ?_)
  refine PW.aload_n cx qX6_reelOf_5 rfl ?_
  refine PW.getf (t := (2, 1)) (v := .ref (gB g + 1)) cx qX6_reelOf_6 (sh_0 hx) rfl flX6_12 rfl ?_
  refine PW.iload_n cx qX6_reelOf_9 rfl ?_
  refine PW.callVRI (As := [.int p1]) (st := []) cx hR qX6_reelOf_10 klX6_221 mvX1_placeOf (as_1 hx).1 rfl rfl rfl rfl (Nat.le_of_ble_eq_true rfl) (Nat.le_of_ble_eq_true rfl) (Nat.le_of_ble_eq_true rfl) (Nat.le_of_ble_eq_true rfl) (Nat.le_of_ble_eq_true rfl) hf sne (fun t e => ctX1_placeOf (as_1 hx) h1 p1 t e) (fun t3 hf => ?_)
  refine PW.istore_n (L' := [some (.ref (gB g + 0)), some (.int p1), some (.int t3)]) cx qX6_reelOf_13 hi2 rfl rfl ?_
  refine PW.iload_n cx qX6_reelOf_14 rfl ?_
  refine PW.iconst (v := (-1)) cx qX6_reelOf_15 rfl ?_
  refine PW.icmp_ne cx qX6_reelOf_16 hf (fun hf => ?_) (fun hf => ?_)
  · refine PW.iconst (v := (-1)) cx qX6_reelOf_19 rfl ?_
    refine PW.goto cx qX6_reelOf_20 ?_
    exact PW.toX (Nat.le_of_ble_eq_true rfl) (Nat.le_of_ble_eq_true rfl) (PW.iret cx hrt qX6_reelOf_27 (le_xi hf))
  · refine PW.iload_n cx qX6_reelOf_23 rfl ?_
    refine PW.bipush (v := 9) cx qX6_reelOf_24 rfl ?_
    refine PW.idivK cx qX6_reelOf_26 (by decide) ?_
    exact PW.toX (Nat.le_of_ble_eq_true rfl) (Nat.le_of_ble_eq_true rfl) (PW.iret cx hrt qX6_reelOf_27 (le_xi hf))
set_option maxRecDepth 20000 in
theorem ctX6_bedOf {g : GT} {sh : List Shp} (hx : XSh sh) (h : Hp) (p1 : Int32) (r0 : (Nat × Hp) ⊕ (Int32 × Hp)) (hf : C_bedOf h p1 = some r0) : CtX g mX6_bedOf 10 1 6 [.ref (gB g + 0), .int p1] sh h (PX r0 oI (fun v => v.2) sh) (PXx r0 sh) := by
  refine CtX.of (L := [some (.ref (gB g + 0)), some (.int p1), none]) (by decide) (by intro w hw; simp only [List.mem_cons, List.not_mem_nil, or_false] at hw; rcases hw with rfl | rfl <;> rfl) (Nat.le_of_ble_eq_true rfl) rfl (fun X mx hno => ?_)
  obtain ⟨cx, hR, hml, hrt, -⟩ := mx
  have cx : Cx g X RX6 cX6_bedOf := cx
  have hrt : X.2.2.2.2.2.2.2.1.sig.returnType = (some .int) := hrt
  have hi2 : 2 < X.2.2.2.2.2.2.2.2.maxLocals := by rw [hml]; exact Nat.le_of_ble_eq_true rfl
  unfold C_bedOf at hf
  refine PW.aload_n cx qX6_bedOf_0 rfl ?_
  refine PW.iload_n cx qX6_bedOf_1 rfl ?_
  refine PW.callTV (As := [.int p1]) (st := []) cx hR hno qX6_bedOf_2 ktX6_116 mvX6_needClip (sh_0 hx) rfl rfl rfl rfl (Nat.le_of_ble_eq_true rfl) (Nat.le_of_ble_eq_true rfl) (Nat.le_of_ble_eq_true rfl) (Nat.le_of_ble_eq_true rfl) (Nat.le_of_ble_eq_true rfl) (Nat.le_refl _) (Nat.le_refl _) hf (fun t e => ctX6_needClip hx h p1 t e) (fun h1 hf => ?_)
  refine PW.aload_n cx qX6_bedOf_5 rfl ?_
  refine PW.getf (t := (2, 1)) (v := .ref (gB g + 1)) cx qX6_bedOf_6 (sh_0 hx) rfl flX6_12 rfl ?_
  refine PW.iload_n cx qX6_bedOf_9 rfl ?_
  refine PW.callVRI (As := [.int p1]) (st := []) cx hR qX6_bedOf_10 klX6_221 mvX1_placeOf (as_1 hx).1 rfl rfl rfl rfl (Nat.le_of_ble_eq_true rfl) (Nat.le_of_ble_eq_true rfl) (Nat.le_of_ble_eq_true rfl) (Nat.le_of_ble_eq_true rfl) (Nat.le_of_ble_eq_true rfl) hf sne (fun t e => ctX1_placeOf (as_1 hx) h1 p1 t e) (fun t3 hf => ?_)
  refine PW.istore_n (L' := [some (.ref (gB g + 0)), some (.int p1), some (.int t3)]) cx qX6_bedOf_13 hi2 rfl rfl ?_
  refine PW.iload_n cx qX6_bedOf_14 rfl ?_
  refine PW.iconst (v := (-1)) cx qX6_bedOf_15 rfl ?_
  refine PW.icmp_ne cx qX6_bedOf_16 hf (fun hf => ?_) (fun hf => ?_)
  · refine PW.iconst (v := (-1)) cx qX6_bedOf_19 rfl ?_
    refine PW.goto cx qX6_bedOf_20 ?_
    exact PW.toX (Nat.le_of_ble_eq_true rfl) (Nat.le_of_ble_eq_true rfl) (PW.iret cx hrt qX6_bedOf_27 (le_xi hf))
  · refine PW.iload_n cx qX6_bedOf_23 rfl ?_
    refine PW.bipush (v := 9) cx qX6_bedOf_24 rfl ?_
    refine PW.iremK cx qX6_bedOf_26 (by decide) ?_
    exact PW.toX (Nat.le_of_ble_eq_true rfl) (Nat.le_of_ble_eq_true rfl) (PW.iret cx hrt qX6_bedOf_27 (le_xi hf))
set_option maxRecDepth 20000 in
theorem ctX6_sceneOf {g : GT} {sh : List Shp} (hx : XSh sh) (h : Hp) (p1 : Int32) (r0 : (Nat × Hp) ⊕ (Int32 × Hp)) (hf : C_sceneOf h p1 = some r0) : CtX g mX6_sceneOf 10 1 6 [.ref (gB g + 0), .int p1] sh h (PX r0 oI (fun v => v.2) sh) (PXx r0 sh) := by
  refine CtX.of (L := [some (.ref (gB g + 0)), some (.int p1)]) (by decide) (by intro w hw; simp only [List.mem_cons, List.not_mem_nil, or_false] at hw; rcases hw with rfl | rfl <;> rfl) (Nat.le_of_ble_eq_true rfl) rfl (fun X mx hno => ?_)
  obtain ⟨cx, hR, hml, hrt, -⟩ := mx
  have cx : Cx g X RX6 cX6_sceneOf := cx
  have hrt : X.2.2.2.2.2.2.2.1.sig.returnType = (some .int) := hrt
  unfold C_sceneOf at hf
  refine PW.aload_n cx qX6_sceneOf_0 rfl ?_
  refine PW.iload_n cx qX6_sceneOf_1 rfl ?_
  refine PW.callTV (As := [.int p1]) (st := []) cx hR hno qX6_sceneOf_2 ktX6_116 mvX6_needClip (sh_0 hx) rfl rfl rfl rfl (Nat.le_of_ble_eq_true rfl) (Nat.le_of_ble_eq_true rfl) (Nat.le_of_ble_eq_true rfl) (Nat.le_of_ble_eq_true rfl) (Nat.le_of_ble_eq_true rfl) (Nat.le_refl _) (Nat.le_refl _) hf (fun t e => ctX6_needClip hx h p1 t e) (fun h1 hf => ?_)
  refine PW.aload_n cx qX6_sceneOf_5 rfl ?_
  refine PW.getf (t := (2, 1)) (v := .ref (gB g + 1)) cx qX6_sceneOf_6 (sh_0 hx) rfl flX6_12 rfl ?_
  refine PW.getf (t := (2, 1 + 6)) (v := .ref (gB g + (1 + 6))) cx qX6_sceneOf_9 (as_1 hx).1 rfl flX6_224 rfl ?_
  refine PW.iload_n cx qX6_sceneOf_12 rfl ?_
  refine PW.iald cx qX6_sceneOf_13 (AS.r6 (as_1 hx)) hf sne (fun t3 hf => ?_)
  exact PW.toX (Nat.le_of_ble_eq_true rfl) (Nat.le_of_ble_eq_true rfl) (PW.iret cx hrt qX6_sceneOf_14 (le_xi hf))
set_option maxRecDepth 20000 in
theorem ctX6_commonRun {g : GT} {sh : List Shp} (hx : XSh sh) (h : Hp) (p1 : Int32) (p2 : Int32) (r0 : (Nat × Hp) ⊕ (Int32 × Hp)) (hf : C_commonRun h p1 p2 = some r0) : CtX g mX6_commonRun 10 2 12 [.ref (gB g + 0), .int p1, .int p2] sh h (PX r0 oI (fun v => v.2) sh) (PXx r0 sh) := by
  refine CtX.of (L := [some (.ref (gB g + 0)), some (.int p1), some (.int p2)]) (by decide) (by intro w hw; simp only [List.mem_cons, List.not_mem_nil, or_false] at hw; rcases hw with rfl | rfl | rfl <;> rfl) (Nat.le_of_ble_eq_true rfl) rfl (fun X mx hno => ?_)
  obtain ⟨cx, hR, hml, hrt, -⟩ := mx
  have cx : Cx g X RX6 cX6_commonRun := cx
  have hrt : X.2.2.2.2.2.2.2.1.sig.returnType = (some .int) := hrt
  unfold C_commonRun at hf
  refine PW.aload_n cx qX6_commonRun_0 rfl ?_
  refine PW.iload_n cx qX6_commonRun_1 rfl ?_
  refine PW.callTV (As := [.int p1]) (st := []) cx hR hno qX6_commonRun_2 ktX6_116 mvX6_needClip (sh_0 hx) rfl rfl rfl rfl (Nat.le_of_ble_eq_true rfl) (Nat.le_of_ble_eq_true rfl) (Nat.le_of_ble_eq_true rfl) (Nat.le_of_ble_eq_true rfl) (Nat.le_of_ble_eq_true rfl) (Nat.le_refl _) (Nat.le_refl _) hf (fun t e => ctX6_needClip hx h p1 t e) (fun h1 hf => ?_)
  refine PW.aload_n cx qX6_commonRun_5 rfl ?_
  refine PW.iload_n cx qX6_commonRun_6 rfl ?_
  refine PW.callTV (As := [.int p2]) (st := []) cx hR hno qX6_commonRun_7 ktX6_116 mvX6_needClip (sh_0 hx) rfl rfl rfl rfl (Nat.le_of_ble_eq_true rfl) (Nat.le_of_ble_eq_true rfl) (Nat.le_of_ble_eq_true rfl) (Nat.le_of_ble_eq_true rfl) (Nat.le_of_ble_eq_true rfl) (Nat.le_refl _) (Nat.le_refl _) hf (fun t e => ctX6_needClip hx h1 p2 t e) (fun h3 hf => ?_)
  refine PW.aload_n cx qX6_commonRun_10 rfl ?_
  refine PW.getf (t := (2, 1)) (v := .ref (gB g + 1)) cx qX6_commonRun_11 (sh_0 hx) rfl flX6_12 rfl ?_
  refine PW.iload_n cx qX6_commonRun_14 rfl ?_
  refine PW.iload_n cx qX6_commonRun_15 rfl ?_
  refine PW.callVRI (As := [.int p1, .int p2]) (st := []) cx hR qX6_commonRun_16 klX6_227 mvX1_sharedRun (as_1 hx).1 rfl rfl rfl rfl (Nat.le_of_ble_eq_true rfl) (Nat.le_of_ble_eq_true rfl) (Nat.le_of_ble_eq_true rfl) (Nat.le_of_ble_eq_true rfl) (Nat.le_of_ble_eq_true rfl) hf sne (fun t e => ctX1_sharedRun (as_1 hx) h3 p1 p2 t e) (fun t5 hf => ?_)
  exact PW.toX (Nat.le_of_ble_eq_true rfl) (Nat.le_of_ble_eq_true rfl) (PW.iret cx hrt qX6_commonRun_19 (le_xi hf))
set_option maxRecDepth 20000 in
theorem ctX6_nearestClip {g : GT} {sh : List Shp} (hx : XSh sh) (h : Hp) (p1 : Int32) (r0 : (Nat × Hp) ⊕ (Int32 × Hp)) (hf : C_nearestClip h p1 = some r0) : CtX g mX6_nearestClip 10 1 6 [.ref (gB g + 0), .int p1] sh h (PX r0 oI (fun v => v.2) sh) (PXx r0 sh) := by
  refine CtX.of (L := [some (.ref (gB g + 0)), some (.int p1)]) (by decide) (by intro w hw; simp only [List.mem_cons, List.not_mem_nil, or_false] at hw; rcases hw with rfl | rfl <;> rfl) (Nat.le_of_ble_eq_true rfl) rfl (fun X mx hno => ?_)
  obtain ⟨cx, hR, hml, hrt, -⟩ := mx
  have cx : Cx g X RX6 cX6_nearestClip := cx
  have hrt : X.2.2.2.2.2.2.2.1.sig.returnType = (some .int) := hrt
  unfold C_nearestClip at hf
  refine PW.aload_n cx qX6_nearestClip_0 rfl ?_
  refine PW.iload_n cx qX6_nearestClip_1 rfl ?_
  refine PW.callTV (As := [.int p1]) (st := []) cx hR hno qX6_nearestClip_2 ktX6_116 mvX6_needClip (sh_0 hx) rfl rfl rfl rfl (Nat.le_of_ble_eq_true rfl) (Nat.le_of_ble_eq_true rfl) (Nat.le_of_ble_eq_true rfl) (Nat.le_of_ble_eq_true rfl) (Nat.le_of_ble_eq_true rfl) (Nat.le_refl _) (Nat.le_refl _) hf (fun t e => ctX6_needClip hx h p1 t e) (fun h1 hf => ?_)
  refine PW.aload_n cx qX6_nearestClip_5 rfl ?_
  refine PW.getf (t := (2, 1)) (v := .ref (gB g + 1)) cx qX6_nearestClip_6 (sh_0 hx) rfl flX6_12 rfl ?_
  refine PW.iload_n cx qX6_nearestClip_9 rfl ?_
  refine PW.callVRI (As := [.int p1]) (st := []) cx hR qX6_nearestClip_10 klX6_230 mvX1_nearestTo (as_1 hx).1 rfl rfl rfl rfl (Nat.le_of_ble_eq_true rfl) (Nat.le_of_ble_eq_true rfl) (Nat.le_of_ble_eq_true rfl) (Nat.le_of_ble_eq_true rfl) (Nat.le_of_ble_eq_true rfl) hf sne (fun t e => ctX1_nearestTo (as_1 hx) h1 p1 t e) (fun t3 hf => ?_)
  exact PW.toX (Nat.le_of_ble_eq_true rfl) (Nat.le_of_ble_eq_true rfl) (PW.iret cx hrt qX6_nearestClip_13 (le_xi hf))
set_option maxRecDepth 20000 in
theorem ctX6_twinsOf {g : GT} {sh : List Shp} (hx : XSh sh) (h : Hp) (p1 : Int32) (r0 : (Nat × Hp) ⊕ (Int32 × Hp)) (hf : C_twinsOf h p1 = some r0) : CtX g mX6_twinsOf 10 1 6 [.ref (gB g + 0), .int p1] sh h (PX r0 oI (fun v => v.2) sh) (PXx r0 sh) := by
  refine CtX.of (L := [some (.ref (gB g + 0)), some (.int p1)]) (by decide) (by intro w hw; simp only [List.mem_cons, List.not_mem_nil, or_false] at hw; rcases hw with rfl | rfl <;> rfl) (Nat.le_of_ble_eq_true rfl) rfl (fun X mx hno => ?_)
  obtain ⟨cx, hR, hml, hrt, -⟩ := mx
  have cx : Cx g X RX6 cX6_twinsOf := cx
  have hrt : X.2.2.2.2.2.2.2.1.sig.returnType = (some .int) := hrt
  unfold C_twinsOf at hf
  refine PW.aload_n cx qX6_twinsOf_0 rfl ?_
  refine PW.iload_n cx qX6_twinsOf_1 rfl ?_
  refine PW.callTV (As := [.int p1]) (st := []) cx hR hno qX6_twinsOf_2 ktX6_116 mvX6_needClip (sh_0 hx) rfl rfl rfl rfl (Nat.le_of_ble_eq_true rfl) (Nat.le_of_ble_eq_true rfl) (Nat.le_of_ble_eq_true rfl) (Nat.le_of_ble_eq_true rfl) (Nat.le_of_ble_eq_true rfl) (Nat.le_refl _) (Nat.le_refl _) hf (fun t e => ctX6_needClip hx h p1 t e) (fun h1 hf => ?_)
  refine PW.aload_n cx qX6_twinsOf_5 rfl ?_
  refine PW.getf (t := (2, 1)) (v := .ref (gB g + 1)) cx qX6_twinsOf_6 (sh_0 hx) rfl flX6_12 rfl ?_
  refine PW.iload_n cx qX6_twinsOf_9 rfl ?_
  refine PW.callVRI (As := [.int p1]) (st := []) cx hR qX6_twinsOf_10 klX6_233 mvX1_sameHash (as_1 hx).1 rfl rfl rfl rfl (Nat.le_of_ble_eq_true rfl) (Nat.le_of_ble_eq_true rfl) (Nat.le_of_ble_eq_true rfl) (Nat.le_of_ble_eq_true rfl) (Nat.le_of_ble_eq_true rfl) hf sne (fun t e => ctX1_sameHash (as_1 hx) h1 p1 t e) (fun t3 hf => ?_)
  exact PW.toX (Nat.le_of_ble_eq_true rfl) (Nat.le_of_ble_eq_true rfl) (PW.iret cx hrt qX6_twinsOf_13 (le_xi hf))
set_option maxRecDepth 20000 in
theorem ctX6_weeksToFade {g : GT} {sh : List Shp} (hx : XSh sh) (h : Hp) (p1 : Int32) (r0 : (Nat × Hp) ⊕ (Int32 × Hp)) (hf : C_weeksToFade h p1 = some r0) : CtX g mX6_weeksToFade 10 1 6 [.ref (gB g + 0), .int p1] sh h (PX r0 oI (fun v => v.2) sh) (PXx r0 sh) := by
  refine CtX.of (L := [some (.ref (gB g + 0)), some (.int p1)]) (by decide) (by intro w hw; simp only [List.mem_cons, List.not_mem_nil, or_false] at hw; rcases hw with rfl | rfl <;> rfl) (Nat.le_of_ble_eq_true rfl) rfl (fun X mx hno => ?_)
  obtain ⟨cx, hR, hml, hrt, -⟩ := mx
  have cx : Cx g X RX6 cX6_weeksToFade := cx
  have hrt : X.2.2.2.2.2.2.2.1.sig.returnType = (some .int) := hrt
  unfold C_weeksToFade at hf
  refine PW.aload_n cx qX6_weeksToFade_0 rfl ?_
  refine PW.iload_n cx qX6_weeksToFade_1 rfl ?_
  refine PW.callTV (As := [.int p1]) (st := []) cx hR hno qX6_weeksToFade_2 ktX6_116 mvX6_needClip (sh_0 hx) rfl rfl rfl rfl (Nat.le_of_ble_eq_true rfl) (Nat.le_of_ble_eq_true rfl) (Nat.le_of_ble_eq_true rfl) (Nat.le_of_ble_eq_true rfl) (Nat.le_of_ble_eq_true rfl) (Nat.le_refl _) (Nat.le_refl _) hf (fun t e => ctX6_needClip hx h p1 t e) (fun h1 hf => ?_)
  refine PW.aload_n cx qX6_weeksToFade_5 rfl ?_
  refine PW.getf (t := (2, 1)) (v := .ref (gB g + 1)) cx qX6_weeksToFade_6 (sh_0 hx) rfl flX6_12 rfl ?_
  refine PW.iload_n cx qX6_weeksToFade_9 rfl ?_
  refine PW.callVRI (As := [.int p1]) (st := []) cx hR qX6_weeksToFade_10 klX6_236 mvX1_weeksLeft (as_1 hx).1 rfl rfl rfl rfl (Nat.le_of_ble_eq_true rfl) (Nat.le_of_ble_eq_true rfl) (Nat.le_of_ble_eq_true rfl) (Nat.le_of_ble_eq_true rfl) (Nat.le_of_ble_eq_true rfl) hf sne (fun t e => ctX1_weeksLeft (as_1 hx) h1 p1 t e) (fun t3 hf => ?_)
  exact PW.toX (Nat.le_of_ble_eq_true rfl) (Nat.le_of_ble_eq_true rfl) (PW.iret cx hrt qX6_weeksToFade_13 (le_xi hf))
set_option maxRecDepth 20000 in
theorem ctX6_bedCount {g : GT} {sh : List Shp} (hx : XSh sh) (h : Hp) (p1 : Int32) (r0 : (Nat × Hp) ⊕ (Int32 × Hp)) (hf : C_bedCount h p1 = some r0) : CtX g mX6_bedCount 10 1 6 [.ref (gB g + 0), .int p1] sh h (PX r0 oI (fun v => v.2) sh) (PXx r0 sh) := by
  refine CtX.of (L := [some (.ref (gB g + 0)), some (.int p1)]) (by decide) (by intro w hw; simp only [List.mem_cons, List.not_mem_nil, or_false] at hw; rcases hw with rfl | rfl <;> rfl) (Nat.le_of_ble_eq_true rfl) rfl (fun X mx hno => ?_)
  obtain ⟨cx, hR, hml, hrt, -⟩ := mx
  have cx : Cx g X RX6 cX6_bedCount := cx
  have hrt : X.2.2.2.2.2.2.2.1.sig.returnType = (some .int) := hrt
  unfold C_bedCount at hf
  refine PW.aload_n cx qX6_bedCount_0 rfl ?_
  refine PW.iload_n cx qX6_bedCount_1 rfl ?_
  refine PW.callTV (As := [.int p1]) (st := []) cx hR hno qX6_bedCount_2 ktX6_119 mvX6_needReel (sh_0 hx) rfl rfl rfl rfl (Nat.le_of_ble_eq_true rfl) (Nat.le_of_ble_eq_true rfl) (Nat.le_of_ble_eq_true rfl) (Nat.le_of_ble_eq_true rfl) (Nat.le_of_ble_eq_true rfl) (Nat.le_refl _) (Nat.le_refl _) hf (fun t e => ctX6_needReel hx h p1 t e) (fun h1 hf => ?_)
  refine PW.aload_n cx qX6_bedCount_5 rfl ?_
  refine PW.getf (t := (2, 1)) (v := .ref (gB g + 1)) cx qX6_bedCount_6 (sh_0 hx) rfl flX6_12 rfl ?_
  refine PW.getf (t := (2, 1 + 7)) (v := .ref (gB g + (1 + 7))) cx qX6_bedCount_9 (as_1 hx).1 rfl flX6_239 rfl ?_
  refine PW.iload_n cx qX6_bedCount_12 rfl ?_
  refine PW.iald cx qX6_bedCount_13 (AS.r7 (as_1 hx)) hf sne (fun t3 hf => ?_)
  exact PW.toX (Nat.le_of_ble_eq_true rfl) (Nat.le_of_ble_eq_true rfl) (PW.iret cx hrt qX6_bedCount_14 (le_xi hf))
set_option maxRecDepth 20000 in
theorem ctX6_bed {g : GT} {sh : List Shp} (hx : XSh sh) (h : Hp) (p1 : Int32) (p2 : Int32) (r0 : (Nat × Hp) ⊕ (Int32 × Hp)) (hf : C_bed h p1 p2 = some r0) : CtX g mX6_bed 10 2 12 [.ref (gB g + 0), .int p1, .int p2] sh h (PX r0 oI (fun v => v.2) sh) (PXx r0 sh) := by
  refine CtX.of (L := [some (.ref (gB g + 0)), some (.int p1), some (.int p2)]) (by decide) (by intro w hw; simp only [List.mem_cons, List.not_mem_nil, or_false] at hw; rcases hw with rfl | rfl | rfl <;> rfl) (Nat.le_of_ble_eq_true rfl) rfl (fun X mx hno => ?_)
  obtain ⟨cx, hR, hml, hrt, -⟩ := mx
  have cx : Cx g X RX6 cX6_bed := cx
  have hrt : X.2.2.2.2.2.2.2.1.sig.returnType = (some .int) := hrt
  unfold C_bed at hf
  refine PW.aload_n cx qX6_bed_0 rfl ?_
  refine PW.iload_n cx qX6_bed_1 rfl ?_
  refine PW.callTV (As := [.int p1]) (st := []) cx hR hno qX6_bed_2 ktX6_119 mvX6_needReel (sh_0 hx) rfl rfl rfl rfl (Nat.le_of_ble_eq_true rfl) (Nat.le_of_ble_eq_true rfl) (Nat.le_of_ble_eq_true rfl) (Nat.le_of_ble_eq_true rfl) (Nat.le_of_ble_eq_true rfl) (Nat.le_refl _) (Nat.le_refl _) hf (fun t e => ctX6_needReel hx h p1 t e) (fun h1 hf => ?_)
  refine PW.iload_n cx qX6_bed_5 rfl ?_
  refine PW.if_lt cx qX6_bed_6 hf (fun hf => ?_) (fun hf => ?_)
  · exact PW.thrS cx hR hno teX6_164_242 qX6_bed_22 qX6_bed_25 qX6_bed_26 qX6_bed_28 qX6_bed_31 (Nat.le_of_ble_eq_true rfl) (Nat.le_of_ble_eq_true rfl) (Nat.le_of_ble_eq_true rfl) (Nat.le_of_ble_eq_true rfl) (Nat.le_refl _) (Nat.le_refl _) (le_xx hf)
  · refine PW.iload_n cx qX6_bed_9 rfl ?_
    refine PW.aload_n cx qX6_bed_10 rfl ?_
    refine PW.getf (t := (2, 1)) (v := .ref (gB g + 1)) cx qX6_bed_11 (sh_0 hx) rfl flX6_12 rfl ?_
    refine PW.getf (t := (2, 1 + 7)) (v := .ref (gB g + (1 + 7))) cx qX6_bed_14 (as_1 hx).1 rfl flX6_239 rfl ?_
    refine PW.iload_n cx qX6_bed_17 rfl ?_
    refine PW.iald cx qX6_bed_18 (AS.r7 (as_1 hx)) hf sne (fun t3 hf => ?_)
    refine PW.icmp_lt cx qX6_bed_19 hf (fun hf => ?_) (fun hf => ?_)
    · refine PW.aload_n cx qX6_bed_32 rfl ?_
      refine PW.getf (t := (2, 1)) (v := .ref (gB g + 1)) cx qX6_bed_33 (sh_0 hx) rfl flX6_12 rfl ?_
      refine PW.iload_n cx qX6_bed_36 rfl ?_
      refine PW.iload_n cx qX6_bed_37 rfl ?_
      refine PW.callVRI (As := [.int p1, .int p2]) (st := []) cx hR qX6_bed_38 klX6_244 mvX1_inBed (as_1 hx).1 rfl rfl rfl rfl (Nat.le_of_ble_eq_true rfl) (Nat.le_of_ble_eq_true rfl) (Nat.le_of_ble_eq_true rfl) (Nat.le_of_ble_eq_true rfl) (Nat.le_of_ble_eq_true rfl) hf sne (fun t e => ctX1_inBed (as_1 hx) h1 p1 p2 t e) (fun t4 hf => ?_)
      exact PW.toX (Nat.le_of_ble_eq_true rfl) (Nat.le_of_ble_eq_true rfl) (PW.iret cx hrt qX6_bed_41 (le_xi hf))
    · exact PW.thrS cx hR hno teX6_164_242 qX6_bed_22 qX6_bed_25 qX6_bed_26 qX6_bed_28 qX6_bed_31 (Nat.le_of_ble_eq_true rfl) (Nat.le_of_ble_eq_true rfl) (Nat.le_of_ble_eq_true rfl) (Nat.le_of_ble_eq_true rfl) (Nat.le_refl _) (Nat.le_refl _) (le_xx hf)
set_option maxRecDepth 20000 in
theorem ctX6_sleepers {g : GT} {sh : List Shp} (hx : XSh sh) (h : Hp) (p1 : Int32) (r0 : (Nat × Hp) ⊕ (Int32 × Hp)) (hf : C_sleepers h p1 = some r0) : CtX g mX6_sleepers 10 1 6 [.ref (gB g + 0), .int p1] sh h (PX r0 oI (fun v => v.2) sh) (PXx r0 sh) := by
  refine CtX.of (L := [some (.ref (gB g + 0)), some (.int p1)]) (by decide) (by intro w hw; simp only [List.mem_cons, List.not_mem_nil, or_false] at hw; rcases hw with rfl | rfl <;> rfl) (Nat.le_of_ble_eq_true rfl) rfl (fun X mx hno => ?_)
  obtain ⟨cx, hR, hml, hrt, -⟩ := mx
  have cx : Cx g X RX6 cX6_sleepers := cx
  have hrt : X.2.2.2.2.2.2.2.1.sig.returnType = (some .int) := hrt
  unfold C_sleepers at hf
  refine PW.aload_n cx qX6_sleepers_0 rfl ?_
  refine PW.iload_n cx qX6_sleepers_1 rfl ?_
  refine PW.callTV (As := [.int p1]) (st := []) cx hR hno qX6_sleepers_2 ktX6_119 mvX6_needReel (sh_0 hx) rfl rfl rfl rfl (Nat.le_of_ble_eq_true rfl) (Nat.le_of_ble_eq_true rfl) (Nat.le_of_ble_eq_true rfl) (Nat.le_of_ble_eq_true rfl) (Nat.le_of_ble_eq_true rfl) (Nat.le_refl _) (Nat.le_refl _) hf (fun t e => ctX6_needReel hx h p1 t e) (fun h1 hf => ?_)
  refine PW.aload_n cx qX6_sleepers_5 rfl ?_
  refine PW.getf (t := (2, 1)) (v := .ref (gB g + 1)) cx qX6_sleepers_6 (sh_0 hx) rfl flX6_12 rfl ?_
  refine PW.iload_n cx qX6_sleepers_9 rfl ?_
  refine PW.callVRI (As := [.int p1]) (st := []) cx hR qX6_sleepers_10 klX6_247 mvX1_sleepersIn (as_1 hx).1 rfl rfl rfl rfl (Nat.le_of_ble_eq_true rfl) (Nat.le_of_ble_eq_true rfl) (Nat.le_of_ble_eq_true rfl) (Nat.le_of_ble_eq_true rfl) (Nat.le_of_ble_eq_true rfl) hf sne (fun t e => ctX1_sleepersIn (as_1 hx) h1 p1 t e) (fun t3 hf => ?_)
  exact PW.toX (Nat.le_of_ble_eq_true rfl) (Nat.le_of_ble_eq_true rfl) (PW.iret cx hrt qX6_sleepers_13 (le_xi hf))
set_option maxRecDepth 20000 in
theorem ctX6_home {g : GT} {sh : List Shp} (hx : XSh sh) (h : Hp) (p1 : Int32) (p2 : Int32) (r0 : (Nat × Hp) ⊕ (Int32 × Hp)) (hf : C_home h p1 p2 = some r0) : CtX g mX6_home 10 2 12 [.ref (gB g + 0), .int p1, .int p2] sh h (PX r0 oI (fun v => v.2) sh) (PXx r0 sh) := by
  refine CtX.of (L := [some (.ref (gB g + 0)), some (.int p1), some (.int p2)]) (by decide) (by intro w hw; simp only [List.mem_cons, List.not_mem_nil, or_false] at hw; rcases hw with rfl | rfl | rfl <;> rfl) (Nat.le_of_ble_eq_true rfl) rfl (fun X mx hno => ?_)
  obtain ⟨cx, hR, hml, hrt, -⟩ := mx
  have cx : Cx g X RX6 cX6_home := cx
  have hrt : X.2.2.2.2.2.2.2.1.sig.returnType = (some .int) := hrt
  unfold C_home at hf
  refine PW.aload_n cx qX6_home_0 rfl ?_
  refine PW.iload_n cx qX6_home_1 rfl ?_
  refine PW.callTV (As := [.int p1]) (st := []) cx hR hno qX6_home_2 ktX6_116 mvX6_needClip (sh_0 hx) rfl rfl rfl rfl (Nat.le_of_ble_eq_true rfl) (Nat.le_of_ble_eq_true rfl) (Nat.le_of_ble_eq_true rfl) (Nat.le_of_ble_eq_true rfl) (Nat.le_of_ble_eq_true rfl) (Nat.le_refl _) (Nat.le_refl _) hf (fun t e => ctX6_needClip hx h p1 t e) (fun h1 hf => ?_)
  refine PW.aload_n cx qX6_home_5 rfl ?_
  refine PW.iload_n cx qX6_home_6 rfl ?_
  refine PW.callTV (As := [.int p2]) (st := []) cx hR hno qX6_home_7 ktX6_119 mvX6_needReel (sh_0 hx) rfl rfl rfl rfl (Nat.le_of_ble_eq_true rfl) (Nat.le_of_ble_eq_true rfl) (Nat.le_of_ble_eq_true rfl) (Nat.le_of_ble_eq_true rfl) (Nat.le_of_ble_eq_true rfl) (Nat.le_refl _) (Nat.le_refl _) hf (fun t e => ctX6_needReel hx h1 p2 t e) (fun h3 hf => ?_)
  refine PW.aload_n cx qX6_home_10 rfl ?_
  refine PW.getf (t := (2, 1)) (v := .ref (gB g + 1)) cx qX6_home_11 (sh_0 hx) rfl flX6_12 rfl ?_
  refine PW.iload_n cx qX6_home_14 rfl ?_
  refine PW.iload_n cx qX6_home_15 rfl ?_
  refine PW.callVRI (As := [.int p1, .int p2]) (st := []) cx hR qX6_home_16 klX6_250 mvX1_homeOf (as_1 hx).1 rfl rfl rfl rfl (Nat.le_of_ble_eq_true rfl) (Nat.le_of_ble_eq_true rfl) (Nat.le_of_ble_eq_true rfl) (Nat.le_of_ble_eq_true rfl) (Nat.le_of_ble_eq_true rfl) hf sne (fun t e => ctX1_homeOf (as_1 hx) h3 p1 p2 t e) (fun t5 hf => ?_)
  exact PW.toX (Nat.le_of_ble_eq_true rfl) (Nat.le_of_ble_eq_true rfl) (PW.iret cx hrt qX6_home_19 (le_xi hf))
set_option maxRecDepth 20000 in
theorem ctX6_whyNoSleep {g : GT} {sh : List Shp} (hx : XSh sh) (h : Hp) (p1 : Int32) (p2 : Int32) (r0 : (Nat × Hp) ⊕ (Int32 × Hp)) (hf : C_whyNoSleep h p1 p2 = some r0) : CtX g mX6_whyNoSleep 10 2 12 [.ref (gB g + 0), .int p1, .int p2] sh h (PX r0 oI (fun v => v.2) sh) (PXx r0 sh) := by
  refine CtX.of (L := [some (.ref (gB g + 0)), some (.int p1), some (.int p2)]) (by decide) (by intro w hw; simp only [List.mem_cons, List.not_mem_nil, or_false] at hw; rcases hw with rfl | rfl | rfl <;> rfl) (Nat.le_of_ble_eq_true rfl) rfl (fun X mx hno => ?_)
  obtain ⟨cx, hR, hml, hrt, -⟩ := mx
  have cx : Cx g X RX6 cX6_whyNoSleep := cx
  have hrt : X.2.2.2.2.2.2.2.1.sig.returnType = (some .int) := hrt
  unfold C_whyNoSleep at hf
  refine PW.aload_n cx qX6_whyNoSleep_0 rfl ?_
  refine PW.iload_n cx qX6_whyNoSleep_1 rfl ?_
  refine PW.callTV (As := [.int p1]) (st := []) cx hR hno qX6_whyNoSleep_2 ktX6_116 mvX6_needClip (sh_0 hx) rfl rfl rfl rfl (Nat.le_of_ble_eq_true rfl) (Nat.le_of_ble_eq_true rfl) (Nat.le_of_ble_eq_true rfl) (Nat.le_of_ble_eq_true rfl) (Nat.le_of_ble_eq_true rfl) (Nat.le_refl _) (Nat.le_refl _) hf (fun t e => ctX6_needClip hx h p1 t e) (fun h1 hf => ?_)
  refine PW.aload_n cx qX6_whyNoSleep_5 rfl ?_
  refine PW.iload_n cx qX6_whyNoSleep_6 rfl ?_
  refine PW.callTV (As := [.int p2]) (st := []) cx hR hno qX6_whyNoSleep_7 ktX6_119 mvX6_needReel (sh_0 hx) rfl rfl rfl rfl (Nat.le_of_ble_eq_true rfl) (Nat.le_of_ble_eq_true rfl) (Nat.le_of_ble_eq_true rfl) (Nat.le_of_ble_eq_true rfl) (Nat.le_of_ble_eq_true rfl) (Nat.le_refl _) (Nat.le_refl _) hf (fun t e => ctX6_needReel hx h1 p2 t e) (fun h3 hf => ?_)
  refine PW.aload_n cx qX6_whyNoSleep_10 rfl ?_
  refine PW.getf (t := (2, 1)) (v := .ref (gB g + 1)) cx qX6_whyNoSleep_11 (sh_0 hx) rfl flX6_12 rfl ?_
  refine PW.iload_n cx qX6_whyNoSleep_14 rfl ?_
  refine PW.iload_n cx qX6_whyNoSleep_15 rfl ?_
  refine PW.callVRI (As := [.int p1, .int p2]) (st := []) cx hR qX6_whyNoSleep_16 klX6_122 mvX1_refusal (as_1 hx).1 rfl rfl rfl rfl (Nat.le_of_ble_eq_true rfl) (Nat.le_of_ble_eq_true rfl) (Nat.le_of_ble_eq_true rfl) (Nat.le_of_ble_eq_true rfl) (Nat.le_of_ble_eq_true rfl) hf sne (fun t e => ctX1_refusal (as_1 hx) h3 p1 p2 t e) (fun t5 hf => ?_)
  exact PW.toX (Nat.le_of_ble_eq_true rfl) (Nat.le_of_ble_eq_true rfl) (PW.iret cx hrt qX6_whyNoSleep_19 (le_xi hf))
set_option maxRecDepth 20000 in
theorem ctX6_bedFor {g : GT} {sh : List Shp} (hx : XSh sh) (h : Hp) (p1 : Int32) (p2 : Int32) (r0 : (Nat × Hp) ⊕ (Int32 × Hp)) (hf : C_bedFor h p1 p2 = some r0) : CtX g mX6_bedFor 10 2 12 [.ref (gB g + 0), .int p1, .int p2] sh h (PX r0 oI (fun v => v.2) sh) (PXx r0 sh) := by
  refine CtX.of (L := [some (.ref (gB g + 0)), some (.int p1), some (.int p2)]) (by decide) (by intro w hw; simp only [List.mem_cons, List.not_mem_nil, or_false] at hw; rcases hw with rfl | rfl | rfl <;> rfl) (Nat.le_of_ble_eq_true rfl) rfl (fun X mx hno => ?_)
  obtain ⟨cx, hR, hml, hrt, -⟩ := mx
  have cx : Cx g X RX6 cX6_bedFor := cx
  have hrt : X.2.2.2.2.2.2.2.1.sig.returnType = (some .int) := hrt
  unfold C_bedFor at hf
  refine PW.aload_n cx qX6_bedFor_0 rfl ?_
  refine PW.iload_n cx qX6_bedFor_1 rfl ?_
  refine PW.callTV (As := [.int p1]) (st := []) cx hR hno qX6_bedFor_2 ktX6_116 mvX6_needClip (sh_0 hx) rfl rfl rfl rfl (Nat.le_of_ble_eq_true rfl) (Nat.le_of_ble_eq_true rfl) (Nat.le_of_ble_eq_true rfl) (Nat.le_of_ble_eq_true rfl) (Nat.le_of_ble_eq_true rfl) (Nat.le_refl _) (Nat.le_refl _) hf (fun t e => ctX6_needClip hx h p1 t e) (fun h1 hf => ?_)
  refine PW.aload_n cx qX6_bedFor_5 rfl ?_
  refine PW.iload_n cx qX6_bedFor_6 rfl ?_
  refine PW.callTV (As := [.int p2]) (st := []) cx hR hno qX6_bedFor_7 ktX6_119 mvX6_needReel (sh_0 hx) rfl rfl rfl rfl (Nat.le_of_ble_eq_true rfl) (Nat.le_of_ble_eq_true rfl) (Nat.le_of_ble_eq_true rfl) (Nat.le_of_ble_eq_true rfl) (Nat.le_of_ble_eq_true rfl) (Nat.le_refl _) (Nat.le_refl _) hf (fun t e => ctX6_needReel hx h1 p2 t e) (fun h3 hf => ?_)
  refine PW.aload_n cx qX6_bedFor_10 rfl ?_
  refine PW.getf (t := (2, 1)) (v := .ref (gB g + 1)) cx qX6_bedFor_11 (sh_0 hx) rfl flX6_12 rfl ?_
  refine PW.iload_n cx qX6_bedFor_14 rfl ?_
  refine PW.iload_n cx qX6_bedFor_15 rfl ?_
  refine PW.callVRI (As := [.int p1, .int p2]) (st := []) cx hR qX6_bedFor_16 klX6_122 mvX1_refusal (as_1 hx).1 rfl rfl rfl rfl (Nat.le_of_ble_eq_true rfl) (Nat.le_of_ble_eq_true rfl) (Nat.le_of_ble_eq_true rfl) (Nat.le_of_ble_eq_true rfl) (Nat.le_of_ble_eq_true rfl) hf sne (fun t e => ctX1_refusal (as_1 hx) h3 p1 p2 t e) (fun t5 hf => ?_)
  refine PW.if_eq cx qX6_bedFor_19 hf (fun hf => ?_) (fun hf => ?_)
  · refine PW.aload_n cx qX6_bedFor_24 rfl ?_
    refine PW.getf (t := (2, 1)) (v := .ref (gB g + 1)) cx qX6_bedFor_25 (sh_0 hx) rfl flX6_12 rfl ?_
    refine PW.iload_n cx qX6_bedFor_28 rfl ?_
    refine PW.iload_n cx qX6_bedFor_29 rfl ?_
    refine PW.aload_n cx qX6_bedFor_30 rfl ?_
    refine PW.getf (t := (2, 1)) (v := .ref (gB g + 1)) cx qX6_bedFor_31 (sh_0 hx) rfl flX6_12 rfl ?_
    refine PW.iload_n cx qX6_bedFor_34 rfl ?_
    refine PW.iload_n cx qX6_bedFor_35 rfl ?_
    refine PW.callVRI (As := [.int p1, .int p2]) (st := [.int p2, .int p1, .ref (gB g + 1)]) cx hR qX6_bedFor_36 klX6_253 mvX1_passedBeds (as_1 hx).1 rfl rfl rfl rfl (Nat.le_of_ble_eq_true rfl) (Nat.le_of_ble_eq_true rfl) (Nat.le_of_ble_eq_true rfl) (Nat.le_of_ble_eq_true rfl) (Nat.le_of_ble_eq_true rfl) hf sne (fun t e => ctX1_passedBeds (as_1 hx) h3 p1 p2 t e) (fun t6 hf => ?_)
    refine PW.callVRI (As := [.int p1, .int p2, .int t6]) (st := []) cx hR qX6_bedFor_39 klX6_256 mvX1_wayBed (as_1 hx).1 rfl rfl rfl rfl (Nat.le_of_ble_eq_true rfl) (Nat.le_of_ble_eq_true rfl) (Nat.le_of_ble_eq_true rfl) (Nat.le_of_ble_eq_true rfl) (Nat.le_of_ble_eq_true rfl) hf sne (fun t e => ctX1_wayBed (as_1 hx) h3 p1 p2 t6 t e) (fun t7 hf => ?_)
    exact PW.toX (Nat.le_of_ble_eq_true rfl) (Nat.le_of_ble_eq_true rfl) (PW.iret cx hrt qX6_bedFor_42 (le_xi hf))
  · refine PW.iconst (v := (-1)) cx qX6_bedFor_22 rfl ?_
    exact PW.toX (Nat.le_of_ble_eq_true rfl) (Nat.le_of_ble_eq_true rfl) (PW.iret cx hrt qX6_bedFor_23 (le_xi hf))
set_option maxRecDepth 20000 in
theorem ctX6_looksFor {g : GT} {sh : List Shp} (hx : XSh sh) (h : Hp) (p1 : Int32) (p2 : Int32) (r0 : (Nat × Hp) ⊕ (Int32 × Hp)) (hf : C_looksFor h p1 p2 = some r0) : CtX g mX6_looksFor 10 2 12 [.ref (gB g + 0), .int p1, .int p2] sh h (PX r0 oI (fun v => v.2) sh) (PXx r0 sh) := by
  refine CtX.of (L := [some (.ref (gB g + 0)), some (.int p1), some (.int p2)]) (by decide) (by intro w hw; simp only [List.mem_cons, List.not_mem_nil, or_false] at hw; rcases hw with rfl | rfl | rfl <;> rfl) (Nat.le_of_ble_eq_true rfl) rfl (fun X mx hno => ?_)
  obtain ⟨cx, hR, hml, hrt, -⟩ := mx
  have cx : Cx g X RX6 cX6_looksFor := cx
  have hrt : X.2.2.2.2.2.2.2.1.sig.returnType = (some .int) := hrt
  unfold C_looksFor at hf
  refine PW.aload_n cx qX6_looksFor_0 rfl ?_
  refine PW.iload_n cx qX6_looksFor_1 rfl ?_
  refine PW.callTV (As := [.int p1]) (st := []) cx hR hno qX6_looksFor_2 ktX6_116 mvX6_needClip (sh_0 hx) rfl rfl rfl rfl (Nat.le_of_ble_eq_true rfl) (Nat.le_of_ble_eq_true rfl) (Nat.le_of_ble_eq_true rfl) (Nat.le_of_ble_eq_true rfl) (Nat.le_of_ble_eq_true rfl) (Nat.le_refl _) (Nat.le_refl _) hf (fun t e => ctX6_needClip hx h p1 t e) (fun h1 hf => ?_)
  refine PW.aload_n cx qX6_looksFor_5 rfl ?_
  refine PW.iload_n cx qX6_looksFor_6 rfl ?_
  refine PW.callTV (As := [.int p2]) (st := []) cx hR hno qX6_looksFor_7 ktX6_119 mvX6_needReel (sh_0 hx) rfl rfl rfl rfl (Nat.le_of_ble_eq_true rfl) (Nat.le_of_ble_eq_true rfl) (Nat.le_of_ble_eq_true rfl) (Nat.le_of_ble_eq_true rfl) (Nat.le_of_ble_eq_true rfl) (Nat.le_refl _) (Nat.le_refl _) hf (fun t e => ctX6_needReel hx h1 p2 t e) (fun h3 hf => ?_)
  refine PW.aload_n cx qX6_looksFor_10 rfl ?_
  refine PW.getf (t := (2, 1)) (v := .ref (gB g + 1)) cx qX6_looksFor_11 (sh_0 hx) rfl flX6_12 rfl ?_
  refine PW.iload_n cx qX6_looksFor_14 rfl ?_
  refine PW.iload_n cx qX6_looksFor_15 rfl ?_
  refine PW.callVRI (As := [.int p1, .int p2]) (st := []) cx hR qX6_looksFor_16 klX6_259 mvX1_looks (as_1 hx).1 rfl rfl rfl rfl (Nat.le_of_ble_eq_true rfl) (Nat.le_of_ble_eq_true rfl) (Nat.le_of_ble_eq_true rfl) (Nat.le_of_ble_eq_true rfl) (Nat.le_of_ble_eq_true rfl) hf sne (fun t e => ctX1_looks (as_1 hx) h3 p1 p2 t e) (fun t5 hf => ?_)
  exact PW.toX (Nat.le_of_ble_eq_true rfl) (Nat.le_of_ble_eq_true rfl) (PW.iret cx hrt qX6_looksFor_19 (le_xi hf))
set_option maxRecDepth 20000 in
theorem ctX6_longestLook {g : GT} {sh : List Shp} (hx : XSh sh) (h : Hp) (p1 : Int32) (r0 : (Nat × Hp) ⊕ (Int32 × Hp)) (hf : C_longestLook h p1 = some r0) : CtX g mX6_longestLook 10 1 6 [.ref (gB g + 0), .int p1] sh h (PX r0 oI (fun v => v.2) sh) (PXx r0 sh) := by
  refine CtX.of (L := [some (.ref (gB g + 0)), some (.int p1)]) (by decide) (by intro w hw; simp only [List.mem_cons, List.not_mem_nil, or_false] at hw; rcases hw with rfl | rfl <;> rfl) (Nat.le_of_ble_eq_true rfl) rfl (fun X mx hno => ?_)
  obtain ⟨cx, hR, hml, hrt, -⟩ := mx
  have cx : Cx g X RX6 cX6_longestLook := cx
  have hrt : X.2.2.2.2.2.2.2.1.sig.returnType = (some .int) := hrt
  unfold C_longestLook at hf
  refine PW.aload_n cx qX6_longestLook_0 rfl ?_
  refine PW.iload_n cx qX6_longestLook_1 rfl ?_
  refine PW.callTV (As := [.int p1]) (st := []) cx hR hno qX6_longestLook_2 ktX6_119 mvX6_needReel (sh_0 hx) rfl rfl rfl rfl (Nat.le_of_ble_eq_true rfl) (Nat.le_of_ble_eq_true rfl) (Nat.le_of_ble_eq_true rfl) (Nat.le_of_ble_eq_true rfl) (Nat.le_of_ble_eq_true rfl) (Nat.le_refl _) (Nat.le_refl _) hf (fun t e => ctX6_needReel hx h p1 t e) (fun h1 hf => ?_)
  refine PW.aload_n cx qX6_longestLook_5 rfl ?_
  refine PW.getf (t := (2, 1)) (v := .ref (gB g + 1)) cx qX6_longestLook_6 (sh_0 hx) rfl flX6_12 rfl ?_
  refine PW.iload_n cx qX6_longestLook_9 rfl ?_
  refine PW.callVRI (As := [.int p1]) (st := []) cx hR qX6_longestLook_10 klX6_262 mvX1_mostLooks (as_1 hx).1 rfl rfl rfl rfl (Nat.le_of_ble_eq_true rfl) (Nat.le_of_ble_eq_true rfl) (Nat.le_of_ble_eq_true rfl) (Nat.le_of_ble_eq_true rfl) (Nat.le_of_ble_eq_true rfl) hf sne (fun t e => ctX1_mostLooks (as_1 hx) h1 p1 t e) (fun t3 hf => ?_)
  exact PW.toX (Nat.le_of_ble_eq_true rfl) (Nat.le_of_ble_eq_true rfl) (PW.iret cx hrt qX6_longestLook_13 (le_xi hf))
set_option maxRecDepth 20000 in
theorem ctX6_looksIfAired {g : GT} {sh : List Shp} (hx : XSh sh) (h : Hp) (p1 : Int32) (r0 : (Nat × Hp) ⊕ (Int32 × Hp)) (hf : C_looksIfAired h p1 = some r0) : CtX g mX6_looksIfAired 10 1 6 [.ref (gB g + 0), .int p1] sh h (PX r0 oI (fun v => v.2) sh) (PXx r0 sh) := by
  refine CtX.of (L := [some (.ref (gB g + 0)), some (.int p1)]) (by decide) (by intro w hw; simp only [List.mem_cons, List.not_mem_nil, or_false] at hw; rcases hw with rfl | rfl <;> rfl) (Nat.le_of_ble_eq_true rfl) rfl (fun X mx hno => ?_)
  obtain ⟨cx, hR, hml, hrt, -⟩ := mx
  have cx : Cx g X RX6 cX6_looksIfAired := cx
  have hrt : X.2.2.2.2.2.2.2.1.sig.returnType = (some .int) := hrt
  unfold C_looksIfAired at hf
  refine PW.aload_n cx qX6_looksIfAired_0 rfl ?_
  refine PW.iload_n cx qX6_looksIfAired_1 rfl ?_
  refine PW.callTV (As := [.int p1]) (st := []) cx hR hno qX6_looksIfAired_2 ktX6_119 mvX6_needReel (sh_0 hx) rfl rfl rfl rfl (Nat.le_of_ble_eq_true rfl) (Nat.le_of_ble_eq_true rfl) (Nat.le_of_ble_eq_true rfl) (Nat.le_of_ble_eq_true rfl) (Nat.le_of_ble_eq_true rfl) (Nat.le_refl _) (Nat.le_refl _) hf (fun t e => ctX6_needReel hx h p1 t e) (fun h1 hf => ?_)
  refine PW.aload_n cx qX6_looksIfAired_5 rfl ?_
  refine PW.getf (t := (2, 12)) (v := .ref (gB g + 12)) cx qX6_looksIfAired_6 (sh_0 hx) rfl flX6_16 rfl ?_
  refine PW.aload_n cx qX6_looksIfAired_9 rfl ?_
  refine PW.getf (t := (2, 1)) (v := .ref (gB g + 1)) cx qX6_looksIfAired_10 (sh_0 hx) rfl flX6_12 rfl ?_
  refine PW.callVWV (As := [.ref (gB g + 1)]) (st := []) cx hR qX6_looksIfAired_13 klX6_55 mvX1_copyFrom (as_12 hx).1 rfl rfl rfl rfl (Nat.le_of_ble_eq_true rfl) (Nat.le_of_ble_eq_true rfl) (Nat.le_of_ble_eq_true rfl) (Nat.le_of_ble_eq_true rfl) (Nat.le_of_ble_eq_true rfl) hf sne (fun t e => ctX1_copyFrom (as_12 hx) (as_1 hx) h1 t e) (fun h4 hf => ?_)
  refine PW.aload_n cx qX6_looksIfAired_16 rfl ?_
  refine PW.getf (t := (2, 12)) (v := .ref (gB g + 12)) cx qX6_looksIfAired_17 (sh_0 hx) rfl flX6_16 rfl ?_
  refine PW.iload_n cx qX6_looksIfAired_20 rfl ?_
  refine PW.callVWIc (As := [.int p1]) (st := []) cx hR qX6_looksIfAired_21 klX6_145 mvX1_airReel (as_12 hx).1 rfl rfl rfl rfl (Nat.le_of_ble_eq_true rfl) (Nat.le_of_ble_eq_true rfl) (Nat.le_of_ble_eq_true rfl) (Nat.le_of_ble_eq_true rfl) (Nat.le_of_ble_eq_true rfl) hf sne (fun t e => ctX1_airReel (as_12 hx) h4 p1 t e) (fun t5 h6 hf => ?_)
  refine PW.pop cx qX6_looksIfAired_24 rfl ?_
  refine PW.aload_n cx qX6_looksIfAired_25 rfl ?_
  refine PW.getf (t := (2, 12)) (v := .ref (gB g + 12)) cx qX6_looksIfAired_26 (sh_0 hx) rfl flX6_16 rfl ?_
  refine PW.iload_n cx qX6_looksIfAired_29 rfl ?_
  refine PW.callVRI (As := [.int p1]) (st := []) cx hR qX6_looksIfAired_30 klX6_265 mvX1_allLooks (as_12 hx).1 rfl rfl rfl rfl (Nat.le_of_ble_eq_true rfl) (Nat.le_of_ble_eq_true rfl) (Nat.le_of_ble_eq_true rfl) (Nat.le_of_ble_eq_true rfl) (Nat.le_of_ble_eq_true rfl) hf sne (fun t e => ctX1_allLooks (as_12 hx) h6 p1 t e) (fun t7 hf => ?_)
  exact PW.toX (Nat.le_of_ble_eq_true rfl) (Nat.le_of_ble_eq_true rfl) (PW.iret cx hrt qX6_looksIfAired_33 (le_xi hf))
set_option maxRecDepth 20000 in
theorem ctX6_longestCluster {g : GT} {sh : List Shp} (hx : XSh sh) (h : Hp) (p1 : Int32) (r0 : (Nat × Hp) ⊕ (Int32 × Hp)) (hf : C_longestCluster h p1 = some r0) : CtX g mX6_longestCluster 10 1 6 [.ref (gB g + 0), .int p1] sh h (PX r0 oI (fun v => v.2) sh) (PXx r0 sh) := by
  refine CtX.of (L := [some (.ref (gB g + 0)), some (.int p1)]) (by decide) (by intro w hw; simp only [List.mem_cons, List.not_mem_nil, or_false] at hw; rcases hw with rfl | rfl <;> rfl) (Nat.le_of_ble_eq_true rfl) rfl (fun X mx hno => ?_)
  obtain ⟨cx, hR, hml, hrt, -⟩ := mx
  have cx : Cx g X RX6 cX6_longestCluster := cx
  have hrt : X.2.2.2.2.2.2.2.1.sig.returnType = (some .int) := hrt
  unfold C_longestCluster at hf
  refine PW.aload_n cx qX6_longestCluster_0 rfl ?_
  refine PW.iload_n cx qX6_longestCluster_1 rfl ?_
  refine PW.callTV (As := [.int p1]) (st := []) cx hR hno qX6_longestCluster_2 ktX6_119 mvX6_needReel (sh_0 hx) rfl rfl rfl rfl (Nat.le_of_ble_eq_true rfl) (Nat.le_of_ble_eq_true rfl) (Nat.le_of_ble_eq_true rfl) (Nat.le_of_ble_eq_true rfl) (Nat.le_of_ble_eq_true rfl) (Nat.le_refl _) (Nat.le_refl _) hf (fun t e => ctX6_needReel hx h p1 t e) (fun h1 hf => ?_)
  refine PW.aload_n cx qX6_longestCluster_5 rfl ?_
  refine PW.getf (t := (2, 1)) (v := .ref (gB g + 1)) cx qX6_longestCluster_6 (sh_0 hx) rfl flX6_12 rfl ?_
  refine PW.iload_n cx qX6_longestCluster_9 rfl ?_
  refine PW.callVRI (As := [.int p1]) (st := []) cx hR qX6_longestCluster_10 klX6_268 mvX1_cluster (as_1 hx).1 rfl rfl rfl rfl (Nat.le_of_ble_eq_true rfl) (Nat.le_of_ble_eq_true rfl) (Nat.le_of_ble_eq_true rfl) (Nat.le_of_ble_eq_true rfl) (Nat.le_of_ble_eq_true rfl) hf sne (fun t e => ctX1_cluster (as_1 hx) h1 p1 t e) (fun t3 hf => ?_)
  exact PW.toX (Nat.le_of_ble_eq_true rfl) (Nat.le_of_ble_eq_true rfl) (PW.iret cx hrt qX6_longestCluster_13 (le_xi hf))
set_option maxRecDepth 20000 in
theorem ctX6_bestReel {g : GT} {sh : List Shp} (hx : XSh sh) (h : Hp) (p1 : Int32) (r0 : (Nat × Hp) ⊕ (Int32 × Hp)) (hf : C_bestReel h p1 = some r0) : CtX g mX6_bestReel 10 1 6 [.ref (gB g + 0), .int p1] sh h (PX r0 oI (fun v => v.2) sh) (PXx r0 sh) := by
  refine CtX.of (L := [some (.ref (gB g + 0)), some (.int p1)]) (by decide) (by intro w hw; simp only [List.mem_cons, List.not_mem_nil, or_false] at hw; rcases hw with rfl | rfl <;> rfl) (Nat.le_of_ble_eq_true rfl) rfl (fun X mx hno => ?_)
  obtain ⟨cx, hR, hml, hrt, -⟩ := mx
  have cx : Cx g X RX6 cX6_bestReel := cx
  have hrt : X.2.2.2.2.2.2.2.1.sig.returnType = (some .int) := hrt
  unfold C_bestReel at hf
  refine PW.aload_n cx qX6_bestReel_0 rfl ?_
  refine PW.iload_n cx qX6_bestReel_1 rfl ?_
  refine PW.callTV (As := [.int p1]) (st := []) cx hR hno qX6_bestReel_2 ktX6_116 mvX6_needClip (sh_0 hx) rfl rfl rfl rfl (Nat.le_of_ble_eq_true rfl) (Nat.le_of_ble_eq_true rfl) (Nat.le_of_ble_eq_true rfl) (Nat.le_of_ble_eq_true rfl) (Nat.le_of_ble_eq_true rfl) (Nat.le_refl _) (Nat.le_refl _) hf (fun t e => ctX6_needClip hx h p1 t e) (fun h1 hf => ?_)
  refine PW.aload_n cx qX6_bestReel_5 rfl ?_
  refine PW.getf (t := (2, 1)) (v := .ref (gB g + 1)) cx qX6_bestReel_6 (sh_0 hx) rfl flX6_12 rfl ?_
  refine PW.iload_n cx qX6_bestReel_9 rfl ?_
  refine PW.callVRI (As := [.int p1]) (st := []) cx hR qX6_bestReel_10 klX6_271 mvX1_nearestReel (as_1 hx).1 rfl rfl rfl rfl (Nat.le_of_ble_eq_true rfl) (Nat.le_of_ble_eq_true rfl) (Nat.le_of_ble_eq_true rfl) (Nat.le_of_ble_eq_true rfl) (Nat.le_of_ble_eq_true rfl) hf sne (fun t e => ctX1_nearestReel (as_1 hx) h1 p1 t e) (fun t3 hf => ?_)
  exact PW.toX (Nat.le_of_ble_eq_true rfl) (Nat.le_of_ble_eq_true rfl) (PW.iret cx hrt qX6_bestReel_13 (le_xi hf))
set_option maxRecDepth 20000 in
theorem ctX6_matches {g : GT} {sh : List Shp} (hx : XSh sh) (h : Hp) (p1 : Int32) (p2 : Int32) (r0 : (Nat × Hp) ⊕ (Bool × Hp)) (hf : C_matches h p1 p2 = some r0) : CtX g mX6_matches 11 2 12 [.ref (gB g + 0), .int p1, .int p2] sh h (PX r0 oZ (fun v => v.2) sh) (PXx r0 sh) := by
  refine CtX.of (L := [some (.ref (gB g + 0)), some (.int p1), some (.int p2)]) (by decide) (by intro w hw; simp only [List.mem_cons, List.not_mem_nil, or_false] at hw; rcases hw with rfl | rfl | rfl <;> rfl) (Nat.le_of_ble_eq_true rfl) rfl (fun X mx hno => ?_)
  obtain ⟨cx, hR, hml, hrt, -⟩ := mx
  have cx : Cx g X RX6 cX6_matches := cx
  have hrt : X.2.2.2.2.2.2.2.1.sig.returnType = (some .boolean) := hrt
  unfold C_matches at hf
  refine PW.aload_n cx qX6_matches_0 rfl ?_
  refine PW.iload_n cx qX6_matches_1 rfl ?_
  refine PW.callTV (As := [.int p1]) (st := []) cx hR hno qX6_matches_2 ktX6_116 mvX6_needClip (sh_0 hx) rfl rfl rfl rfl (Nat.le_of_ble_eq_true rfl) (Nat.le_of_ble_eq_true rfl) (Nat.le_of_ble_eq_true rfl) (Nat.le_of_ble_eq_true rfl) (Nat.le_of_ble_eq_true rfl) (Nat.le_refl _) (Nat.le_refl _) hf (fun t e => ctX6_needClip hx h p1 t e) (fun h1 hf => ?_)
  refine PW.aload_n cx qX6_matches_5 rfl ?_
  refine PW.iload_n cx qX6_matches_6 rfl ?_
  refine PW.callTV (As := [.int p2]) (st := []) cx hR hno qX6_matches_7 ktX6_139 mvX6_needPattern (sh_0 hx) rfl rfl rfl rfl (Nat.le_of_ble_eq_true rfl) (Nat.le_of_ble_eq_true rfl) (Nat.le_of_ble_eq_true rfl) (Nat.le_of_ble_eq_true rfl) (Nat.le_of_ble_eq_true rfl) (Nat.le_refl _) (Nat.le_refl _) hf (fun t e => ctX6_needPattern hx h1 p2 t e) (fun h3 hf => ?_)
  refine PW.aload_n cx qX6_matches_10 rfl ?_
  refine PW.getf (t := (2, 1)) (v := .ref (gB g + 1)) cx qX6_matches_11 (sh_0 hx) rfl flX6_12 rfl ?_
  refine PW.iload_n cx qX6_matches_14 rfl ?_
  refine PW.iload_n cx qX6_matches_15 rfl ?_
  refine PW.callVRI (As := [.int p1, .int p2]) (st := []) cx hR qX6_matches_16 klX6_274 mvX1_findPattern (as_1 hx).1 rfl rfl rfl rfl (Nat.le_of_ble_eq_true rfl) (Nat.le_of_ble_eq_true rfl) (Nat.le_of_ble_eq_true rfl) (Nat.le_of_ble_eq_true rfl) (Nat.le_of_ble_eq_true rfl) hf sne (fun t e => ctX1_findPattern (as_1 hx) h3 p1 p2 t e) (fun t5 hf => ?_)
  refine PW.iconst (v := (-1)) cx qX6_matches_19 rfl ?_
  refine PW.icmp_eq cx qX6_matches_20 hf (fun hf => ?_) (fun hf => ?_)
  · refine PW.iconst (v := 0) cx qX6_matches_27 rfl ?_
    exact PW.toX (Nat.le_of_ble_eq_true rfl) (Nat.le_of_ble_eq_true rfl) (PW.zret cx hrt nb0 qX6_matches_28 (le_xz hf))
  · refine PW.iconst (v := 1) cx qX6_matches_23 rfl ?_
    refine PW.goto cx qX6_matches_24 ?_
    exact PW.toX (Nat.le_of_ble_eq_true rfl) (Nat.le_of_ble_eq_true rfl) (PW.zret cx hrt nb1 qX6_matches_28 (le_xz hf))
set_option maxRecDepth 20000 in
theorem ctX6_matchingSleepers {g : GT} {sh : List Shp} (hx : XSh sh) (h : Hp) (p1 : Int32) (r0 : (Nat × Hp) ⊕ (Int32 × Hp)) (hf : C_matchingSleepers h p1 = some r0) : CtX g mX6_matchingSleepers 11 1 6 [.ref (gB g + 0), .int p1] sh h (PX r0 oI (fun v => v.2) sh) (PXx r0 sh) := by
  refine CtX.of (L := [some (.ref (gB g + 0)), some (.int p1)]) (by decide) (by intro w hw; simp only [List.mem_cons, List.not_mem_nil, or_false] at hw; rcases hw with rfl | rfl <;> rfl) (Nat.le_of_ble_eq_true rfl) rfl (fun X mx hno => ?_)
  obtain ⟨cx, hR, hml, hrt, -⟩ := mx
  have cx : Cx g X RX6 cX6_matchingSleepers := cx
  have hrt : X.2.2.2.2.2.2.2.1.sig.returnType = (some .int) := hrt
  unfold C_matchingSleepers at hf
  refine PW.aload_n cx qX6_matchingSleepers_0 rfl ?_
  refine PW.iload_n cx qX6_matchingSleepers_1 rfl ?_
  refine PW.callTV (As := [.int p1]) (st := []) cx hR hno qX6_matchingSleepers_2 ktX6_139 mvX6_needPattern (sh_0 hx) rfl rfl rfl rfl (Nat.le_of_ble_eq_true rfl) (Nat.le_of_ble_eq_true rfl) (Nat.le_of_ble_eq_true rfl) (Nat.le_of_ble_eq_true rfl) (Nat.le_of_ble_eq_true rfl) (Nat.le_refl _) (Nat.le_refl _) hf (fun t e => ctX6_needPattern hx h p1 t e) (fun h1 hf => ?_)
  refine PW.aload_n cx qX6_matchingSleepers_5 rfl ?_
  refine PW.getf (t := (2, 1)) (v := .ref (gB g + 1)) cx qX6_matchingSleepers_6 (sh_0 hx) rfl flX6_12 rfl ?_
  refine PW.iload_n cx qX6_matchingSleepers_9 rfl ?_
  refine PW.callVRI (As := [.int p1]) (st := []) cx hR qX6_matchingSleepers_10 klX6_277 mvX1_sleepersWith (as_1 hx).1 rfl rfl rfl rfl (Nat.le_of_ble_eq_true rfl) (Nat.le_of_ble_eq_true rfl) (Nat.le_of_ble_eq_true rfl) (Nat.le_of_ble_eq_true rfl) (Nat.le_of_ble_eq_true rfl) hf sne (fun t e => ctX1_sleepersWith (as_1 hx) h1 p1 t e) (fun t3 hf => ?_)
  exact PW.toX (Nat.le_of_ble_eq_true rfl) (Nat.le_of_ble_eq_true rfl) (PW.iret cx hrt qX6_matchingSleepers_13 (le_xi hf))
set_option maxRecDepth 20000 in
theorem ctX6_wokenBy {g : GT} {sh : List Shp} (hx : XSh sh) (h : Hp) (p1 : Int32) (p2 : Int32) (r0 : (Nat × Hp) ⊕ (Int32 × Hp)) (hf : C_wokenBy h p1 p2 = some r0) : CtX g mX6_wokenBy 11 2 12 [.ref (gB g + 0), .int p1, .int p2] sh h (PX r0 oI (fun v => v.2) sh) (PXx r0 sh) := by
  refine CtX.of (L := [some (.ref (gB g + 0)), some (.int p1), some (.int p2)]) (by decide) (by intro w hw; simp only [List.mem_cons, List.not_mem_nil, or_false] at hw; rcases hw with rfl | rfl | rfl <;> rfl) (Nat.le_of_ble_eq_true rfl) rfl (fun X mx hno => ?_)
  obtain ⟨cx, hR, hml, hrt, -⟩ := mx
  have cx : Cx g X RX6 cX6_wokenBy := cx
  have hrt : X.2.2.2.2.2.2.2.1.sig.returnType = (some .int) := hrt
  unfold C_wokenBy at hf
  refine PW.aload_n cx qX6_wokenBy_0 rfl ?_
  refine PW.iload_n cx qX6_wokenBy_1 rfl ?_
  refine PW.callTV (As := [.int p1]) (st := []) cx hR hno qX6_wokenBy_2 ktX6_136 mvX6_needScene (sh_0 hx) rfl rfl rfl rfl (Nat.le_of_ble_eq_true rfl) (Nat.le_of_ble_eq_true rfl) (Nat.le_of_ble_eq_true rfl) (Nat.le_of_ble_eq_true rfl) (Nat.le_of_ble_eq_true rfl) (Nat.le_refl _) (Nat.le_refl _) hf (fun t e => ctX6_needScene hx h p1 t e) (fun h1 hf => ?_)
  refine PW.aload_n cx qX6_wokenBy_5 rfl ?_
  refine PW.iload_n cx qX6_wokenBy_6 rfl ?_
  refine PW.callTV (As := [.int p2]) (st := []) cx hR hno qX6_wokenBy_7 ktX6_139 mvX6_needPattern (sh_0 hx) rfl rfl rfl rfl (Nat.le_of_ble_eq_true rfl) (Nat.le_of_ble_eq_true rfl) (Nat.le_of_ble_eq_true rfl) (Nat.le_of_ble_eq_true rfl) (Nat.le_of_ble_eq_true rfl) (Nat.le_refl _) (Nat.le_refl _) hf (fun t e => ctX6_needPattern hx h1 p2 t e) (fun h3 hf => ?_)
  refine PW.aload_n cx qX6_wokenBy_10 rfl ?_
  refine PW.getf (t := (2, 12)) (v := .ref (gB g + 12)) cx qX6_wokenBy_11 (sh_0 hx) rfl flX6_16 rfl ?_
  refine PW.aload_n cx qX6_wokenBy_14 rfl ?_
  refine PW.getf (t := (2, 1)) (v := .ref (gB g + 1)) cx qX6_wokenBy_15 (sh_0 hx) rfl flX6_12 rfl ?_
  refine PW.callVWV (As := [.ref (gB g + 1)]) (st := []) cx hR qX6_wokenBy_18 klX6_55 mvX1_copyFrom (as_12 hx).1 rfl rfl rfl rfl (Nat.le_of_ble_eq_true rfl) (Nat.le_of_ble_eq_true rfl) (Nat.le_of_ble_eq_true rfl) (Nat.le_of_ble_eq_true rfl) (Nat.le_of_ble_eq_true rfl) hf sne (fun t e => ctX1_copyFrom (as_12 hx) (as_1 hx) h3 t e) (fun h6 hf => ?_)
  refine PW.aload_n cx qX6_wokenBy_21 rfl ?_
  refine PW.getf (t := (2, 12)) (v := .ref (gB g + 12)) cx qX6_wokenBy_22 (sh_0 hx) rfl flX6_16 rfl ?_
  refine PW.iload_n cx qX6_wokenBy_25 rfl ?_
  refine PW.iload_n cx qX6_wokenBy_26 rfl ?_
  refine PW.callVWIc (As := [.int p1, .int p2]) (st := []) cx hR qX6_wokenBy_27 klX6_142 mvX1_cutScene (as_12 hx).1 rfl rfl rfl rfl (Nat.le_of_ble_eq_true rfl) (Nat.le_of_ble_eq_true rfl) (Nat.le_of_ble_eq_true rfl) (Nat.le_of_ble_eq_true rfl) (Nat.le_of_ble_eq_true rfl) hf sne (fun t e => ctX1_cutScene (as_12 hx) h6 p1 p2 t e) (fun t7 h8 hf => ?_)
  exact PW.toX (Nat.le_of_ble_eq_true rfl) (Nat.le_of_ble_eq_true rfl) (PW.iret cx hrt qX6_wokenBy_30 (le_xi hf))
set_option maxRecDepth 20000 in
theorem ctX6_firstMatch {g : GT} {sh : List Shp} (hx : XSh sh) (h : Hp) (p1 : Int32) (p2 : Int32) (r0 : (Nat × Hp) ⊕ (Int32 × Hp)) (hf : C_firstMatch h p1 p2 = some r0) : CtX g mX6_firstMatch 11 2 12 [.ref (gB g + 0), .int p1, .int p2] sh h (PX r0 oI (fun v => v.2) sh) (PXx r0 sh) := by
  refine CtX.of (L := [some (.ref (gB g + 0)), some (.int p1), some (.int p2)]) (by decide) (by intro w hw; simp only [List.mem_cons, List.not_mem_nil, or_false] at hw; rcases hw with rfl | rfl | rfl <;> rfl) (Nat.le_of_ble_eq_true rfl) rfl (fun X mx hno => ?_)
  obtain ⟨cx, hR, hml, hrt, -⟩ := mx
  have cx : Cx g X RX6 cX6_firstMatch := cx
  have hrt : X.2.2.2.2.2.2.2.1.sig.returnType = (some .int) := hrt
  unfold C_firstMatch at hf
  refine PW.aload_n cx qX6_firstMatch_0 rfl ?_
  refine PW.iload_n cx qX6_firstMatch_1 rfl ?_
  refine PW.callTV (As := [.int p1]) (st := []) cx hR hno qX6_firstMatch_2 ktX6_116 mvX6_needClip (sh_0 hx) rfl rfl rfl rfl (Nat.le_of_ble_eq_true rfl) (Nat.le_of_ble_eq_true rfl) (Nat.le_of_ble_eq_true rfl) (Nat.le_of_ble_eq_true rfl) (Nat.le_of_ble_eq_true rfl) (Nat.le_refl _) (Nat.le_refl _) hf (fun t e => ctX6_needClip hx h p1 t e) (fun h1 hf => ?_)
  refine PW.aload_n cx qX6_firstMatch_5 rfl ?_
  refine PW.iload_n cx qX6_firstMatch_6 rfl ?_
  refine PW.callTV (As := [.int p2]) (st := []) cx hR hno qX6_firstMatch_7 ktX6_139 mvX6_needPattern (sh_0 hx) rfl rfl rfl rfl (Nat.le_of_ble_eq_true rfl) (Nat.le_of_ble_eq_true rfl) (Nat.le_of_ble_eq_true rfl) (Nat.le_of_ble_eq_true rfl) (Nat.le_of_ble_eq_true rfl) (Nat.le_refl _) (Nat.le_refl _) hf (fun t e => ctX6_needPattern hx h1 p2 t e) (fun h3 hf => ?_)
  refine PW.aload_n cx qX6_firstMatch_10 rfl ?_
  refine PW.getf (t := (2, 1)) (v := .ref (gB g + 1)) cx qX6_firstMatch_11 (sh_0 hx) rfl flX6_12 rfl ?_
  refine PW.iload_n cx qX6_firstMatch_14 rfl ?_
  refine PW.iload_n cx qX6_firstMatch_15 rfl ?_
  refine PW.callVRI (As := [.int p1, .int p2]) (st := []) cx hR qX6_firstMatch_16 klX6_274 mvX1_findPattern (as_1 hx).1 rfl rfl rfl rfl (Nat.le_of_ble_eq_true rfl) (Nat.le_of_ble_eq_true rfl) (Nat.le_of_ble_eq_true rfl) (Nat.le_of_ble_eq_true rfl) (Nat.le_of_ble_eq_true rfl) hf sne (fun t e => ctX1_findPattern (as_1 hx) h3 p1 p2 t e) (fun t5 hf => ?_)
  exact PW.toX (Nat.le_of_ble_eq_true rfl) (Nat.le_of_ble_eq_true rfl) (PW.iret cx hrt qX6_firstMatch_19 (le_xi hf))
set_option maxRecDepth 20000 in
theorem ctX6_bestPattern {g : GT} {sh : List Shp} (hx : XSh sh) (h : Hp) (p1 : Int32) (r0 : (Nat × Hp) ⊕ (Int32 × Hp)) (hf : C_bestPattern h p1 = some r0) : CtX g mX6_bestPattern 10 1 6 [.ref (gB g + 0), .int p1] sh h (PX r0 oI (fun v => v.2) sh) (PXx r0 sh) := by
  refine CtX.of (L := [some (.ref (gB g + 0)), some (.int p1)]) (by decide) (by intro w hw; simp only [List.mem_cons, List.not_mem_nil, or_false] at hw; rcases hw with rfl | rfl <;> rfl) (Nat.le_of_ble_eq_true rfl) rfl (fun X mx hno => ?_)
  obtain ⟨cx, hR, hml, hrt, -⟩ := mx
  have cx : Cx g X RX6 cX6_bestPattern := cx
  have hrt : X.2.2.2.2.2.2.2.1.sig.returnType = (some .int) := hrt
  unfold C_bestPattern at hf
  refine PW.aload_n cx qX6_bestPattern_0 rfl ?_
  refine PW.iload_n cx qX6_bestPattern_1 rfl ?_
  refine PW.callTV (As := [.int p1]) (st := []) cx hR hno qX6_bestPattern_2 ktX6_116 mvX6_needClip (sh_0 hx) rfl rfl rfl rfl (Nat.le_of_ble_eq_true rfl) (Nat.le_of_ble_eq_true rfl) (Nat.le_of_ble_eq_true rfl) (Nat.le_of_ble_eq_true rfl) (Nat.le_of_ble_eq_true rfl) (Nat.le_refl _) (Nat.le_refl _) hf (fun t e => ctX6_needClip hx h p1 t e) (fun h1 hf => ?_)
  refine PW.aload_n cx qX6_bestPattern_5 rfl ?_
  refine PW.getf (t := (2, 1)) (v := .ref (gB g + 1)) cx qX6_bestPattern_6 (sh_0 hx) rfl flX6_12 rfl ?_
  refine PW.iload_n cx qX6_bestPattern_9 rfl ?_
  refine PW.callVRI (As := [.int p1]) (st := []) cx hR qX6_bestPattern_10 klX6_280 mvX1_ownPattern (as_1 hx).1 rfl rfl rfl rfl (Nat.le_of_ble_eq_true rfl) (Nat.le_of_ble_eq_true rfl) (Nat.le_of_ble_eq_true rfl) (Nat.le_of_ble_eq_true rfl) (Nat.le_of_ble_eq_true rfl) hf sne (fun t e => ctX1_ownPattern (as_1 hx) h1 p1 t e) (fun t3 hf => ?_)
  exact PW.toX (Nat.le_of_ble_eq_true rfl) (Nat.le_of_ble_eq_true rfl) (PW.iret cx hrt qX6_bestPattern_13 (le_xi hf))
set_option maxRecDepth 20000 in
theorem ctX6_burnedFat {g : GT} {ex : Bool} {sh : List Shp} (hx : XSh sh) (h : Hp) (r0 : Int32) (hf : C_burnedFat h = some r0) : Ct g mX6_burnedFat 0 0 0 ex [.ref (gB g + 0)] sh h (PE (some (.int r0)) sh h) := by
  refine Ct.of (L := [some (.ref (gB g + 0))]) (by decide) (by intro w hw; simp only [List.mem_cons, List.not_mem_nil, or_false] at hw; rcases hw with rfl <;> rfl) (Nat.le_of_ble_eq_true rfl) rfl (fun X mx => ?_)
  obtain ⟨cx, hR, hml, hrt, -⟩ := mx
  have cx : Cx g X RX6 cX6_burnedFat := cx
  have hrt : X.2.2.2.2.2.2.2.1.sig.returnType = (some .int) := hrt
  unfold C_burnedFat at hf
  refine PW.aload_n cx qX6_burnedFat_0 rfl ?_
  refine PW.getf (t := (2, 1)) (v := .ref (gB g + 1)) cx qX6_burnedFat_1 (sh_0 hx) rfl flX6_12 rfl ?_
  refine PW.getf (t := (0, 0)) (v := .int (rd h 1 3)) cx qX6_burnedFat_4 (as_1 hx).1 rfl flX6_283 rfl ?_
  exact PW.iret cx hrt qX6_burnedFat_7 (le_ri hf)
set_option maxRecDepth 20000 in
theorem ctX6_wakings {g : GT} {ex : Bool} {sh : List Shp} (hx : XSh sh) (h : Hp) (r0 : Int32) (hf : C_wakings h = some r0) : Ct g mX6_wakings 0 0 0 ex [.ref (gB g + 0)] sh h (PE (some (.int r0)) sh h) := by
  refine Ct.of (L := [some (.ref (gB g + 0))]) (by decide) (by intro w hw; simp only [List.mem_cons, List.not_mem_nil, or_false] at hw; rcases hw with rfl <;> rfl) (Nat.le_of_ble_eq_true rfl) rfl (fun X mx => ?_)
  obtain ⟨cx, hR, hml, hrt, -⟩ := mx
  have cx : Cx g X RX6 cX6_wakings := cx
  have hrt : X.2.2.2.2.2.2.2.1.sig.returnType = (some .int) := hrt
  unfold C_wakings at hf
  refine PW.aload_n cx qX6_wakings_0 rfl ?_
  refine PW.getf (t := (2, 1)) (v := .ref (gB g + 1)) cx qX6_wakings_1 (sh_0 hx) rfl flX6_12 rfl ?_
  refine PW.getf (t := (0, 0)) (v := .int (rd h 1 4)) cx qX6_wakings_4 (as_1 hx).1 rfl flX6_286 rfl ?_
  exact PW.iret cx hrt qX6_wakings_7 (le_ri hf)
set_option maxRecDepth 20000 in
theorem ctX6_fadedClips {g : GT} {ex : Bool} {sh : List Shp} (hx : XSh sh) (h : Hp) (r0 : Int32) (hf : C_fadedClips h = some r0) : Ct g mX6_fadedClips 1 0 0 ex [.ref (gB g + 0)] sh h (PE (some (.int r0)) sh h) := by
  refine Ct.of (L := [some (.ref (gB g + 0))]) (by decide) (by intro w hw; simp only [List.mem_cons, List.not_mem_nil, or_false] at hw; rcases hw with rfl <;> rfl) (Nat.le_of_ble_eq_true rfl) rfl (fun X mx => ?_)
  obtain ⟨cx, hR, hml, hrt, -⟩ := mx
  have cx : Cx g X RX6 cX6_fadedClips := cx
  have hrt : X.2.2.2.2.2.2.2.1.sig.returnType = (some .int) := hrt
  unfold C_fadedClips at hf
  refine PW.aload_n cx qX6_fadedClips_0 rfl ?_
  refine PW.getf (t := (2, 1)) (v := .ref (gB g + 1)) cx qX6_fadedClips_1 (sh_0 hx) rfl flX6_12 rfl ?_
  refine PW.iconst (v := 2) cx qX6_fadedClips_4 rfl ?_
  refine PW.callVRI (As := [.int 2]) (st := []) cx hR qX6_fadedClips_5 klX6_289 mvX1_clipsInState (as_1 hx).1 rfl rfl rfl rfl (Nat.le_of_ble_eq_true rfl) (Nat.le_of_ble_eq_true rfl) (Nat.le_of_ble_eq_true rfl) (Nat.zero_le _) (Nat.zero_le _) hf sne (fun t e => ctX1_clipsInState (as_1 hx) h 2 t e) (fun t1 hf => ?_)
  exact PW.iret cx hrt qX6_fadedClips_8 (le_ri hf)
set_option maxRecDepth 20000 in
theorem ctX6_meanFat {g : GT} {ex : Bool} {sh : List Shp} (hx : XSh sh) (h : Hp) (r0 : UInt64) (hf : C_meanFat h = some r0) : Ct g mX6_meanFat 1 0 0 ex [.ref (gB g + 0)] sh h (PE (some (.double r0)) sh h) := by
  refine Ct.of (L := [some (.ref (gB g + 0)), none]) (by decide) (by intro w hw; simp only [List.mem_cons, List.not_mem_nil, or_false] at hw; rcases hw with rfl <;> rfl) (Nat.le_of_ble_eq_true rfl) rfl (fun X mx => ?_)
  obtain ⟨cx, hR, hml, hrt, -⟩ := mx
  have cx : Cx g X RX6 cX6_meanFat := cx
  have hrt : X.2.2.2.2.2.2.2.1.sig.returnType = (some .double) := hrt
  have hi1 : 1 < X.2.2.2.2.2.2.2.2.maxLocals := by rw [hml]; exact Nat.le_of_ble_eq_true rfl
  unfold C_meanFat at hf
  refine PW.aload_n cx qX6_meanFat_0 rfl ?_
  refine PW.getf (t := (2, 1)) (v := .ref (gB g + 1)) cx qX6_meanFat_1 (sh_0 hx) rfl flX6_12 rfl ?_
  refine PW.getf (t := (0, 0)) (v := .int (rd h 1 5)) cx qX6_meanFat_4 (as_1 hx).1 rfl flX6_79 rfl ?_
  refine PW.aload_n cx qX6_meanFat_7 rfl ?_
  refine PW.getf (t := (2, 1)) (v := .ref (gB g + 1)) cx qX6_meanFat_8 (sh_0 hx) rfl flX6_12 rfl ?_
  refine PW.iconst (v := 2) cx qX6_meanFat_11 rfl ?_
  refine PW.callVRI (As := [.int 2]) (st := [.int (rd h 1 5)]) cx hR qX6_meanFat_12 klX6_289 mvX1_clipsInState (as_1 hx).1 rfl rfl rfl rfl (Nat.le_of_ble_eq_true rfl) (Nat.le_of_ble_eq_true rfl) (Nat.le_of_ble_eq_true rfl) (Nat.zero_le _) (Nat.zero_le _) hf sne (fun t e => ctX1_clipsInState (as_1 hx) h 2 t e) (fun t1 hf => ?_)
  refine PW.callSRI (As := [.int t1]) (st := [.int (rd h 1 5)]) cx hR qX6_meanFat_15 klX6_292 miJ6_bitCount_0f7a4 rfl rfl (Nat.le_of_ble_eq_true rfl) (Nat.le_of_ble_eq_true rfl) (Nat.le_of_ble_eq_true rfl) (Nat.zero_le _) (Nat.zero_le _) hf sne (fun t e => ctJ6_bitCount_0f7a4 h t1 t e) (fun t2 hf => ?_)
  refine PW.isub cx qX6_meanFat_18 ?_
  refine PW.istore_n (L' := [some (.ref (gB g + 0)), some (.int ((rd h 1 5) - t2))]) cx qX6_meanFat_19 hi1 rfl rfl ?_
  refine PW.iload_n cx qX6_meanFat_20 rfl ?_
  refine PW.iconst (v := 1) cx qX6_meanFat_21 rfl ?_
  refine PW.icmp_ge cx qX6_meanFat_22 hf (fun hf => ?_) (fun hf => ?_)
  · refine PW.aload_n cx qX6_meanFat_29 rfl ?_
    refine PW.getf (t := (2, 1)) (v := .ref (gB g + 1)) cx qX6_meanFat_30 (sh_0 hx) rfl flX6_12 rfl ?_
    refine PW.callVRI (As := []) (st := []) cx hR qX6_meanFat_33 klX6_297 mvX1_allFat (as_1 hx).1 rfl rfl rfl rfl (Nat.le_of_ble_eq_true rfl) (Nat.le_of_ble_eq_true rfl) (Nat.le_of_ble_eq_true rfl) (Nat.zero_le _) (Nat.zero_le _) hf sne (fun t e => ctX1_allFat (as_1 hx) h t e) (fun t3 hf => ?_)
    refine PW.i2d cx qX6_meanFat_36 ?_
    refine PW.iload_n cx qX6_meanFat_37 rfl ?_
    refine PW.i2d cx qX6_meanFat_38 ?_
    refine PW.ddiv cx qX6_meanFat_39 hf sne (fun t4 hf => ?_)
    exact PW.dret cx hrt qX6_meanFat_40 (le_rd hf)
  · refine PW.dconst0 cx qX6_meanFat_25 ?_
    refine PW.goto cx qX6_meanFat_26 ?_
    exact PW.dret cx hrt qX6_meanFat_40 (le_rd hf)
set_option maxRecDepth 20000 in
theorem ctX6_sleepShare {g : GT} {ex : Bool} {sh : List Shp} (hx : XSh sh) (h : Hp) (r0 : UInt32) (hf : C_sleepShare h = some r0) : Ct g mX6_sleepShare 1 0 0 ex [.ref (gB g + 0)] sh h (PE (some (.float r0)) sh h) := by
  refine Ct.of (L := [some (.ref (gB g + 0)), none]) (by decide) (by intro w hw; simp only [List.mem_cons, List.not_mem_nil, or_false] at hw; rcases hw with rfl <;> rfl) (Nat.le_of_ble_eq_true rfl) rfl (fun X mx => ?_)
  obtain ⟨cx, hR, hml, hrt, -⟩ := mx
  have cx : Cx g X RX6 cX6_sleepShare := cx
  have hrt : X.2.2.2.2.2.2.2.1.sig.returnType = (some .float) := hrt
  have hi1 : 1 < X.2.2.2.2.2.2.2.2.maxLocals := by rw [hml]; exact Nat.le_of_ble_eq_true rfl
  unfold C_sleepShare at hf
  refine PW.aload_n cx qX6_sleepShare_0 rfl ?_
  refine PW.getf (t := (2, 1)) (v := .ref (gB g + 1)) cx qX6_sleepShare_1 (sh_0 hx) rfl flX6_12 rfl ?_
  refine PW.iconst (v := 1) cx qX6_sleepShare_4 rfl ?_
  refine PW.callVRI (As := [.int 1]) (st := []) cx hR qX6_sleepShare_5 klX6_289 mvX1_clipsInState (as_1 hx).1 rfl rfl rfl rfl (Nat.le_of_ble_eq_true rfl) (Nat.le_of_ble_eq_true rfl) (Nat.le_of_ble_eq_true rfl) (Nat.zero_le _) (Nat.zero_le _) hf sne (fun t e => ctX1_clipsInState (as_1 hx) h 1 t e) (fun t1 hf => ?_)
  refine PW.callSRI (As := [.int t1]) (st := []) cx hR qX6_sleepShare_8 klX6_292 miJ6_bitCount_0f7a4 rfl rfl (Nat.le_of_ble_eq_true rfl) (Nat.le_of_ble_eq_true rfl) (Nat.le_of_ble_eq_true rfl) (Nat.zero_le _) (Nat.zero_le _) hf sne (fun t e => ctJ6_bitCount_0f7a4 h t1 t e) (fun t2 hf => ?_)
  refine PW.istore_n (L' := [some (.ref (gB g + 0)), some (.int t2)]) cx qX6_sleepShare_11 hi1 rfl rfl ?_
  refine PW.aload_n cx qX6_sleepShare_12 rfl ?_
  refine PW.getf (t := (2, 1)) (v := .ref (gB g + 1)) cx qX6_sleepShare_13 (sh_0 hx) rfl flX6_12 rfl ?_
  refine PW.getf (t := (0, 0)) (v := .int (rd h 1 5)) cx qX6_sleepShare_16 (as_1 hx).1 rfl flX6_79 rfl ?_
  refine PW.iconst (v := 1) cx qX6_sleepShare_19 rfl ?_
  refine PW.icmp_ge cx qX6_sleepShare_20 hf (fun hf => ?_) (fun hf => ?_)
  · refine PW.iload_n cx qX6_sleepShare_27 rfl ?_
    refine PW.i2f cx qX6_sleepShare_28 ?_
    refine PW.aload_n cx qX6_sleepShare_29 rfl ?_
    refine PW.getf (t := (2, 1)) (v := .ref (gB g + 1)) cx qX6_sleepShare_30 (sh_0 hx) rfl flX6_12 rfl ?_
    refine PW.getf (t := (0, 0)) (v := .int (rd h 1 5)) cx qX6_sleepShare_33 (as_1 hx).1 rfl flX6_79 rfl ?_
    refine PW.i2f cx qX6_sleepShare_36 ?_
    refine PW.fdiv cx qX6_sleepShare_37 hf sne (fun t3 hf => ?_)
    exact PW.fret cx hrt qX6_sleepShare_38 (le_rf hf)
  · refine PW.fconst0 cx qX6_sleepShare_23 ?_
    refine PW.goto cx qX6_sleepShare_24 ?_
    exact PW.fret cx hrt qX6_sleepShare_38 (le_rf hf)
set_option maxRecDepth 20000 in
theorem ctX6_violations {g : GT} {ex : Bool} {sh : List Shp} (hx : XSh sh) (h : Hp) (r0 : Int32) (hf : C_violations h = some r0) : Ct g mX6_violations 4 0 0 ex [.ref (gB g + 0)] sh h (PE (some (.int r0)) sh h) := by
  refine Ct.of (L := [some (.ref (gB g + 0))]) (by decide) (by intro w hw; simp only [List.mem_cons, List.not_mem_nil, or_false] at hw; rcases hw with rfl <;> rfl) (Nat.le_of_ble_eq_true rfl) rfl (fun X mx => ?_)
  obtain ⟨cx, hR, hml, hrt, -⟩ := mx
  have cx : Cx g X RX6 cX6_violations := cx
  have hrt : X.2.2.2.2.2.2.2.1.sig.returnType = (some .int) := hrt
  unfold C_violations at hf
  refine PW.aload_n cx qX6_violations_0 rfl ?_
  refine PW.getf (t := (2, 1)) (v := .ref (gB g + 1)) cx qX6_violations_1 (sh_0 hx) rfl flX6_12 rfl ?_
  refine PW.callVRI (As := []) (st := []) cx hR qX6_violations_4 klX6_301 mvX1_faults (as_1 hx).1 rfl rfl rfl rfl (Nat.le_of_ble_eq_true rfl) (Nat.le_of_ble_eq_true rfl) (Nat.le_of_ble_eq_true rfl) (Nat.zero_le _) (Nat.zero_le _) hf sne (fun t e => ctX1_faults (as_1 hx) h t e) (fun t1 hf => ?_)
  exact PW.iret cx hrt qX6_violations_7 (le_ri hf)
set_option maxRecDepth 20000 in
theorem ctX6_putSign {g : GT} {ex : Bool} {sh : List Shp} (hx : XSh sh) (h : Hp) (p1 : Int32) (r0 : Hp) (hf : C_putSign h p1 = some r0) : Ct g mX6_putSign 0 0 0 ex [.ref (gB g + 0), .int p1] sh h (PE none sh r0) := by
  refine Ct.of (L := [some (.ref (gB g + 0)), some (.int p1)]) (by decide) (by intro w hw; simp only [List.mem_cons, List.not_mem_nil, or_false] at hw; rcases hw with rfl | rfl <;> rfl) (Nat.le_of_ble_eq_true rfl) rfl (fun X mx => ?_)
  obtain ⟨cx, hR, hml, hrt, -⟩ := mx
  have cx : Cx g X RX6 cX6_putSign := cx
  have hrt : X.2.2.2.2.2.2.2.1.sig.returnType = none := hrt
  unfold C_putSign at hf
  refine PW.aload_n cx qX6_putSign_0 rfl ?_
  refine PW.getf (t := (0, 0)) (v := .int (rd h 0 9)) cx qX6_putSign_1 (sh_0 hx) rfl flX6_304 rfl ?_
  refine PW.bipush (v := 81) cx qX6_putSign_4 rfl ?_
  refine PW.icmp_ge cx qX6_putSign_6 hf (fun hf => ?_) (fun hf => ?_)
  · exact PW.vret cx hrt qX6_putSign_30 (le_wv hf)
  · refine PW.aload_n cx qX6_putSign_9 rfl ?_
    refine PW.getf (t := (2, 51)) (v := .ref (gB g + 51)) cx qX6_putSign_10 (sh_0 hx) rfl flX6_33 rfl ?_
    refine PW.aload_n cx qX6_putSign_13 rfl ?_
    refine PW.getf (t := (0, 0)) (v := .int (rd h 0 9)) cx qX6_putSign_14 (sh_0 hx) rfl flX6_304 rfl ?_
    refine PW.iload_n cx qX6_putSign_17 rfl ?_
    refine PW.i2b cx qX6_putSign_18 ?_
    refine PW.bast cx qX6_putSign_19 (sh_51 hx) hf sne (fun h1 hf => ?_)
    refine PW.aload_n cx qX6_putSign_20 rfl ?_
    refine PW.dup cx qX6_putSign_21 rfl ?_
    refine PW.getf (t := (0, 0)) (v := .int (rd h1 0 9)) cx qX6_putSign_22 (sh_0 hx) rfl flX6_304 rfl ?_
    refine PW.iconst (v := 1) cx qX6_putSign_25 rfl ?_
    refine PW.iadd cx qX6_putSign_26 ?_
    refine PW.putiN cx qX6_putSign_27 (sh_0 hx) rfl fpX6_304 hf (fun h2 hf => ?_)
    exact PW.vret cx hrt qX6_putSign_30 (le_wv hf)
set_option maxRecDepth 20000 in
theorem lX6_reportBed_31 {g : GT} {X : XT} {ex : Bool} {post : Option Value → List Shp → Hp → Prop} {sh : List Shp} (mx : Mx g X mX6_reportBed 1 0 0) (hx : XSh sh) (c1 : Int32) : ∀ (n : Nat) (v2 : Int32) (h : Hp) (r : Hp) (hf : C_reportBed_L31 c1 n v2 h = some r) (kx : ∀ (h1 : Hp), r = h1 → PW g X ex (QE g X ex post 0 0) 0 0 sh h1 66 [some (.ref (gB g + 0)), some (.int c1), none] []), PW g X ex (QE g X ex post 0 0) 0 0 sh h 31 [some (.ref (gB g + 0)), some (.int c1), some (.int v2)] [] := by
  have mx0 := mx
  obtain ⟨cx, hR, hml, hrt, -⟩ := mx0
  have cx : Cx g X RX6 cX6_reportBed := cx
  have hrt : X.2.2.2.2.2.2.2.1.sig.returnType = none := hrt
  have hi2 : 2 < X.2.2.2.2.2.2.2.2.maxLocals := by rw [hml]; exact Nat.le_of_ble_eq_true rfl
  intro n
  induction n with
  | zero =>
    intro v2 h r hf kx
    cases hf
  | succ n ih =>
    intro v2 h r hf kx
    unfold C_reportBed_L31 at hf
    refine PW.iload_n cx qX6_reportBed_31 rfl ?_
    refine PW.aload_n cx qX6_reportBed_32 rfl ?_
    refine PW.getf (t := (2, 1)) (v := .ref (gB g + 1)) cx qX6_reportBed_33 (sh_0 hx) rfl flX6_12 rfl ?_
    refine PW.getf (t := (2, 1 + 1)) (v := .ref (gB g + (1 + 1))) cx qX6_reportBed_36 (as_1 hx).1 rfl flX6_161 rfl ?_
    refine PW.iload_n cx qX6_reportBed_39 rfl ?_
    refine PW.iald cx qX6_reportBed_40 (AS.r1 (as_1 hx)) hf sne (fun t5 hf => ?_)
    refine PW.icmp_ge cx qX6_reportBed_41 hf (fun hf => ?_) (fun hf => ?_)
    · exact PW.locs (Lsub.keep (Lsub.keep (Lsub.drop Lsub.nil))) (kx h (Option.some.inj hf).symm)
    · refine PW.aload_n cx qX6_reportBed_44 rfl ?_
      refine PW.bipush (v := 48) cx qX6_reportBed_45 rfl ?_
      refine PW.aload_n cx qX6_reportBed_47 rfl ?_
      refine PW.getf (t := (2, 1)) (v := .ref (gB g + 1)) cx qX6_reportBed_48 (sh_0 hx) rfl flX6_12 rfl ?_
      refine PW.iload_n cx qX6_reportBed_51 rfl ?_
      refine PW.iload_n cx qX6_reportBed_52 rfl ?_
      refine PW.callVRI (As := [.int c1, .int v2]) (st := [.int 48, .ref (gB g + 0)]) cx hR qX6_reportBed_53 klX6_313 mvX1_colourAt (as_1 hx).1 rfl rfl rfl rfl (Nat.le_of_ble_eq_true rfl) (Nat.le_of_ble_eq_true rfl) (Nat.le_of_ble_eq_true rfl) (Nat.zero_le _) (Nat.zero_le _) hf sne (fun t e => ctX1_colourAt (as_1 hx) h c1 v2 t e) (fun t6 hf => ?_)
      refine PW.iadd cx qX6_reportBed_56 ?_
      refine PW.callVWV (As := [.int (48 + t6)]) (st := []) cx hR qX6_reportBed_57 klX6_307 mvX6_putSign (sh_0 hx) rfl rfl rfl rfl (Nat.le_of_ble_eq_true rfl) (Nat.le_of_ble_eq_true rfl) (Nat.le_of_ble_eq_true rfl) (Nat.zero_le _) (Nat.zero_le _) hf sne (fun t e => ctX6_putSign hx h (48 + t6) t e) (fun h8 hf => ?_)
      refine PW.iinc (v := 1) (L' := [some (.ref (gB g + 0)), some (.int c1), some (.int (v2 + 1))]) cx qX6_reportBed_60 rfl rfl hi2 rfl rfl ?_
      refine PW.goto cx qX6_reportBed_63 ?_
      exact PW.locs (Lsub.keep (Lsub.keep (Lsub.keep Lsub.nil))) (ih (v2 + 1) h8 _ hf kx)
set_option maxRecDepth 20000 in
theorem ctX6_reportBed {g : GT} {ex : Bool} {sh : List Shp} (hx : XSh sh) (h : Hp) (p1 : Int32) (r0 : Hp) (hf : C_reportBed h p1 = some r0) : Ct g mX6_reportBed 1 0 0 ex [.ref (gB g + 0), .int p1] sh h (PE none sh r0) := by
  refine Ct.of (L := [some (.ref (gB g + 0)), some (.int p1), none]) (by decide) (by intro w hw; simp only [List.mem_cons, List.not_mem_nil, or_false] at hw; rcases hw with rfl | rfl <;> rfl) (Nat.le_of_ble_eq_true rfl) rfl (fun X mx => ?_)
  have mx0 := mx
  obtain ⟨cx, hR, hml, hrt, -⟩ := mx0
  have cx : Cx g X RX6 cX6_reportBed := cx
  have hrt : X.2.2.2.2.2.2.2.1.sig.returnType = none := hrt
  have hi2 : 2 < X.2.2.2.2.2.2.2.2.maxLocals := by rw [hml]; exact Nat.le_of_ble_eq_true rfl
  unfold C_reportBed at hf
  refine PW.iload_n cx qX6_reportBed_0 rfl ?_
  refine PW.iconst (v := (-1)) cx qX6_reportBed_1 rfl ?_
  refine PW.icmp_ne cx qX6_reportBed_2 hf (fun hf => ?_) (fun hf => ?_)
  · refine PW.aload_n cx qX6_reportBed_5 rfl ?_
    refine PW.bipush (v := 45) cx qX6_reportBed_6 rfl ?_
    refine PW.callVWV (As := [.int 45]) (st := []) cx hR qX6_reportBed_8 klX6_307 mvX6_putSign (sh_0 hx) rfl rfl rfl rfl (Nat.le_of_ble_eq_true rfl) (Nat.le_of_ble_eq_true rfl) (Nat.le_of_ble_eq_true rfl) (Nat.zero_le _) (Nat.zero_le _) hf sne (fun t e => ctX6_putSign hx h 45 t e) (fun h2 hf => ?_)
    refine PW.goto cx qX6_reportBed_11 ?_
    exact PW.vret cx hrt qX6_reportBed_66 (le_wv hf)
  · refine PW.iload_n cx qX6_reportBed_14 rfl ?_
    refine PW.bipush (v := (-2)) cx qX6_reportBed_15 rfl ?_
    refine PW.icmp_ne cx qX6_reportBed_17 hf (fun hf => ?_) (fun hf => ?_)
    · refine PW.aload_n cx qX6_reportBed_20 rfl ?_
      refine PW.bipush (v := 126) cx qX6_reportBed_21 rfl ?_
      refine PW.callVWV (As := [.int 126]) (st := []) cx hR qX6_reportBed_23 klX6_307 mvX6_putSign (sh_0 hx) rfl rfl rfl rfl (Nat.le_of_ble_eq_true rfl) (Nat.le_of_ble_eq_true rfl) (Nat.le_of_ble_eq_true rfl) (Nat.zero_le _) (Nat.zero_le _) hf sne (fun t e => ctX6_putSign hx h 126 t e) (fun h4 hf => ?_)
      refine PW.goto cx qX6_reportBed_26 ?_
      exact PW.vret cx hrt qX6_reportBed_66 (le_wv hf)
    · refine PW.iconst (v := 0) cx qX6_reportBed_29 rfl ?_
      refine PW.istore_n (L' := [some (.ref (gB g + 0)), some (.int p1), some (.int 0)]) cx qX6_reportBed_30 hi2 rfl rfl ?_
      obtain ⟨r9, er9, hf⟩ := bndO hf sne
      refine PW.locs (Lsub.keep (Lsub.keep (Lsub.keep Lsub.nil))) (lX6_reportBed_31 mx hx p1 FU 0 h r9 er9 (fun xx_ e => ?_))
      subst e
      exact PW.vret cx hrt qX6_reportBed_66 (le_wv hf)
set_option maxRecDepth 20000 in
theorem lX6_writeReel_12 {g : GT} {X : XT} {Q : State → Prop} {cells slots : Nat} {sh : List Shp} (mx : Mx g X mX6_writeReel 10 1 6) (hcs : cells ≤ 1) (hss : slots ≤ 6) (hx : XSh sh) (c1 : Int32) : ∀ (n : Nat) (v2 : Int32) (h : Hp) (r : Hp) (hf : C_writeReel_L12 c1 n v2 h = some r) (kx : ∀ (h1 : Hp), r = h1 → PW g X false Q cells slots sh h1 54 [some (.ref (gB g + 0)), some (.int c1), none] []), PW g X false Q cells slots sh h 12 [some (.ref (gB g + 0)), some (.int c1), some (.int v2)] [] := by
  have mx0 := mx
  obtain ⟨cx, hR, hml, hrt, -⟩ := mx0
  have cx : Cx g X RX6 cX6_writeReel := cx
  have hrt : X.2.2.2.2.2.2.2.1.sig.returnType = (some .int) := hrt
  have hi2 : 2 < X.2.2.2.2.2.2.2.2.maxLocals := by rw [hml]; exact Nat.le_of_ble_eq_true rfl
  intro n
  induction n with
  | zero =>
    intro v2 h r hf kx
    cases hf
  | succ n ih =>
    intro v2 h r hf kx
    unfold C_writeReel_L12 at hf
    refine PW.iload_n cx qX6_writeReel_12 rfl ?_
    refine PW.aload_n cx qX6_writeReel_13 rfl ?_
    refine PW.getf (t := (2, 1)) (v := .ref (gB g + 1)) cx qX6_writeReel_14 (sh_0 hx) rfl flX6_12 rfl ?_
    refine PW.getf (t := (2, 1 + 7)) (v := .ref (gB g + (1 + 7))) cx qX6_writeReel_17 (as_1 hx).1 rfl flX6_239 rfl ?_
    refine PW.iload_n cx qX6_writeReel_20 rfl ?_
    refine PW.iald cx qX6_writeReel_21 (AS.r7 (as_1 hx)) hf sne (fun t4 hf => ?_)
    refine PW.icmp_ge cx qX6_writeReel_22 hf (fun hf => ?_) (fun hf => ?_)
    · exact PW.locs (Lsub.keep (Lsub.keep (Lsub.drop Lsub.nil))) (kx h (Option.some.inj hf).symm)
    · refine PW.iload_n cx qX6_writeReel_25 rfl ?_
      obtain ⟨j35, ej35, hf⟩ := lt_split hf
      have hj35 : ∀ (h_35 : Hp), j35 h_35 = some r → PW g X false Q cells slots sh h_35 35 [some (.ref (gB g + 0)), some (.int c1), some (.int v2)] [] := by
        intro h_35 hf
        rw [ej35] at hf
        refine PW.aload_n cx qX6_writeReel_35 rfl ?_
        refine PW.aload_n cx qX6_writeReel_36 rfl ?_
        refine PW.getf (t := (2, 1)) (v := .ref (gB g + 1)) cx qX6_writeReel_37 (sh_0 hx) rfl flX6_12 rfl ?_
        refine PW.iload_n cx qX6_writeReel_40 rfl ?_
        refine PW.iload_n cx qX6_writeReel_41 rfl ?_
        refine PW.callVRI (As := [.int c1, .int v2]) (st := [.ref (gB g + 0)]) cx hR qX6_writeReel_42 klX6_244 mvX1_inBed (as_1 hx).1 rfl rfl rfl rfl (Nat.le_of_ble_eq_true rfl) (Nat.le_of_ble_eq_true rfl) (Nat.le_of_ble_eq_true rfl) hcs hss hf sne (fun t e => ctX1_inBed (as_1 hx) h_35 c1 v2 t e) (fun t5 hf => ?_)
        refine PW.callVWV (As := [.int t5]) (st := []) cx hR qX6_writeReel_45 klX6_310 mvX6_reportBed (sh_0 hx) rfl rfl rfl rfl (Nat.le_of_ble_eq_true rfl) (Nat.le_of_ble_eq_true rfl) (Nat.le_of_ble_eq_true rfl) hcs hss hf sne (fun t e => ctX6_reportBed hx h_35 t5 t e) (fun h7 hf => ?_)
        refine PW.iinc (v := 1) (L' := [some (.ref (gB g + 0)), some (.int c1), some (.int (v2 + 1))]) cx qX6_writeReel_48 rfl rfl hi2 rfl rfl ?_
        refine PW.goto cx qX6_writeReel_51 ?_
        exact PW.locs (Lsub.keep (Lsub.keep (Lsub.keep Lsub.nil))) (ih (v2 + 1) h7 _ hf kx)
      refine PW.if_le cx qX6_writeReel_26 hf (fun hf => ?_) (fun hf => ?_)
      · exact PW.locs (Lsub.keep (Lsub.keep (Lsub.keep Lsub.nil))) (hj35 h hf)
      · refine PW.aload_n cx qX6_writeReel_29 rfl ?_
        refine PW.bipush (v := 32) cx qX6_writeReel_30 rfl ?_
        refine PW.callVWV (As := [.int 32]) (st := []) cx hR qX6_writeReel_32 klX6_307 mvX6_putSign (sh_0 hx) rfl rfl rfl rfl (Nat.le_of_ble_eq_true rfl) (Nat.le_of_ble_eq_true rfl) (Nat.le_of_ble_eq_true rfl) hcs hss hf sne (fun t e => ctX6_putSign hx h 32 t e) (fun h9 hf => ?_)
        exact PW.locs (Lsub.keep (Lsub.keep (Lsub.keep Lsub.nil))) (hj35 h9 hf)
set_option maxRecDepth 20000 in
theorem ctX6_writeReel {g : GT} {sh : List Shp} (hx : XSh sh) (h : Hp) (p1 : Int32) (r0 : (Nat × Hp) ⊕ (Int32 × Hp)) (hf : C_writeReel h p1 = some r0) : CtX g mX6_writeReel 10 1 6 [.ref (gB g + 0), .int p1] sh h (PX r0 oI (fun v => v.2) sh) (PXx r0 sh) := by
  refine CtX.of (L := [some (.ref (gB g + 0)), some (.int p1), none]) (by decide) (by intro w hw; simp only [List.mem_cons, List.not_mem_nil, or_false] at hw; rcases hw with rfl | rfl <;> rfl) (Nat.le_of_ble_eq_true rfl) rfl (fun X mx hno => ?_)
  have mx0 := mx
  obtain ⟨cx, hR, hml, hrt, -⟩ := mx0
  have cx : Cx g X RX6 cX6_writeReel := cx
  have hrt : X.2.2.2.2.2.2.2.1.sig.returnType = (some .int) := hrt
  have hi2 : 2 < X.2.2.2.2.2.2.2.2.maxLocals := by rw [hml]; exact Nat.le_of_ble_eq_true rfl
  unfold C_writeReel at hf
  refine PW.aload_n cx qX6_writeReel_0 rfl ?_
  refine PW.iload_n cx qX6_writeReel_1 rfl ?_
  refine PW.callTV (As := [.int p1]) (st := []) cx hR hno qX6_writeReel_2 ktX6_119 mvX6_needReel (sh_0 hx) rfl rfl rfl rfl (Nat.le_of_ble_eq_true rfl) (Nat.le_of_ble_eq_true rfl) (Nat.le_of_ble_eq_true rfl) (Nat.le_of_ble_eq_true rfl) (Nat.le_of_ble_eq_true rfl) (Nat.le_refl _) (Nat.le_refl _) hf (fun t e => ctX6_needReel hx h p1 t e) (fun h1 hf => ?_)
  refine PW.aload_n cx qX6_writeReel_5 rfl ?_
  refine PW.iconst (v := 0) cx qX6_writeReel_6 rfl ?_
  refine PW.putiN cx qX6_writeReel_7 (sh_0 hx) rfl fpX6_304 hf (fun h3 hf => ?_)
  refine PW.iconst (v := 0) cx qX6_writeReel_10 rfl ?_
  refine PW.istore_n (L' := [some (.ref (gB g + 0)), some (.int p1), some (.int 0)]) cx qX6_writeReel_11 hi2 rfl rfl ?_
  obtain ⟨r10, er10, hf⟩ := bndO hf sne
  refine PW.locs (Lsub.keep (Lsub.keep (Lsub.keep Lsub.nil))) (lX6_writeReel_12 mx (Nat.le_of_ble_eq_true rfl) (Nat.le_of_ble_eq_true rfl) hx p1 FU 0 h3 r10 er10 (fun xx_ e => ?_))
  subst e
  refine PW.aload_n cx qX6_writeReel_54 rfl ?_
  refine PW.getf (t := (0, 0)) (v := .int (rd r10 0 9)) cx qX6_writeReel_55 (sh_0 hx) rfl flX6_304 rfl ?_
  exact PW.toX (Nat.le_of_ble_eq_true rfl) (Nat.le_of_ble_eq_true rfl) (PW.iret cx hrt qX6_writeReel_58 (le_xi hf))
set_option maxRecDepth 20000 in
theorem ctX6_reportByte {g : GT} {ex : Bool} {sh : List Shp} (hx : XSh sh) (h : Hp) (p1 : Int32) (r0 : Int32) (hf : C_reportByte h p1 = some r0) : Ct g mX6_reportByte 0 0 0 ex [.ref (gB g + 0), .int p1] sh h (PE (some (.int r0)) sh h) := by
  refine Ct.of (L := [some (.ref (gB g + 0)), some (.int p1)]) (by decide) (by intro w hw; simp only [List.mem_cons, List.not_mem_nil, or_false] at hw; rcases hw with rfl | rfl <;> rfl) (Nat.le_of_ble_eq_true rfl) rfl (fun X mx => ?_)
  obtain ⟨cx, hR, hml, hrt, -⟩ := mx
  have cx : Cx g X RX6 cX6_reportByte := cx
  have hrt : X.2.2.2.2.2.2.2.1.sig.returnType = (some .int) := hrt
  unfold C_reportByte at hf
  refine PW.iload_n cx qX6_reportByte_0 rfl ?_
  refine PW.if_lt cx qX6_reportByte_1 hf (fun hf => ?_) (fun hf => ?_)
  · refine PW.iconst (v := (-1)) cx qX6_reportByte_12 rfl ?_
    exact PW.iret cx hrt qX6_reportByte_13 (le_ri hf)
  · refine PW.iload_n cx qX6_reportByte_4 rfl ?_
    refine PW.aload_n cx qX6_reportByte_5 rfl ?_
    refine PW.getf (t := (0, 0)) (v := .int (rd h 0 9)) cx qX6_reportByte_6 (sh_0 hx) rfl flX6_304 rfl ?_
    refine PW.icmp_lt cx qX6_reportByte_9 hf (fun hf => ?_) (fun hf => ?_)
    · refine PW.aload_n cx qX6_reportByte_14 rfl ?_
      refine PW.getf (t := (2, 51)) (v := .ref (gB g + 51)) cx qX6_reportByte_15 (sh_0 hx) rfl flX6_33 rfl ?_
      refine PW.iload_n cx qX6_reportByte_18 rfl ?_
      refine PW.bald cx qX6_reportByte_19 (sh_51 hx) hf sne (fun t1 hf => ?_)
      exact PW.iret cx hrt qX6_reportByte_20 (le_ri hf)
    · refine PW.iconst (v := (-1)) cx qX6_reportByte_12 rfl ?_
      exact PW.iret cx hrt qX6_reportByte_13 (le_ri hf)
