set_option maxRecDepth 20000 in
theorem ctX4_add {g : GT} {ex : Bool} {sh : List Shp} (hx : XSh sh) (h : Hp) (p1 : Int32) (r0 : Hp) (hf : T_add h p1 = some r0) : Ct g mX4_add 0 0 0 ex [.ref (gB g + 47), .int p1] sh h (PE none sh r0) := by
  refine Ct.of (L := [some (.ref (gB g + 47)), some (.int p1)]) (by decide) (by intro w hw; simp only [List.mem_cons, List.not_mem_nil, or_false] at hw; rcases hw with rfl | rfl <;> rfl) (Nat.le_of_ble_eq_true rfl) rfl (fun X mx => ?_)
  obtain ⟨cx, hR, hml, hrt, -⟩ := mx
  have cx : Cx g X RX4 cX4_add := cx
  have hrt : X.2.2.2.2.2.2.2.1.sig.returnType = none := hrt
  unfold T_add at hf
  refine PW.aload_n cx qX4_add_0 rfl ?_
  refine PW.getf (t := (0, 0)) (v := .int (rd h 47 1)) cx qX4_add_1 (sh_47 hx) rfl flX4_38 rfl ?_
  refine PW.sipush (v := 600) cx qX4_add_4 rfl ?_
  refine PW.icmp_ge cx qX4_add_7 hf (fun hf => ?_) (fun hf => ?_)
  · exact PW.vret cx hrt qX4_add_31 (le_wv hf)
  · refine PW.aload_n cx qX4_add_10 rfl ?_
    refine PW.getf (t := (2, 48)) (v := .ref (gB g + 48)) cx qX4_add_11 (sh_47 hx) rfl flX4_9 rfl ?_
    refine PW.aload_n cx qX4_add_14 rfl ?_
    refine PW.getf (t := (0, 0)) (v := .int (rd h 47 1)) cx qX4_add_15 (sh_47 hx) rfl flX4_38 rfl ?_
    refine PW.iload_n cx qX4_add_18 rfl ?_
    refine PW.i2b cx qX4_add_19 ?_
    refine PW.bast cx qX4_add_20 (sh_48 hx) hf sne (fun h1 hf => ?_)
    refine PW.aload_n cx qX4_add_21 rfl ?_
    refine PW.dup cx qX4_add_22 rfl ?_
    refine PW.getf (t := (0, 0)) (v := .int (rd h1 47 1)) cx qX4_add_23 (sh_47 hx) rfl flX4_38 rfl ?_
    refine PW.iconst (v := 1) cx qX4_add_26 rfl ?_
    refine PW.iadd cx qX4_add_27 ?_
    refine PW.putiN cx qX4_add_28 (sh_47 hx) rfl fpX4_38 hf (fun h2 hf => ?_)
    exact PW.vret cx hrt qX4_add_31 (le_wv hf)
set_option maxRecDepth 20000 in
theorem lX4_addSigns_2 {g : GT} {X : XT} {ex : Bool} {post : Option Value → List Shp → Hp → Prop} {sh : List Shp} (mx : Mx g X mX4_addSigns 5 0 0) (hx : XSh sh) (c1 : Int32) : ∀ (n : Nat) (v2 : Int32) (h : Hp) (r : Hp) (hf : T_addSigns_L2 c1 n v2 h = some r) (kx : ∀ (h1 : Hp), r = h1 → PW g X ex (QE g X ex post 0 0) 0 0 sh h1 25 [some (.ref (gB g + 47)), some (.ref (ga g (c1 : Int32).toNatClampNeg)), none] []), PW g X ex (QE g X ex post 0 0) 0 0 sh h 2 [some (.ref (gB g + 47)), some (.ref (ga g (c1 : Int32).toNatClampNeg)), some (.int v2)] [] := by
  have mx0 := mx
  obtain ⟨cx, hR, hml, hrt, -⟩ := mx0
  have cx : Cx g X RX4 cX4_addSigns := cx
  have hrt : X.2.2.2.2.2.2.2.1.sig.returnType = none := hrt
  have hi2 : 2 < X.2.2.2.2.2.2.2.2.maxLocals := by rw [hml]; exact Nat.le_of_ble_eq_true rfl
  intro n
  induction n with
  | zero =>
    intro v2 h r hf kx
    cases hf
  | succ n ih =>
    intro v2 h r hf kx
    unfold T_addSigns_L2 at hf
    refine PW.iload_n cx qX4_addSigns_2 rfl ?_
    refine PW.aload_n cx qX4_addSigns_3 rfl ?_
    refine PW.slen cx hR qX4_addSigns_4 klX4_24 (Nat.le_of_ble_eq_true rfl) (Nat.le_of_ble_eq_true rfl) (Nat.zero_le _) (Nat.zero_le _) hf sne (fun t1 hf => ?_)
    refine PW.icmp_ge cx qX4_addSigns_7 hf (fun hf => ?_) (fun hf => ?_)
    · exact PW.locs (Lsub.keep (Lsub.keep (Lsub.drop Lsub.nil))) (kx h (Option.some.inj hf).symm)
    · refine PW.aload_n cx qX4_addSigns_10 rfl ?_
      refine PW.aload_n cx qX4_addSigns_11 rfl ?_
      refine PW.iload_n cx qX4_addSigns_12 rfl ?_
      refine PW.schar cx hR qX4_addSigns_13 klX4_30 (Nat.le_of_ble_eq_true rfl) (Nat.le_of_ble_eq_true rfl) (Nat.zero_le _) (Nat.zero_le _) hf sne (fun t2 hf => ?_)
      refine PW.callVWV (As := [.int t2]) (st := []) cx hR qX4_addSigns_16 klX4_34 mvX4_add (sh_47 hx) rfl rfl rfl rfl (Nat.le_of_ble_eq_true rfl) (Nat.le_of_ble_eq_true rfl) (Nat.le_of_ble_eq_true rfl) (Nat.zero_le _) (Nat.zero_le _) hf sne (fun t e => ctX4_add hx h t2 t e) (fun h4 hf => ?_)
      refine PW.iinc (v := 1) (L' := [some (.ref (gB g + 47)), some (.ref (ga g (c1 : Int32).toNatClampNeg)), some (.int (v2 + 1))]) cx qX4_addSigns_19 rfl rfl hi2 rfl rfl ?_
      refine PW.goto cx qX4_addSigns_22 ?_
      exact PW.locs (Lsub.keep (Lsub.keep (Lsub.keep Lsub.nil))) (ih (v2 + 1) h4 _ hf kx)
set_option maxRecDepth 20000 in
theorem ctX4_addSigns {g : GT} {ex : Bool} {sh : List Shp} (hx : XSh sh) (h : Hp) (p1 : Int32) (r0 : Hp) (hf : T_addSigns h p1 = some r0) : Ct g mX4_addSigns 5 0 0 ex [.ref (gB g + 47), .ref (ga g (p1 : Int32).toNatClampNeg)] sh h (PE none sh r0) := by
  refine Ct.of (L := [some (.ref (gB g + 47)), some (.ref (ga g (p1 : Int32).toNatClampNeg)), none]) (by decide) (by intro w hw; simp only [List.mem_cons, List.not_mem_nil, or_false] at hw; rcases hw with rfl | rfl <;> rfl) (Nat.le_of_ble_eq_true rfl) rfl (fun X mx => ?_)
  have mx0 := mx
  obtain ⟨cx, hR, hml, hrt, -⟩ := mx0
  have cx : Cx g X RX4 cX4_addSigns := cx
  have hrt : X.2.2.2.2.2.2.2.1.sig.returnType = none := hrt
  have hi2 : 2 < X.2.2.2.2.2.2.2.2.maxLocals := by rw [hml]; exact Nat.le_of_ble_eq_true rfl
  unfold T_addSigns at hf
  refine PW.iconst (v := 0) cx qX4_addSigns_0 rfl ?_
  refine PW.istore_n (L' := [some (.ref (gB g + 47)), some (.ref (ga g (p1 : Int32).toNatClampNeg)), some (.int 0)]) cx qX4_addSigns_1 hi2 rfl rfl ?_
  obtain ⟨r5, er5, hf⟩ := bndO hf sne
  refine PW.locs (Lsub.keep (Lsub.keep (Lsub.keep Lsub.nil))) (lX4_addSigns_2 mx hx p1 FU 0 h r5 er5 (fun xx_ e => ?_))
  subst e
  exact PW.vret cx hrt qX4_addSigns_25 (le_wv hf)
set_option maxRecDepth 20000 in
theorem ctX6_refuseIf {g : GT} {ex : Bool} {sh : List Shp} (hx : XSh sh) (h : Hp) (p1 : Bool) (r0 : Unit) (hf : C_refuseIf p1 = some r0) : Ct g mX6_refuseIf 0 0 0 ex [.ref (gB g + 0), .int (b2i p1)] sh h (PE none sh h) := by
  refine Ct.of (L := [some (.ref (gB g + 0)), some (.int (b2i p1))]) (by decide) (by intro w hw; simp only [List.mem_cons, List.not_mem_nil, or_false] at hw; rcases hw with rfl | rfl <;> rfl) (Nat.le_of_ble_eq_true rfl) rfl (fun X mx => ?_)
  obtain ⟨cx, hR, hml, hrt, -⟩ := mx
  have cx : Cx g X RX6 cX6_refuseIf := cx
  have hrt : X.2.2.2.2.2.2.2.1.sig.returnType = none := hrt
  unfold C_refuseIf at hf
  refine PW.iload_n cx qX6_refuseIf_0 rfl ?_
  refine PW.if_eq cx qX6_refuseIf_1 hf (fun hf => ?_) (fun hf => ?_)
  · exact PW.vret cx hrt qX6_refuseIf_15 (le_rv hf)
  · cases hf
set_option maxRecDepth 20000 in
theorem ctX6_remember {g : GT} {ex : Bool} {sh : List Shp} (hx : XSh sh) (h : Hp) (r0 : Hp) (hf : C_remember h = some r0) : Ct g mX6_remember 2 0 0 ex [.ref (gB g + 0)] sh h (PE none sh r0) := by
  refine Ct.of (L := [some (.ref (gB g + 0)), none]) (by decide) (by intro w hw; simp only [List.mem_cons, List.not_mem_nil, or_false] at hw; rcases hw with rfl <;> rfl) (Nat.le_of_ble_eq_true rfl) rfl (fun X mx => ?_)
  obtain ⟨cx, hR, hml, hrt, -⟩ := mx
  have cx : Cx g X RX6 cX6_remember := cx
  have hrt : X.2.2.2.2.2.2.2.1.sig.returnType = none := hrt
  have hi1 : 1 < X.2.2.2.2.2.2.2.2.maxLocals := by rw [hml]; exact Nat.le_of_ble_eq_true rfl
  unfold C_remember at hf
  refine PW.aload_n cx qX6_remember_0 rfl ?_
  refine PW.getf (t := (2, 34)) (v := .ref (gB g + 34)) cx qX6_remember_1 (sh_0 hx) rfl flX6_22 rfl ?_
  refine PW.aload_n cx qX6_remember_4 rfl ?_
  refine PW.getf (t := (0, 0)) (v := .int (rd h 0 6)) cx qX6_remember_5 (sh_0 hx) rfl flX6_182 rfl ?_
  refine PW.aaldP cx qX6_remember_8 hx hf sne (fun p1 hA_p1 hf => ?_)
  refine PW.astore_n (L' := [some (.ref (gB g + 0)), some (.ref (gB g + p1))]) cx qX6_remember_9 hi1 rfl rfl ?_
  refine PW.aload_n cx qX6_remember_10 rfl ?_
  refine PW.ifnullR cx qX6_remember_11 ?_
  refine PW.aload_n cx qX6_remember_14 rfl ?_
  refine PW.aload_n cx qX6_remember_15 rfl ?_
  refine PW.getf (t := (2, 1)) (v := .ref (gB g + 1)) cx qX6_remember_16 (sh_0 hx) rfl flX6_12 rfl ?_
  refine PW.callVWV (As := [.ref (gB g + 1)]) (st := []) cx hR qX6_remember_19 klX6_55 mvX1_copyFrom (hA_p1).1 rfl rfl rfl rfl (Nat.le_of_ble_eq_true rfl) (Nat.le_of_ble_eq_true rfl) (Nat.le_of_ble_eq_true rfl) (Nat.zero_le _) (Nat.zero_le _) hf sne (fun t e => ctX1_copyFrom hA_p1 (as_1 hx) h t e) (fun h3 hf => ?_)
  refine PW.aload_n cx qX6_remember_22 rfl ?_
  refine PW.aload_n cx qX6_remember_23 rfl ?_
  refine PW.getf (t := (0, 0)) (v := .int (rd h3 0 6)) cx qX6_remember_24 (sh_0 hx) rfl flX6_182 rfl ?_
  refine PW.iconst (v := 1) cx qX6_remember_27 rfl ?_
  refine PW.iadd cx qX6_remember_28 ?_
  refine PW.bipush (v := 8) cx qX6_remember_29 rfl ?_
  refine PW.iremK cx qX6_remember_31 (by decide) ?_
  refine PW.putiN cx qX6_remember_32 (sh_0 hx) rfl fpX6_182 hf (fun h4 hf => ?_)
  refine PW.aload_n cx qX6_remember_35 rfl ?_
  refine PW.aload_n cx qX6_remember_36 rfl ?_
  refine PW.getf (t := (0, 0)) (v := .int (rd h4 0 5)) cx qX6_remember_37 (sh_0 hx) rfl flX6_179 rfl ?_
  refine PW.iconst (v := 1) cx qX6_remember_40 rfl ?_
  refine PW.iadd cx qX6_remember_41 ?_
  refine PW.bipush (v := 8) cx qX6_remember_42 rfl ?_
  refine PW.mmin cx hR qX6_remember_44 klX6_316 (Nat.le_of_ble_eq_true rfl) (Nat.le_of_ble_eq_true rfl) (Nat.zero_le _) (Nat.zero_le _) ?_
  refine PW.putiN cx qX6_remember_47 (sh_0 hx) rfl fpX6_179 hf (fun h5 hf => ?_)
  exact PW.vret cx hrt qX6_remember_50 (le_wv hf)
set_option maxRecDepth 20000 in
theorem ctX6_addClip {g : GT} {ex : Bool} {sh : List Shp} (hx : XSh sh) (h : Hp) (p1 : Int32) (r0 : Int32 × Hp) (hf : C_addClip h p1 = some r0) : Ct g mX6_addClip 3 0 0 ex [.ref (gB g + 0), .int p1] sh h (PE (some (.int r0.1)) sh r0.2) := by
  refine Ct.of (L := [some (.ref (gB g + 0)), some (.int p1)]) (by decide) (by intro w hw; simp only [List.mem_cons, List.not_mem_nil, or_false] at hw; rcases hw with rfl | rfl <;> rfl) (Nat.le_of_ble_eq_true rfl) rfl (fun X mx => ?_)
  obtain ⟨cx, hR, hml, hrt, -⟩ := mx
  have cx : Cx g X RX6 cX6_addClip := cx
  have hrt : X.2.2.2.2.2.2.2.1.sig.returnType = (some .int) := hrt
  unfold C_addClip at hf
  refine PW.iload_n cx qX6_addClip_0 rfl ?_
  refine PW.callSRB (As := [.int p1]) (st := []) cx hR qX6_addClip_1 klX6_82 miX1_areColours rfl rfl (Nat.le_of_ble_eq_true rfl) (Nat.le_of_ble_eq_true rfl) (Nat.le_of_ble_eq_true rfl) (Nat.zero_le _) (Nat.zero_le _) hf sne (fun t e => ctX1_areColours h p1 t e) (fun t1 hf => ?_)
  refine PW.if_ne cx qX6_addClip_4 hf (fun hf => ?_) (fun hf => ?_)
  · cases hf
  · refine PW.aload_n cx qX6_addClip_17 rfl ?_
    refine PW.aload_n cx qX6_addClip_18 rfl ?_
    refine PW.getf (t := (2, 1)) (v := .ref (gB g + 1)) cx qX6_addClip_19 (sh_0 hx) rfl flX6_12 rfl ?_
    refine PW.callVRB (As := []) (st := [.ref (gB g + 0)]) cx hR qX6_addClip_22 klX6_88 mvX1_hasRoomForClip (as_1 hx).1 rfl rfl rfl rfl (Nat.le_of_ble_eq_true rfl) (Nat.le_of_ble_eq_true rfl) (Nat.le_of_ble_eq_true rfl) (Nat.zero_le _) (Nat.zero_le _) hf sne (fun t e => ctX1_hasRoomForClip (as_1 hx) h t e) (fun t2 hf => ?_)
    obtain ⟨j33, ej33, hf⟩ := lt_split hf
    have hj33 : ∀ (z0_33 : Bool), j33 z0_33 = some r0 → PW g X ex (QE g X ex (PE (some (.int r0.1)) sh r0.2) 0 0) 0 0 sh h 33 [some (.ref (gB g + 0)), some (.int p1)] [.int (b2i z0_33), .ref (gB g + 0)] := by
      intro z0_33 hf
      rw [ej33] at hf
      refine PW.callVRV (As := [.int (b2i z0_33)]) (st := []) cx hR qX6_addClip_33 klX6_92 mvX6_refuseIf (sh_0 hx) rfl rfl rfl rfl (Nat.le_of_ble_eq_true rfl) (Nat.le_of_ble_eq_true rfl) (Nat.le_of_ble_eq_true rfl) (Nat.zero_le _) (Nat.zero_le _) hf sne (fun t e => ctX6_refuseIf hx h z0_33 t e) (fun _ hf => ?_)
      refine PW.aload_n cx qX6_addClip_36 rfl ?_
      refine PW.callVWV (As := []) (st := []) cx hR qX6_addClip_37 klX6_76 mvX6_remember (sh_0 hx) rfl rfl rfl rfl (Nat.le_of_ble_eq_true rfl) (Nat.le_of_ble_eq_true rfl) (Nat.le_of_ble_eq_true rfl) (Nat.zero_le _) (Nat.zero_le _) hf sne (fun t e => ctX6_remember hx h t e) (fun h5 hf => ?_)
      refine PW.aload_n cx qX6_addClip_40 rfl ?_
      refine PW.getf (t := (2, 1)) (v := .ref (gB g + 1)) cx qX6_addClip_41 (sh_0 hx) rfl flX6_12 rfl ?_
      refine PW.iload_n cx qX6_addClip_44 rfl ?_
      refine PW.callVWIc (As := [.int p1]) (st := []) cx hR qX6_addClip_45 klX6_96 mvX1_putClip (as_1 hx).1 rfl rfl rfl rfl (Nat.le_of_ble_eq_true rfl) (Nat.le_of_ble_eq_true rfl) (Nat.le_of_ble_eq_true rfl) (Nat.zero_le _) (Nat.zero_le _) hf sne (fun t e => ctX1_putClip (as_1 hx) h5 p1 t e) (fun t6 h7 hf => ?_)
      exact PW.iret cx hrt qX6_addClip_48 (le_wi hf)
    refine PW.if_ne cx qX6_addClip_25 hf (fun hf => ?_) (fun hf => ?_)
    · refine PW.iconst (v := 1) cx qX6_addClip_28 rfl ?_
      refine PW.goto cx qX6_addClip_29 ?_
      exact PW.locs (Lsub.keep (Lsub.keep Lsub.nil)) (hj33 true hf)
    · refine PW.iconst (v := 0) cx qX6_addClip_32 rfl ?_
      exact PW.locs (Lsub.keep (Lsub.keep Lsub.nil)) (hj33 false hf)
set_option maxRecDepth 20000 in
theorem ctX6_needRange {g : GT} {ex : Bool} {sh : List Shp} (hx : XSh sh) (h : Hp) (p1 : Int32) (p2 : Int32) (p3 : Int32) (r0 : Unit) (hf : C_needRange p1 p2 p3 = some r0) : Ct g mX6_needRange 0 0 0 ex [.ref (gB g + 0), .int p1, .int p2, .int p3] sh h (PE none sh h) := by
  refine Ct.of (L := [some (.ref (gB g + 0)), some (.int p1), some (.int p2), some (.int p3)]) (by decide) (by intro w hw; simp only [List.mem_cons, List.not_mem_nil, or_false] at hw; rcases hw with rfl | rfl | rfl | rfl <;> rfl) (Nat.le_of_ble_eq_true rfl) rfl (fun X mx => ?_)
  obtain ⟨cx, hR, hml, hrt, -⟩ := mx
  have cx : Cx g X RX6 cX6_needRange := cx
  have hrt : X.2.2.2.2.2.2.2.1.sig.returnType = none := hrt
  unfold C_needRange at hf
  refine PW.iload_n cx qX6_needRange_0 rfl ?_
  refine PW.iload_n cx qX6_needRange_1 rfl ?_
  refine PW.icmp_lt cx qX6_needRange_2 hf (fun hf => ?_) (fun hf => ?_)
  · cases hf
  · refine PW.iload_n cx qX6_needRange_5 rfl ?_
    refine PW.iload_n cx qX6_needRange_6 rfl ?_
    refine PW.icmp_le cx qX6_needRange_7 hf (fun hf => ?_) (fun hf => ?_)
    · exact PW.vret cx hrt qX6_needRange_21 (le_rv hf)
    · cases hf
set_option maxRecDepth 20000 in
theorem ctX6_addReel {g : GT} {ex : Bool} {sh : List Shp} (hx : XSh sh) (h : Hp) (p1 : Int32) (r0 : Int32 × Hp) (hf : C_addReel h p1 = some r0) : Ct g mX6_addReel 3 0 0 ex [.ref (gB g + 0), .int p1] sh h (PE (some (.int r0.1)) sh r0.2) := by
  refine Ct.of (L := [some (.ref (gB g + 0)), some (.int p1)]) (by decide) (by intro w hw; simp only [List.mem_cons, List.not_mem_nil, or_false] at hw; rcases hw with rfl | rfl <;> rfl) (Nat.le_of_ble_eq_true rfl) rfl (fun X mx => ?_)
  obtain ⟨cx, hR, hml, hrt, -⟩ := mx
  have cx : Cx g X RX6 cX6_addReel := cx
  have hrt : X.2.2.2.2.2.2.2.1.sig.returnType = (some .int) := hrt
  unfold C_addReel at hf
  refine PW.aload_n cx qX6_addReel_0 rfl ?_
  refine PW.iload_n cx qX6_addReel_1 rfl ?_
  refine PW.iconst (v := 1) cx qX6_addReel_2 rfl ?_
  refine PW.bipush (v := 9) cx qX6_addReel_3 rfl ?_
  refine PW.callVRV (As := [.int p1, .int 1, .int 9]) (st := []) cx hR qX6_addReel_5 klX6_100 mvX6_needRange (sh_0 hx) rfl rfl rfl rfl (Nat.le_of_ble_eq_true rfl) (Nat.le_of_ble_eq_true rfl) (Nat.le_of_ble_eq_true rfl) (Nat.zero_le _) (Nat.zero_le _) hf sne (fun t e => ctX6_needRange hx h p1 1 9 t e) (fun _ hf => ?_)
  refine PW.aload_n cx qX6_addReel_8 rfl ?_
  refine PW.aload_n cx qX6_addReel_9 rfl ?_
  refine PW.getf (t := (2, 1)) (v := .ref (gB g + 1)) cx qX6_addReel_10 (sh_0 hx) rfl flX6_12 rfl ?_
  refine PW.callVRB (As := []) (st := [.ref (gB g + 0)]) cx hR qX6_addReel_13 klX6_104 mvX1_hasRoomForReel (as_1 hx).1 rfl rfl rfl rfl (Nat.le_of_ble_eq_true rfl) (Nat.le_of_ble_eq_true rfl) (Nat.le_of_ble_eq_true rfl) (Nat.zero_le _) (Nat.zero_le _) hf sne (fun t e => ctX1_hasRoomForReel (as_1 hx) h t e) (fun t2 hf => ?_)
  obtain ⟨j24, ej24, hf⟩ := lt_split hf
  have hj24 : ∀ (z0_24 : Bool), j24 z0_24 = some r0 → PW g X ex (QE g X ex (PE (some (.int r0.1)) sh r0.2) 0 0) 0 0 sh h 24 [some (.ref (gB g + 0)), some (.int p1)] [.int (b2i z0_24), .ref (gB g + 0)] := by
    intro z0_24 hf
    rw [ej24] at hf
    refine PW.callVRV (As := [.int (b2i z0_24)]) (st := []) cx hR qX6_addReel_24 klX6_92 mvX6_refuseIf (sh_0 hx) rfl rfl rfl rfl (Nat.le_of_ble_eq_true rfl) (Nat.le_of_ble_eq_true rfl) (Nat.le_of_ble_eq_true rfl) (Nat.zero_le _) (Nat.zero_le _) hf sne (fun t e => ctX6_refuseIf hx h z0_24 t e) (fun _ hf => ?_)
    refine PW.aload_n cx qX6_addReel_27 rfl ?_
    refine PW.callVWV (As := []) (st := []) cx hR qX6_addReel_28 klX6_76 mvX6_remember (sh_0 hx) rfl rfl rfl rfl (Nat.le_of_ble_eq_true rfl) (Nat.le_of_ble_eq_true rfl) (Nat.le_of_ble_eq_true rfl) (Nat.zero_le _) (Nat.zero_le _) hf sne (fun t e => ctX6_remember hx h t e) (fun h5 hf => ?_)
    refine PW.aload_n cx qX6_addReel_31 rfl ?_
    refine PW.getf (t := (2, 1)) (v := .ref (gB g + 1)) cx qX6_addReel_32 (sh_0 hx) rfl flX6_12 rfl ?_
    refine PW.iload_n cx qX6_addReel_35 rfl ?_
    refine PW.callVWIc (As := [.int p1]) (st := []) cx hR qX6_addReel_36 klX6_107 mvX1_putReel (as_1 hx).1 rfl rfl rfl rfl (Nat.le_of_ble_eq_true rfl) (Nat.le_of_ble_eq_true rfl) (Nat.le_of_ble_eq_true rfl) (Nat.zero_le _) (Nat.zero_le _) hf sne (fun t e => ctX1_putReel (as_1 hx) h5 p1 t e) (fun t6 h7 hf => ?_)
    exact PW.iret cx hrt qX6_addReel_39 (le_wi hf)
  refine PW.if_ne cx qX6_addReel_16 hf (fun hf => ?_) (fun hf => ?_)
  · refine PW.iconst (v := 1) cx qX6_addReel_19 rfl ?_
    refine PW.goto cx qX6_addReel_20 ?_
    exact PW.locs (Lsub.keep (Lsub.keep Lsub.nil)) (hj24 true hf)
  · refine PW.iconst (v := 0) cx qX6_addReel_23 rfl ?_
    exact PW.locs (Lsub.keep (Lsub.keep Lsub.nil)) (hj24 false hf)
set_option maxRecDepth 20000 in
theorem ctX6_addScene {g : GT} {ex : Bool} {sh : List Shp} (hx : XSh sh) (h : Hp) (p1 : Int32) (r0 : Int32 × Hp) (hf : C_addScene h p1 = some r0) : Ct g mX6_addScene 3 0 0 ex [.ref (gB g + 0), .int p1] sh h (PE (some (.int r0.1)) sh r0.2) := by
  refine Ct.of (L := [some (.ref (gB g + 0)), some (.int p1)]) (by decide) (by intro w hw; simp only [List.mem_cons, List.not_mem_nil, or_false] at hw; rcases hw with rfl | rfl <;> rfl) (Nat.le_of_ble_eq_true rfl) rfl (fun X mx => ?_)
  obtain ⟨cx, hR, hml, hrt, -⟩ := mx
  have cx : Cx g X RX6 cX6_addScene := cx
  have hrt : X.2.2.2.2.2.2.2.1.sig.returnType = (some .int) := hrt
  unfold C_addScene at hf
  refine PW.aload_n cx qX6_addScene_0 rfl ?_
  refine PW.iload_n cx qX6_addScene_1 rfl ?_
  refine PW.iconst (v := 1) cx qX6_addScene_2 rfl ?_
  refine PW.bipush (v := 9) cx qX6_addScene_3 rfl ?_
  refine PW.callVRV (As := [.int p1, .int 1, .int 9]) (st := []) cx hR qX6_addScene_5 klX6_100 mvX6_needRange (sh_0 hx) rfl rfl rfl rfl (Nat.le_of_ble_eq_true rfl) (Nat.le_of_ble_eq_true rfl) (Nat.le_of_ble_eq_true rfl) (Nat.zero_le _) (Nat.zero_le _) hf sne (fun t e => ctX6_needRange hx h p1 1 9 t e) (fun _ hf => ?_)
  refine PW.aload_n cx qX6_addScene_8 rfl ?_
  refine PW.aload_n cx qX6_addScene_9 rfl ?_
  refine PW.getf (t := (2, 1)) (v := .ref (gB g + 1)) cx qX6_addScene_10 (sh_0 hx) rfl flX6_12 rfl ?_
  refine PW.callVRB (As := []) (st := [.ref (gB g + 0)]) cx hR qX6_addScene_13 klX6_110 mvX1_hasRoomForScene (as_1 hx).1 rfl rfl rfl rfl (Nat.le_of_ble_eq_true rfl) (Nat.le_of_ble_eq_true rfl) (Nat.le_of_ble_eq_true rfl) (Nat.zero_le _) (Nat.zero_le _) hf sne (fun t e => ctX1_hasRoomForScene (as_1 hx) h t e) (fun t2 hf => ?_)
  obtain ⟨j24, ej24, hf⟩ := lt_split hf
  have hj24 : ∀ (z0_24 : Bool), j24 z0_24 = some r0 → PW g X ex (QE g X ex (PE (some (.int r0.1)) sh r0.2) 0 0) 0 0 sh h 24 [some (.ref (gB g + 0)), some (.int p1)] [.int (b2i z0_24), .ref (gB g + 0)] := by
    intro z0_24 hf
    rw [ej24] at hf
    refine PW.callVRV (As := [.int (b2i z0_24)]) (st := []) cx hR qX6_addScene_24 klX6_92 mvX6_refuseIf (sh_0 hx) rfl rfl rfl rfl (Nat.le_of_ble_eq_true rfl) (Nat.le_of_ble_eq_true rfl) (Nat.le_of_ble_eq_true rfl) (Nat.zero_le _) (Nat.zero_le _) hf sne (fun t e => ctX6_refuseIf hx h z0_24 t e) (fun _ hf => ?_)
    refine PW.aload_n cx qX6_addScene_27 rfl ?_
    refine PW.callVWV (As := []) (st := []) cx hR qX6_addScene_28 klX6_76 mvX6_remember (sh_0 hx) rfl rfl rfl rfl (Nat.le_of_ble_eq_true rfl) (Nat.le_of_ble_eq_true rfl) (Nat.le_of_ble_eq_true rfl) (Nat.zero_le _) (Nat.zero_le _) hf sne (fun t e => ctX6_remember hx h t e) (fun h5 hf => ?_)
    refine PW.aload_n cx qX6_addScene_31 rfl ?_
    refine PW.getf (t := (2, 1)) (v := .ref (gB g + 1)) cx qX6_addScene_32 (sh_0 hx) rfl flX6_12 rfl ?_
    refine PW.iload_n cx qX6_addScene_35 rfl ?_
    refine PW.callVWIc (As := [.int p1]) (st := []) cx hR qX6_addScene_36 klX6_113 mvX1_putScene (as_1 hx).1 rfl rfl rfl rfl (Nat.le_of_ble_eq_true rfl) (Nat.le_of_ble_eq_true rfl) (Nat.le_of_ble_eq_true rfl) (Nat.zero_le _) (Nat.zero_le _) hf sne (fun t e => ctX1_putScene (as_1 hx) h5 p1 t e) (fun t6 h7 hf => ?_)
    exact PW.iret cx hrt qX6_addScene_39 (le_wi hf)
  refine PW.if_ne cx qX6_addScene_16 hf (fun hf => ?_) (fun hf => ?_)
  · refine PW.iconst (v := 1) cx qX6_addScene_19 rfl ?_
    refine PW.goto cx qX6_addScene_20 ?_
    exact PW.locs (Lsub.keep (Lsub.keep Lsub.nil)) (hj24 true hf)
  · refine PW.iconst (v := 0) cx qX6_addScene_23 rfl ?_
    exact PW.locs (Lsub.keep (Lsub.keep Lsub.nil)) (hj24 false hf)
set_option maxRecDepth 20000 in
theorem ctX6_needClip {g : GT} {ex : Bool} {sh : List Shp} (hx : XSh sh) (h : Hp) (p1 : Int32) (r0 : Unit) (hf : C_needClip h p1 = some r0) : Ct g mX6_needClip 0 0 0 ex [.ref (gB g + 0), .int p1] sh h (PE none sh h) := by
  refine Ct.of (L := [some (.ref (gB g + 0)), some (.int p1)]) (by decide) (by intro w hw; simp only [List.mem_cons, List.not_mem_nil, or_false] at hw; rcases hw with rfl | rfl <;> rfl) (Nat.le_of_ble_eq_true rfl) rfl (fun X mx => ?_)
  obtain ⟨cx, hR, hml, hrt, -⟩ := mx
  have cx : Cx g X RX6 cX6_needClip := cx
  have hrt : X.2.2.2.2.2.2.2.1.sig.returnType = none := hrt
  unfold C_needClip at hf
  refine PW.iload_n cx qX6_needClip_0 rfl ?_
  refine PW.if_lt cx qX6_needClip_1 hf (fun hf => ?_) (fun hf => ?_)
  · cases hf
  · refine PW.iload_n cx qX6_needClip_4 rfl ?_
    refine PW.aload_n cx qX6_needClip_5 rfl ?_
    refine PW.getf (t := (2, 1)) (v := .ref (gB g + 1)) cx qX6_needClip_6 (sh_0 hx) rfl flX6_12 rfl ?_
    refine PW.getf (t := (0, 0)) (v := .int (rd h 1 5)) cx qX6_needClip_9 (as_1 hx).1 rfl flX6_79 rfl ?_
    refine PW.icmp_lt cx qX6_needClip_12 hf (fun hf => ?_) (fun hf => ?_)
    · exact PW.vret cx hrt qX6_needClip_26 (le_rv hf)
    · cases hf
set_option maxRecDepth 20000 in
theorem ctX6_needReel {g : GT} {ex : Bool} {sh : List Shp} (hx : XSh sh) (h : Hp) (p1 : Int32) (r0 : Unit) (hf : C_needReel h p1 = some r0) : Ct g mX6_needReel 0 0 0 ex [.ref (gB g + 0), .int p1] sh h (PE none sh h) := by
  refine Ct.of (L := [some (.ref (gB g + 0)), some (.int p1)]) (by decide) (by intro w hw; simp only [List.mem_cons, List.not_mem_nil, or_false] at hw; rcases hw with rfl | rfl <;> rfl) (Nat.le_of_ble_eq_true rfl) rfl (fun X mx => ?_)
  obtain ⟨cx, hR, hml, hrt, -⟩ := mx
  have cx : Cx g X RX6 cX6_needReel := cx
  have hrt : X.2.2.2.2.2.2.2.1.sig.returnType = none := hrt
  unfold C_needReel at hf
  refine PW.iload_n cx qX6_needReel_0 rfl ?_
  refine PW.if_lt cx qX6_needReel_1 hf (fun hf => ?_) (fun hf => ?_)
  · cases hf
  · refine PW.iload_n cx qX6_needReel_4 rfl ?_
    refine PW.aload_n cx qX6_needReel_5 rfl ?_
    refine PW.getf (t := (2, 1)) (v := .ref (gB g + 1)) cx qX6_needReel_6 (sh_0 hx) rfl flX6_12 rfl ?_
    refine PW.getf (t := (0, 0)) (v := .int (rd h 1 12)) cx qX6_needReel_9 (as_1 hx).1 rfl flX6_203 rfl ?_
    refine PW.icmp_lt cx qX6_needReel_12 hf (fun hf => ?_) (fun hf => ?_)
    · exact PW.vret cx hrt qX6_needReel_26 (le_rv hf)
    · cases hf
set_option maxRecDepth 20000 in
theorem ctX6_sleep {g : GT} {ex : Bool} {sh : List Shp} (hx : XSh sh) (h : Hp) (p1 : Int32) (p2 : Int32) (r0 : Int32 × Hp) (hf : C_sleep h p1 p2 = some r0) : Ct g mX6_sleep 3 0 0 ex [.ref (gB g + 0), .int p1, .int p2] sh h (PE (some (.int r0.1)) sh r0.2) := by
  refine Ct.of (L := [some (.ref (gB g + 0)), some (.int p1), some (.int p2)]) (by decide) (by intro w hw; simp only [List.mem_cons, List.not_mem_nil, or_false] at hw; rcases hw with rfl | rfl | rfl <;> rfl) (Nat.le_of_ble_eq_true rfl) rfl (fun X mx => ?_)
  obtain ⟨cx, hR, hml, hrt, -⟩ := mx
  have cx : Cx g X RX6 cX6_sleep := cx
  have hrt : X.2.2.2.2.2.2.2.1.sig.returnType = (some .int) := hrt
  unfold C_sleep at hf
  refine PW.aload_n cx qX6_sleep_0 rfl ?_
  refine PW.iload_n cx qX6_sleep_1 rfl ?_
  refine PW.callVRV (As := [.int p1]) (st := []) cx hR qX6_sleep_2 klX6_116 mvX6_needClip (sh_0 hx) rfl rfl rfl rfl (Nat.le_of_ble_eq_true rfl) (Nat.le_of_ble_eq_true rfl) (Nat.le_of_ble_eq_true rfl) (Nat.zero_le _) (Nat.zero_le _) hf sne (fun t e => ctX6_needClip hx h p1 t e) (fun _ hf => ?_)
  refine PW.aload_n cx qX6_sleep_5 rfl ?_
  refine PW.iload_n cx qX6_sleep_6 rfl ?_
  refine PW.callVRV (As := [.int p2]) (st := []) cx hR qX6_sleep_7 klX6_119 mvX6_needReel (sh_0 hx) rfl rfl rfl rfl (Nat.le_of_ble_eq_true rfl) (Nat.le_of_ble_eq_true rfl) (Nat.le_of_ble_eq_true rfl) (Nat.zero_le _) (Nat.zero_le _) hf sne (fun t e => ctX6_needReel hx h p2 t e) (fun _ hf => ?_)
  refine PW.aload_n cx qX6_sleep_10 rfl ?_
  refine PW.aload_n cx qX6_sleep_11 rfl ?_
  refine PW.getf (t := (2, 1)) (v := .ref (gB g + 1)) cx qX6_sleep_12 (sh_0 hx) rfl flX6_12 rfl ?_
  refine PW.iload_n cx qX6_sleep_15 rfl ?_
  refine PW.iload_n cx qX6_sleep_16 rfl ?_
  refine PW.callVRI (As := [.int p1, .int p2]) (st := [.ref (gB g + 0)]) cx hR qX6_sleep_17 klX6_122 mvX1_refusal (as_1 hx).1 rfl rfl rfl rfl (Nat.le_of_ble_eq_true rfl) (Nat.le_of_ble_eq_true rfl) (Nat.le_of_ble_eq_true rfl) (Nat.zero_le _) (Nat.zero_le _) hf sne (fun t e => ctX1_refusal (as_1 hx) h p1 p2 t e) (fun t3 hf => ?_)
  obtain ⟨j28, ej28, hf⟩ := lt_split hf
  have hj28 : ∀ (z0_28 : Bool), j28 z0_28 = some r0 → PW g X ex (QE g X ex (PE (some (.int r0.1)) sh r0.2) 0 0) 0 0 sh h 28 [some (.ref (gB g + 0)), some (.int p1), some (.int p2)] [.int (b2i z0_28), .ref (gB g + 0)] := by
    intro z0_28 hf
    rw [ej28] at hf
    refine PW.callVRV (As := [.int (b2i z0_28)]) (st := []) cx hR qX6_sleep_28 klX6_92 mvX6_refuseIf (sh_0 hx) rfl rfl rfl rfl (Nat.le_of_ble_eq_true rfl) (Nat.le_of_ble_eq_true rfl) (Nat.le_of_ble_eq_true rfl) (Nat.zero_le _) (Nat.zero_le _) hf sne (fun t e => ctX6_refuseIf hx h z0_28 t e) (fun _ hf => ?_)
    refine PW.aload_n cx qX6_sleep_31 rfl ?_
    refine PW.callVWV (As := []) (st := []) cx hR qX6_sleep_32 klX6_76 mvX6_remember (sh_0 hx) rfl rfl rfl rfl (Nat.le_of_ble_eq_true rfl) (Nat.le_of_ble_eq_true rfl) (Nat.le_of_ble_eq_true rfl) (Nat.zero_le _) (Nat.zero_le _) hf sne (fun t e => ctX6_remember hx h t e) (fun h6 hf => ?_)
    refine PW.aload_n cx qX6_sleep_35 rfl ?_
    refine PW.getf (t := (2, 1)) (v := .ref (gB g + 1)) cx qX6_sleep_36 (sh_0 hx) rfl flX6_12 rfl ?_
    refine PW.iload_n cx qX6_sleep_39 rfl ?_
    refine PW.iload_n cx qX6_sleep_40 rfl ?_
    refine PW.callVWIc (As := [.int p1, .int p2]) (st := []) cx hR qX6_sleep_41 klX6_126 mvX1_layDown (as_1 hx).1 rfl rfl rfl rfl (Nat.le_of_ble_eq_true rfl) (Nat.le_of_ble_eq_true rfl) (Nat.le_of_ble_eq_true rfl) (Nat.zero_le _) (Nat.zero_le _) hf sne (fun t e => ctX1_layDown (as_1 hx) h6 p1 p2 t e) (fun t7 h8 hf => ?_)
    exact PW.iret cx hrt qX6_sleep_44 (le_wi hf)
  refine PW.if_eq cx qX6_sleep_20 hf (fun hf => ?_) (fun hf => ?_)
  · refine PW.iconst (v := 0) cx qX6_sleep_27 rfl ?_
    exact PW.locs (Lsub.keep (Lsub.keep (Lsub.keep Lsub.nil))) (hj28 false hf)
  · refine PW.iconst (v := 1) cx qX6_sleep_23 rfl ?_
    refine PW.goto cx qX6_sleep_24 ?_
    exact PW.locs (Lsub.keep (Lsub.keep (Lsub.keep Lsub.nil))) (hj28 true hf)
set_option maxRecDepth 20000 in
theorem ctX6_wake {g : GT} {ex : Bool} {sh : List Shp} (hx : XSh sh) (h : Hp) (p1 : Int32) (r0 : Int32 × Hp) (hf : C_wake h p1 = some r0) : Ct g mX6_wake 3 0 0 ex [.ref (gB g + 0), .int p1] sh h (PE (some (.int r0.1)) sh r0.2) := by
  refine Ct.of (L := [some (.ref (gB g + 0)), some (.int p1)]) (by decide) (by intro w hw; simp only [List.mem_cons, List.not_mem_nil, or_false] at hw; rcases hw with rfl | rfl <;> rfl) (Nat.le_of_ble_eq_true rfl) rfl (fun X mx => ?_)
  obtain ⟨cx, hR, hml, hrt, -⟩ := mx
  have cx : Cx g X RX6 cX6_wake := cx
  have hrt : X.2.2.2.2.2.2.2.1.sig.returnType = (some .int) := hrt
  unfold C_wake at hf
  refine PW.aload_n cx qX6_wake_0 rfl ?_
  refine PW.iload_n cx qX6_wake_1 rfl ?_
  refine PW.callVRV (As := [.int p1]) (st := []) cx hR qX6_wake_2 klX6_116 mvX6_needClip (sh_0 hx) rfl rfl rfl rfl (Nat.le_of_ble_eq_true rfl) (Nat.le_of_ble_eq_true rfl) (Nat.le_of_ble_eq_true rfl) (Nat.zero_le _) (Nat.zero_le _) hf sne (fun t e => ctX6_needClip hx h p1 t e) (fun _ hf => ?_)
  refine PW.aload_n cx qX6_wake_5 rfl ?_
  refine PW.aload_n cx qX6_wake_6 rfl ?_
  refine PW.getf (t := (2, 1)) (v := .ref (gB g + 1)) cx qX6_wake_7 (sh_0 hx) rfl flX6_12 rfl ?_
  refine PW.getf (t := (2, 1 + 4)) (v := .ref (gB g + (1 + 4))) cx qX6_wake_10 (as_1 hx).1 rfl flX6_129 rfl ?_
  refine PW.iload_n cx qX6_wake_13 rfl ?_
  refine PW.iald cx qX6_wake_14 (AS.r4 (as_1 hx)) hf sne (fun t2 hf => ?_)
  refine PW.iconst (v := 1) cx qX6_wake_15 rfl ?_
  obtain ⟨j24, ej24, hf⟩ := lt_split hf
  have hj24 : ∀ (z0_24 : Bool), j24 z0_24 = some r0 → PW g X ex (QE g X ex (PE (some (.int r0.1)) sh r0.2) 0 0) 0 0 sh h 24 [some (.ref (gB g + 0)), some (.int p1)] [.int (b2i z0_24), .ref (gB g + 0)] := by
    intro z0_24 hf
    rw [ej24] at hf
    refine PW.callVRV (As := [.int (b2i z0_24)]) (st := []) cx hR qX6_wake_24 klX6_92 mvX6_refuseIf (sh_0 hx) rfl rfl rfl rfl (Nat.le_of_ble_eq_true rfl) (Nat.le_of_ble_eq_true rfl) (Nat.le_of_ble_eq_true rfl) (Nat.zero_le _) (Nat.zero_le _) hf sne (fun t e => ctX6_refuseIf hx h z0_24 t e) (fun _ hf => ?_)
    refine PW.aload_n cx qX6_wake_27 rfl ?_
    refine PW.callVWV (As := []) (st := []) cx hR qX6_wake_28 klX6_76 mvX6_remember (sh_0 hx) rfl rfl rfl rfl (Nat.le_of_ble_eq_true rfl) (Nat.le_of_ble_eq_true rfl) (Nat.le_of_ble_eq_true rfl) (Nat.zero_le _) (Nat.zero_le _) hf sne (fun t e => ctX6_remember hx h t e) (fun h5 hf => ?_)
    refine PW.aload_n cx qX6_wake_31 rfl ?_
    refine PW.getf (t := (2, 1)) (v := .ref (gB g + 1)) cx qX6_wake_32 (sh_0 hx) rfl flX6_12 rfl ?_
    refine PW.iload_n cx qX6_wake_35 rfl ?_
    refine PW.callVWIc (As := [.int p1]) (st := []) cx hR qX6_wake_36 klX6_133 mvX1_rouse (as_1 hx).1 rfl rfl rfl rfl (Nat.le_of_ble_eq_true rfl) (Nat.le_of_ble_eq_true rfl) (Nat.le_of_ble_eq_true rfl) (Nat.zero_le _) (Nat.zero_le _) hf sne (fun t e => ctX1_rouse (as_1 hx) h5 p1 t e) (fun t6 h7 hf => ?_)
    exact PW.iret cx hrt qX6_wake_39 (le_wi hf)
  refine PW.icmp_eq cx qX6_wake_16 hf (fun hf => ?_) (fun hf => ?_)
  · refine PW.iconst (v := 0) cx qX6_wake_23 rfl ?_
    exact PW.locs (Lsub.keep (Lsub.keep Lsub.nil)) (hj24 false hf)
  · refine PW.iconst (v := 1) cx qX6_wake_19 rfl ?_
    refine PW.goto cx qX6_wake_20 ?_
    exact PW.locs (Lsub.keep (Lsub.keep Lsub.nil)) (hj24 true hf)
set_option maxRecDepth 20000 in
theorem ctX6_needScene {g : GT} {ex : Bool} {sh : List Shp} (hx : XSh sh) (h : Hp) (p1 : Int32) (r0 : Unit) (hf : C_needScene h p1 = some r0) : Ct g mX6_needScene 0 0 0 ex [.ref (gB g + 0), .int p1] sh h (PE none sh h) := by
  refine Ct.of (L := [some (.ref (gB g + 0)), some (.int p1)]) (by decide) (by intro w hw; simp only [List.mem_cons, List.not_mem_nil, or_false] at hw; rcases hw with rfl | rfl <;> rfl) (Nat.le_of_ble_eq_true rfl) rfl (fun X mx => ?_)
  obtain ⟨cx, hR, hml, hrt, -⟩ := mx
  have cx : Cx g X RX6 cX6_needScene := cx
  have hrt : X.2.2.2.2.2.2.2.1.sig.returnType = none := hrt
  unfold C_needScene at hf
  refine PW.iload_n cx qX6_needScene_0 rfl ?_
  refine PW.if_lt cx qX6_needScene_1 hf (fun hf => ?_) (fun hf => ?_)
  · cases hf
  · refine PW.iload_n cx qX6_needScene_4 rfl ?_
    refine PW.aload_n cx qX6_needScene_5 rfl ?_
    refine PW.getf (t := (2, 1)) (v := .ref (gB g + 1)) cx qX6_needScene_6 (sh_0 hx) rfl flX6_12 rfl ?_
    refine PW.getf (t := (0, 0)) (v := .int (rd h 1 15)) cx qX6_needScene_9 (as_1 hx).1 rfl flX6_206 rfl ?_
    refine PW.icmp_lt cx qX6_needScene_12 hf (fun hf => ?_) (fun hf => ?_)
    · exact PW.vret cx hrt qX6_needScene_26 (le_rv hf)
    · cases hf
set_option maxRecDepth 20000 in
theorem ctX6_needPattern {g : GT} {ex : Bool} {sh : List Shp} (hx : XSh sh) (h : Hp) (p1 : Int32) (r0 : Unit) (hf : C_needPattern p1 = some r0) : Ct g mX6_needPattern 1 0 0 ex [.ref (gB g + 0), .int p1] sh h (PE none sh h) := by
  refine Ct.of (L := [some (.ref (gB g + 0)), some (.int p1)]) (by decide) (by intro w hw; simp only [List.mem_cons, List.not_mem_nil, or_false] at hw; rcases hw with rfl | rfl <;> rfl) (Nat.le_of_ble_eq_true rfl) rfl (fun X mx => ?_)
  obtain ⟨cx, hR, hml, hrt, -⟩ := mx
  have cx : Cx g X RX6 cX6_needPattern := cx
  have hrt : X.2.2.2.2.2.2.2.1.sig.returnType = none := hrt
  unfold C_needPattern at hf
  refine PW.aload_n cx qX6_needPattern_0 rfl ?_
  refine PW.iload_n cx qX6_needPattern_1 rfl ?_
  refine PW.iconst (v := 1) cx qX6_needPattern_2 rfl ?_
  refine PW.sipush (v := 9999) cx qX6_needPattern_3 rfl ?_
  refine PW.callVRV (As := [.int p1, .int 1, .int 9999]) (st := []) cx hR qX6_needPattern_6 klX6_100 mvX6_needRange (sh_0 hx) rfl rfl rfl rfl (Nat.le_of_ble_eq_true rfl) (Nat.le_of_ble_eq_true rfl) (Nat.le_of_ble_eq_true rfl) (Nat.zero_le _) (Nat.zero_le _) hf sne (fun t e => ctX6_needRange hx h p1 1 9999 t e) (fun _ hf => ?_)
  exact PW.vret cx hrt qX6_needPattern_9 (le_rv hf)
set_option maxRecDepth 20000 in
theorem ctX6_cut {g : GT} {ex : Bool} {sh : List Shp} (hx : XSh sh) (h : Hp) (p1 : Int32) (p2 : Int32) (r0 : Int32 × Hp) (hf : C_cut h p1 p2 = some r0) : Ct g mX6_cut 4 0 0 ex [.ref (gB g + 0), .int p1, .int p2] sh h (PE (some (.int r0.1)) sh r0.2) := by
  refine Ct.of (L := [some (.ref (gB g + 0)), some (.int p1), some (.int p2)]) (by decide) (by intro w hw; simp only [List.mem_cons, List.not_mem_nil, or_false] at hw; rcases hw with rfl | rfl | rfl <;> rfl) (Nat.le_of_ble_eq_true rfl) rfl (fun X mx => ?_)
  obtain ⟨cx, hR, hml, hrt, -⟩ := mx
  have cx : Cx g X RX6 cX6_cut := cx
  have hrt : X.2.2.2.2.2.2.2.1.sig.returnType = (some .int) := hrt
  unfold C_cut at hf
  refine PW.aload_n cx qX6_cut_0 rfl ?_
  refine PW.iload_n cx qX6_cut_1 rfl ?_
  refine PW.callVRV (As := [.int p1]) (st := []) cx hR qX6_cut_2 klX6_136 mvX6_needScene (sh_0 hx) rfl rfl rfl rfl (Nat.le_of_ble_eq_true rfl) (Nat.le_of_ble_eq_true rfl) (Nat.le_of_ble_eq_true rfl) (Nat.zero_le _) (Nat.zero_le _) hf sne (fun t e => ctX6_needScene hx h p1 t e) (fun _ hf => ?_)
  refine PW.aload_n cx qX6_cut_5 rfl ?_
  refine PW.iload_n cx qX6_cut_6 rfl ?_
  refine PW.callVRV (As := [.int p2]) (st := []) cx hR qX6_cut_7 klX6_139 mvX6_needPattern (sh_0 hx) rfl rfl rfl rfl (Nat.le_of_ble_eq_true rfl) (Nat.le_of_ble_eq_true rfl) (Nat.le_of_ble_eq_true rfl) (Nat.zero_le _) (Nat.zero_le _) hf sne (fun t e => ctX6_needPattern hx h p2 t e) (fun _ hf => ?_)
  refine PW.aload_n cx qX6_cut_10 rfl ?_
  refine PW.callVWV (As := []) (st := []) cx hR qX6_cut_11 klX6_76 mvX6_remember (sh_0 hx) rfl rfl rfl rfl (Nat.le_of_ble_eq_true rfl) (Nat.le_of_ble_eq_true rfl) (Nat.le_of_ble_eq_true rfl) (Nat.zero_le _) (Nat.zero_le _) hf sne (fun t e => ctX6_remember hx h t e) (fun h4 hf => ?_)
  refine PW.aload_n cx qX6_cut_14 rfl ?_
  refine PW.getf (t := (2, 1)) (v := .ref (gB g + 1)) cx qX6_cut_15 (sh_0 hx) rfl flX6_12 rfl ?_
  refine PW.iload_n cx qX6_cut_18 rfl ?_
  refine PW.iload_n cx qX6_cut_19 rfl ?_
  refine PW.callVWIc (As := [.int p1, .int p2]) (st := []) cx hR qX6_cut_20 klX6_142 mvX1_cutScene (as_1 hx).1 rfl rfl rfl rfl (Nat.le_of_ble_eq_true rfl) (Nat.le_of_ble_eq_true rfl) (Nat.le_of_ble_eq_true rfl) (Nat.zero_le _) (Nat.zero_le _) hf sne (fun t e => ctX1_cutScene (as_1 hx) h4 p1 p2 t e) (fun t5 h6 hf => ?_)
  exact PW.iret cx hrt qX6_cut_23 (le_wi hf)
set_option maxRecDepth 20000 in
theorem ctX6_air {g : GT} {ex : Bool} {sh : List Shp} (hx : XSh sh) (h : Hp) (p1 : Int32) (r0 : Int32 × Hp) (hf : C_air h p1 = some r0) : Ct g mX6_air 4 0 0 ex [.ref (gB g + 0), .int p1] sh h (PE (some (.int r0.1)) sh r0.2) := by
  refine Ct.of (L := [some (.ref (gB g + 0)), some (.int p1)]) (by decide) (by intro w hw; simp only [List.mem_cons, List.not_mem_nil, or_false] at hw; rcases hw with rfl | rfl <;> rfl) (Nat.le_of_ble_eq_true rfl) rfl (fun X mx => ?_)
  obtain ⟨cx, hR, hml, hrt, -⟩ := mx
  have cx : Cx g X RX6 cX6_air := cx
  have hrt : X.2.2.2.2.2.2.2.1.sig.returnType = (some .int) := hrt
  unfold C_air at hf
  refine PW.aload_n cx qX6_air_0 rfl ?_
  refine PW.iload_n cx qX6_air_1 rfl ?_
  refine PW.callVRV (As := [.int p1]) (st := []) cx hR qX6_air_2 klX6_119 mvX6_needReel (sh_0 hx) rfl rfl rfl rfl (Nat.le_of_ble_eq_true rfl) (Nat.le_of_ble_eq_true rfl) (Nat.le_of_ble_eq_true rfl) (Nat.zero_le _) (Nat.zero_le _) hf sne (fun t e => ctX6_needReel hx h p1 t e) (fun _ hf => ?_)
  refine PW.aload_n cx qX6_air_5 rfl ?_
  refine PW.callVWV (As := []) (st := []) cx hR qX6_air_6 klX6_76 mvX6_remember (sh_0 hx) rfl rfl rfl rfl (Nat.le_of_ble_eq_true rfl) (Nat.le_of_ble_eq_true rfl) (Nat.le_of_ble_eq_true rfl) (Nat.zero_le _) (Nat.zero_le _) hf sne (fun t e => ctX6_remember hx h t e) (fun h3 hf => ?_)
  refine PW.aload_n cx qX6_air_9 rfl ?_
  refine PW.getf (t := (2, 1)) (v := .ref (gB g + 1)) cx qX6_air_10 (sh_0 hx) rfl flX6_12 rfl ?_
  refine PW.iload_n cx qX6_air_13 rfl ?_
  refine PW.callVWIc (As := [.int p1]) (st := []) cx hR qX6_air_14 klX6_145 mvX1_airReel (as_1 hx).1 rfl rfl rfl rfl (Nat.le_of_ble_eq_true rfl) (Nat.le_of_ble_eq_true rfl) (Nat.le_of_ble_eq_true rfl) (Nat.zero_le _) (Nat.zero_le _) hf sne (fun t e => ctX1_airReel (as_1 hx) h3 p1 t e) (fun t4 h5 hf => ?_)
  exact PW.iret cx hrt qX6_air_17 (le_wi hf)
set_option maxRecDepth 20000 in
theorem ctX6_feed {g : GT} {ex : Bool} {sh : List Shp} (hx : XSh sh) (h : Hp) (p1 : Int32) (p2 : Int32) (r0 : Int32 × Hp) (hf : C_feed h p1 p2 = some r0) : Ct g mX6_feed 3 0 0 ex [.ref (gB g + 0), .int p1, .int p2] sh h (PE (some (.int r0.1)) sh r0.2) := by
  refine Ct.of (L := [some (.ref (gB g + 0)), some (.int p1), some (.int p2)]) (by decide) (by intro w hw; simp only [List.mem_cons, List.not_mem_nil, or_false] at hw; rcases hw with rfl | rfl | rfl <;> rfl) (Nat.le_of_ble_eq_true rfl) rfl (fun X mx => ?_)
  obtain ⟨cx, hR, hml, hrt, -⟩ := mx
  have cx : Cx g X RX6 cX6_feed := cx
  have hrt : X.2.2.2.2.2.2.2.1.sig.returnType = (some .int) := hrt
  unfold C_feed at hf
  refine PW.aload_n cx qX6_feed_0 rfl ?_
  refine PW.iload_n cx qX6_feed_1 rfl ?_
  refine PW.callVRV (As := [.int p1]) (st := []) cx hR qX6_feed_2 klX6_116 mvX6_needClip (sh_0 hx) rfl rfl rfl rfl (Nat.le_of_ble_eq_true rfl) (Nat.le_of_ble_eq_true rfl) (Nat.le_of_ble_eq_true rfl) (Nat.zero_le _) (Nat.zero_le _) hf sne (fun t e => ctX6_needClip hx h p1 t e) (fun _ hf => ?_)
  refine PW.aload_n cx qX6_feed_5 rfl ?_
  refine PW.iload_n cx qX6_feed_6 rfl ?_
  refine PW.iconst (v := 1) cx qX6_feed_7 rfl ?_
  refine PW.bipush (v := 50) cx qX6_feed_8 rfl ?_
  refine PW.callVRV (As := [.int p2, .int 1, .int 50]) (st := []) cx hR qX6_feed_10 klX6_100 mvX6_needRange (sh_0 hx) rfl rfl rfl rfl (Nat.le_of_ble_eq_true rfl) (Nat.le_of_ble_eq_true rfl) (Nat.le_of_ble_eq_true rfl) (Nat.zero_le _) (Nat.zero_le _) hf sne (fun t e => ctX6_needRange hx h p2 1 50 t e) (fun _ hf => ?_)
  refine PW.aload_n cx qX6_feed_13 rfl ?_
  refine PW.aload_n cx qX6_feed_14 rfl ?_
  refine PW.getf (t := (2, 1)) (v := .ref (gB g + 1)) cx qX6_feed_15 (sh_0 hx) rfl flX6_12 rfl ?_
  refine PW.iload_n cx qX6_feed_18 rfl ?_
  refine PW.iload_n cx qX6_feed_19 rfl ?_
  refine PW.callVRB (As := [.int p1, .int p2]) (st := [.ref (gB g + 0)]) cx hR qX6_feed_20 klX6_148 mvX1_mayFeed (as_1 hx).1 rfl rfl rfl rfl (Nat.le_of_ble_eq_true rfl) (Nat.le_of_ble_eq_true rfl) (Nat.le_of_ble_eq_true rfl) (Nat.zero_le _) (Nat.zero_le _) hf sne (fun t e => ctX1_mayFeed (as_1 hx) h p1 p2 t e) (fun t3 hf => ?_)
  obtain ⟨j31, ej31, hf⟩ := lt_split hf
  have hj31 : ∀ (z0_31 : Bool), j31 z0_31 = some r0 → PW g X ex (QE g X ex (PE (some (.int r0.1)) sh r0.2) 0 0) 0 0 sh h 31 [some (.ref (gB g + 0)), some (.int p1), some (.int p2)] [.int (b2i z0_31), .ref (gB g + 0)] := by
    intro z0_31 hf
    rw [ej31] at hf
    refine PW.callVRV (As := [.int (b2i z0_31)]) (st := []) cx hR qX6_feed_31 klX6_92 mvX6_refuseIf (sh_0 hx) rfl rfl rfl rfl (Nat.le_of_ble_eq_true rfl) (Nat.le_of_ble_eq_true rfl) (Nat.le_of_ble_eq_true rfl) (Nat.zero_le _) (Nat.zero_le _) hf sne (fun t e => ctX6_refuseIf hx h z0_31 t e) (fun _ hf => ?_)
    refine PW.aload_n cx qX6_feed_34 rfl ?_
    refine PW.callVWV (As := []) (st := []) cx hR qX6_feed_35 klX6_76 mvX6_remember (sh_0 hx) rfl rfl rfl rfl (Nat.le_of_ble_eq_true rfl) (Nat.le_of_ble_eq_true rfl) (Nat.le_of_ble_eq_true rfl) (Nat.zero_le _) (Nat.zero_le _) hf sne (fun t e => ctX6_remember hx h t e) (fun h6 hf => ?_)
    refine PW.aload_n cx qX6_feed_38 rfl ?_
    refine PW.getf (t := (2, 1)) (v := .ref (gB g + 1)) cx qX6_feed_39 (sh_0 hx) rfl flX6_12 rfl ?_
    refine PW.iload_n cx qX6_feed_42 rfl ?_
    refine PW.iload_n cx qX6_feed_43 rfl ?_
    refine PW.callVWIc (As := [.int p1, .int p2]) (st := []) cx hR qX6_feed_44 klX6_152 mvX1_feedClip (as_1 hx).1 rfl rfl rfl rfl (Nat.le_of_ble_eq_true rfl) (Nat.le_of_ble_eq_true rfl) (Nat.le_of_ble_eq_true rfl) (Nat.zero_le _) (Nat.zero_le _) hf sne (fun t e => ctX1_feedClip (as_1 hx) h6 p1 p2 t e) (fun t7 h8 hf => ?_)
    exact PW.iret cx hrt qX6_feed_47 (le_wi hf)
  refine PW.if_ne cx qX6_feed_23 hf (fun hf => ?_) (fun hf => ?_)
  · refine PW.iconst (v := 1) cx qX6_feed_26 rfl ?_
    refine PW.goto cx qX6_feed_27 ?_
    exact PW.locs (Lsub.keep (Lsub.keep (Lsub.keep Lsub.nil))) (hj31 true hf)
  · refine PW.iconst (v := 0) cx qX6_feed_30 rfl ?_
    exact PW.locs (Lsub.keep (Lsub.keep (Lsub.keep Lsub.nil))) (hj31 false hf)
set_option maxRecDepth 20000 in
theorem ctX6_addFood {g : GT} {ex : Bool} {sh : List Shp} (hx : XSh sh) (h : Hp) (p1 : Int32) (r0 : Int32 × Hp) (hf : C_addFood h p1 = some r0) : Ct g mX6_addFood 3 0 0 ex [.ref (gB g + 0), .int p1] sh h (PE (some (.int r0.1)) sh r0.2) := by
  refine Ct.of (L := [some (.ref (gB g + 0)), some (.int p1)]) (by decide) (by intro w hw; simp only [List.mem_cons, List.not_mem_nil, or_false] at hw; rcases hw with rfl | rfl <;> rfl) (Nat.le_of_ble_eq_true rfl) rfl (fun X mx => ?_)
  obtain ⟨cx, hR, hml, hrt, -⟩ := mx
  have cx : Cx g X RX6 cX6_addFood := cx
  have hrt : X.2.2.2.2.2.2.2.1.sig.returnType = (some .int) := hrt
  unfold C_addFood at hf
  refine PW.aload_n cx qX6_addFood_0 rfl ?_
  refine PW.iload_n cx qX6_addFood_1 rfl ?_
  refine PW.iconst (v := 1) cx qX6_addFood_2 rfl ?_
  refine PW.sipush (v := 999) cx qX6_addFood_3 rfl ?_
  refine PW.callVRV (As := [.int p1, .int 1, .int 999]) (st := []) cx hR qX6_addFood_6 klX6_100 mvX6_needRange (sh_0 hx) rfl rfl rfl rfl (Nat.le_of_ble_eq_true rfl) (Nat.le_of_ble_eq_true rfl) (Nat.le_of_ble_eq_true rfl) (Nat.zero_le _) (Nat.zero_le _) hf sne (fun t e => ctX6_needRange hx h p1 1 999 t e) (fun _ hf => ?_)
  refine PW.aload_n cx qX6_addFood_9 rfl ?_
  refine PW.aload_n cx qX6_addFood_10 rfl ?_
  refine PW.getf (t := (2, 1)) (v := .ref (gB g + 1)) cx qX6_addFood_11 (sh_0 hx) rfl flX6_12 rfl ?_
  refine PW.iload_n cx qX6_addFood_14 rfl ?_
  refine PW.callVRB (As := [.int p1]) (st := [.ref (gB g + 0)]) cx hR qX6_addFood_15 klX6_155 mvX1_mayStore (as_1 hx).1 rfl rfl rfl rfl (Nat.le_of_ble_eq_true rfl) (Nat.le_of_ble_eq_true rfl) (Nat.le_of_ble_eq_true rfl) (Nat.zero_le _) (Nat.zero_le _) hf sne (fun t e => ctX1_mayStore (as_1 hx) h p1 t e) (fun t2 hf => ?_)
  obtain ⟨j26, ej26, hf⟩ := lt_split hf
  have hj26 : ∀ (z0_26 : Bool), j26 z0_26 = some r0 → PW g X ex (QE g X ex (PE (some (.int r0.1)) sh r0.2) 0 0) 0 0 sh h 26 [some (.ref (gB g + 0)), some (.int p1)] [.int (b2i z0_26), .ref (gB g + 0)] := by
    intro z0_26 hf
    rw [ej26] at hf
    refine PW.callVRV (As := [.int (b2i z0_26)]) (st := []) cx hR qX6_addFood_26 klX6_92 mvX6_refuseIf (sh_0 hx) rfl rfl rfl rfl (Nat.le_of_ble_eq_true rfl) (Nat.le_of_ble_eq_true rfl) (Nat.le_of_ble_eq_true rfl) (Nat.zero_le _) (Nat.zero_le _) hf sne (fun t e => ctX6_refuseIf hx h z0_26 t e) (fun _ hf => ?_)
    refine PW.aload_n cx qX6_addFood_29 rfl ?_
    refine PW.callVWV (As := []) (st := []) cx hR qX6_addFood_30 klX6_76 mvX6_remember (sh_0 hx) rfl rfl rfl rfl (Nat.le_of_ble_eq_true rfl) (Nat.le_of_ble_eq_true rfl) (Nat.le_of_ble_eq_true rfl) (Nat.zero_le _) (Nat.zero_le _) hf sne (fun t e => ctX6_remember hx h t e) (fun h5 hf => ?_)
    refine PW.aload_n cx qX6_addFood_33 rfl ?_
    refine PW.getf (t := (2, 1)) (v := .ref (gB g + 1)) cx qX6_addFood_34 (sh_0 hx) rfl flX6_12 rfl ?_
    refine PW.iload_n cx qX6_addFood_37 rfl ?_
    refine PW.callVWIc (As := [.int p1]) (st := []) cx hR qX6_addFood_38 klX6_158 mvX1_store (as_1 hx).1 rfl rfl rfl rfl (Nat.le_of_ble_eq_true rfl) (Nat.le_of_ble_eq_true rfl) (Nat.le_of_ble_eq_true rfl) (Nat.zero_le _) (Nat.zero_le _) hf sne (fun t e => ctX1_store (as_1 hx) h5 p1 t e) (fun t6 h7 hf => ?_)
    exact PW.iret cx hrt qX6_addFood_41 (le_wi hf)
  refine PW.if_ne cx qX6_addFood_18 hf (fun hf => ?_) (fun hf => ?_)
  · refine PW.iconst (v := 1) cx qX6_addFood_21 rfl ?_
    refine PW.goto cx qX6_addFood_22 ?_
    exact PW.locs (Lsub.keep (Lsub.keep Lsub.nil)) (hj26 true hf)
  · refine PW.iconst (v := 0) cx qX6_addFood_25 rfl ?_
    exact PW.locs (Lsub.keep (Lsub.keep Lsub.nil)) (hj26 false hf)
set_option maxRecDepth 20000 in
theorem ctX6_paint {g : GT} {ex : Bool} {sh : List Shp} (hx : XSh sh) (h : Hp) (p1 : Int32) (p2 : Int32) (p3 : Int32) (r0 : Int32 × Hp) (hf : C_paint h p1 p2 p3 = some r0) : Ct g mX6_paint 3 0 0 ex [.ref (gB g + 0), .int p1, .int p2, .int p3] sh h (PE (some (.int r0.1)) sh r0.2) := by
  refine Ct.of (L := [some (.ref (gB g + 0)), some (.int p1), some (.int p2), some (.int p3)]) (by decide) (by intro w hw; simp only [List.mem_cons, List.not_mem_nil, or_false] at hw; rcases hw with rfl | rfl | rfl | rfl <;> rfl) (Nat.le_of_ble_eq_true rfl) rfl (fun X mx => ?_)
  obtain ⟨cx, hR, hml, hrt, -⟩ := mx
  have cx : Cx g X RX6 cX6_paint := cx
  have hrt : X.2.2.2.2.2.2.2.1.sig.returnType = (some .int) := hrt
  unfold C_paint at hf
  refine PW.aload_n cx qX6_paint_0 rfl ?_
  refine PW.iload_n cx qX6_paint_1 rfl ?_
  refine PW.callVRV (As := [.int p1]) (st := []) cx hR qX6_paint_2 klX6_116 mvX6_needClip (sh_0 hx) rfl rfl rfl rfl (Nat.le_of_ble_eq_true rfl) (Nat.le_of_ble_eq_true rfl) (Nat.le_of_ble_eq_true rfl) (Nat.zero_le _) (Nat.zero_le _) hf sne (fun t e => ctX6_needClip hx h p1 t e) (fun _ hf => ?_)
  refine PW.iload_n cx qX6_paint_5 rfl ?_
  refine PW.if_lt cx qX6_paint_6 hf (fun hf => ?_) (fun hf => ?_)
  · cases hf
  · refine PW.iload_n cx qX6_paint_9 rfl ?_
    refine PW.aload_n cx qX6_paint_10 rfl ?_
    refine PW.getf (t := (2, 1)) (v := .ref (gB g + 1)) cx qX6_paint_11 (sh_0 hx) rfl flX6_12 rfl ?_
    refine PW.getf (t := (2, 1 + 1)) (v := .ref (gB g + (1 + 1))) cx qX6_paint_14 (as_1 hx).1 rfl flX6_161 rfl ?_
    refine PW.iload_n cx qX6_paint_17 rfl ?_
    refine PW.iald cx qX6_paint_18 (AS.r1 (as_1 hx)) hf sne (fun t2 hf => ?_)
    refine PW.icmp_lt cx qX6_paint_19 hf (fun hf => ?_) (fun hf => ?_)
    · refine PW.aload_n cx qX6_paint_32 rfl ?_
      refine PW.iload_n cx qX6_paint_33 rfl ?_
      refine PW.iconst (v := 1) cx qX6_paint_34 rfl ?_
      refine PW.bipush (v := 9) cx qX6_paint_35 rfl ?_
      refine PW.callVRV (As := [.int p3, .int 1, .int 9]) (st := []) cx hR qX6_paint_37 klX6_100 mvX6_needRange (sh_0 hx) rfl rfl rfl rfl (Nat.le_of_ble_eq_true rfl) (Nat.le_of_ble_eq_true rfl) (Nat.le_of_ble_eq_true rfl) (Nat.zero_le _) (Nat.zero_le _) hf sne (fun t e => ctX6_needRange hx h p3 1 9 t e) (fun _ hf => ?_)
      refine PW.aload_n cx qX6_paint_40 rfl ?_
      refine PW.aload_n cx qX6_paint_41 rfl ?_
      refine PW.getf (t := (2, 1)) (v := .ref (gB g + 1)) cx qX6_paint_42 (sh_0 hx) rfl flX6_12 rfl ?_
      refine PW.getf (t := (2, 1 + 4)) (v := .ref (gB g + (1 + 4))) cx qX6_paint_45 (as_1 hx).1 rfl flX6_129 rfl ?_
      refine PW.iload_n cx qX6_paint_48 rfl ?_
      refine PW.iald cx qX6_paint_49 (AS.r4 (as_1 hx)) hf sne (fun t4 hf => ?_)
      obtain ⟨j58, ej58, hf⟩ := lt_split hf
      have hj58 : ∀ (z0_58 : Bool), j58 z0_58 = some r0 → PW g X ex (QE g X ex (PE (some (.int r0.1)) sh r0.2) 0 0) 0 0 sh h 58 [some (.ref (gB g + 0)), some (.int p1), some (.int p2), some (.int p3)] [.int (b2i z0_58), .ref (gB g + 0)] := by
        intro z0_58 hf
        rw [ej58] at hf
        refine PW.callVRV (As := [.int (b2i z0_58)]) (st := []) cx hR qX6_paint_58 klX6_92 mvX6_refuseIf (sh_0 hx) rfl rfl rfl rfl (Nat.le_of_ble_eq_true rfl) (Nat.le_of_ble_eq_true rfl) (Nat.le_of_ble_eq_true rfl) (Nat.zero_le _) (Nat.zero_le _) hf sne (fun t e => ctX6_refuseIf hx h z0_58 t e) (fun _ hf => ?_)
        refine PW.aload_n cx qX6_paint_61 rfl ?_
        refine PW.callVWV (As := []) (st := []) cx hR qX6_paint_62 klX6_76 mvX6_remember (sh_0 hx) rfl rfl rfl rfl (Nat.le_of_ble_eq_true rfl) (Nat.le_of_ble_eq_true rfl) (Nat.le_of_ble_eq_true rfl) (Nat.zero_le _) (Nat.zero_le _) hf sne (fun t e => ctX6_remember hx h t e) (fun h7 hf => ?_)
        refine PW.aload_n cx qX6_paint_65 rfl ?_
        refine PW.getf (t := (2, 1)) (v := .ref (gB g + 1)) cx qX6_paint_66 (sh_0 hx) rfl flX6_12 rfl ?_
        refine PW.iload_n cx qX6_paint_69 rfl ?_
        refine PW.iload_n cx qX6_paint_70 rfl ?_
        refine PW.iload_n cx qX6_paint_71 rfl ?_
        refine PW.callVWIc (As := [.int p1, .int p2, .int p3]) (st := []) cx hR qX6_paint_72 klX6_169 mvX1_paintClip (as_1 hx).1 rfl rfl rfl rfl (Nat.le_of_ble_eq_true rfl) (Nat.le_of_ble_eq_true rfl) (Nat.le_of_ble_eq_true rfl) (Nat.zero_le _) (Nat.zero_le _) hf sne (fun t e => ctX1_paintClip (as_1 hx) h7 p1 p2 p3 t e) (fun t8 h9 hf => ?_)
        exact PW.iret cx hrt qX6_paint_75 (le_wi hf)
      refine PW.if_eq cx qX6_paint_50 hf (fun hf => ?_) (fun hf => ?_)
      · refine PW.iconst (v := 0) cx qX6_paint_57 rfl ?_
        exact PW.locs (Lsub.keep (Lsub.keep (Lsub.keep (Lsub.keep Lsub.nil)))) (hj58 false hf)
      · refine PW.iconst (v := 1) cx qX6_paint_53 rfl ?_
        refine PW.goto cx qX6_paint_54 ?_
        exact PW.locs (Lsub.keep (Lsub.keep (Lsub.keep (Lsub.keep Lsub.nil)))) (hj58 true hf)
    · cases hf
set_option maxRecDepth 20000 in
theorem ctX6_passWeeks {g : GT} {ex : Bool} {sh : List Shp} (hx : XSh sh) (h : Hp) (p1 : Int32) (r0 : Int32 × Hp) (hf : C_passWeeks h p1 = some r0) : Ct g mX6_passWeeks 4 0 0 ex [.ref (gB g + 0), .int p1] sh h (PE (some (.int r0.1)) sh r0.2) := by
  refine Ct.of (L := [some (.ref (gB g + 0)), some (.int p1)]) (by decide) (by intro w hw; simp only [List.mem_cons, List.not_mem_nil, or_false] at hw; rcases hw with rfl | rfl <;> rfl) (Nat.le_of_ble_eq_true rfl) rfl (fun X mx => ?_)
  obtain ⟨cx, hR, hml, hrt, -⟩ := mx
  have cx : Cx g X RX6 cX6_passWeeks := cx
  have hrt : X.2.2.2.2.2.2.2.1.sig.returnType = (some .int) := hrt
  unfold C_passWeeks at hf
  refine PW.aload_n cx qX6_passWeeks_0 rfl ?_
  refine PW.iload_n cx qX6_passWeeks_1 rfl ?_
  refine PW.iconst (v := 1) cx qX6_passWeeks_2 rfl ?_
  refine PW.bipush (v := 50) cx qX6_passWeeks_3 rfl ?_
  refine PW.callVRV (As := [.int p1, .int 1, .int 50]) (st := []) cx hR qX6_passWeeks_5 klX6_100 mvX6_needRange (sh_0 hx) rfl rfl rfl rfl (Nat.le_of_ble_eq_true rfl) (Nat.le_of_ble_eq_true rfl) (Nat.le_of_ble_eq_true rfl) (Nat.zero_le _) (Nat.zero_le _) hf sne (fun t e => ctX6_needRange hx h p1 1 50 t e) (fun _ hf => ?_)
  refine PW.aload_n cx qX6_passWeeks_8 rfl ?_
  refine PW.aload_n cx qX6_passWeeks_9 rfl ?_
  refine PW.getf (t := (2, 1)) (v := .ref (gB g + 1)) cx qX6_passWeeks_10 (sh_0 hx) rfl flX6_12 rfl ?_
  refine PW.iload_n cx qX6_passWeeks_13 rfl ?_
  refine PW.callVRB (As := [.int p1]) (st := [.ref (gB g + 0)]) cx hR qX6_passWeeks_14 klX6_173 mvX1_mayPass (as_1 hx).1 rfl rfl rfl rfl (Nat.le_of_ble_eq_true rfl) (Nat.le_of_ble_eq_true rfl) (Nat.le_of_ble_eq_true rfl) (Nat.zero_le _) (Nat.zero_le _) hf sne (fun t e => ctX1_mayPass (as_1 hx) h p1 t e) (fun t2 hf => ?_)
  obtain ⟨j25, ej25, hf⟩ := lt_split hf
  have hj25 : ∀ (z0_25 : Bool), j25 z0_25 = some r0 → PW g X ex (QE g X ex (PE (some (.int r0.1)) sh r0.2) 0 0) 0 0 sh h 25 [some (.ref (gB g + 0)), some (.int p1)] [.int (b2i z0_25), .ref (gB g + 0)] := by
    intro z0_25 hf
    rw [ej25] at hf
    refine PW.callVRV (As := [.int (b2i z0_25)]) (st := []) cx hR qX6_passWeeks_25 klX6_92 mvX6_refuseIf (sh_0 hx) rfl rfl rfl rfl (Nat.le_of_ble_eq_true rfl) (Nat.le_of_ble_eq_true rfl) (Nat.le_of_ble_eq_true rfl) (Nat.zero_le _) (Nat.zero_le _) hf sne (fun t e => ctX6_refuseIf hx h z0_25 t e) (fun _ hf => ?_)
    refine PW.aload_n cx qX6_passWeeks_28 rfl ?_
    refine PW.callVWV (As := []) (st := []) cx hR qX6_passWeeks_29 klX6_76 mvX6_remember (sh_0 hx) rfl rfl rfl rfl (Nat.le_of_ble_eq_true rfl) (Nat.le_of_ble_eq_true rfl) (Nat.le_of_ble_eq_true rfl) (Nat.zero_le _) (Nat.zero_le _) hf sne (fun t e => ctX6_remember hx h t e) (fun h5 hf => ?_)
    refine PW.aload_n cx qX6_passWeeks_32 rfl ?_
    refine PW.getf (t := (2, 1)) (v := .ref (gB g + 1)) cx qX6_passWeeks_33 (sh_0 hx) rfl flX6_12 rfl ?_
    refine PW.iload_n cx qX6_passWeeks_36 rfl ?_
    refine PW.callVWIc (As := [.int p1]) (st := []) cx hR qX6_passWeeks_37 klX6_176 mvX1_pass (as_1 hx).1 rfl rfl rfl rfl (Nat.le_of_ble_eq_true rfl) (Nat.le_of_ble_eq_true rfl) (Nat.le_of_ble_eq_true rfl) (Nat.zero_le _) (Nat.zero_le _) hf sne (fun t e => ctX1_pass (as_1 hx) h5 p1 t e) (fun t6 h7 hf => ?_)
    exact PW.iret cx hrt qX6_passWeeks_40 (le_wi hf)
  refine PW.if_ne cx qX6_passWeeks_17 hf (fun hf => ?_) (fun hf => ?_)
  · refine PW.iconst (v := 1) cx qX6_passWeeks_20 rfl ?_
    refine PW.goto cx qX6_passWeeks_21 ?_
    exact PW.locs (Lsub.keep (Lsub.keep Lsub.nil)) (hj25 true hf)
  · refine PW.iconst (v := 0) cx qX6_passWeeks_24 rfl ?_
    exact PW.locs (Lsub.keep (Lsub.keep Lsub.nil)) (hj25 false hf)
set_option maxRecDepth 20000 in
theorem ctX6_undo {g : GT} {ex : Bool} {sh : List Shp} (hx : XSh sh) (h : Hp) (r0 : Int32 × Hp) (hf : C_undo h = some r0) : Ct g mX6_undo 2 0 0 ex [.ref (gB g + 0)] sh h (PE (some (.int r0.1)) sh r0.2) := by
  refine Ct.of (L := [some (.ref (gB g + 0)), none]) (by decide) (by intro w hw; simp only [List.mem_cons, List.not_mem_nil, or_false] at hw; rcases hw with rfl <;> rfl) (Nat.le_of_ble_eq_true rfl) rfl (fun X mx => ?_)
  obtain ⟨cx, hR, hml, hrt, -⟩ := mx
  have cx : Cx g X RX6 cX6_undo := cx
  have hrt : X.2.2.2.2.2.2.2.1.sig.returnType = (some .int) := hrt
  have hi1 : 1 < X.2.2.2.2.2.2.2.2.maxLocals := by rw [hml]; exact Nat.le_of_ble_eq_true rfl
  unfold C_undo at hf
  refine PW.aload_n cx qX6_undo_0 rfl ?_
  refine PW.getf (t := (0, 0)) (v := .int (rd h 0 5)) cx qX6_undo_1 (sh_0 hx) rfl flX6_179 rfl ?_
  refine PW.if_ne cx qX6_undo_4 hf (fun hf => ?_) (fun hf => ?_)
  · refine PW.iconst (v := (-1)) cx qX6_undo_7 rfl ?_
    exact PW.iret cx hrt qX6_undo_8 (le_wi hf)
  · refine PW.aload_n cx qX6_undo_9 rfl ?_
    refine PW.aload_n cx qX6_undo_10 rfl ?_
    refine PW.getf (t := (0, 0)) (v := .int (rd h 0 6)) cx qX6_undo_11 (sh_0 hx) rfl flX6_182 rfl ?_
    refine PW.bipush (v := 8) cx qX6_undo_14 rfl ?_
    refine PW.iadd cx qX6_undo_16 ?_
    refine PW.iconst (v := 1) cx qX6_undo_17 rfl ?_
    refine PW.isub cx qX6_undo_18 ?_
    refine PW.bipush (v := 8) cx qX6_undo_19 rfl ?_
    refine PW.iremK cx qX6_undo_21 (by decide) ?_
    refine PW.putiN cx qX6_undo_22 (sh_0 hx) rfl fpX6_182 hf (fun h1 hf => ?_)
    refine PW.aload_n cx qX6_undo_25 rfl ?_
    refine PW.dup cx qX6_undo_26 rfl ?_
    refine PW.getf (t := (0, 0)) (v := .int (rd h1 0 5)) cx qX6_undo_27 (sh_0 hx) rfl flX6_179 rfl ?_
    refine PW.iconst (v := 1) cx qX6_undo_30 rfl ?_
    refine PW.isub cx qX6_undo_31 ?_
    refine PW.putiN cx qX6_undo_32 (sh_0 hx) rfl fpX6_179 hf (fun h2 hf => ?_)
    refine PW.aload_n cx qX6_undo_35 rfl ?_
    refine PW.getf (t := (2, 34)) (v := .ref (gB g + 34)) cx qX6_undo_36 (sh_0 hx) rfl flX6_22 rfl ?_
    refine PW.aload_n cx qX6_undo_39 rfl ?_
    refine PW.getf (t := (0, 0)) (v := .int (rd h2 0 6)) cx qX6_undo_40 (sh_0 hx) rfl flX6_182 rfl ?_
    refine PW.aaldP cx qX6_undo_43 hx hf sne (fun p3 hA_p3 hf => ?_)
    refine PW.astore_n (L' := [some (.ref (gB g + 0)), some (.ref (gB g + p3))]) cx qX6_undo_44 hi1 rfl rfl ?_
    refine PW.aload_n cx qX6_undo_45 rfl ?_
    refine PW.ifnullR cx qX6_undo_46 ?_
    refine PW.aload_n cx qX6_undo_49 rfl ?_
    refine PW.getf (t := (2, 1)) (v := .ref (gB g + 1)) cx qX6_undo_50 (sh_0 hx) rfl flX6_12 rfl ?_
    refine PW.aload_n cx qX6_undo_53 rfl ?_
    refine PW.callVWV (As := [.ref (gB g + p3)]) (st := []) cx hR qX6_undo_54 klX6_55 mvX1_copyFrom (as_1 hx).1 rfl rfl rfl rfl (Nat.le_of_ble_eq_true rfl) (Nat.le_of_ble_eq_true rfl) (Nat.le_of_ble_eq_true rfl) (Nat.zero_le _) (Nat.zero_le _) hf sne (fun t e => ctX1_copyFrom (as_1 hx) hA_p3 h2 t e) (fun h5 hf => ?_)
    refine PW.aload_n cx qX6_undo_57 rfl ?_
    refine PW.getf (t := (0, 0)) (v := .int (rd h5 0 5)) cx qX6_undo_58 (sh_0 hx) rfl flX6_179 rfl ?_
    exact PW.iret cx hrt qX6_undo_61 (le_wi hf)
set_option maxRecDepth 20000 in
theorem ctX6_undoCount {g : GT} {ex : Bool} {sh : List Shp} (hx : XSh sh) (h : Hp) (r0 : Int32) (hf : C_undoCount h = some r0) : Ct g mX6_undoCount 0 0 0 ex [.ref (gB g + 0)] sh h (PE (some (.int r0)) sh h) := by
  refine Ct.of (L := [some (.ref (gB g + 0))]) (by decide) (by intro w hw; simp only [List.mem_cons, List.not_mem_nil, or_false] at hw; rcases hw with rfl <;> rfl) (Nat.le_of_ble_eq_true rfl) rfl (fun X mx => ?_)
  obtain ⟨cx, hR, hml, hrt, -⟩ := mx
  have cx : Cx g X RX6 cX6_undoCount := cx
  have hrt : X.2.2.2.2.2.2.2.1.sig.returnType = (some .int) := hrt
  unfold C_undoCount at hf
  refine PW.aload_n cx qX6_undoCount_0 rfl ?_
  refine PW.getf (t := (0, 0)) (v := .int (rd h 0 5)) cx qX6_undoCount_1 (sh_0 hx) rfl flX6_179 rfl ?_
  exact PW.iret cx hrt qX6_undoCount_4 (le_ri hf)
set_option maxRecDepth 20000 in
theorem ctX6_saveSnapshot {g : GT} {ex : Bool} {sh : List Shp} (hx : XSh sh) (h : Hp) (r0 : Int32 × Hp) (hf : C_saveSnapshot h = some r0) : Ct g mX6_saveSnapshot 2 0 0 ex [.ref (gB g + 0)] sh h (PE (some (.int r0.1)) sh r0.2) := by
  refine Ct.of (L := [some (.ref (gB g + 0))]) (by decide) (by intro w hw; simp only [List.mem_cons, List.not_mem_nil, or_false] at hw; rcases hw with rfl <;> rfl) (Nat.le_of_ble_eq_true rfl) rfl (fun X mx => ?_)
  obtain ⟨cx, hR, hml, hrt, -⟩ := mx
  have cx : Cx g X RX6 cX6_saveSnapshot := cx
  have hrt : X.2.2.2.2.2.2.2.1.sig.returnType = (some .int) := hrt
  unfold C_saveSnapshot at hf
  refine PW.aload_n cx qX6_saveSnapshot_0 rfl ?_
  refine PW.getf (t := (2, 23)) (v := .ref (gB g + 23)) cx qX6_saveSnapshot_1 (sh_0 hx) rfl flX6_19 rfl ?_
  refine PW.aload_n cx qX6_saveSnapshot_4 rfl ?_
  refine PW.getf (t := (2, 1)) (v := .ref (gB g + 1)) cx qX6_saveSnapshot_5 (sh_0 hx) rfl flX6_12 rfl ?_
  refine PW.callVWV (As := [.ref (gB g + 1)]) (st := []) cx hR qX6_saveSnapshot_8 klX6_55 mvX1_copyFrom (as_23 hx).1 rfl rfl rfl rfl (Nat.le_of_ble_eq_true rfl) (Nat.le_of_ble_eq_true rfl) (Nat.le_of_ble_eq_true rfl) (Nat.zero_le _) (Nat.zero_le _) hf sne (fun t e => ctX1_copyFrom (as_23 hx) (as_1 hx) h t e) (fun h2 hf => ?_)
  refine PW.aload_n cx qX6_saveSnapshot_11 rfl ?_
  refine PW.iconst (v := 1) cx qX6_saveSnapshot_12 rfl ?_
  refine PW.putzN cx qX6_saveSnapshot_13 (sh_0 hx) rfl fpX6_185 (by decide) (by decide) hf (fun h3 hf => ?_)
  refine PW.aload_n cx qX6_saveSnapshot_16 rfl ?_
  refine PW.getf (t := (2, 1)) (v := .ref (gB g + 1)) cx qX6_saveSnapshot_17 (sh_0 hx) rfl flX6_12 rfl ?_
  refine PW.getf (t := (0, 0)) (v := .int (rd h3 1 0)) cx qX6_saveSnapshot_20 (as_1 hx).1 rfl flX6_189 rfl ?_
  exact PW.iret cx hrt qX6_saveSnapshot_23 (le_wi hf)
set_option maxRecDepth 20000 in
theorem ctX6_restoreSnapshot {g : GT} {ex : Bool} {sh : List Shp} (hx : XSh sh) (h : Hp) (r0 : Int32 × Hp) (hf : C_restoreSnapshot h = some r0) : Ct g mX6_restoreSnapshot 2 0 0 ex [.ref (gB g + 0)] sh h (PE (some (.int r0.1)) sh r0.2) := by
  refine Ct.of (L := [some (.ref (gB g + 0))]) (by decide) (by intro w hw; simp only [List.mem_cons, List.not_mem_nil, or_false] at hw; rcases hw with rfl <;> rfl) (Nat.le_of_ble_eq_true rfl) rfl (fun X mx => ?_)
  obtain ⟨cx, hR, hml, hrt, -⟩ := mx
  have cx : Cx g X RX6 cX6_restoreSnapshot := cx
  have hrt : X.2.2.2.2.2.2.2.1.sig.returnType = (some .int) := hrt
  unfold C_restoreSnapshot at hf
  refine PW.aload_n cx qX6_restoreSnapshot_0 rfl ?_
  refine PW.getf (t := (1, 0)) (v := .int (rd h 0 3)) cx qX6_restoreSnapshot_1 (sh_0 hx) rfl flX6_185 rfl ?_
  refine PW.if_ne cx qX6_restoreSnapshot_4 hf (fun hf => ?_) (fun hf => ?_)
  · cases hf
  · refine PW.aload_n cx qX6_restoreSnapshot_17 rfl ?_
    refine PW.getf (t := (2, 1)) (v := .ref (gB g + 1)) cx qX6_restoreSnapshot_18 (sh_0 hx) rfl flX6_12 rfl ?_
    refine PW.aload_n cx qX6_restoreSnapshot_21 rfl ?_
    refine PW.getf (t := (2, 23)) (v := .ref (gB g + 23)) cx qX6_restoreSnapshot_22 (sh_0 hx) rfl flX6_19 rfl ?_
    refine PW.callVWV (As := [.ref (gB g + 23)]) (st := []) cx hR qX6_restoreSnapshot_25 klX6_55 mvX1_copyFrom (as_1 hx).1 rfl rfl rfl rfl (Nat.le_of_ble_eq_true rfl) (Nat.le_of_ble_eq_true rfl) (Nat.le_of_ble_eq_true rfl) (Nat.zero_le _) (Nat.zero_le _) hf sne (fun t e => ctX1_copyFrom (as_1 hx) (as_23 hx) h t e) (fun h2 hf => ?_)
    refine PW.aload_n cx qX6_restoreSnapshot_28 rfl ?_
    refine PW.iconst (v := 0) cx qX6_restoreSnapshot_29 rfl ?_
    refine PW.putiN cx qX6_restoreSnapshot_30 (sh_0 hx) rfl fpX6_179 hf (fun h3 hf => ?_)
    refine PW.aload_n cx qX6_restoreSnapshot_33 rfl ?_
    refine PW.getf (t := (2, 1)) (v := .ref (gB g + 1)) cx qX6_restoreSnapshot_34 (sh_0 hx) rfl flX6_12 rfl ?_
    refine PW.getf (t := (0, 0)) (v := .int (rd h3 1 0)) cx qX6_restoreSnapshot_37 (as_1 hx).1 rfl flX6_189 rfl ?_
    exact PW.iret cx hrt qX6_restoreSnapshot_40 (le_wi hf)
set_option maxRecDepth 20000 in
theorem ctX6_week {g : GT} {ex : Bool} {sh : List Shp} (hx : XSh sh) (h : Hp) (r0 : Int32) (hf : C_week h = some r0) : Ct g mX6_week 0 0 0 ex [.ref (gB g + 0)] sh h (PE (some (.int r0)) sh h) := by
  refine Ct.of (L := [some (.ref (gB g + 0))]) (by decide) (by intro w hw; simp only [List.mem_cons, List.not_mem_nil, or_false] at hw; rcases hw with rfl <;> rfl) (Nat.le_of_ble_eq_true rfl) rfl (fun X mx => ?_)
  obtain ⟨cx, hR, hml, hrt, -⟩ := mx
  have cx : Cx g X RX6 cX6_week := cx
  have hrt : X.2.2.2.2.2.2.2.1.sig.returnType = (some .int) := hrt
  unfold C_week at hf
  refine PW.aload_n cx qX6_week_0 rfl ?_
  refine PW.getf (t := (2, 1)) (v := .ref (gB g + 1)) cx qX6_week_1 (sh_0 hx) rfl flX6_12 rfl ?_
  refine PW.getf (t := (0, 0)) (v := .int (rd h 1 0)) cx qX6_week_4 (as_1 hx).1 rfl flX6_189 rfl ?_
  exact PW.iret cx hrt qX6_week_7 (le_ri hf)
set_option maxRecDepth 20000 in
theorem ctX6_food {g : GT} {ex : Bool} {sh : List Shp} (hx : XSh sh) (h : Hp) (r0 : Int32) (hf : C_food h = some r0) : Ct g mX6_food 0 0 0 ex [.ref (gB g + 0)] sh h (PE (some (.int r0)) sh h) := by
  refine Ct.of (L := [some (.ref (gB g + 0))]) (by decide) (by intro w hw; simp only [List.mem_cons, List.not_mem_nil, or_false] at hw; rcases hw with rfl <;> rfl) (Nat.le_of_ble_eq_true rfl) rfl (fun X mx => ?_)
  obtain ⟨cx, hR, hml, hrt, -⟩ := mx
  have cx : Cx g X RX6 cX6_food := cx
  have hrt : X.2.2.2.2.2.2.2.1.sig.returnType = (some .int) := hrt
  unfold C_food at hf
  refine PW.aload_n cx qX6_food_0 rfl ?_
  refine PW.getf (t := (2, 1)) (v := .ref (gB g + 1)) cx qX6_food_1 (sh_0 hx) rfl flX6_12 rfl ?_
  refine PW.getf (t := (0, 0)) (v := .int (rd h 1 1)) cx qX6_food_4 (as_1 hx).1 rfl flX6_200 rfl ?_
  exact PW.iret cx hrt qX6_food_7 (le_ri hf)
set_option maxRecDepth 20000 in
theorem ctX6_clipCount {g : GT} {ex : Bool} {sh : List Shp} (hx : XSh sh) (h : Hp) (r0 : Int32) (hf : C_clipCount h = some r0) : Ct g mX6_clipCount 0 0 0 ex [.ref (gB g + 0)] sh h (PE (some (.int r0)) sh h) := by
  refine Ct.of (L := [some (.ref (gB g + 0))]) (by decide) (by intro w hw; simp only [List.mem_cons, List.not_mem_nil, or_false] at hw; rcases hw with rfl <;> rfl) (Nat.le_of_ble_eq_true rfl) rfl (fun X mx => ?_)
  obtain ⟨cx, hR, hml, hrt, -⟩ := mx
  have cx : Cx g X RX6 cX6_clipCount := cx
  have hrt : X.2.2.2.2.2.2.2.1.sig.returnType = (some .int) := hrt
  unfold C_clipCount at hf
  refine PW.aload_n cx qX6_clipCount_0 rfl ?_
  refine PW.getf (t := (2, 1)) (v := .ref (gB g + 1)) cx qX6_clipCount_1 (sh_0 hx) rfl flX6_12 rfl ?_
  refine PW.getf (t := (0, 0)) (v := .int (rd h 1 5)) cx qX6_clipCount_4 (as_1 hx).1 rfl flX6_79 rfl ?_
  exact PW.iret cx hrt qX6_clipCount_7 (le_ri hf)
set_option maxRecDepth 20000 in
theorem ctX6_reelCount {g : GT} {ex : Bool} {sh : List Shp} (hx : XSh sh) (h : Hp) (r0 : Int32) (hf : C_reelCount h = some r0) : Ct g mX6_reelCount 0 0 0 ex [.ref (gB g + 0)] sh h (PE (some (.int r0)) sh h) := by
  refine Ct.of (L := [some (.ref (gB g + 0))]) (by decide) (by intro w hw; simp only [List.mem_cons, List.not_mem_nil, or_false] at hw; rcases hw with rfl <;> rfl) (Nat.le_of_ble_eq_true rfl) rfl (fun X mx => ?_)
  obtain ⟨cx, hR, hml, hrt, -⟩ := mx
  have cx : Cx g X RX6 cX6_reelCount := cx
  have hrt : X.2.2.2.2.2.2.2.1.sig.returnType = (some .int) := hrt
  unfold C_reelCount at hf
  refine PW.aload_n cx qX6_reelCount_0 rfl ?_
  refine PW.getf (t := (2, 1)) (v := .ref (gB g + 1)) cx qX6_reelCount_1 (sh_0 hx) rfl flX6_12 rfl ?_
  refine PW.getf (t := (0, 0)) (v := .int (rd h 1 12)) cx qX6_reelCount_4 (as_1 hx).1 rfl flX6_203 rfl ?_
  exact PW.iret cx hrt qX6_reelCount_7 (le_ri hf)
set_option maxRecDepth 20000 in
theorem ctX6_sceneCount {g : GT} {ex : Bool} {sh : List Shp} (hx : XSh sh) (h : Hp) (r0 : Int32) (hf : C_sceneCount h = some r0) : Ct g mX6_sceneCount 0 0 0 ex [.ref (gB g + 0)] sh h (PE (some (.int r0)) sh h) := by
  refine Ct.of (L := [some (.ref (gB g + 0))]) (by decide) (by intro w hw; simp only [List.mem_cons, List.not_mem_nil, or_false] at hw; rcases hw with rfl <;> rfl) (Nat.le_of_ble_eq_true rfl) rfl (fun X mx => ?_)
  obtain ⟨cx, hR, hml, hrt, -⟩ := mx
  have cx : Cx g X RX6 cX6_sceneCount := cx
  have hrt : X.2.2.2.2.2.2.2.1.sig.returnType = (some .int) := hrt
  unfold C_sceneCount at hf
  refine PW.aload_n cx qX6_sceneCount_0 rfl ?_
  refine PW.getf (t := (2, 1)) (v := .ref (gB g + 1)) cx qX6_sceneCount_1 (sh_0 hx) rfl flX6_12 rfl ?_
  refine PW.getf (t := (0, 0)) (v := .int (rd h 1 15)) cx qX6_sceneCount_4 (as_1 hx).1 rfl flX6_206 rfl ?_
  exact PW.iret cx hrt qX6_sceneCount_7 (le_ri hf)
set_option maxRecDepth 20000 in
theorem ctX6_springs {g : GT} {ex : Bool} {sh : List Shp} (hx : XSh sh) (h : Hp) (p1 : Int32) (r0 : Int32) (hf : C_springs h p1 = some r0) : Ct g mX6_springs 1 0 0 ex [.ref (gB g + 0), .int p1] sh h (PE (some (.int r0)) sh h) := by
  refine Ct.of (L := [some (.ref (gB g + 0)), some (.int p1)]) (by decide) (by intro w hw; simp only [List.mem_cons, List.not_mem_nil, or_false] at hw; rcases hw with rfl | rfl <;> rfl) (Nat.le_of_ble_eq_true rfl) rfl (fun X mx => ?_)
  obtain ⟨cx, hR, hml, hrt, -⟩ := mx
  have cx : Cx g X RX6 cX6_springs := cx
  have hrt : X.2.2.2.2.2.2.2.1.sig.returnType = (some .int) := hrt
  unfold C_springs at hf
  refine PW.aload_n cx qX6_springs_0 rfl ?_
  refine PW.iload_n cx qX6_springs_1 rfl ?_
  refine PW.callVRV (As := [.int p1]) (st := []) cx hR qX6_springs_2 klX6_136 mvX6_needScene (sh_0 hx) rfl rfl rfl rfl (Nat.le_of_ble_eq_true rfl) (Nat.le_of_ble_eq_true rfl) (Nat.le_of_ble_eq_true rfl) (Nat.zero_le _) (Nat.zero_le _) hf sne (fun t e => ctX6_needScene hx h p1 t e) (fun _ hf => ?_)
  refine PW.aload_n cx qX6_springs_5 rfl ?_
  refine PW.getf (t := (2, 1)) (v := .ref (gB g + 1)) cx qX6_springs_6 (sh_0 hx) rfl flX6_12 rfl ?_
  refine PW.getf (t := (2, 1 + 10)) (v := .ref (gB g + (1 + 10))) cx qX6_springs_9 (as_1 hx).1 rfl flX6_209 rfl ?_
  refine PW.iload_n cx qX6_springs_12 rfl ?_
  refine PW.iald cx qX6_springs_13 (AS.r10 (as_1 hx)) hf sne (fun t2 hf => ?_)
  exact PW.iret cx hrt qX6_springs_14 (le_ri hf)
set_option maxRecDepth 20000 in
theorem ctX6_state {g : GT} {ex : Bool} {sh : List Shp} (hx : XSh sh) (h : Hp) (p1 : Int32) (r0 : Int32) (hf : C_state h p1 = some r0) : Ct g mX6_state 1 0 0 ex [.ref (gB g + 0), .int p1] sh h (PE (some (.int r0)) sh h) := by
  refine Ct.of (L := [some (.ref (gB g + 0)), some (.int p1)]) (by decide) (by intro w hw; simp only [List.mem_cons, List.not_mem_nil, or_false] at hw; rcases hw with rfl | rfl <;> rfl) (Nat.le_of_ble_eq_true rfl) rfl (fun X mx => ?_)
  obtain ⟨cx, hR, hml, hrt, -⟩ := mx
  have cx : Cx g X RX6 cX6_state := cx
  have hrt : X.2.2.2.2.2.2.2.1.sig.returnType = (some .int) := hrt
  unfold C_state at hf
  refine PW.aload_n cx qX6_state_0 rfl ?_
  refine PW.iload_n cx qX6_state_1 rfl ?_
  refine PW.callVRV (As := [.int p1]) (st := []) cx hR qX6_state_2 klX6_116 mvX6_needClip (sh_0 hx) rfl rfl rfl rfl (Nat.le_of_ble_eq_true rfl) (Nat.le_of_ble_eq_true rfl) (Nat.le_of_ble_eq_true rfl) (Nat.zero_le _) (Nat.zero_le _) hf sne (fun t e => ctX6_needClip hx h p1 t e) (fun _ hf => ?_)
  refine PW.aload_n cx qX6_state_5 rfl ?_
  refine PW.getf (t := (2, 1)) (v := .ref (gB g + 1)) cx qX6_state_6 (sh_0 hx) rfl flX6_12 rfl ?_
  refine PW.getf (t := (2, 1 + 4)) (v := .ref (gB g + (1 + 4))) cx qX6_state_9 (as_1 hx).1 rfl flX6_129 rfl ?_
  refine PW.iload_n cx qX6_state_12 rfl ?_
  refine PW.iald cx qX6_state_13 (AS.r4 (as_1 hx)) hf sne (fun t2 hf => ?_)
  exact PW.iret cx hrt qX6_state_14 (le_ri hf)
set_option maxRecDepth 20000 in
theorem ctX6_colours {g : GT} {ex : Bool} {sh : List Shp} (hx : XSh sh) (h : Hp) (p1 : Int32) (r0 : Int32) (hf : C_colours h p1 = some r0) : Ct g mX6_colours 2 0 0 ex [.ref (gB g + 0), .int p1] sh h (PE (some (.int r0)) sh h) := by
  refine Ct.of (L := [some (.ref (gB g + 0)), some (.int p1)]) (by decide) (by intro w hw; simp only [List.mem_cons, List.not_mem_nil, or_false] at hw; rcases hw with rfl | rfl <;> rfl) (Nat.le_of_ble_eq_true rfl) rfl (fun X mx => ?_)
  obtain ⟨cx, hR, hml, hrt, -⟩ := mx
  have cx : Cx g X RX6 cX6_colours := cx
  have hrt : X.2.2.2.2.2.2.2.1.sig.returnType = (some .int) := hrt
  unfold C_colours at hf
  refine PW.aload_n cx qX6_colours_0 rfl ?_
  refine PW.iload_n cx qX6_colours_1 rfl ?_
  refine PW.callVRV (As := [.int p1]) (st := []) cx hR qX6_colours_2 klX6_116 mvX6_needClip (sh_0 hx) rfl rfl rfl rfl (Nat.le_of_ble_eq_true rfl) (Nat.le_of_ble_eq_true rfl) (Nat.le_of_ble_eq_true rfl) (Nat.zero_le _) (Nat.zero_le _) hf sne (fun t e => ctX6_needClip hx h p1 t e) (fun _ hf => ?_)
  refine PW.aload_n cx qX6_colours_5 rfl ?_
  refine PW.getf (t := (2, 1)) (v := .ref (gB g + 1)) cx qX6_colours_6 (sh_0 hx) rfl flX6_12 rfl ?_
  refine PW.iload_n cx qX6_colours_9 rfl ?_
  refine PW.callVRI (As := [.int p1]) (st := []) cx hR qX6_colours_10 klX6_212 mvX1_coloursOf (as_1 hx).1 rfl rfl rfl rfl (Nat.le_of_ble_eq_true rfl) (Nat.le_of_ble_eq_true rfl) (Nat.le_of_ble_eq_true rfl) (Nat.zero_le _) (Nat.zero_le _) hf sne (fun t e => ctX1_coloursOf (as_1 hx) h p1 t e) (fun t2 hf => ?_)
  exact PW.iret cx hrt qX6_colours_13 (le_ri hf)
set_option maxRecDepth 20000 in
theorem ctX6_length {g : GT} {ex : Bool} {sh : List Shp} (hx : XSh sh) (h : Hp) (p1 : Int32) (r0 : Int32) (hf : C_length h p1 = some r0) : Ct g mX6_length 1 0 0 ex [.ref (gB g + 0), .int p1] sh h (PE (some (.int r0)) sh h) := by
  refine Ct.of (L := [some (.ref (gB g + 0)), some (.int p1)]) (by decide) (by intro w hw; simp only [List.mem_cons, List.not_mem_nil, or_false] at hw; rcases hw with rfl | rfl <;> rfl) (Nat.le_of_ble_eq_true rfl) rfl (fun X mx => ?_)
  obtain ⟨cx, hR, hml, hrt, -⟩ := mx
  have cx : Cx g X RX6 cX6_length := cx
  have hrt : X.2.2.2.2.2.2.2.1.sig.returnType = (some .int) := hrt
  unfold C_length at hf
  refine PW.aload_n cx qX6_length_0 rfl ?_
  refine PW.iload_n cx qX6_length_1 rfl ?_
  refine PW.callVRV (As := [.int p1]) (st := []) cx hR qX6_length_2 klX6_116 mvX6_needClip (sh_0 hx) rfl rfl rfl rfl (Nat.le_of_ble_eq_true rfl) (Nat.le_of_ble_eq_true rfl) (Nat.le_of_ble_eq_true rfl) (Nat.zero_le _) (Nat.zero_le _) hf sne (fun t e => ctX6_needClip hx h p1 t e) (fun _ hf => ?_)
  refine PW.aload_n cx qX6_length_5 rfl ?_
  refine PW.getf (t := (2, 1)) (v := .ref (gB g + 1)) cx qX6_length_6 (sh_0 hx) rfl flX6_12 rfl ?_
  refine PW.getf (t := (2, 1 + 1)) (v := .ref (gB g + (1 + 1))) cx qX6_length_9 (as_1 hx).1 rfl flX6_161 rfl ?_
  refine PW.iload_n cx qX6_length_12 rfl ?_
  refine PW.iald cx qX6_length_13 (AS.r1 (as_1 hx)) hf sne (fun t2 hf => ?_)
  exact PW.iret cx hrt qX6_length_14 (le_ri hf)
set_option maxRecDepth 20000 in
theorem ctX6_fat {g : GT} {ex : Bool} {sh : List Shp} (hx : XSh sh) (h : Hp) (p1 : Int32) (r0 : Int32) (hf : C_fat h p1 = some r0) : Ct g mX6_fat 1 0 0 ex [.ref (gB g + 0), .int p1] sh h (PE (some (.int r0)) sh h) := by
  refine Ct.of (L := [some (.ref (gB g + 0)), some (.int p1)]) (by decide) (by intro w hw; simp only [List.mem_cons, List.not_mem_nil, or_false] at hw; rcases hw with rfl | rfl <;> rfl) (Nat.le_of_ble_eq_true rfl) rfl (fun X mx => ?_)
  obtain ⟨cx, hR, hml, hrt, -⟩ := mx
  have cx : Cx g X RX6 cX6_fat := cx
  have hrt : X.2.2.2.2.2.2.2.1.sig.returnType = (some .int) := hrt
  unfold C_fat at hf
  refine PW.aload_n cx qX6_fat_0 rfl ?_
  refine PW.iload_n cx qX6_fat_1 rfl ?_
  refine PW.callVRV (As := [.int p1]) (st := []) cx hR qX6_fat_2 klX6_116 mvX6_needClip (sh_0 hx) rfl rfl rfl rfl (Nat.le_of_ble_eq_true rfl) (Nat.le_of_ble_eq_true rfl) (Nat.le_of_ble_eq_true rfl) (Nat.zero_le _) (Nat.zero_le _) hf sne (fun t e => ctX6_needClip hx h p1 t e) (fun _ hf => ?_)
  refine PW.aload_n cx qX6_fat_5 rfl ?_
  refine PW.getf (t := (2, 1)) (v := .ref (gB g + 1)) cx qX6_fat_6 (sh_0 hx) rfl flX6_12 rfl ?_
  refine PW.getf (t := (2, 1 + 5)) (v := .ref (gB g + (1 + 5))) cx qX6_fat_9 (as_1 hx).1 rfl flX6_218 rfl ?_
  refine PW.iload_n cx qX6_fat_12 rfl ?_
  refine PW.iald cx qX6_fat_13 (AS.r5 (as_1 hx)) hf sne (fun t2 hf => ?_)
  exact PW.iret cx hrt qX6_fat_14 (le_ri hf)
set_option maxRecDepth 20000 in
theorem ctX6_reelOf {g : GT} {ex : Bool} {sh : List Shp} (hx : XSh sh) (h : Hp) (p1 : Int32) (r0 : Int32) (hf : C_reelOf h p1 = some r0) : Ct g mX6_reelOf 1 0 0 ex [.ref (gB g + 0), .int p1] sh h (PE (some (.int r0)) sh h) := by
  refine Ct.of (L := [some (.ref (gB g + 0)), some (.int p1), none]) (by decide) (by intro w hw; simp only [List.mem_cons, List.not_mem_nil, or_false] at hw; rcases hw with rfl | rfl <;> rfl) (Nat.le_of_ble_eq_true rfl) rfl (fun X mx => ?_)
  obtain ⟨cx, hR, hml, hrt, -⟩ := mx
  have cx : Cx g X RX6 cX6_reelOf := cx
  have hrt : X.2.2.2.2.2.2.2.1.sig.returnType = (some .int) := hrt
  have hi2 : 2 < X.2.2.2.2.2.2.2.2.maxLocals := by rw [hml]; exact Nat.le_of_ble_eq_true rfl
  unfold C_reelOf at hf
  refine PW.aload_n cx qX6_reelOf_0 rfl ?_
  refine PW.iload_n cx qX6_reelOf_1 rfl ?_
  refine PW.callVRV (As := [.int p1]) (st := []) cx hR qX6_reelOf_2 klX6_116 mvX6_needClip (sh_0 hx) rfl rfl rfl rfl (Nat.le_of_ble_eq_true rfl) (Nat.le_of_ble_eq_true rfl) (Nat.le_of_ble_eq_true rfl) (Nat.zero_le _) (Nat.zero_le _) hf sne (fun t e => ctX6_needClip hx h p1 t e) (fun _ hf => ?_)
  refine PW.aload_n cx qX6_reelOf_5 rfl ?_
  refine PW.getf (t := (2, 1)) (v := .ref (gB g + 1)) cx qX6_reelOf_6 (sh_0 hx) rfl flX6_12 rfl ?_
  refine PW.iload_n cx qX6_reelOf_9 rfl ?_
  refine PW.callVRI (As := [.int p1]) (st := []) cx hR qX6_reelOf_10 klX6_221 mvX1_placeOf (as_1 hx).1 rfl rfl rfl rfl (Nat.le_of_ble_eq_true rfl) (Nat.le_of_ble_eq_true rfl) (Nat.le_of_ble_eq_true rfl) (Nat.zero_le _) (Nat.zero_le _) hf sne (fun t e => ctX1_placeOf (as_1 hx) h p1 t e) (fun t2 hf => ?_)
  refine PW.istore_n (L' := [some (.ref (gB g + 0)), some (.int p1), some (.int t2)]) cx qX6_reelOf_13 hi2 rfl rfl ?_
  refine PW.iload_n cx qX6_reelOf_14 rfl ?_
  refine PW.iconst (v := (-1)) cx qX6_reelOf_15 rfl ?_
  refine PW.icmp_ne cx qX6_reelOf_16 hf (fun hf => ?_) (fun hf => ?_)
  · refine PW.iconst (v := (-1)) cx qX6_reelOf_19 rfl ?_
    refine PW.goto cx qX6_reelOf_20 ?_
    exact PW.iret cx hrt qX6_reelOf_27 (le_ri hf)
  · refine PW.iload_n cx qX6_reelOf_23 rfl ?_
    refine PW.bipush (v := 9) cx qX6_reelOf_24 rfl ?_
    refine PW.idivK cx qX6_reelOf_26 (by decide) ?_
    exact PW.iret cx hrt qX6_reelOf_27 (le_ri hf)
set_option maxRecDepth 20000 in
theorem ctX6_bedOf {g : GT} {ex : Bool} {sh : List Shp} (hx : XSh sh) (h : Hp) (p1 : Int32) (r0 : Int32) (hf : C_bedOf h p1 = some r0) : Ct g mX6_bedOf 1 0 0 ex [.ref (gB g + 0), .int p1] sh h (PE (some (.int r0)) sh h) := by
  refine Ct.of (L := [some (.ref (gB g + 0)), some (.int p1), none]) (by decide) (by intro w hw; simp only [List.mem_cons, List.not_mem_nil, or_false] at hw; rcases hw with rfl | rfl <;> rfl) (Nat.le_of_ble_eq_true rfl) rfl (fun X mx => ?_)
  obtain ⟨cx, hR, hml, hrt, -⟩ := mx
  have cx : Cx g X RX6 cX6_bedOf := cx
  have hrt : X.2.2.2.2.2.2.2.1.sig.returnType = (some .int) := hrt
  have hi2 : 2 < X.2.2.2.2.2.2.2.2.maxLocals := by rw [hml]; exact Nat.le_of_ble_eq_true rfl
  unfold C_bedOf at hf
  refine PW.aload_n cx qX6_bedOf_0 rfl ?_
  refine PW.iload_n cx qX6_bedOf_1 rfl ?_
  refine PW.callVRV (As := [.int p1]) (st := []) cx hR qX6_bedOf_2 klX6_116 mvX6_needClip (sh_0 hx) rfl rfl rfl rfl (Nat.le_of_ble_eq_true rfl) (Nat.le_of_ble_eq_true rfl) (Nat.le_of_ble_eq_true rfl) (Nat.zero_le _) (Nat.zero_le _) hf sne (fun t e => ctX6_needClip hx h p1 t e) (fun _ hf => ?_)
  refine PW.aload_n cx qX6_bedOf_5 rfl ?_
  refine PW.getf (t := (2, 1)) (v := .ref (gB g + 1)) cx qX6_bedOf_6 (sh_0 hx) rfl flX6_12 rfl ?_
  refine PW.iload_n cx qX6_bedOf_9 rfl ?_
  refine PW.callVRI (As := [.int p1]) (st := []) cx hR qX6_bedOf_10 klX6_221 mvX1_placeOf (as_1 hx).1 rfl rfl rfl rfl (Nat.le_of_ble_eq_true rfl) (Nat.le_of_ble_eq_true rfl) (Nat.le_of_ble_eq_true rfl) (Nat.zero_le _) (Nat.zero_le _) hf sne (fun t e => ctX1_placeOf (as_1 hx) h p1 t e) (fun t2 hf => ?_)
  refine PW.istore_n (L' := [some (.ref (gB g + 0)), some (.int p1), some (.int t2)]) cx qX6_bedOf_13 hi2 rfl rfl ?_
  refine PW.iload_n cx qX6_bedOf_14 rfl ?_
  refine PW.iconst (v := (-1)) cx qX6_bedOf_15 rfl ?_
  refine PW.icmp_ne cx qX6_bedOf_16 hf (fun hf => ?_) (fun hf => ?_)
  · refine PW.iconst (v := (-1)) cx qX6_bedOf_19 rfl ?_
    refine PW.goto cx qX6_bedOf_20 ?_
    exact PW.iret cx hrt qX6_bedOf_27 (le_ri hf)
  · refine PW.iload_n cx qX6_bedOf_23 rfl ?_
    refine PW.bipush (v := 9) cx qX6_bedOf_24 rfl ?_
    refine PW.iremK cx qX6_bedOf_26 (by decide) ?_
    exact PW.iret cx hrt qX6_bedOf_27 (le_ri hf)
set_option maxRecDepth 20000 in
theorem ctX6_sceneOf {g : GT} {ex : Bool} {sh : List Shp} (hx : XSh sh) (h : Hp) (p1 : Int32) (r0 : Int32) (hf : C_sceneOf h p1 = some r0) : Ct g mX6_sceneOf 1 0 0 ex [.ref (gB g + 0), .int p1] sh h (PE (some (.int r0)) sh h) := by
  refine Ct.of (L := [some (.ref (gB g + 0)), some (.int p1)]) (by decide) (by intro w hw; simp only [List.mem_cons, List.not_mem_nil, or_false] at hw; rcases hw with rfl | rfl <;> rfl) (Nat.le_of_ble_eq_true rfl) rfl (fun X mx => ?_)
  obtain ⟨cx, hR, hml, hrt, -⟩ := mx
  have cx : Cx g X RX6 cX6_sceneOf := cx
  have hrt : X.2.2.2.2.2.2.2.1.sig.returnType = (some .int) := hrt
  unfold C_sceneOf at hf
  refine PW.aload_n cx qX6_sceneOf_0 rfl ?_
  refine PW.iload_n cx qX6_sceneOf_1 rfl ?_
  refine PW.callVRV (As := [.int p1]) (st := []) cx hR qX6_sceneOf_2 klX6_116 mvX6_needClip (sh_0 hx) rfl rfl rfl rfl (Nat.le_of_ble_eq_true rfl) (Nat.le_of_ble_eq_true rfl) (Nat.le_of_ble_eq_true rfl) (Nat.zero_le _) (Nat.zero_le _) hf sne (fun t e => ctX6_needClip hx h p1 t e) (fun _ hf => ?_)
  refine PW.aload_n cx qX6_sceneOf_5 rfl ?_
  refine PW.getf (t := (2, 1)) (v := .ref (gB g + 1)) cx qX6_sceneOf_6 (sh_0 hx) rfl flX6_12 rfl ?_
  refine PW.getf (t := (2, 1 + 6)) (v := .ref (gB g + (1 + 6))) cx qX6_sceneOf_9 (as_1 hx).1 rfl flX6_224 rfl ?_
  refine PW.iload_n cx qX6_sceneOf_12 rfl ?_
  refine PW.iald cx qX6_sceneOf_13 (AS.r6 (as_1 hx)) hf sne (fun t2 hf => ?_)
  exact PW.iret cx hrt qX6_sceneOf_14 (le_ri hf)
set_option maxRecDepth 20000 in
theorem ctX6_bedCount {g : GT} {ex : Bool} {sh : List Shp} (hx : XSh sh) (h : Hp) (p1 : Int32) (r0 : Int32) (hf : C_bedCount h p1 = some r0) : Ct g mX6_bedCount 1 0 0 ex [.ref (gB g + 0), .int p1] sh h (PE (some (.int r0)) sh h) := by
  refine Ct.of (L := [some (.ref (gB g + 0)), some (.int p1)]) (by decide) (by intro w hw; simp only [List.mem_cons, List.not_mem_nil, or_false] at hw; rcases hw with rfl | rfl <;> rfl) (Nat.le_of_ble_eq_true rfl) rfl (fun X mx => ?_)
  obtain ⟨cx, hR, hml, hrt, -⟩ := mx
  have cx : Cx g X RX6 cX6_bedCount := cx
  have hrt : X.2.2.2.2.2.2.2.1.sig.returnType = (some .int) := hrt
  unfold C_bedCount at hf
  refine PW.aload_n cx qX6_bedCount_0 rfl ?_
  refine PW.iload_n cx qX6_bedCount_1 rfl ?_
  refine PW.callVRV (As := [.int p1]) (st := []) cx hR qX6_bedCount_2 klX6_119 mvX6_needReel (sh_0 hx) rfl rfl rfl rfl (Nat.le_of_ble_eq_true rfl) (Nat.le_of_ble_eq_true rfl) (Nat.le_of_ble_eq_true rfl) (Nat.zero_le _) (Nat.zero_le _) hf sne (fun t e => ctX6_needReel hx h p1 t e) (fun _ hf => ?_)
  refine PW.aload_n cx qX6_bedCount_5 rfl ?_
  refine PW.getf (t := (2, 1)) (v := .ref (gB g + 1)) cx qX6_bedCount_6 (sh_0 hx) rfl flX6_12 rfl ?_
  refine PW.getf (t := (2, 1 + 7)) (v := .ref (gB g + (1 + 7))) cx qX6_bedCount_9 (as_1 hx).1 rfl flX6_239 rfl ?_
  refine PW.iload_n cx qX6_bedCount_12 rfl ?_
  refine PW.iald cx qX6_bedCount_13 (AS.r7 (as_1 hx)) hf sne (fun t2 hf => ?_)
  exact PW.iret cx hrt qX6_bedCount_14 (le_ri hf)
set_option maxRecDepth 20000 in
theorem ctX6_bed {g : GT} {ex : Bool} {sh : List Shp} (hx : XSh sh) (h : Hp) (p1 : Int32) (p2 : Int32) (r0 : Int32) (hf : C_bed h p1 p2 = some r0) : Ct g mX6_bed 1 0 0 ex [.ref (gB g + 0), .int p1, .int p2] sh h (PE (some (.int r0)) sh h) := by
  refine Ct.of (L := [some (.ref (gB g + 0)), some (.int p1), some (.int p2)]) (by decide) (by intro w hw; simp only [List.mem_cons, List.not_mem_nil, or_false] at hw; rcases hw with rfl | rfl | rfl <;> rfl) (Nat.le_of_ble_eq_true rfl) rfl (fun X mx => ?_)
  obtain ⟨cx, hR, hml, hrt, -⟩ := mx
  have cx : Cx g X RX6 cX6_bed := cx
  have hrt : X.2.2.2.2.2.2.2.1.sig.returnType = (some .int) := hrt
  unfold C_bed at hf
  refine PW.aload_n cx qX6_bed_0 rfl ?_
  refine PW.iload_n cx qX6_bed_1 rfl ?_
  refine PW.callVRV (As := [.int p1]) (st := []) cx hR qX6_bed_2 klX6_119 mvX6_needReel (sh_0 hx) rfl rfl rfl rfl (Nat.le_of_ble_eq_true rfl) (Nat.le_of_ble_eq_true rfl) (Nat.le_of_ble_eq_true rfl) (Nat.zero_le _) (Nat.zero_le _) hf sne (fun t e => ctX6_needReel hx h p1 t e) (fun _ hf => ?_)
  refine PW.iload_n cx qX6_bed_5 rfl ?_
  refine PW.if_lt cx qX6_bed_6 hf (fun hf => ?_) (fun hf => ?_)
  · cases hf
  · refine PW.iload_n cx qX6_bed_9 rfl ?_
    refine PW.aload_n cx qX6_bed_10 rfl ?_
    refine PW.getf (t := (2, 1)) (v := .ref (gB g + 1)) cx qX6_bed_11 (sh_0 hx) rfl flX6_12 rfl ?_
    refine PW.getf (t := (2, 1 + 7)) (v := .ref (gB g + (1 + 7))) cx qX6_bed_14 (as_1 hx).1 rfl flX6_239 rfl ?_
    refine PW.iload_n cx qX6_bed_17 rfl ?_
    refine PW.iald cx qX6_bed_18 (AS.r7 (as_1 hx)) hf sne (fun t2 hf => ?_)
    refine PW.icmp_lt cx qX6_bed_19 hf (fun hf => ?_) (fun hf => ?_)
    · refine PW.aload_n cx qX6_bed_32 rfl ?_
      refine PW.getf (t := (2, 1)) (v := .ref (gB g + 1)) cx qX6_bed_33 (sh_0 hx) rfl flX6_12 rfl ?_
      refine PW.iload_n cx qX6_bed_36 rfl ?_
      refine PW.iload_n cx qX6_bed_37 rfl ?_
      refine PW.callVRI (As := [.int p1, .int p2]) (st := []) cx hR qX6_bed_38 klX6_244 mvX1_inBed (as_1 hx).1 rfl rfl rfl rfl (Nat.le_of_ble_eq_true rfl) (Nat.le_of_ble_eq_true rfl) (Nat.le_of_ble_eq_true rfl) (Nat.zero_le _) (Nat.zero_le _) hf sne (fun t e => ctX1_inBed (as_1 hx) h p1 p2 t e) (fun t3 hf => ?_)
      exact PW.iret cx hrt qX6_bed_41 (le_ri hf)
    · cases hf
set_option maxRecDepth 20000 in
theorem ctX6_sleepers {g : GT} {ex : Bool} {sh : List Shp} (hx : XSh sh) (h : Hp) (p1 : Int32) (r0 : Int32) (hf : C_sleepers h p1 = some r0) : Ct g mX6_sleepers 2 0 0 ex [.ref (gB g + 0), .int p1] sh h (PE (some (.int r0)) sh h) := by
  refine Ct.of (L := [some (.ref (gB g + 0)), some (.int p1)]) (by decide) (by intro w hw; simp only [List.mem_cons, List.not_mem_nil, or_false] at hw; rcases hw with rfl | rfl <;> rfl) (Nat.le_of_ble_eq_true rfl) rfl (fun X mx => ?_)
  obtain ⟨cx, hR, hml, hrt, -⟩ := mx
  have cx : Cx g X RX6 cX6_sleepers := cx
  have hrt : X.2.2.2.2.2.2.2.1.sig.returnType = (some .int) := hrt
  unfold C_sleepers at hf
  refine PW.aload_n cx qX6_sleepers_0 rfl ?_
  refine PW.iload_n cx qX6_sleepers_1 rfl ?_
  refine PW.callVRV (As := [.int p1]) (st := []) cx hR qX6_sleepers_2 klX6_119 mvX6_needReel (sh_0 hx) rfl rfl rfl rfl (Nat.le_of_ble_eq_true rfl) (Nat.le_of_ble_eq_true rfl) (Nat.le_of_ble_eq_true rfl) (Nat.zero_le _) (Nat.zero_le _) hf sne (fun t e => ctX6_needReel hx h p1 t e) (fun _ hf => ?_)
  refine PW.aload_n cx qX6_sleepers_5 rfl ?_
  refine PW.getf (t := (2, 1)) (v := .ref (gB g + 1)) cx qX6_sleepers_6 (sh_0 hx) rfl flX6_12 rfl ?_
  refine PW.iload_n cx qX6_sleepers_9 rfl ?_
  refine PW.callVRI (As := [.int p1]) (st := []) cx hR qX6_sleepers_10 klX6_247 mvX1_sleepersIn (as_1 hx).1 rfl rfl rfl rfl (Nat.le_of_ble_eq_true rfl) (Nat.le_of_ble_eq_true rfl) (Nat.le_of_ble_eq_true rfl) (Nat.zero_le _) (Nat.zero_le _) hf sne (fun t e => ctX1_sleepersIn (as_1 hx) h p1 t e) (fun t2 hf => ?_)
  exact PW.iret cx hrt qX6_sleepers_13 (le_ri hf)
set_option maxRecDepth 20000 in
theorem ctX6_home {g : GT} {ex : Bool} {sh : List Shp} (hx : XSh sh) (h : Hp) (p1 : Int32) (p2 : Int32) (r0 : Int32) (hf : C_home h p1 p2 = some r0) : Ct g mX6_home 2 0 0 ex [.ref (gB g + 0), .int p1, .int p2] sh h (PE (some (.int r0)) sh h) := by
  refine Ct.of (L := [some (.ref (gB g + 0)), some (.int p1), some (.int p2)]) (by decide) (by intro w hw; simp only [List.mem_cons, List.not_mem_nil, or_false] at hw; rcases hw with rfl | rfl | rfl <;> rfl) (Nat.le_of_ble_eq_true rfl) rfl (fun X mx => ?_)
  obtain ⟨cx, hR, hml, hrt, -⟩ := mx
  have cx : Cx g X RX6 cX6_home := cx
  have hrt : X.2.2.2.2.2.2.2.1.sig.returnType = (some .int) := hrt
  unfold C_home at hf
  refine PW.aload_n cx qX6_home_0 rfl ?_
  refine PW.iload_n cx qX6_home_1 rfl ?_
  refine PW.callVRV (As := [.int p1]) (st := []) cx hR qX6_home_2 klX6_116 mvX6_needClip (sh_0 hx) rfl rfl rfl rfl (Nat.le_of_ble_eq_true rfl) (Nat.le_of_ble_eq_true rfl) (Nat.le_of_ble_eq_true rfl) (Nat.zero_le _) (Nat.zero_le _) hf sne (fun t e => ctX6_needClip hx h p1 t e) (fun _ hf => ?_)
  refine PW.aload_n cx qX6_home_5 rfl ?_
  refine PW.iload_n cx qX6_home_6 rfl ?_
  refine PW.callVRV (As := [.int p2]) (st := []) cx hR qX6_home_7 klX6_119 mvX6_needReel (sh_0 hx) rfl rfl rfl rfl (Nat.le_of_ble_eq_true rfl) (Nat.le_of_ble_eq_true rfl) (Nat.le_of_ble_eq_true rfl) (Nat.zero_le _) (Nat.zero_le _) hf sne (fun t e => ctX6_needReel hx h p2 t e) (fun _ hf => ?_)
  refine PW.aload_n cx qX6_home_10 rfl ?_
  refine PW.getf (t := (2, 1)) (v := .ref (gB g + 1)) cx qX6_home_11 (sh_0 hx) rfl flX6_12 rfl ?_
  refine PW.iload_n cx qX6_home_14 rfl ?_
  refine PW.iload_n cx qX6_home_15 rfl ?_
  refine PW.callVRI (As := [.int p1, .int p2]) (st := []) cx hR qX6_home_16 klX6_250 mvX1_homeOf (as_1 hx).1 rfl rfl rfl rfl (Nat.le_of_ble_eq_true rfl) (Nat.le_of_ble_eq_true rfl) (Nat.le_of_ble_eq_true rfl) (Nat.zero_le _) (Nat.zero_le _) hf sne (fun t e => ctX1_homeOf (as_1 hx) h p1 p2 t e) (fun t3 hf => ?_)
  exact PW.iret cx hrt qX6_home_19 (le_ri hf)
set_option maxRecDepth 20000 in
theorem ctX6_whyNoSleep {g : GT} {ex : Bool} {sh : List Shp} (hx : XSh sh) (h : Hp) (p1 : Int32) (p2 : Int32) (r0 : Int32) (hf : C_whyNoSleep h p1 p2 = some r0) : Ct g mX6_whyNoSleep 3 0 0 ex [.ref (gB g + 0), .int p1, .int p2] sh h (PE (some (.int r0)) sh h) := by
  refine Ct.of (L := [some (.ref (gB g + 0)), some (.int p1), some (.int p2)]) (by decide) (by intro w hw; simp only [List.mem_cons, List.not_mem_nil, or_false] at hw; rcases hw with rfl | rfl | rfl <;> rfl) (Nat.le_of_ble_eq_true rfl) rfl (fun X mx => ?_)
  obtain ⟨cx, hR, hml, hrt, -⟩ := mx
  have cx : Cx g X RX6 cX6_whyNoSleep := cx
  have hrt : X.2.2.2.2.2.2.2.1.sig.returnType = (some .int) := hrt
  unfold C_whyNoSleep at hf
  refine PW.aload_n cx qX6_whyNoSleep_0 rfl ?_
  refine PW.iload_n cx qX6_whyNoSleep_1 rfl ?_
  refine PW.callVRV (As := [.int p1]) (st := []) cx hR qX6_whyNoSleep_2 klX6_116 mvX6_needClip (sh_0 hx) rfl rfl rfl rfl (Nat.le_of_ble_eq_true rfl) (Nat.le_of_ble_eq_true rfl) (Nat.le_of_ble_eq_true rfl) (Nat.zero_le _) (Nat.zero_le _) hf sne (fun t e => ctX6_needClip hx h p1 t e) (fun _ hf => ?_)
  refine PW.aload_n cx qX6_whyNoSleep_5 rfl ?_
  refine PW.iload_n cx qX6_whyNoSleep_6 rfl ?_
  refine PW.callVRV (As := [.int p2]) (st := []) cx hR qX6_whyNoSleep_7 klX6_119 mvX6_needReel (sh_0 hx) rfl rfl rfl rfl (Nat.le_of_ble_eq_true rfl) (Nat.le_of_ble_eq_true rfl) (Nat.le_of_ble_eq_true rfl) (Nat.zero_le _) (Nat.zero_le _) hf sne (fun t e => ctX6_needReel hx h p2 t e) (fun _ hf => ?_)
  refine PW.aload_n cx qX6_whyNoSleep_10 rfl ?_
  refine PW.getf (t := (2, 1)) (v := .ref (gB g + 1)) cx qX6_whyNoSleep_11 (sh_0 hx) rfl flX6_12 rfl ?_
  refine PW.iload_n cx qX6_whyNoSleep_14 rfl ?_
  refine PW.iload_n cx qX6_whyNoSleep_15 rfl ?_
  refine PW.callVRI (As := [.int p1, .int p2]) (st := []) cx hR qX6_whyNoSleep_16 klX6_122 mvX1_refusal (as_1 hx).1 rfl rfl rfl rfl (Nat.le_of_ble_eq_true rfl) (Nat.le_of_ble_eq_true rfl) (Nat.le_of_ble_eq_true rfl) (Nat.zero_le _) (Nat.zero_le _) hf sne (fun t e => ctX1_refusal (as_1 hx) h p1 p2 t e) (fun t3 hf => ?_)
  exact PW.iret cx hrt qX6_whyNoSleep_19 (le_ri hf)
set_option maxRecDepth 20000 in
theorem ctX6_looksFor {g : GT} {ex : Bool} {sh : List Shp} (hx : XSh sh) (h : Hp) (p1 : Int32) (p2 : Int32) (r0 : Int32) (hf : C_looksFor h p1 p2 = some r0) : Ct g mX6_looksFor 2 0 0 ex [.ref (gB g + 0), .int p1, .int p2] sh h (PE (some (.int r0)) sh h) := by
  refine Ct.of (L := [some (.ref (gB g + 0)), some (.int p1), some (.int p2)]) (by decide) (by intro w hw; simp only [List.mem_cons, List.not_mem_nil, or_false] at hw; rcases hw with rfl | rfl | rfl <;> rfl) (Nat.le_of_ble_eq_true rfl) rfl (fun X mx => ?_)
  obtain ⟨cx, hR, hml, hrt, -⟩ := mx
  have cx : Cx g X RX6 cX6_looksFor := cx
  have hrt : X.2.2.2.2.2.2.2.1.sig.returnType = (some .int) := hrt
  unfold C_looksFor at hf
  refine PW.aload_n cx qX6_looksFor_0 rfl ?_
  refine PW.iload_n cx qX6_looksFor_1 rfl ?_
  refine PW.callVRV (As := [.int p1]) (st := []) cx hR qX6_looksFor_2 klX6_116 mvX6_needClip (sh_0 hx) rfl rfl rfl rfl (Nat.le_of_ble_eq_true rfl) (Nat.le_of_ble_eq_true rfl) (Nat.le_of_ble_eq_true rfl) (Nat.zero_le _) (Nat.zero_le _) hf sne (fun t e => ctX6_needClip hx h p1 t e) (fun _ hf => ?_)
  refine PW.aload_n cx qX6_looksFor_5 rfl ?_
  refine PW.iload_n cx qX6_looksFor_6 rfl ?_
  refine PW.callVRV (As := [.int p2]) (st := []) cx hR qX6_looksFor_7 klX6_119 mvX6_needReel (sh_0 hx) rfl rfl rfl rfl (Nat.le_of_ble_eq_true rfl) (Nat.le_of_ble_eq_true rfl) (Nat.le_of_ble_eq_true rfl) (Nat.zero_le _) (Nat.zero_le _) hf sne (fun t e => ctX6_needReel hx h p2 t e) (fun _ hf => ?_)
  refine PW.aload_n cx qX6_looksFor_10 rfl ?_
  refine PW.getf (t := (2, 1)) (v := .ref (gB g + 1)) cx qX6_looksFor_11 (sh_0 hx) rfl flX6_12 rfl ?_
  refine PW.iload_n cx qX6_looksFor_14 rfl ?_
  refine PW.iload_n cx qX6_looksFor_15 rfl ?_
  refine PW.callVRI (As := [.int p1, .int p2]) (st := []) cx hR qX6_looksFor_16 klX6_259 mvX1_looks (as_1 hx).1 rfl rfl rfl rfl (Nat.le_of_ble_eq_true rfl) (Nat.le_of_ble_eq_true rfl) (Nat.le_of_ble_eq_true rfl) (Nat.zero_le _) (Nat.zero_le _) hf sne (fun t e => ctX1_looks (as_1 hx) h p1 p2 t e) (fun t3 hf => ?_)
  exact PW.iret cx hrt qX6_looksFor_19 (le_ri hf)
set_option maxRecDepth 20000 in
theorem ctX6_longestLook {g : GT} {ex : Bool} {sh : List Shp} (hx : XSh sh) (h : Hp) (p1 : Int32) (r0 : Int32) (hf : C_longestLook h p1 = some r0) : Ct g mX6_longestLook 3 0 0 ex [.ref (gB g + 0), .int p1] sh h (PE (some (.int r0)) sh h) := by
  refine Ct.of (L := [some (.ref (gB g + 0)), some (.int p1)]) (by decide) (by intro w hw; simp only [List.mem_cons, List.not_mem_nil, or_false] at hw; rcases hw with rfl | rfl <;> rfl) (Nat.le_of_ble_eq_true rfl) rfl (fun X mx => ?_)
  obtain ⟨cx, hR, hml, hrt, -⟩ := mx
  have cx : Cx g X RX6 cX6_longestLook := cx
  have hrt : X.2.2.2.2.2.2.2.1.sig.returnType = (some .int) := hrt
  unfold C_longestLook at hf
  refine PW.aload_n cx qX6_longestLook_0 rfl ?_
  refine PW.iload_n cx qX6_longestLook_1 rfl ?_
  refine PW.callVRV (As := [.int p1]) (st := []) cx hR qX6_longestLook_2 klX6_119 mvX6_needReel (sh_0 hx) rfl rfl rfl rfl (Nat.le_of_ble_eq_true rfl) (Nat.le_of_ble_eq_true rfl) (Nat.le_of_ble_eq_true rfl) (Nat.zero_le _) (Nat.zero_le _) hf sne (fun t e => ctX6_needReel hx h p1 t e) (fun _ hf => ?_)
  refine PW.aload_n cx qX6_longestLook_5 rfl ?_
  refine PW.getf (t := (2, 1)) (v := .ref (gB g + 1)) cx qX6_longestLook_6 (sh_0 hx) rfl flX6_12 rfl ?_
  refine PW.iload_n cx qX6_longestLook_9 rfl ?_
  refine PW.callVRI (As := [.int p1]) (st := []) cx hR qX6_longestLook_10 klX6_262 mvX1_mostLooks (as_1 hx).1 rfl rfl rfl rfl (Nat.le_of_ble_eq_true rfl) (Nat.le_of_ble_eq_true rfl) (Nat.le_of_ble_eq_true rfl) (Nat.zero_le _) (Nat.zero_le _) hf sne (fun t e => ctX1_mostLooks (as_1 hx) h p1 t e) (fun t2 hf => ?_)
  exact PW.iret cx hrt qX6_longestLook_13 (le_ri hf)
set_option maxRecDepth 20000 in
theorem ctX6_looksIfAired {g : GT} {ex : Bool} {sh : List Shp} (hx : XSh sh) (h : Hp) (p1 : Int32) (r0 : Int32 × Hp) (hf : C_looksIfAired h p1 = some r0) : Ct g mX6_looksIfAired 4 0 0 ex [.ref (gB g + 0), .int p1] sh h (PE (some (.int r0.1)) sh r0.2) := by
  refine Ct.of (L := [some (.ref (gB g + 0)), some (.int p1)]) (by decide) (by intro w hw; simp only [List.mem_cons, List.not_mem_nil, or_false] at hw; rcases hw with rfl | rfl <;> rfl) (Nat.le_of_ble_eq_true rfl) rfl (fun X mx => ?_)
  obtain ⟨cx, hR, hml, hrt, -⟩ := mx
  have cx : Cx g X RX6 cX6_looksIfAired := cx
  have hrt : X.2.2.2.2.2.2.2.1.sig.returnType = (some .int) := hrt
  unfold C_looksIfAired at hf
  refine PW.aload_n cx qX6_looksIfAired_0 rfl ?_
  refine PW.iload_n cx qX6_looksIfAired_1 rfl ?_
  refine PW.callVRV (As := [.int p1]) (st := []) cx hR qX6_looksIfAired_2 klX6_119 mvX6_needReel (sh_0 hx) rfl rfl rfl rfl (Nat.le_of_ble_eq_true rfl) (Nat.le_of_ble_eq_true rfl) (Nat.le_of_ble_eq_true rfl) (Nat.zero_le _) (Nat.zero_le _) hf sne (fun t e => ctX6_needReel hx h p1 t e) (fun _ hf => ?_)
  refine PW.aload_n cx qX6_looksIfAired_5 rfl ?_
  refine PW.getf (t := (2, 12)) (v := .ref (gB g + 12)) cx qX6_looksIfAired_6 (sh_0 hx) rfl flX6_16 rfl ?_
  refine PW.aload_n cx qX6_looksIfAired_9 rfl ?_
  refine PW.getf (t := (2, 1)) (v := .ref (gB g + 1)) cx qX6_looksIfAired_10 (sh_0 hx) rfl flX6_12 rfl ?_
  refine PW.callVWV (As := [.ref (gB g + 1)]) (st := []) cx hR qX6_looksIfAired_13 klX6_55 mvX1_copyFrom (as_12 hx).1 rfl rfl rfl rfl (Nat.le_of_ble_eq_true rfl) (Nat.le_of_ble_eq_true rfl) (Nat.le_of_ble_eq_true rfl) (Nat.zero_le _) (Nat.zero_le _) hf sne (fun t e => ctX1_copyFrom (as_12 hx) (as_1 hx) h t e) (fun h3 hf => ?_)
  refine PW.aload_n cx qX6_looksIfAired_16 rfl ?_
  refine PW.getf (t := (2, 12)) (v := .ref (gB g + 12)) cx qX6_looksIfAired_17 (sh_0 hx) rfl flX6_16 rfl ?_
  refine PW.iload_n cx qX6_looksIfAired_20 rfl ?_
  refine PW.callVWIc (As := [.int p1]) (st := []) cx hR qX6_looksIfAired_21 klX6_145 mvX1_airReel (as_12 hx).1 rfl rfl rfl rfl (Nat.le_of_ble_eq_true rfl) (Nat.le_of_ble_eq_true rfl) (Nat.le_of_ble_eq_true rfl) (Nat.zero_le _) (Nat.zero_le _) hf sne (fun t e => ctX1_airReel (as_12 hx) h3 p1 t e) (fun t4 h5 hf => ?_)
  refine PW.pop cx qX6_looksIfAired_24 rfl ?_
  refine PW.aload_n cx qX6_looksIfAired_25 rfl ?_
  refine PW.getf (t := (2, 12)) (v := .ref (gB g + 12)) cx qX6_looksIfAired_26 (sh_0 hx) rfl flX6_16 rfl ?_
  refine PW.iload_n cx qX6_looksIfAired_29 rfl ?_
  refine PW.callVRI (As := [.int p1]) (st := []) cx hR qX6_looksIfAired_30 klX6_265 mvX1_allLooks (as_12 hx).1 rfl rfl rfl rfl (Nat.le_of_ble_eq_true rfl) (Nat.le_of_ble_eq_true rfl) (Nat.le_of_ble_eq_true rfl) (Nat.zero_le _) (Nat.zero_le _) hf sne (fun t e => ctX1_allLooks (as_12 hx) h5 p1 t e) (fun t6 hf => ?_)
  exact PW.iret cx hrt qX6_looksIfAired_33 (le_wi hf)
set_option maxRecDepth 20000 in
theorem ctX6_bestReel {g : GT} {ex : Bool} {sh : List Shp} (hx : XSh sh) (h : Hp) (p1 : Int32) (r0 : Int32) (hf : C_bestReel h p1 = some r0) : Ct g mX6_bestReel 4 0 0 ex [.ref (gB g + 0), .int p1] sh h (PE (some (.int r0)) sh h) := by
  refine Ct.of (L := [some (.ref (gB g + 0)), some (.int p1)]) (by decide) (by intro w hw; simp only [List.mem_cons, List.not_mem_nil, or_false] at hw; rcases hw with rfl | rfl <;> rfl) (Nat.le_of_ble_eq_true rfl) rfl (fun X mx => ?_)
  obtain ⟨cx, hR, hml, hrt, -⟩ := mx
  have cx : Cx g X RX6 cX6_bestReel := cx
  have hrt : X.2.2.2.2.2.2.2.1.sig.returnType = (some .int) := hrt
  unfold C_bestReel at hf
  refine PW.aload_n cx qX6_bestReel_0 rfl ?_
  refine PW.iload_n cx qX6_bestReel_1 rfl ?_
  refine PW.callVRV (As := [.int p1]) (st := []) cx hR qX6_bestReel_2 klX6_116 mvX6_needClip (sh_0 hx) rfl rfl rfl rfl (Nat.le_of_ble_eq_true rfl) (Nat.le_of_ble_eq_true rfl) (Nat.le_of_ble_eq_true rfl) (Nat.zero_le _) (Nat.zero_le _) hf sne (fun t e => ctX6_needClip hx h p1 t e) (fun _ hf => ?_)
  refine PW.aload_n cx qX6_bestReel_5 rfl ?_
  refine PW.getf (t := (2, 1)) (v := .ref (gB g + 1)) cx qX6_bestReel_6 (sh_0 hx) rfl flX6_12 rfl ?_
  refine PW.iload_n cx qX6_bestReel_9 rfl ?_
  refine PW.callVRI (As := [.int p1]) (st := []) cx hR qX6_bestReel_10 klX6_271 mvX1_nearestReel (as_1 hx).1 rfl rfl rfl rfl (Nat.le_of_ble_eq_true rfl) (Nat.le_of_ble_eq_true rfl) (Nat.le_of_ble_eq_true rfl) (Nat.zero_le _) (Nat.zero_le _) hf sne (fun t e => ctX1_nearestReel (as_1 hx) h p1 t e) (fun t2 hf => ?_)
  exact PW.iret cx hrt qX6_bestReel_13 (le_ri hf)
set_option maxRecDepth 20000 in
theorem ctX6_burnedFat {g : GT} {ex : Bool} {sh : List Shp} (hx : XSh sh) (h : Hp) (r0 : Int32) (hf : C_burnedFat h = some r0) : Ct g mX6_burnedFat 0 0 0 ex [.ref (gB g + 0)] sh h (PE (some (.int r0)) sh h) := by
  refine Ct.of (L := [some (.ref (gB g + 0))]) (by decide) (by intro w hw; simp only [List.mem_cons, List.not_mem_nil, or_false] at hw; rcases hw with rfl <;> rfl) (Nat.le_of_ble_eq_true rfl) rfl (fun X mx => ?_)
  obtain ⟨cx, hR, hml, hrt, -⟩ := mx
  have cx : Cx g X RX6 cX6_burnedFat := cx
  have hrt : X.2.2.2.2.2.2.2.1.sig.returnType = (some .int) := hrt
  unfold C_burnedFat at hf
  refine PW.aload_n cx qX6_burnedFat_0 rfl ?_
  refine PW.getf (t := (2, 1)) (v := .ref (gB g + 1)) cx qX6_burnedFat_1 (sh_0 hx) rfl flX6_12 rfl ?_
  refine PW.getf (t := (0, 0)) (v := .int (rd h 1 3)) cx qX6_burnedFat_4 (as_1 hx).1 rfl flX6_283 rfl ?_
  exact PW.iret cx hrt qX6_burnedFat_7 (le_ri hf)
set_option maxRecDepth 20000 in
theorem ctX6_wakings {g : GT} {ex : Bool} {sh : List Shp} (hx : XSh sh) (h : Hp) (r0 : Int32) (hf : C_wakings h = some r0) : Ct g mX6_wakings 0 0 0 ex [.ref (gB g + 0)] sh h (PE (some (.int r0)) sh h) := by
  refine Ct.of (L := [some (.ref (gB g + 0))]) (by decide) (by intro w hw; simp only [List.mem_cons, List.not_mem_nil, or_false] at hw; rcases hw with rfl <;> rfl) (Nat.le_of_ble_eq_true rfl) rfl (fun X mx => ?_)
  obtain ⟨cx, hR, hml, hrt, -⟩ := mx
  have cx : Cx g X RX6 cX6_wakings := cx
  have hrt : X.2.2.2.2.2.2.2.1.sig.returnType = (some .int) := hrt
  unfold C_wakings at hf
  refine PW.aload_n cx qX6_wakings_0 rfl ?_
  refine PW.getf (t := (2, 1)) (v := .ref (gB g + 1)) cx qX6_wakings_1 (sh_0 hx) rfl flX6_12 rfl ?_
  refine PW.getf (t := (0, 0)) (v := .int (rd h 1 4)) cx qX6_wakings_4 (as_1 hx).1 rfl flX6_286 rfl ?_
  exact PW.iret cx hrt qX6_wakings_7 (le_ri hf)
set_option maxRecDepth 20000 in
theorem ctX6_fadedClips {g : GT} {ex : Bool} {sh : List Shp} (hx : XSh sh) (h : Hp) (r0 : Int32) (hf : C_fadedClips h = some r0) : Ct g mX6_fadedClips 1 0 0 ex [.ref (gB g + 0)] sh h (PE (some (.int r0)) sh h) := by
  refine Ct.of (L := [some (.ref (gB g + 0))]) (by decide) (by intro w hw; simp only [List.mem_cons, List.not_mem_nil, or_false] at hw; rcases hw with rfl <;> rfl) (Nat.le_of_ble_eq_true rfl) rfl (fun X mx => ?_)
  obtain ⟨cx, hR, hml, hrt, -⟩ := mx
  have cx : Cx g X RX6 cX6_fadedClips := cx
  have hrt : X.2.2.2.2.2.2.2.1.sig.returnType = (some .int) := hrt
  unfold C_fadedClips at hf
  refine PW.aload_n cx qX6_fadedClips_0 rfl ?_
  refine PW.getf (t := (2, 1)) (v := .ref (gB g + 1)) cx qX6_fadedClips_1 (sh_0 hx) rfl flX6_12 rfl ?_
  refine PW.iconst (v := 2) cx qX6_fadedClips_4 rfl ?_
  refine PW.callVRI (As := [.int 2]) (st := []) cx hR qX6_fadedClips_5 klX6_289 mvX1_clipsInState (as_1 hx).1 rfl rfl rfl rfl (Nat.le_of_ble_eq_true rfl) (Nat.le_of_ble_eq_true rfl) (Nat.le_of_ble_eq_true rfl) (Nat.zero_le _) (Nat.zero_le _) hf sne (fun t e => ctX1_clipsInState (as_1 hx) h 2 t e) (fun t1 hf => ?_)
  exact PW.iret cx hrt qX6_fadedClips_8 (le_ri hf)
set_option maxRecDepth 20000 in
theorem ctX6_violations {g : GT} {ex : Bool} {sh : List Shp} (hx : XSh sh) (h : Hp) (r0 : Int32) (hf : C_violations h = some r0) : Ct g mX6_violations 4 0 0 ex [.ref (gB g + 0)] sh h (PE (some (.int r0)) sh h) := by
  refine Ct.of (L := [some (.ref (gB g + 0))]) (by decide) (by intro w hw; simp only [List.mem_cons, List.not_mem_nil, or_false] at hw; rcases hw with rfl <;> rfl) (Nat.le_of_ble_eq_true rfl) rfl (fun X mx => ?_)
  obtain ⟨cx, hR, hml, hrt, -⟩ := mx
  have cx : Cx g X RX6 cX6_violations := cx
  have hrt : X.2.2.2.2.2.2.2.1.sig.returnType = (some .int) := hrt
  unfold C_violations at hf
  refine PW.aload_n cx qX6_violations_0 rfl ?_
  refine PW.getf (t := (2, 1)) (v := .ref (gB g + 1)) cx qX6_violations_1 (sh_0 hx) rfl flX6_12 rfl ?_
  refine PW.callVRI (As := []) (st := []) cx hR qX6_violations_4 klX6_301 mvX1_faults (as_1 hx).1 rfl rfl rfl rfl (Nat.le_of_ble_eq_true rfl) (Nat.le_of_ble_eq_true rfl) (Nat.le_of_ble_eq_true rfl) (Nat.zero_le _) (Nat.zero_le _) hf sne (fun t e => ctX1_faults (as_1 hx) h t e) (fun t1 hf => ?_)
  exact PW.iret cx hrt qX6_violations_7 (le_ri hf)
