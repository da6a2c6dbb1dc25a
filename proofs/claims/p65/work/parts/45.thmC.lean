set_option maxRecDepth 20000 in
theorem lX4_readToken_0 {g : GT} {X : XT} {ex : Bool} {post : Option Value → List Shp → Hp → Prop} {sh : List Shp} (mx : Mx g X mX4_readToken 1 0 0) (hx : XSh sh) : ∀ (n : Nat) (h : Hp) (r : Hp) (hf : T_readToken_L0 n h = some r) (kx : ∀ (h1 : Hp), r = h1 → PW g X ex (QE g X ex post 0 0) 0 0 sh h1 52 [some (.ref (gB g + 47)), none] []), PW g X ex (QE g X ex post 0 0) 0 0 sh h 0 [some (.ref (gB g + 47)), none] [] := by
  have mx0 := mx
  obtain ⟨cx, hR, hml, hrt, -⟩ := mx0
  have cx : Cx g X RX4 cX4_readToken := cx
  have hrt : X.2.2.2.2.2.2.2.1.sig.returnType = none := hrt
  have hi1 : 1 < X.2.2.2.2.2.2.2.2.maxLocals := by rw [hml]; exact Nat.le_of_ble_eq_true rfl
  intro n
  induction n with
  | zero =>
    intro h r hf kx
    cases hf
  | succ n ih =>
    intro h r hf kx
    unfold T_readToken_L0 at hf
    refine PW.aload_n cx qX4_readToken_0 rfl ?_
    refine PW.getf (t := (0, 0)) (v := .int (rd h 47 2)) cx qX4_readToken_1 (sh_47 hx) rfl flX4_42 rfl ?_
    refine PW.aload_n cx qX4_readToken_4 rfl ?_
    refine PW.getf (t := (0, 0)) (v := .int (rd h 47 1)) cx qX4_readToken_5 (sh_47 hx) rfl flX4_38 rfl ?_
    refine PW.icmp_ge cx qX4_readToken_8 hf (fun hf => ?_) (fun hf => ?_)
    · exact PW.locs (Lsub.keep (Lsub.drop Lsub.nil)) (kx h (Option.some.inj hf).symm)
    · refine PW.aload_n cx qX4_readToken_11 rfl ?_
      refine PW.getf (t := (2, 48)) (v := .ref (gB g + 48)) cx qX4_readToken_12 (sh_47 hx) rfl flX4_9 rfl ?_
      refine PW.aload_n cx qX4_readToken_15 rfl ?_
      refine PW.getf (t := (0, 0)) (v := .int (rd h 47 2)) cx qX4_readToken_16 (sh_47 hx) rfl flX4_42 rfl ?_
      refine PW.bald cx qX4_readToken_19 (sh_48 hx) hf sne (fun t1 hf => ?_)
      refine PW.bipush (v := 32) cx qX4_readToken_20 rfl ?_
      obtain ⟨j39, ej39, hf⟩ := lt_split hf
      have hj39 : ∀ (u_39 : Unit), j39 u_39 = some r → PW g X ex (QE g X ex post 0 0) 0 0 sh h 39 [some (.ref (gB g + 47)), none] [] := by
        intro u_39 hf
        rw [ej39] at hf
        refine PW.aload_n cx qX4_readToken_39 rfl ?_
        refine PW.dup cx qX4_readToken_40 rfl ?_
        refine PW.getf (t := (0, 0)) (v := .int (rd h 47 2)) cx qX4_readToken_41 (sh_47 hx) rfl flX4_42 rfl ?_
        refine PW.iconst (v := 1) cx qX4_readToken_44 rfl ?_
        refine PW.iadd cx qX4_readToken_45 ?_
        refine PW.putiN cx qX4_readToken_46 (sh_47 hx) rfl fpX4_42 hf (fun h2 hf => ?_)
        refine PW.goto cx qX4_readToken_49 ?_
        exact PW.locs (Lsub.keep (Lsub.drop Lsub.nil)) (ih h2 _ hf kx)
      refine PW.icmp_eq cx qX4_readToken_22 hf (fun hf => ?_) (fun hf => ?_)
      · exact PW.locs (Lsub.keep (Lsub.drop Lsub.nil)) (hj39 () hf)
      · refine PW.aload_n cx qX4_readToken_25 rfl ?_
        refine PW.getf (t := (2, 48)) (v := .ref (gB g + 48)) cx qX4_readToken_26 (sh_47 hx) rfl flX4_9 rfl ?_
        refine PW.aload_n cx qX4_readToken_29 rfl ?_
        refine PW.getf (t := (0, 0)) (v := .int (rd h 47 2)) cx qX4_readToken_30 (sh_47 hx) rfl flX4_42 rfl ?_
        refine PW.bald cx qX4_readToken_33 (sh_48 hx) hf sne (fun t3 hf => ?_)
        refine PW.bipush (v := 10) cx qX4_readToken_34 rfl ?_
        refine PW.icmp_ne cx qX4_readToken_36 hf (fun hf => ?_) (fun hf => ?_)
        · exact PW.locs (Lsub.keep (Lsub.drop Lsub.nil)) (hj39 () hf)
        · exact PW.locs (Lsub.keep (Lsub.drop Lsub.nil)) (kx h (Option.some.inj hf).symm)
set_option maxRecDepth 20000 in
theorem ctX4_readToken {g : GT} {ex : Bool} {sh : List Shp} (hx : XSh sh) (h : Hp) (r0 : Hp) (hf : T_readToken h = some r0) : Ct g mX4_readToken 1 0 0 ex [.ref (gB g + 47)] sh h (PE none sh r0) := by
  refine Ct.of (L := [some (.ref (gB g + 47)), none]) (by decide) (by intro w hw; simp only [List.mem_cons, List.not_mem_nil, or_false] at hw; rcases hw with rfl <;> rfl) (Nat.le_of_ble_eq_true rfl) rfl (fun X mx => ?_)
  have mx0 := mx
  obtain ⟨cx, hR, hml, hrt, -⟩ := mx0
  have cx : Cx g X RX4 cX4_readToken := cx
  have hrt : X.2.2.2.2.2.2.2.1.sig.returnType = none := hrt
  have hi1 : 1 < X.2.2.2.2.2.2.2.2.maxLocals := by rw [hml]; exact Nat.le_of_ble_eq_true rfl
  unfold T_readToken at hf
  obtain ⟨r4, er4, hf⟩ := bndO hf sne
  refine PW.locs (Lsub.keep (Lsub.drop Lsub.nil)) (lX4_readToken_0 mx hx FU h r4 er4 (fun xx_ e => ?_))
  subst e
  refine PW.aload_n cx qX4_readToken_52 rfl ?_
  refine PW.aload_n cx qX4_readToken_53 rfl ?_
  refine PW.getf (t := (0, 0)) (v := .int (rd r4 47 2)) cx qX4_readToken_54 (sh_47 hx) rfl flX4_42 rfl ?_
  refine PW.putiN cx qX4_readToken_57 (sh_47 hx) rfl fpX4_45 hf (fun h5 hf => ?_)
  refine PW.aload_n cx qX4_readToken_60 rfl ?_
  refine PW.getf (t := (0, 0)) (v := .int (rd h5 47 2)) cx qX4_readToken_61 (sh_47 hx) rfl flX4_42 rfl ?_
  refine PW.aload_n cx qX4_readToken_64 rfl ?_
  refine PW.getf (t := (0, 0)) (v := .int (rd h5 47 1)) cx qX4_readToken_65 (sh_47 hx) rfl flX4_38 rfl ?_
  refine PW.icmp_lt cx qX4_readToken_68 hf (fun hf => ?_) (fun hf => ?_)
  · refine PW.aload_n cx qX4_readToken_79 rfl ?_
    refine PW.getf (t := (2, 48)) (v := .ref (gB g + 48)) cx qX4_readToken_80 (sh_47 hx) rfl flX4_9 rfl ?_
    refine PW.aload_n cx qX4_readToken_83 rfl ?_
    refine PW.getf (t := (0, 0)) (v := .int (rd h5 47 2)) cx qX4_readToken_84 (sh_47 hx) rfl flX4_42 rfl ?_
    refine PW.bald cx qX4_readToken_87 (sh_48 hx) hf sne (fun t6 hf => ?_)
    refine PW.istore_n (L' := [some (.ref (gB g + 47)), some (.int t6)]) cx qX4_readToken_88 hi1 rfl rfl ?_
    refine PW.iload_n cx qX4_readToken_89 rfl ?_
    refine PW.bipush (v := 97) cx qX4_readToken_90 rfl ?_
    obtain ⟨j108, ej108, hf⟩ := lt_split hf
    have hj108 : ∀ (u_108 : Unit), j108 u_108 = some r0 → PW g X ex (QE g X ex (PE none sh r0) 0 0) 0 0 sh h5 108 [some (.ref (gB g + 47)), some (.int t6)] [] := by
      intro u_108 hf
      rw [ej108] at hf
      refine PW.iload_n cx qX4_readToken_108 rfl ?_
      refine PW.bipush (v := 48) cx qX4_readToken_109 rfl ?_
      obtain ⟨j127, ej127, hf⟩ := lt_split hf
      have hj127 : ∀ (u_127 : Unit), j127 u_127 = some r0 → PW g X ex (QE g X ex (PE none sh r0) 0 0) 0 0 sh h5 127 [some (.ref (gB g + 47)), some (.int t6)] [] := by
        intro u_127 hf
        rw [ej127] at hf
        refine PW.aload_n cx qX4_readToken_127 rfl ?_
        refine PW.iload_n cx qX4_readToken_128 rfl ?_
        refine PW.callSRT (As := [.int t6]) (st := [.ref (gB g + 47)]) cx hR qX4_readToken_129 klX4_54 miX4_tokenOf rfl rfl (Nat.le_of_ble_eq_true rfl) (Nat.le_of_ble_eq_true rfl) (Nat.le_of_ble_eq_true rfl) (Nat.zero_le _) (Nat.zero_le _) hf sne (fun t e => ctX4_tokenOf h5 t6 t e) (fun t7 hf => ?_)
        refine PW.putTN cx qX4_readToken_132 (sh_47 hx) rfl fpX4_21 hf (fun h8 hf => ?_)
        refine PW.aload_n cx qX4_readToken_135 rfl ?_
        refine PW.dup cx qX4_readToken_136 rfl ?_
        refine PW.getf (t := (0, 0)) (v := .int (rd h8 47 2)) cx qX4_readToken_137 (sh_47 hx) rfl flX4_42 rfl ?_
        refine PW.iconst (v := 1) cx qX4_readToken_140 rfl ?_
        refine PW.iadd cx qX4_readToken_141 ?_
        refine PW.putiN cx qX4_readToken_142 (sh_47 hx) rfl fpX4_42 hf (fun h9 hf => ?_)
        exact PW.vret cx hrt qX4_readToken_145 (le_wv hf)
      refine PW.icmp_lt cx qX4_readToken_111 hf (fun hf => ?_) (fun hf => ?_)
      · exact PW.locs (Lsub.keep (Lsub.keep Lsub.nil)) (hj127 () hf)
      · refine PW.iload_n cx qX4_readToken_114 rfl ?_
        refine PW.bipush (v := 57) cx qX4_readToken_115 rfl ?_
        refine PW.icmp_gt cx qX4_readToken_117 hf (fun hf => ?_) (fun hf => ?_)
        · exact PW.locs (Lsub.keep (Lsub.keep Lsub.nil)) (hj127 () hf)
        · refine PW.aload_n cx qX4_readToken_120 rfl ?_
          refine PW.callVWV (As := []) (st := []) cx hR qX4_readToken_121 klX4_51 mvX4_readNumber (sh_47 hx) rfl rfl rfl rfl (Nat.le_of_ble_eq_true rfl) (Nat.le_of_ble_eq_true rfl) (Nat.le_of_ble_eq_true rfl) (Nat.zero_le _) (Nat.zero_le _) hf sne (fun t e => ctX4_readNumber hx h5 t e) (fun h11 hf => ?_)
          refine PW.goto cx qX4_readToken_124 ?_
          exact PW.vret cx hrt qX4_readToken_145 (le_wv hf)
    refine PW.icmp_lt cx qX4_readToken_92 hf (fun hf => ?_) (fun hf => ?_)
    · exact PW.locs (Lsub.keep (Lsub.keep Lsub.nil)) (hj108 () hf)
    · refine PW.iload_n cx qX4_readToken_95 rfl ?_
      refine PW.bipush (v := 122) cx qX4_readToken_96 rfl ?_
      refine PW.icmp_gt cx qX4_readToken_98 hf (fun hf => ?_) (fun hf => ?_)
      · exact PW.locs (Lsub.keep (Lsub.keep Lsub.nil)) (hj108 () hf)
      · refine PW.aload_n cx qX4_readToken_101 rfl ?_
        refine PW.callVWV (As := []) (st := []) cx hR qX4_readToken_102 klX4_48 mvX4_readWord (sh_47 hx) rfl rfl rfl rfl (Nat.le_of_ble_eq_true rfl) (Nat.le_of_ble_eq_true rfl) (Nat.le_of_ble_eq_true rfl) (Nat.zero_le _) (Nat.zero_le _) hf sne (fun t e => ctX4_readWord hx h5 t e) (fun h13 hf => ?_)
        refine PW.goto cx qX4_readToken_105 ?_
        exact PW.vret cx hrt qX4_readToken_145 (le_wv hf)
  · refine PW.aload_n cx qX4_readToken_71 rfl ?_
    refine PW.gsT (v := 5) cx qX4_readToken_72 (by decide) rfl glX4_15 ?_
    refine PW.putTN cx qX4_readToken_75 (sh_47 hx) rfl fpX4_21 hf (fun h14 hf => ?_)
    exact PW.vret cx hrt qX4_readToken_78 (le_wv hf)
set_option maxRecDepth 20000 in
theorem ctX3_fail {g : GT} {ex : Bool} {sh : List Shp} (hx : XSh sh) (h : Hp) (p1 : Int32) (r0 : Hp) (hf : S_fail h p1 = some r0) : Ct g mX3_fail 0 0 0 ex [.ref (gB g + 35), .int p1] sh h (PE none sh r0) := by
  refine Ct.of (L := [some (.ref (gB g + 35)), some (.int p1)]) (by decide) (by intro w hw; simp only [List.mem_cons, List.not_mem_nil, or_false] at hw; rcases hw with rfl | rfl <;> rfl) (Nat.le_of_ble_eq_true rfl) rfl (fun X mx => ?_)
  obtain ⟨cx, hR, hml, hrt, -⟩ := mx
  have cx : Cx g X RX3 cX3_fail := cx
  have hrt : X.2.2.2.2.2.2.2.1.sig.returnType = none := hrt
  unfold S_fail at hf
  refine PW.aload_n cx qX3_fail_0 rfl ?_
  refine PW.iload_n cx qX3_fail_1 rfl ?_
  refine PW.putiN cx qX3_fail_2 (sh_35 hx) rfl fpX3_40 hf (fun h1 hf => ?_)
  refine PW.aload_n cx qX3_fail_5 rfl ?_
  refine PW.aload_n cx qX3_fail_6 rfl ?_
  refine PW.getf (t := (2, 47)) (v := .ref (gB g + 47)) cx qX3_fail_7 (sh_35 hx) rfl flX3_21 rfl ?_
  refine PW.getf (t := (0, 0)) (v := .int (rd h1 47 4)) cx qX3_fail_10 (sh_47 hx) rfl flX3_98 rfl ?_
  refine PW.putiN cx qX3_fail_13 (sh_35 hx) rfl fpX3_25 hf (fun h2 hf => ?_)
  exact PW.vret cx hrt qX3_fail_16 (le_wv hf)
set_option maxRecDepth 20000 in
theorem ctX3_expect {g : GT} {ex : Bool} {sh : List Shp} (hx : XSh sh) (h : Hp) (p1 : Int32) (r0 : Hp) (hf : S_expect h p1 = some r0) : Ct g mX3_expect 2 0 0 ex [.ref (gB g + 35), .ref (ga g (p1 : Int32).toNatClampNeg)] sh h (PE none sh r0) := by
  refine Ct.of (L := [some (.ref (gB g + 35)), some (.ref (ga g (p1 : Int32).toNatClampNeg))]) (by decide) (by intro w hw; simp only [List.mem_cons, List.not_mem_nil, or_false] at hw; rcases hw with rfl | rfl <;> rfl) (Nat.le_of_ble_eq_true rfl) rfl (fun X mx => ?_)
  obtain ⟨cx, hR, hml, hrt, -⟩ := mx
  have cx : Cx g X RX3 cX3_expect := cx
  have hrt : X.2.2.2.2.2.2.2.1.sig.returnType = none := hrt
  unfold S_expect at hf
  refine PW.aload_n cx qX3_expect_0 rfl ?_
  refine PW.getf (t := (0, 0)) (v := .int (rd h 35 2)) cx qX3_expect_1 (sh_35 hx) rfl flX3_40 rfl ?_
  refine PW.if_eq cx qX3_expect_4 hf (fun hf => ?_) (fun hf => ?_)
  · refine PW.aload_n cx qX3_expect_8 rfl ?_
    refine PW.getf (t := (2, 47)) (v := .ref (gB g + 47)) cx qX3_expect_9 (sh_35 hx) rfl flX3_21 rfl ?_
    refine PW.callVWV (As := []) (st := []) cx hR qX3_expect_12 klX3_43 mvX4_readToken (sh_47 hx) rfl rfl rfl rfl (Nat.le_of_ble_eq_true rfl) (Nat.le_of_ble_eq_true rfl) (Nat.le_of_ble_eq_true rfl) (Nat.zero_le _) (Nat.zero_le _) hf sne (fun t e => ctX4_readToken hx h t e) (fun h2 hf => ?_)
    refine PW.aload_n cx qX3_expect_15 rfl ?_
    refine PW.getf (t := (2, 47)) (v := .ref (gB g + 47)) cx qX3_expect_16 (sh_35 hx) rfl flX3_21 rfl ?_
    refine PW.getf (t := (3, 0)) (v := .ref (ga g (rd h2 47 3).toNatClampNeg)) cx qX3_expect_19 (sh_47 hx) rfl flX3_46 rfl ?_
    refine PW.aload_n cx qX3_expect_22 rfl ?_
    refine PW.acmp_eq cx qX3_expect_23 hf sne (fun hf => ?_) (fun hf => ?_)
    · exact PW.vret cx hrt qX3_expect_31 (le_wv hf)
    · refine PW.aload_n cx qX3_expect_26 rfl ?_
      refine PW.iconst (v := 1) cx qX3_expect_27 rfl ?_
      refine PW.callVWV (As := [.int 1]) (st := []) cx hR qX3_expect_28 klX3_91 mvX3_fail (sh_35 hx) rfl rfl rfl rfl (Nat.le_of_ble_eq_true rfl) (Nat.le_of_ble_eq_true rfl) (Nat.le_of_ble_eq_true rfl) (Nat.zero_le _) (Nat.zero_le _) hf sne (fun t e => ctX3_fail hx h2 1 t e) (fun h4 hf => ?_)
      exact PW.vret cx hrt qX3_expect_31 (le_wv hf)
  · exact PW.vret cx hrt qX3_expect_7 (le_wv hf)
set_option maxRecDepth 20000 in
theorem lX4_isWord_30 {g : GT} {X : XT} {ex : Bool} {post : Option Value → List Shp → Hp → Prop} {sh : List Shp} (mx : Mx g X mX4_isWord 5 0 0) (hx : XSh sh) (h : Hp) (c1 : Int32) : ∀ (n : Nat) (v2 : Int32) (r : (Unit) ⊕ (Bool)) (hf : T_isWord_L30 h c1 n v2 = some r) (kx : r = .inl () → PW g X ex (QE g X ex post 0 0) 0 0 sh h 78 [some (.ref (gB g + 47)), some (.ref (ga g (c1 : Int32).toNatClampNeg)), none] []) (kr : ∀ y : Bool, r = .inr y → post (some (.int (b2i y))) sh h), PW g X ex (QE g X ex post 0 0) 0 0 sh h 30 [some (.ref (gB g + 47)), some (.ref (ga g (c1 : Int32).toNatClampNeg)), some (.int v2)] [] := by
  have mx0 := mx
  obtain ⟨cx, hR, hml, hrt, -⟩ := mx0
  have cx : Cx g X RX4 cX4_isWord := cx
  have hrt : X.2.2.2.2.2.2.2.1.sig.returnType = (some .boolean) := hrt
  have hi2 : 2 < X.2.2.2.2.2.2.2.2.maxLocals := by rw [hml]; exact Nat.le_of_ble_eq_true rfl
  intro n
  induction n with
  | zero =>
    intro v2 r hf kx kr
    cases hf
  | succ n ih =>
    intro v2 r hf kx kr
    unfold T_isWord_L30 at hf
    refine PW.iload_n cx qX4_isWord_30 rfl ?_
    refine PW.aload_n cx qX4_isWord_31 rfl ?_
    refine PW.slen cx hR qX4_isWord_32 klX4_24 (Nat.le_of_ble_eq_true rfl) (Nat.le_of_ble_eq_true rfl) (Nat.zero_le _) (Nat.zero_le _) hf sne (fun t2 hf => ?_)
    refine PW.icmp_ge cx qX4_isWord_35 hf (fun hf => ?_) (fun hf => ?_)
    · exact PW.locs (Lsub.keep (Lsub.keep (Lsub.drop Lsub.nil))) (kx (Option.some.inj hf).symm)
    · refine PW.aload_n cx qX4_isWord_38 rfl ?_
      refine PW.getf (t := (0, 0)) (v := .int (rd h 47 4)) cx qX4_isWord_39 (sh_47 hx) rfl flX4_45 rfl ?_
      refine PW.iload_n cx qX4_isWord_42 rfl ?_
      refine PW.iadd cx qX4_isWord_43 ?_
      refine PW.aload_n cx qX4_isWord_44 rfl ?_
      refine PW.getf (t := (0, 0)) (v := .int (rd h 47 1)) cx qX4_isWord_45 (sh_47 hx) rfl flX4_38 rfl ?_
      refine PW.icmp_ge cx qX4_isWord_48 hf (fun hf => ?_) (fun hf => ?_)
      · exact PW.locs (Lsub.keep (Lsub.keep (Lsub.drop Lsub.nil))) (kx (Option.some.inj hf).symm)
      · refine PW.aload_n cx qX4_isWord_51 rfl ?_
        refine PW.getf (t := (2, 48)) (v := .ref (gB g + 48)) cx qX4_isWord_52 (sh_47 hx) rfl flX4_9 rfl ?_
        refine PW.aload_n cx qX4_isWord_55 rfl ?_
        refine PW.getf (t := (0, 0)) (v := .int (rd h 47 4)) cx qX4_isWord_56 (sh_47 hx) rfl flX4_45 rfl ?_
        refine PW.iload_n cx qX4_isWord_59 rfl ?_
        refine PW.iadd cx qX4_isWord_60 ?_
        refine PW.bald cx qX4_isWord_61 (sh_48 hx) hf sne (fun t3 hf => ?_)
        refine PW.aload_n cx qX4_isWord_62 rfl ?_
        refine PW.iload_n cx qX4_isWord_63 rfl ?_
        refine PW.schar cx hR qX4_isWord_64 klX4_30 (Nat.le_of_ble_eq_true rfl) (Nat.le_of_ble_eq_true rfl) (Nat.zero_le _) (Nat.zero_le _) hf sne (fun t4 hf => ?_)
        refine PW.icmp_eq cx qX4_isWord_67 hf (fun hf => ?_) (fun hf => ?_)
        · refine PW.iinc (v := 1) (L' := [some (.ref (gB g + 47)), some (.ref (ga g (c1 : Int32).toNatClampNeg)), some (.int (v2 + 1))]) cx qX4_isWord_72 rfl rfl hi2 rfl rfl ?_
          refine PW.goto cx qX4_isWord_75 ?_
          exact PW.locs (Lsub.keep (Lsub.keep (Lsub.keep Lsub.nil))) (ih (v2 + 1) _ hf kx kr)
        · refine PW.iconst (v := 0) cx qX4_isWord_70 rfl ?_
          exact PW.zret cx hrt nb0 qX4_isWord_71 (kr _ (Option.some.inj hf).symm)
set_option maxRecDepth 20000 in
theorem ctX4_isWord {g : GT} {ex : Bool} {sh : List Shp} (hx : XSh sh) (h : Hp) (p1 : Int32) (r0 : Bool) (hf : T_isWord h p1 = some r0) : Ct g mX4_isWord 5 0 0 ex [.ref (gB g + 47), .ref (ga g (p1 : Int32).toNatClampNeg)] sh h (PE (some (.int (b2i r0))) sh h) := by
  refine Ct.of (L := [some (.ref (gB g + 47)), some (.ref (ga g (p1 : Int32).toNatClampNeg)), none]) (by decide) (by intro w hw; simp only [List.mem_cons, List.not_mem_nil, or_false] at hw; rcases hw with rfl | rfl <;> rfl) (Nat.le_of_ble_eq_true rfl) rfl (fun X mx => ?_)
  have mx0 := mx
  obtain ⟨cx, hR, hml, hrt, -⟩ := mx0
  have cx : Cx g X RX4 cX4_isWord := cx
  have hrt : X.2.2.2.2.2.2.2.1.sig.returnType = (some .boolean) := hrt
  have hi2 : 2 < X.2.2.2.2.2.2.2.2.maxLocals := by rw [hml]; exact Nat.le_of_ble_eq_true rfl
  unfold T_isWord at hf
  refine PW.aload_n cx qX4_isWord_0 rfl ?_
  refine PW.getf (t := (3, 0)) (v := .ref (ga g (rd h 47 3).toNatClampNeg)) cx qX4_isWord_1 (sh_47 hx) rfl flX4_21 rfl ?_
  refine PW.gsT (v := 0) cx qX4_isWord_4 (by decide) rfl glX4_58 ?_
  refine PW.acmp_ne cx qX4_isWord_7 hf sne (fun hf => ?_) (fun hf => ?_)
  · refine PW.aload_n cx qX4_isWord_10 rfl ?_
    refine PW.getf (t := (0, 0)) (v := .int (rd h 47 2)) cx qX4_isWord_11 (sh_47 hx) rfl flX4_42 rfl ?_
    refine PW.aload_n cx qX4_isWord_14 rfl ?_
    refine PW.getf (t := (0, 0)) (v := .int (rd h 47 4)) cx qX4_isWord_15 (sh_47 hx) rfl flX4_45 rfl ?_
    refine PW.isub cx qX4_isWord_18 ?_
    refine PW.aload_n cx qX4_isWord_19 rfl ?_
    refine PW.slen cx hR qX4_isWord_20 klX4_24 (Nat.le_of_ble_eq_true rfl) (Nat.le_of_ble_eq_true rfl) (Nat.zero_le _) (Nat.zero_le _) hf sne (fun t1 hf => ?_)
    refine PW.icmp_eq cx qX4_isWord_23 hf (fun hf => ?_) (fun hf => ?_)
    · refine PW.iconst (v := 0) cx qX4_isWord_28 rfl ?_
      refine PW.istore_n (L' := [some (.ref (gB g + 47)), some (.ref (ga g (p1 : Int32).toNatClampNeg)), some (.int 0)]) cx qX4_isWord_29 hi2 rfl rfl ?_
      obtain ⟨r5, er5, hf⟩ := bndO hf sne
      refine PW.locs (Lsub.keep (Lsub.keep (Lsub.keep Lsub.nil))) (lX4_isWord_30 mx hx h p1 FU 0 r5 er5 (fun e => ?_) (fun y e => ?_))
      · subst e
        refine PW.iconst (v := 1) cx qX4_isWord_78 rfl ?_
        exact PW.zret cx hrt nb1 qX4_isWord_79 (le_rz hf)
      · subst e
        exact (le_rz hf)
    · refine PW.iconst (v := 0) cx qX4_isWord_26 rfl ?_
      exact PW.zret cx hrt nb0 qX4_isWord_27 (le_rz hf)
  · refine PW.iconst (v := 0) cx qX4_isWord_26 rfl ?_
    exact PW.zret cx hrt nb0 qX4_isWord_27 (le_rz hf)
set_option maxRecDepth 20000 in
theorem ctX3_begin {g : GT} {ex : Bool} {sh : List Shp} (hx : XSh sh) (h : Hp) (r0 : Hp) (hf : S_begin h = some r0) : Ct g mX3_begin 6 0 0 ex [.ref (gB g + 35)] sh h (PE none sh r0) := by
  refine Ct.of (L := [some (.ref (gB g + 35))]) (by decide) (by intro w hw; simp only [List.mem_cons, List.not_mem_nil, or_false] at hw; rcases hw with rfl <;> rfl) (Nat.le_of_ble_eq_true rfl) rfl (fun X mx => ?_)
  obtain ⟨cx, hR, hml, hrt, -⟩ := mx
  have cx : Cx g X RX3 cX3_begin := cx
  have hrt : X.2.2.2.2.2.2.2.1.sig.returnType = none := hrt
  unfold S_begin at hf
  refine PW.aload_n cx qX3_begin_0 rfl ?_
  refine PW.getf (t := (2, 36)) (v := .ref (gB g + 36)) cx qX3_begin_1 (sh_35 hx) rfl flX3_12 rfl ?_
  refine PW.callVWV (As := []) (st := []) cx hR qX3_begin_4 klX3_70 mvX1_empty (as_36 hx).1 rfl rfl rfl rfl (Nat.le_of_ble_eq_true rfl) (Nat.le_of_ble_eq_true rfl) (Nat.le_of_ble_eq_true rfl) (Nat.zero_le _) (Nat.zero_le _) hf sne (fun t e => ctX1_empty (as_36 hx) h t e) (fun h2 hf => ?_)
  refine PW.aload_n cx qX3_begin_7 rfl ?_
  refine PW.getf (t := (2, 47)) (v := .ref (gB g + 47)) cx qX3_begin_8 (sh_35 hx) rfl flX3_21 rfl ?_
  refine PW.iconst (v := 0) cx qX3_begin_11 rfl ?_
  refine PW.putiN cx qX3_begin_12 (sh_47 hx) rfl fpX3_73 hf (fun h3 hf => ?_)
  refine PW.aload_n cx qX3_begin_15 rfl ?_
  refine PW.iconst (v := 0) cx qX3_begin_16 rfl ?_
  refine PW.putiN cx qX3_begin_17 (sh_35 hx) rfl fpX3_40 hf (fun h4 hf => ?_)
  refine PW.aload_n cx qX3_begin_20 rfl ?_
  refine PW.iconst (v := (-1)) cx qX3_begin_21 rfl ?_
  refine PW.putiN cx qX3_begin_22 (sh_35 hx) rfl fpX3_25 hf (fun h5 hf => ?_)
  refine PW.aload_n cx qX3_begin_25 rfl ?_
  refine PW.iconst (v := 0) cx qX3_begin_26 rfl ?_
  refine PW.putiN cx qX3_begin_27 (sh_35 hx) rfl fpX3_76 hf (fun h6 hf => ?_)
  refine PW.aload_n cx qX3_begin_30 rfl ?_
  refine PW.iconst (v := 0) cx qX3_begin_31 rfl ?_
  refine PW.putiN cx qX3_begin_32 (sh_35 hx) rfl fpX3_55 hf (fun h7 hf => ?_)
  refine PW.aload_n cx qX3_begin_35 rfl ?_
  refine PW.gsT (v := 0) cx qX3_begin_36 (by decide) rfl glX3_79 ?_
  refine PW.callVWV (As := [.ref (ga g (0 : Int32).toNatClampNeg)]) (st := []) cx hR qX3_begin_39 klX3_82 mvX3_expect (sh_35 hx) rfl rfl rfl rfl (Nat.le_of_ble_eq_true rfl) (Nat.le_of_ble_eq_true rfl) (Nat.le_of_ble_eq_true rfl) (Nat.zero_le _) (Nat.zero_le _) hf sne (fun t e => ctX3_expect hx h7 0 t e) (fun h9 hf => ?_)
  refine PW.aload_n cx qX3_begin_42 rfl ?_
  refine PW.getf (t := (0, 0)) (v := .int (rd h9 35 2)) cx qX3_begin_43 (sh_35 hx) rfl flX3_40 rfl ?_
  refine PW.if_ne cx qX3_begin_46 hf (fun hf => ?_) (fun hf => ?_)
  · refine PW.aload_n cx qX3_begin_49 rfl ?_
    refine PW.getf (t := (2, 47)) (v := .ref (gB g + 47)) cx qX3_begin_50 (sh_35 hx) rfl flX3_21 rfl ?_
    refine PW.ldcS (v := 112) cx qX3_begin_53 ksX3_86 ?_
    refine PW.callVRB (As := [.ref (ga g (112 : Int32).toNatClampNeg)]) (st := []) cx hR qX3_begin_55 klX3_87 mvX4_isWord (sh_47 hx) rfl rfl rfl rfl (Nat.le_of_ble_eq_true rfl) (Nat.le_of_ble_eq_true rfl) (Nat.le_of_ble_eq_true rfl) (Nat.zero_le _) (Nat.zero_le _) hf sne (fun t e => ctX4_isWord hx h9 112 t e) (fun t10 hf => ?_)
    refine PW.if_ne cx qX3_begin_58 hf (fun hf => ?_) (fun hf => ?_)
    · refine PW.aload_n cx qX3_begin_61 rfl ?_
      refine PW.iconst (v := 1) cx qX3_begin_62 rfl ?_
      refine PW.callVWV (As := [.int 1]) (st := []) cx hR qX3_begin_63 klX3_91 mvX3_fail (sh_35 hx) rfl rfl rfl rfl (Nat.le_of_ble_eq_true rfl) (Nat.le_of_ble_eq_true rfl) (Nat.le_of_ble_eq_true rfl) (Nat.zero_le _) (Nat.zero_le _) hf sne (fun t e => ctX3_fail hx h9 1 t e) (fun h12 hf => ?_)
      refine PW.aload_n cx qX3_begin_66 rfl ?_
      refine PW.gsT (v := 4) cx qX3_begin_67 (by decide) rfl glX3_95 ?_
      refine PW.callVWV (As := [.ref (ga g (4 : Int32).toNatClampNeg)]) (st := []) cx hR qX3_begin_70 klX3_82 mvX3_expect (sh_35 hx) rfl rfl rfl rfl (Nat.le_of_ble_eq_true rfl) (Nat.le_of_ble_eq_true rfl) (Nat.le_of_ble_eq_true rfl) (Nat.zero_le _) (Nat.zero_le _) hf sne (fun t e => ctX3_expect hx h12 4 t e) (fun h14 hf => ?_)
      exact PW.vret cx hrt qX3_begin_73 (le_wv hf)
    · refine PW.aload_n cx qX3_begin_66 rfl ?_
      refine PW.gsT (v := 4) cx qX3_begin_67 (by decide) rfl glX3_95 ?_
      refine PW.callVWV (As := [.ref (ga g (4 : Int32).toNatClampNeg)]) (st := []) cx hR qX3_begin_70 klX3_82 mvX3_expect (sh_35 hx) rfl rfl rfl rfl (Nat.le_of_ble_eq_true rfl) (Nat.le_of_ble_eq_true rfl) (Nat.le_of_ble_eq_true rfl) (Nat.zero_le _) (Nat.zero_le _) hf sne (fun t e => ctX3_expect hx h9 4 t e) (fun h16 hf => ?_)
      exact PW.vret cx hrt qX3_begin_73 (le_wv hf)
  · refine PW.aload_n cx qX3_begin_66 rfl ?_
    refine PW.gsT (v := 4) cx qX3_begin_67 (by decide) rfl glX3_95 ?_
    refine PW.callVWV (As := [.ref (ga g (4 : Int32).toNatClampNeg)]) (st := []) cx hR qX3_begin_70 klX3_82 mvX3_expect (sh_35 hx) rfl rfl rfl rfl (Nat.le_of_ble_eq_true rfl) (Nat.le_of_ble_eq_true rfl) (Nat.le_of_ble_eq_true rfl) (Nat.zero_le _) (Nat.zero_le _) hf sne (fun t e => ctX3_expect hx h9 4 t e) (fun h18 hf => ?_)
    exact PW.vret cx hrt qX3_begin_73 (le_wv hf)
set_option maxRecDepth 20000 in
theorem ctX3_endRound {g : GT} {ex : Bool} {sh : List Shp} (hx : XSh sh) (h : Hp) (r0 : Hp) (hf : S_endRound h = some r0) : Ct g mX3_endRound 3 0 0 ex [.ref (gB g + 35)] sh h (PE none sh r0) := by
  refine Ct.of (L := [some (.ref (gB g + 35)), none]) (by decide) (by intro w hw; simp only [List.mem_cons, List.not_mem_nil, or_false] at hw; rcases hw with rfl <;> rfl) (Nat.le_of_ble_eq_true rfl) rfl (fun X mx => ?_)
  obtain ⟨cx, hR, hml, hrt, -⟩ := mx
  have cx : Cx g X RX3 cX3_endRound := cx
  have hrt : X.2.2.2.2.2.2.2.1.sig.returnType = none := hrt
  have hi1 : 1 < X.2.2.2.2.2.2.2.2.maxLocals := by rw [hml]; exact Nat.le_of_ble_eq_true rfl
  unfold S_endRound at hf
  refine PW.aload_n cx qX3_endRound_0 rfl ?_
  refine PW.getf (t := (0, 0)) (v := .int (rd h 35 5)) cx qX3_endRound_1 (sh_35 hx) rfl flX3_55 rfl ?_
  refine PW.iconst (v := 1) cx qX3_endRound_4 rfl ?_
  refine PW.isub cx qX3_endRound_5 ?_
  refine PW.istore_n (L' := [some (.ref (gB g + 35)), some (.int ((rd h 35 5) - 1))]) cx qX3_endRound_6 hi1 rfl rfl ?_
  refine PW.iload_n cx qX3_endRound_7 rfl ?_
  refine PW.if_lt cx qX3_endRound_8 hf (fun hf => ?_) (fun hf => ?_)
  · exact PW.vret cx hrt qX3_endRound_16 (le_wv hf)
  · refine PW.iload_n cx qX3_endRound_11 rfl ?_
    refine PW.iconst (v := 2) cx qX3_endRound_12 rfl ?_
    refine PW.icmp_lt cx qX3_endRound_13 hf (fun hf => ?_) (fun hf => ?_)
    · refine PW.aload_n cx qX3_endRound_17 rfl ?_
      refine PW.getf (t := (2, 50)) (v := .ref (gB g + 50)) cx qX3_endRound_18 (sh_35 hx) rfl flX3_33 rfl ?_
      refine PW.iload_n cx qX3_endRound_21 rfl ?_
      refine PW.dup2 cx qX3_endRound_22 rfl rfl ?_
      refine PW.iald cx qX3_endRound_23 (sh_50 hx) hf sne (fun t1 hf => ?_)
      refine PW.iconst (v := 1) cx qX3_endRound_24 rfl ?_
      refine PW.isub cx qX3_endRound_25 ?_
      refine PW.iast cx qX3_endRound_26 (sh_50 hx) hf sne (fun h2 hf => ?_)
      refine PW.aload_n cx qX3_endRound_27 rfl ?_
      refine PW.getf (t := (2, 50)) (v := .ref (gB g + 50)) cx qX3_endRound_28 (sh_35 hx) rfl flX3_33 rfl ?_
      refine PW.iload_n cx qX3_endRound_31 rfl ?_
      refine PW.iald cx qX3_endRound_32 (sh_50 hx) hf sne (fun t3 hf => ?_)
      refine PW.if_le cx qX3_endRound_33 hf (fun hf => ?_) (fun hf => ?_)
      · refine PW.aload_n cx qX3_endRound_52 rfl ?_
        refine PW.iload_n cx qX3_endRound_53 rfl ?_
        refine PW.putiN cx qX3_endRound_54 (sh_35 hx) rfl fpX3_55 hf (fun h4 hf => ?_)
        refine PW.aload_n cx qX3_endRound_57 rfl ?_
        refine PW.gsT (v := 4) cx qX3_endRound_58 (by decide) rfl glX3_95 ?_
        refine PW.callVWV (As := [.ref (ga g (4 : Int32).toNatClampNeg)]) (st := []) cx hR qX3_endRound_61 klX3_82 mvX3_expect (sh_35 hx) rfl rfl rfl rfl (Nat.le_of_ble_eq_true rfl) (Nat.le_of_ble_eq_true rfl) (Nat.le_of_ble_eq_true rfl) (Nat.zero_le _) (Nat.zero_le _) hf sne (fun t e => ctX3_expect hx h4 4 t e) (fun h6 hf => ?_)
        exact PW.vret cx hrt qX3_endRound_64 (le_wv hf)
      · refine PW.aload_n cx qX3_endRound_36 rfl ?_
        refine PW.getf (t := (2, 47)) (v := .ref (gB g + 47)) cx qX3_endRound_37 (sh_35 hx) rfl flX3_21 rfl ?_
        refine PW.aload_n cx qX3_endRound_40 rfl ?_
        refine PW.getf (t := (2, 49)) (v := .ref (gB g + 49)) cx qX3_endRound_41 (sh_35 hx) rfl flX3_29 rfl ?_
        refine PW.iload_n cx qX3_endRound_44 rfl ?_
        refine PW.iald cx qX3_endRound_45 (sh_49 hx) hf sne (fun t7 hf => ?_)
        refine PW.putiN cx qX3_endRound_46 (sh_47 hx) rfl fpX3_73 hf (fun h8 hf => ?_)
        refine PW.goto cx qX3_endRound_49 ?_
        exact PW.vret cx hrt qX3_endRound_64 (le_wv hf)
    · exact PW.vret cx hrt qX3_endRound_16 (le_wv hf)
set_option maxRecDepth 20000 in
theorem lX3_presentCommand_9 {g : GT} {X : XT} {ex : Bool} {post : Option Value → List Shp → Hp → Prop} {sh : List Shp} (mx : Mx g X mX3_presentCommand 6 0 0) (hx : XSh sh) (h : Hp) (c2 : Int32) : ∀ (n : Nat) (v3 : Int32) (r : (Unit) ⊕ (Int32)) (hf : S_presentCommand_L9 h c2 n v3 = some r) (kx : r = .inl () → PW g X ex (QE g X ex post 0 0) 0 0 sh h 43 [some (.ref (gB g + 35)), some (.ref (ga g 50)), some (.int c2), none, none] []) (kr : ∀ y : Int32, r = .inr y → post (some (cmdV g y)) sh h), PW g X ex (QE g X ex post 0 0) 0 0 sh h 9 [some (.ref (gB g + 35)), some (.ref (ga g 50)), some (.int c2), some (.int v3), none] [] := by
  have mx0 := mx
  obtain ⟨cx, hR, hml, hrt, -⟩ := mx0
  have cx : Cx g X RX3 cX3_presentCommand := cx
  have hrt : X.2.2.2.2.2.2.2.1.sig.returnType = (some (.object "ClipHibernation$Command")) := hrt
  have hi1 : 1 < X.2.2.2.2.2.2.2.2.maxLocals := by rw [hml]; exact Nat.le_of_ble_eq_true rfl
  have hi2 : 2 < X.2.2.2.2.2.2.2.2.maxLocals := by rw [hml]; exact Nat.le_of_ble_eq_true rfl
  have hi3 : 3 < X.2.2.2.2.2.2.2.2.maxLocals := by rw [hml]; exact Nat.le_of_ble_eq_true rfl
  have hi4 : 4 < X.2.2.2.2.2.2.2.2.maxLocals := by rw [hml]; exact Nat.le_of_ble_eq_true rfl
  intro n
  induction n with
  | zero =>
    intro v3 r hf kx kr
    cases hf
  | succ n ih =>
    intro v3 r hf kx kr
    unfold S_presentCommand_L9 at hf
    refine PW.iload_n cx qX3_presentCommand_9 rfl ?_
    refine PW.iload_n cx qX3_presentCommand_10 rfl ?_
    refine PW.icmp_ge cx qX3_presentCommand_11 hf (fun hf => ?_) (fun hf => ?_)
    · exact PW.locs (Lsub.keep (Lsub.keep (Lsub.keep (Lsub.drop (Lsub.drop Lsub.nil))))) (kx (Option.some.inj hf).symm)
    · refine PW.aload_n cx qX3_presentCommand_14 rfl ?_
      refine PW.iload_n cx qX3_presentCommand_15 rfl ?_
      refine PW.aaldM cx qX3_presentCommand_16 hf sne (fun t1 nv_t1 hf => ?_)
      refine PW.astore (L' := [some (.ref (gB g + 35)), some (.ref (ga g 50)), some (.int c2), some (.int v3), some (.ref (ga g (t1 : Int32).toNatClampNeg))]) cx qX3_presentCommand_17 hi4 rfl rfl ?_
      refine PW.aload_n cx qX3_presentCommand_19 rfl ?_
      refine PW.getf (t := (2, 47)) (v := .ref (gB g + 47)) cx qX3_presentCommand_20 (sh_35 hx) rfl flX3_21 rfl ?_
      refine PW.aload cx qX3_presentCommand_23 rfl ?_
      refine PW.wordf cx qX3_presentCommand_25 fwX3_129 hf sne (fun t2 hf => ?_)
      refine PW.callVRB (As := [.ref (ga g (t2 : Int32).toNatClampNeg)]) (st := []) cx hR qX3_presentCommand_28 klX3_87 mvX4_isWord (sh_47 hx) rfl rfl rfl rfl (Nat.le_of_ble_eq_true rfl) (Nat.le_of_ble_eq_true rfl) (Nat.le_of_ble_eq_true rfl) (Nat.zero_le _) (Nat.zero_le _) hf sne (fun t e => ctX4_isWord hx h t2 t e) (fun t3 hf => ?_)
      refine PW.if_eq cx qX3_presentCommand_31 hf (fun hf => ?_) (fun hf => ?_)
      · refine PW.iinc (v := 1) (L' := [some (.ref (gB g + 35)), some (.ref (ga g 50)), some (.int c2), some (.int (v3 + 1)), some (.ref (ga g (t1 : Int32).toNatClampNeg))]) cx qX3_presentCommand_37 rfl rfl hi3 rfl rfl ?_
        refine PW.goto cx qX3_presentCommand_40 ?_
        exact PW.locs (Lsub.keep (Lsub.keep (Lsub.keep (Lsub.keep (Lsub.drop Lsub.nil))))) (ih (v3 + 1) _ hf kx kr)
      · refine PW.aload cx qX3_presentCommand_34 rfl ?_
        exact PW.aretC cx hrt qX3_presentCommand_36 nv_t1 (kr _ (Option.some.inj hf).symm)
set_option maxRecDepth 20000 in
theorem ctX3_presentCommand {g : GT} {ex : Bool} {sh : List Shp} (hx : XSh sh) (h : Hp) (r0 : Int32) (hf : S_presentCommand h = some r0) : Ct g mX3_presentCommand 6 0 0 ex [.ref (gB g + 35)] sh h (PE (some (cmdV g r0)) sh h) := by
  refine Ct.of (L := [some (.ref (gB g + 35)), none, none, none, none]) (by decide) (by intro w hw; simp only [List.mem_cons, List.not_mem_nil, or_false] at hw; rcases hw with rfl <;> rfl) (Nat.le_of_ble_eq_true rfl) rfl (fun X mx => ?_)
  have mx0 := mx
  obtain ⟨cx, hR, hml, hrt, -⟩ := mx0
  have cx : Cx g X RX3 cX3_presentCommand := cx
  have hrt : X.2.2.2.2.2.2.2.1.sig.returnType = (some (.object "ClipHibernation$Command")) := hrt
  have hi1 : 1 < X.2.2.2.2.2.2.2.2.maxLocals := by rw [hml]; exact Nat.le_of_ble_eq_true rfl
  have hi2 : 2 < X.2.2.2.2.2.2.2.2.maxLocals := by rw [hml]; exact Nat.le_of_ble_eq_true rfl
  have hi3 : 3 < X.2.2.2.2.2.2.2.2.maxLocals := by rw [hml]; exact Nat.le_of_ble_eq_true rfl
  have hi4 : 4 < X.2.2.2.2.2.2.2.2.maxLocals := by rw [hml]; exact Nat.le_of_ble_eq_true rfl
  unfold S_presentCommand at hf
  refine PW.gsK cx qX3_presentCommand_0 glX3_125 ?_
  refine PW.astore_n (L' := [some (.ref (gB g + 35)), some (.ref (ga g 50)), none, none, none]) cx qX3_presentCommand_3 hi1 rfl rfl ?_
  refine PW.aload_n cx qX3_presentCommand_4 rfl ?_
  refine PW.cmlen (v := 12) cx qX3_presentCommand_5 rfl ?_
  refine PW.istore_n (L' := [some (.ref (gB g + 35)), some (.ref (ga g 50)), some (.int 12), none, none]) cx qX3_presentCommand_6 hi2 rfl rfl ?_
  refine PW.iconst (v := 0) cx qX3_presentCommand_7 rfl ?_
  refine PW.istore_n (L' := [some (.ref (gB g + 35)), some (.ref (ga g 50)), some (.int 12), some (.int 0), none]) cx qX3_presentCommand_8 hi3 rfl rfl ?_
  obtain ⟨r4, er4, hf⟩ := bndO hf sne
  refine PW.locs (Lsub.keep (Lsub.keep (Lsub.keep (Lsub.keep (Lsub.drop Lsub.nil))))) (lX3_presentCommand_9 mx hx h 12 FU 0 r4 er4 (fun e => ?_) (fun y e => ?_))
  · subst e
    refine PW.null cx qX3_presentCommand_43 ?_
    exact PW.aretM cx hrt qX3_presentCommand_44 (le_rn hf)
  · subst e
    exact (le_rn hf)
set_option maxRecDepth 20000 in
theorem ctX3_number {g : GT} {ex : Bool} {sh : List Shp} (hx : XSh sh) (h : Hp) (p1 : Int32) (p2 : Int32) (r0 : Int32 × Hp) (hf : S_number h p1 p2 = some r0) : Ct g mX3_number 3 0 0 ex [.ref (gB g + 35), .int p1, .int p2] sh h (PE (some (.int r0.1)) sh r0.2) := by
  refine Ct.of (L := [some (.ref (gB g + 35)), some (.int p1), some (.int p2)]) (by decide) (by intro w hw; simp only [List.mem_cons, List.not_mem_nil, or_false] at hw; rcases hw with rfl | rfl | rfl <;> rfl) (Nat.le_of_ble_eq_true rfl) rfl (fun X mx => ?_)
  obtain ⟨cx, hR, hml, hrt, -⟩ := mx
  have cx : Cx g X RX3 cX3_number := cx
  have hrt : X.2.2.2.2.2.2.2.1.sig.returnType = (some .int) := hrt
  unfold S_number at hf
  refine PW.aload_n cx qX3_number_0 rfl ?_
  refine PW.gsT (v := 1) cx qX3_number_1 (by decide) rfl glX3_173 ?_
  refine PW.callVWV (As := [.ref (ga g (1 : Int32).toNatClampNeg)]) (st := []) cx hR qX3_number_4 klX3_82 mvX3_expect (sh_35 hx) rfl rfl rfl rfl (Nat.le_of_ble_eq_true rfl) (Nat.le_of_ble_eq_true rfl) (Nat.le_of_ble_eq_true rfl) (Nat.zero_le _) (Nat.zero_le _) hf sne (fun t e => ctX3_expect hx h 1 t e) (fun h2 hf => ?_)
  refine PW.aload_n cx qX3_number_7 rfl ?_
  refine PW.getf (t := (0, 0)) (v := .int (rd h2 35 2)) cx qX3_number_8 (sh_35 hx) rfl flX3_40 rfl ?_
  obtain ⟨j41, ej41, hf⟩ := lt_split hf
  have hj41 : ∀ (h_41 : Hp), j41 h_41 = some r0 → PW g X ex (QE g X ex (PE (some (.int r0.1)) sh r0.2) 0 0) 0 0 sh h_41 41 [some (.ref (gB g + 35)), none, none] [] := by
    intro h_41 hf
    rw [ej41] at hf
    refine PW.aload_n cx qX3_number_41 rfl ?_
    refine PW.getf (t := (0, 0)) (v := .int (rd h_41 35 2)) cx qX3_number_42 (sh_35 hx) rfl flX3_40 rfl ?_
    refine PW.if_ne cx qX3_number_45 hf (fun hf => ?_) (fun hf => ?_)
    · refine PW.aload_n cx qX3_number_48 rfl ?_
      refine PW.getf (t := (2, 47)) (v := .ref (gB g + 47)) cx qX3_number_49 (sh_35 hx) rfl flX3_21 rfl ?_
      refine PW.getf (t := (0, 0)) (v := .int (rd h_41 47 5)) cx qX3_number_52 (sh_47 hx) rfl flX3_180 rfl ?_
      refine PW.goto cx qX3_number_55 ?_
      exact PW.iret cx hrt qX3_number_59 (le_wi hf)
    · refine PW.iconst (v := 0) cx qX3_number_58 rfl ?_
      exact PW.iret cx hrt qX3_number_59 (le_wi hf)
  refine PW.if_ne cx qX3_number_11 hf (fun hf => ?_) (fun hf => ?_)
  · refine PW.aload_n cx qX3_number_14 rfl ?_
    refine PW.getf (t := (2, 47)) (v := .ref (gB g + 47)) cx qX3_number_15 (sh_35 hx) rfl flX3_21 rfl ?_
    refine PW.getf (t := (0, 0)) (v := .int (rd h2 47 5)) cx qX3_number_18 (sh_47 hx) rfl flX3_180 rfl ?_
    refine PW.iload_n cx qX3_number_21 rfl ?_
    obtain ⟨j36, ej36, hf⟩ := lt_split hf
    have hj36 : ∀ (u_36 : Unit), j36 u_36 = some r0 → PW g X ex (QE g X ex (PE (some (.int r0.1)) sh r0.2) 0 0) 0 0 sh h2 36 [some (.ref (gB g + 35)), none, none] [] := by
      intro u_36 hf
      rw [ej36] at hf
      refine PW.aload_n cx qX3_number_36 rfl ?_
      refine PW.iconst (v := 2) cx qX3_number_37 rfl ?_
      refine PW.callVWV (As := [.int 2]) (st := []) cx hR qX3_number_38 klX3_91 mvX3_fail (sh_35 hx) rfl rfl rfl rfl (Nat.le_of_ble_eq_true rfl) (Nat.le_of_ble_eq_true rfl) (Nat.le_of_ble_eq_true rfl) (Nat.zero_le _) (Nat.zero_le _) hf sne (fun t e => ctX3_fail hx h2 2 t e) (fun h4 hf => ?_)
      exact PW.locs (Lsub.keep (Lsub.drop (Lsub.drop Lsub.nil))) (hj41 h4 hf)
    refine PW.icmp_lt cx qX3_number_22 hf (fun hf => ?_) (fun hf => ?_)
    · exact PW.locs (Lsub.keep (Lsub.drop (Lsub.drop Lsub.nil))) (hj36 () hf)
    · refine PW.aload_n cx qX3_number_25 rfl ?_
      refine PW.getf (t := (2, 47)) (v := .ref (gB g + 47)) cx qX3_number_26 (sh_35 hx) rfl flX3_21 rfl ?_
      refine PW.getf (t := (0, 0)) (v := .int (rd h2 47 5)) cx qX3_number_29 (sh_47 hx) rfl flX3_180 rfl ?_
      refine PW.iload_n cx qX3_number_32 rfl ?_
      refine PW.icmp_le cx qX3_number_33 hf (fun hf => ?_) (fun hf => ?_)
      · exact PW.locs (Lsub.keep (Lsub.drop (Lsub.drop Lsub.nil))) (hj41 h2 hf)
      · exact PW.locs (Lsub.keep (Lsub.drop (Lsub.drop Lsub.nil))) (hj36 () hf)
  · exact PW.locs (Lsub.keep (Lsub.drop (Lsub.drop Lsub.nil))) (hj41 h2 hf)
set_option maxRecDepth 20000 in
theorem ctX3_beginRepeat {g : GT} {ex : Bool} {sh : List Shp} (hx : XSh sh) (h : Hp) (r0 : Hp) (hf : S_beginRepeat h = some r0) : Ct g mX3_beginRepeat 4 0 0 ex [.ref (gB g + 35)] sh h (PE none sh r0) := by
  refine Ct.of (L := [some (.ref (gB g + 35)), none]) (by decide) (by intro w hw; simp only [List.mem_cons, List.not_mem_nil, or_false] at hw; rcases hw with rfl <;> rfl) (Nat.le_of_ble_eq_true rfl) rfl (fun X mx => ?_)
  obtain ⟨cx, hR, hml, hrt, -⟩ := mx
  have cx : Cx g X RX3 cX3_beginRepeat := cx
  have hrt : X.2.2.2.2.2.2.2.1.sig.returnType = none := hrt
  have hi1 : 1 < X.2.2.2.2.2.2.2.2.maxLocals := by rw [hml]; exact Nat.le_of_ble_eq_true rfl
  unfold S_beginRepeat at hf
  refine PW.aload_n cx qX3_beginRepeat_0 rfl ?_
  refine PW.getf (t := (0, 0)) (v := .int (rd h 35 5)) cx qX3_beginRepeat_1 (sh_35 hx) rfl flX3_55 rfl ?_
  refine PW.iconst (v := 2) cx qX3_beginRepeat_4 rfl ?_
  refine PW.icmp_lt cx qX3_beginRepeat_5 hf (fun hf => ?_) (fun hf => ?_)
  · refine PW.aload_n cx qX3_beginRepeat_14 rfl ?_
    refine PW.iconst (v := 1) cx qX3_beginRepeat_15 rfl ?_
    refine PW.bipush (v := 20) cx qX3_beginRepeat_16 rfl ?_
    refine PW.callVWIc (As := [.int 1, .int 20]) (st := []) cx hR qX3_beginRepeat_18 klX3_133 mvX3_number (sh_35 hx) rfl rfl rfl rfl (Nat.le_of_ble_eq_true rfl) (Nat.le_of_ble_eq_true rfl) (Nat.le_of_ble_eq_true rfl) (Nat.zero_le _) (Nat.zero_le _) hf sne (fun t e => ctX3_number hx h 1 20 t e) (fun t1 h2 hf => ?_)
    refine PW.istore_n (L' := [some (.ref (gB g + 35)), some (.int t1)]) cx qX3_beginRepeat_21 hi1 rfl rfl ?_
    refine PW.aload_n cx qX3_beginRepeat_22 rfl ?_
    refine PW.gsT (v := 2) cx qX3_beginRepeat_23 (by decide) rfl glX3_137 ?_
    refine PW.callVWV (As := [.ref (ga g (2 : Int32).toNatClampNeg)]) (st := []) cx hR qX3_beginRepeat_26 klX3_82 mvX3_expect (sh_35 hx) rfl rfl rfl rfl (Nat.le_of_ble_eq_true rfl) (Nat.le_of_ble_eq_true rfl) (Nat.le_of_ble_eq_true rfl) (Nat.zero_le _) (Nat.zero_le _) hf sne (fun t e => ctX3_expect hx h2 2 t e) (fun h4 hf => ?_)
    refine PW.aload_n cx qX3_beginRepeat_29 rfl ?_
    refine PW.getf (t := (2, 49)) (v := .ref (gB g + 49)) cx qX3_beginRepeat_30 (sh_35 hx) rfl flX3_29 rfl ?_
    refine PW.aload_n cx qX3_beginRepeat_33 rfl ?_
    refine PW.getf (t := (0, 0)) (v := .int (rd h4 35 5)) cx qX3_beginRepeat_34 (sh_35 hx) rfl flX3_55 rfl ?_
    refine PW.aload_n cx qX3_beginRepeat_37 rfl ?_
    refine PW.getf (t := (2, 47)) (v := .ref (gB g + 47)) cx qX3_beginRepeat_38 (sh_35 hx) rfl flX3_21 rfl ?_
    refine PW.getf (t := (0, 0)) (v := .int (rd h4 47 2)) cx qX3_beginRepeat_41 (sh_47 hx) rfl flX3_73 rfl ?_
    refine PW.iast cx qX3_beginRepeat_44 (sh_49 hx) hf sne (fun h5 hf => ?_)
    refine PW.aload_n cx qX3_beginRepeat_45 rfl ?_
    refine PW.getf (t := (2, 50)) (v := .ref (gB g + 50)) cx qX3_beginRepeat_46 (sh_35 hx) rfl flX3_33 rfl ?_
    refine PW.aload_n cx qX3_beginRepeat_49 rfl ?_
    refine PW.getf (t := (0, 0)) (v := .int (rd h5 35 5)) cx qX3_beginRepeat_50 (sh_35 hx) rfl flX3_55 rfl ?_
    refine PW.iload_n cx qX3_beginRepeat_53 rfl ?_
    refine PW.iast cx qX3_beginRepeat_54 (sh_50 hx) hf sne (fun h6 hf => ?_)
    refine PW.aload_n cx qX3_beginRepeat_55 rfl ?_
    refine PW.dup cx qX3_beginRepeat_56 rfl ?_
    refine PW.getf (t := (0, 0)) (v := .int (rd h6 35 5)) cx qX3_beginRepeat_57 (sh_35 hx) rfl flX3_55 rfl ?_
    refine PW.iconst (v := 1) cx qX3_beginRepeat_60 rfl ?_
    refine PW.iadd cx qX3_beginRepeat_61 ?_
    refine PW.putiN cx qX3_beginRepeat_62 (sh_35 hx) rfl fpX3_55 hf (fun h7 hf => ?_)
    exact PW.vret cx hrt qX3_beginRepeat_65 (le_wv hf)
  · refine PW.aload_n cx qX3_beginRepeat_8 rfl ?_
    refine PW.iconst (v := 4) cx qX3_beginRepeat_9 rfl ?_
    refine PW.callVWV (As := [.int 4]) (st := []) cx hR qX3_beginRepeat_10 klX3_91 mvX3_fail (sh_35 hx) rfl rfl rfl rfl (Nat.le_of_ble_eq_true rfl) (Nat.le_of_ble_eq_true rfl) (Nat.le_of_ble_eq_true rfl) (Nat.zero_le _) (Nat.zero_le _) hf sne (fun t e => ctX3_fail hx h 4 t e) (fun h9 hf => ?_)
    exact PW.vret cx hrt qX3_beginRepeat_13 (le_wv hf)
set_option maxRecDepth 20000 in
theorem ctX3_coloursNumber {g : GT} {ex : Bool} {sh : List Shp} (hx : XSh sh) (h : Hp) (r0 : Int32 × Hp) (hf : S_coloursNumber h = some r0) : Ct g mX3_coloursNumber 3 0 0 ex [.ref (gB g + 35)] sh h (PE (some (.int r0.1)) sh r0.2) := by
  refine Ct.of (L := [some (.ref (gB g + 35))]) (by decide) (by intro w hw; simp only [List.mem_cons, List.not_mem_nil, or_false] at hw; rcases hw with rfl <;> rfl) (Nat.le_of_ble_eq_true rfl) rfl (fun X mx => ?_)
  obtain ⟨cx, hR, hml, hrt, -⟩ := mx
  have cx : Cx g X RX3 cX3_coloursNumber := cx
  have hrt : X.2.2.2.2.2.2.2.1.sig.returnType = (some .int) := hrt
  unfold S_coloursNumber at hf
  refine PW.aload_n cx qX3_coloursNumber_0 rfl ?_
  refine PW.gsT (v := 1) cx qX3_coloursNumber_1 (by decide) rfl glX3_173 ?_
  refine PW.callVWV (As := [.ref (ga g (1 : Int32).toNatClampNeg)]) (st := []) cx hR qX3_coloursNumber_4 klX3_82 mvX3_expect (sh_35 hx) rfl rfl rfl rfl (Nat.le_of_ble_eq_true rfl) (Nat.le_of_ble_eq_true rfl) (Nat.le_of_ble_eq_true rfl) (Nat.zero_le _) (Nat.zero_le _) hf sne (fun t e => ctX3_expect hx h 1 t e) (fun h2 hf => ?_)
  refine PW.aload_n cx qX3_coloursNumber_7 rfl ?_
  refine PW.getf (t := (0, 0)) (v := .int (rd h2 35 2)) cx qX3_coloursNumber_8 (sh_35 hx) rfl flX3_40 rfl ?_
  obtain ⟨j29, ej29, hf⟩ := lt_split hf
  have hj29 : ∀ (h_29 : Hp), j29 h_29 = some r0 → PW g X ex (QE g X ex (PE (some (.int r0.1)) sh r0.2) 0 0) 0 0 sh h_29 29 [some (.ref (gB g + 35))] [] := by
    intro h_29 hf
    rw [ej29] at hf
    refine PW.aload_n cx qX3_coloursNumber_29 rfl ?_
    refine PW.getf (t := (0, 0)) (v := .int (rd h_29 35 2)) cx qX3_coloursNumber_30 (sh_35 hx) rfl flX3_40 rfl ?_
    refine PW.if_ne cx qX3_coloursNumber_33 hf (fun hf => ?_) (fun hf => ?_)
    · refine PW.aload_n cx qX3_coloursNumber_36 rfl ?_
      refine PW.getf (t := (2, 47)) (v := .ref (gB g + 47)) cx qX3_coloursNumber_37 (sh_35 hx) rfl flX3_21 rfl ?_
      refine PW.getf (t := (0, 0)) (v := .int (rd h_29 47 5)) cx qX3_coloursNumber_40 (sh_47 hx) rfl flX3_180 rfl ?_
      refine PW.goto cx qX3_coloursNumber_43 ?_
      exact PW.iret cx hrt qX3_coloursNumber_47 (le_wi hf)
    · refine PW.iconst (v := 0) cx qX3_coloursNumber_46 rfl ?_
      exact PW.iret cx hrt qX3_coloursNumber_47 (le_wi hf)
  refine PW.if_ne cx qX3_coloursNumber_11 hf (fun hf => ?_) (fun hf => ?_)
  · refine PW.aload_n cx qX3_coloursNumber_14 rfl ?_
    refine PW.getf (t := (2, 47)) (v := .ref (gB g + 47)) cx qX3_coloursNumber_15 (sh_35 hx) rfl flX3_21 rfl ?_
    refine PW.getf (t := (1, 0)) (v := .int (rd h2 47 6)) cx qX3_coloursNumber_18 (sh_47 hx) rfl flX3_176 rfl ?_
    refine PW.if_eq cx qX3_coloursNumber_21 hf (fun hf => ?_) (fun hf => ?_)
    · exact PW.locs (Lsub.keep Lsub.nil) (hj29 h2 hf)
    · refine PW.aload_n cx qX3_coloursNumber_24 rfl ?_
      refine PW.iconst (v := 2) cx qX3_coloursNumber_25 rfl ?_
      refine PW.callVWV (As := [.int 2]) (st := []) cx hR qX3_coloursNumber_26 klX3_91 mvX3_fail (sh_35 hx) rfl rfl rfl rfl (Nat.le_of_ble_eq_true rfl) (Nat.le_of_ble_eq_true rfl) (Nat.le_of_ble_eq_true rfl) (Nat.zero_le _) (Nat.zero_le _) hf sne (fun t e => ctX3_fail hx h2 2 t e) (fun h4 hf => ?_)
      exact PW.locs (Lsub.keep Lsub.nil) (hj29 h4 hf)
  · exact PW.locs (Lsub.keep Lsub.nil) (hj29 h2 hf)
set_option maxRecDepth 20000 in
theorem ctX3_readNumbers {g : GT} {ex : Bool} {sh : List Shp} (hx : XSh sh) (h : Hp) (p1 : Int32) (r0 : Hp) (hf : S_readNumbers h p1 = some r0) : Ct g mX3_readNumbers 4 0 0 ex [.ref (gB g + 35), .ref (ga g (p1 : Int32).toNatClampNeg)] sh h (PE none sh r0) := by
  refine Ct.of (L := [some (.ref (gB g + 35)), some (.ref (ga g (p1 : Int32).toNatClampNeg))]) (by decide) (by intro w hw; simp only [List.mem_cons, List.not_mem_nil, or_false] at hw; rcases hw with rfl | rfl <;> rfl) (Nat.le_of_ble_eq_true rfl) rfl (fun X mx => ?_)
  obtain ⟨cx, hR, hml, hrt, -⟩ := mx
  have cx : Cx g X RX3 cX3_readNumbers := cx
  have hrt : X.2.2.2.2.2.2.2.1.sig.returnType = none := hrt
  unfold S_readNumbers at hf
  refine PW.gsW cx qX3_readNumbers_0 glX3_140 ?_
  refine PW.aload_n cx qX3_readNumbers_3 rfl ?_
  refine PW.ordn cx hR qX3_readNumbers_4 klX3_145 (Nat.le_of_ble_eq_true rfl) (Nat.le_of_ble_eq_true rfl) (Nat.zero_le _) (Nat.zero_le _) hf sne (fun t1 hf => ?_)
  refine PW.swm cx qX3_readNumbers_7 hf sne (fun t2 hf => ?_)
  refine PW.tswC (v := 1) (off := 60) (tgt := 68) cx qX3_readNumbers_8 (by decide) (by decide) rfl rfl hf (fun hf => ?_) (fun hf n1 => ?_)
  · refine PW.aload_n cx qX3_readNumbers_68 rfl ?_
    refine PW.aload_n cx qX3_readNumbers_69 rfl ?_
    refine PW.callVWIc (As := []) (st := [.ref (gB g + 35)]) cx hR qX3_readNumbers_70 klX3_149 mvX3_coloursNumber (sh_35 hx) rfl rfl rfl rfl (Nat.le_of_ble_eq_true rfl) (Nat.le_of_ble_eq_true rfl) (Nat.le_of_ble_eq_true rfl) (Nat.zero_le _) (Nat.zero_le _) hf sne (fun t e => ctX3_coloursNumber hx h t e) (fun t49 h50 hf => ?_)
    refine PW.putiN cx qX3_readNumbers_73 (sh_35 hx) rfl fpX3_152 hf (fun h51 hf => ?_)
    refine PW.goto cx qX3_readNumbers_76 ?_
    exact PW.vret cx hrt qX3_readNumbers_337 (le_wv hf)
  · refine PW.tswC (v := 2) (off := 71) (tgt := 79) cx qX3_readNumbers_8 (by decide) (by decide) rfl rfl hf (fun hf => ?_) (fun hf n2 => ?_)
    · refine PW.aload_n cx qX3_readNumbers_79 rfl ?_
      refine PW.aload_n cx qX3_readNumbers_80 rfl ?_
      refine PW.iconst (v := 1) cx qX3_readNumbers_81 rfl ?_
      refine PW.bipush (v := 9) cx qX3_readNumbers_82 rfl ?_
      refine PW.callVWIc (As := [.int 1, .int 9]) (st := [.ref (gB g + 35)]) cx hR qX3_readNumbers_84 klX3_133 mvX3_number (sh_35 hx) rfl rfl rfl rfl (Nat.le_of_ble_eq_true rfl) (Nat.le_of_ble_eq_true rfl) (Nat.le_of_ble_eq_true rfl) (Nat.zero_le _) (Nat.zero_le _) hf sne (fun t e => ctX3_number hx h 1 9 t e) (fun t46 h47 hf => ?_)
      refine PW.putiN cx qX3_readNumbers_87 (sh_35 hx) rfl fpX3_152 hf (fun h48 hf => ?_)
      refine PW.goto cx qX3_readNumbers_90 ?_
      exact PW.vret cx hrt qX3_readNumbers_337 (le_wv hf)
    · refine PW.tswC (v := 3) (off := 85) (tgt := 93) cx qX3_readNumbers_8 (by decide) (by decide) rfl rfl hf (fun hf => ?_) (fun hf n3 => ?_)
      · refine PW.aload_n cx qX3_readNumbers_93 rfl ?_
        refine PW.aload_n cx qX3_readNumbers_94 rfl ?_
        refine PW.iconst (v := 1) cx qX3_readNumbers_95 rfl ?_
        refine PW.bipush (v := 9) cx qX3_readNumbers_96 rfl ?_
        refine PW.callVWIc (As := [.int 1, .int 9]) (st := [.ref (gB g + 35)]) cx hR qX3_readNumbers_98 klX3_133 mvX3_number (sh_35 hx) rfl rfl rfl rfl (Nat.le_of_ble_eq_true rfl) (Nat.le_of_ble_eq_true rfl) (Nat.le_of_ble_eq_true rfl) (Nat.zero_le _) (Nat.zero_le _) hf sne (fun t e => ctX3_number hx h 1 9 t e) (fun t43 h44 hf => ?_)
        refine PW.putiN cx qX3_readNumbers_101 (sh_35 hx) rfl fpX3_152 hf (fun h45 hf => ?_)
        refine PW.goto cx qX3_readNumbers_104 ?_
        exact PW.vret cx hrt qX3_readNumbers_337 (le_wv hf)
      · refine PW.tswC (v := 4) (off := 99) (tgt := 107) cx qX3_readNumbers_8 (by decide) (by decide) rfl rfl hf (fun hf => ?_) (fun hf n4 => ?_)
        · refine PW.aload_n cx qX3_readNumbers_107 rfl ?_
          refine PW.aload_n cx qX3_readNumbers_108 rfl ?_
          refine PW.iconst (v := 0) cx qX3_readNumbers_109 rfl ?_
          refine PW.aload_n cx qX3_readNumbers_110 rfl ?_
          refine PW.getf (t := (2, 36)) (v := .ref (gB g + 36)) cx qX3_readNumbers_111 (sh_35 hx) rfl flX3_12 rfl ?_
          refine PW.getf (t := (0, 0)) (v := .int (rd h 36 5)) cx qX3_readNumbers_114 (as_36 hx).1 rfl flX3_155 rfl ?_
          refine PW.iconst (v := 1) cx qX3_readNumbers_117 rfl ?_
          refine PW.isub cx qX3_readNumbers_118 ?_
          refine PW.callVWIc (As := [.int 0, .int ((rd h 36 5) - 1)]) (st := [.ref (gB g + 35)]) cx hR qX3_readNumbers_119 klX3_133 mvX3_number (sh_35 hx) rfl rfl rfl rfl (Nat.le_of_ble_eq_true rfl) (Nat.le_of_ble_eq_true rfl) (Nat.le_of_ble_eq_true rfl) (Nat.zero_le _) (Nat.zero_le _) hf sne (fun t e => ctX3_number hx h 0 ((rd h 36 5) - 1) t e) (fun t37 h38 hf => ?_)
          refine PW.putiN cx qX3_readNumbers_122 (sh_35 hx) rfl fpX3_152 hf (fun h39 hf => ?_)
          refine PW.aload_n cx qX3_readNumbers_125 rfl ?_
          refine PW.aload_n cx qX3_readNumbers_126 rfl ?_
          refine PW.iconst (v := 0) cx qX3_readNumbers_127 rfl ?_
          refine PW.aload_n cx qX3_readNumbers_128 rfl ?_
          refine PW.getf (t := (2, 36)) (v := .ref (gB g + 36)) cx qX3_readNumbers_129 (sh_35 hx) rfl flX3_12 rfl ?_
          refine PW.getf (t := (0, 0)) (v := .int (rd h39 36 12)) cx qX3_readNumbers_132 (as_36 hx).1 rfl flX3_158 rfl ?_
          refine PW.iconst (v := 1) cx qX3_readNumbers_135 rfl ?_
          refine PW.isub cx qX3_readNumbers_136 ?_
          refine PW.callVWIc (As := [.int 0, .int ((rd h39 36 12) - 1)]) (st := [.ref (gB g + 35)]) cx hR qX3_readNumbers_137 klX3_133 mvX3_number (sh_35 hx) rfl rfl rfl rfl (Nat.le_of_ble_eq_true rfl) (Nat.le_of_ble_eq_true rfl) (Nat.le_of_ble_eq_true rfl) (Nat.zero_le _) (Nat.zero_le _) hf sne (fun t e => ctX3_number hx h39 0 ((rd h39 36 12) - 1) t e) (fun t40 h41 hf => ?_)
          refine PW.putiN cx qX3_readNumbers_140 (sh_35 hx) rfl fpX3_161 hf (fun h42 hf => ?_)
          refine PW.goto cx qX3_readNumbers_143 ?_
          exact PW.vret cx hrt qX3_readNumbers_337 (le_wv hf)
        · refine PW.tswC (v := 5) (off := 138) (tgt := 146) cx qX3_readNumbers_8 (by decide) (by decide) rfl rfl hf (fun hf => ?_) (fun hf n5 => ?_)
          · refine PW.aload_n cx qX3_readNumbers_146 rfl ?_
            refine PW.aload_n cx qX3_readNumbers_147 rfl ?_
            refine PW.iconst (v := 0) cx qX3_readNumbers_148 rfl ?_
            refine PW.aload_n cx qX3_readNumbers_149 rfl ?_
            refine PW.getf (t := (2, 36)) (v := .ref (gB g + 36)) cx qX3_readNumbers_150 (sh_35 hx) rfl flX3_12 rfl ?_
            refine PW.getf (t := (0, 0)) (v := .int (rd h 36 5)) cx qX3_readNumbers_153 (as_36 hx).1 rfl flX3_155 rfl ?_
            refine PW.iconst (v := 1) cx qX3_readNumbers_156 rfl ?_
            refine PW.isub cx qX3_readNumbers_157 ?_
            refine PW.callVWIc (As := [.int 0, .int ((rd h 36 5) - 1)]) (st := [.ref (gB g + 35)]) cx hR qX3_readNumbers_158 klX3_133 mvX3_number (sh_35 hx) rfl rfl rfl rfl (Nat.le_of_ble_eq_true rfl) (Nat.le_of_ble_eq_true rfl) (Nat.le_of_ble_eq_true rfl) (Nat.zero_le _) (Nat.zero_le _) hf sne (fun t e => ctX3_number hx h 0 ((rd h 36 5) - 1) t e) (fun t34 h35 hf => ?_)
            refine PW.putiN cx qX3_readNumbers_161 (sh_35 hx) rfl fpX3_152 hf (fun h36 hf => ?_)
            refine PW.goto cx qX3_readNumbers_164 ?_
            exact PW.vret cx hrt qX3_readNumbers_337 (le_wv hf)
          · refine PW.tswC (v := 6) (off := 159) (tgt := 167) cx qX3_readNumbers_8 (by decide) (by decide) rfl rfl hf (fun hf => ?_) (fun hf n6 => ?_)
            · refine PW.aload_n cx qX3_readNumbers_167 rfl ?_
              refine PW.aload_n cx qX3_readNumbers_168 rfl ?_
              refine PW.iconst (v := 0) cx qX3_readNumbers_169 rfl ?_
              refine PW.aload_n cx qX3_readNumbers_170 rfl ?_
              refine PW.getf (t := (2, 36)) (v := .ref (gB g + 36)) cx qX3_readNumbers_171 (sh_35 hx) rfl flX3_12 rfl ?_
              refine PW.getf (t := (0, 0)) (v := .int (rd h 36 15)) cx qX3_readNumbers_174 (as_36 hx).1 rfl flX3_164 rfl ?_
              refine PW.iconst (v := 1) cx qX3_readNumbers_177 rfl ?_
              refine PW.isub cx qX3_readNumbers_178 ?_
              refine PW.callVWIc (As := [.int 0, .int ((rd h 36 15) - 1)]) (st := [.ref (gB g + 35)]) cx hR qX3_readNumbers_179 klX3_133 mvX3_number (sh_35 hx) rfl rfl rfl rfl (Nat.le_of_ble_eq_true rfl) (Nat.le_of_ble_eq_true rfl) (Nat.le_of_ble_eq_true rfl) (Nat.zero_le _) (Nat.zero_le _) hf sne (fun t e => ctX3_number hx h 0 ((rd h 36 15) - 1) t e) (fun t28 h29 hf => ?_)
              refine PW.putiN cx qX3_readNumbers_182 (sh_35 hx) rfl fpX3_152 hf (fun h30 hf => ?_)
              refine PW.aload_n cx qX3_readNumbers_185 rfl ?_
              refine PW.aload_n cx qX3_readNumbers_186 rfl ?_
              refine PW.iconst (v := 1) cx qX3_readNumbers_187 rfl ?_
              refine PW.sipush (v := 9999) cx qX3_readNumbers_188 rfl ?_
              refine PW.callVWIc (As := [.int 1, .int 9999]) (st := [.ref (gB g + 35)]) cx hR qX3_readNumbers_191 klX3_133 mvX3_number (sh_35 hx) rfl rfl rfl rfl (Nat.le_of_ble_eq_true rfl) (Nat.le_of_ble_eq_true rfl) (Nat.le_of_ble_eq_true rfl) (Nat.zero_le _) (Nat.zero_le _) hf sne (fun t e => ctX3_number hx h30 1 9999 t e) (fun t31 h32 hf => ?_)
              refine PW.putiN cx qX3_readNumbers_194 (sh_35 hx) rfl fpX3_161 hf (fun h33 hf => ?_)
              refine PW.goto cx qX3_readNumbers_197 ?_
              exact PW.vret cx hrt qX3_readNumbers_337 (le_wv hf)
            · refine PW.tswC (v := 7) (off := 192) (tgt := 200) cx qX3_readNumbers_8 (by decide) (by decide) rfl rfl hf (fun hf => ?_) (fun hf n7 => ?_)
              · refine PW.aload_n cx qX3_readNumbers_200 rfl ?_
                refine PW.aload_n cx qX3_readNumbers_201 rfl ?_
                refine PW.iconst (v := 0) cx qX3_readNumbers_202 rfl ?_
                refine PW.aload_n cx qX3_readNumbers_203 rfl ?_
                refine PW.getf (t := (2, 36)) (v := .ref (gB g + 36)) cx qX3_readNumbers_204 (sh_35 hx) rfl flX3_12 rfl ?_
                refine PW.getf (t := (0, 0)) (v := .int (rd h 36 12)) cx qX3_readNumbers_207 (as_36 hx).1 rfl flX3_158 rfl ?_
                refine PW.iconst (v := 1) cx qX3_readNumbers_210 rfl ?_
                refine PW.isub cx qX3_readNumbers_211 ?_
                refine PW.callVWIc (As := [.int 0, .int ((rd h 36 12) - 1)]) (st := [.ref (gB g + 35)]) cx hR qX3_readNumbers_212 klX3_133 mvX3_number (sh_35 hx) rfl rfl rfl rfl (Nat.le_of_ble_eq_true rfl) (Nat.le_of_ble_eq_true rfl) (Nat.le_of_ble_eq_true rfl) (Nat.zero_le _) (Nat.zero_le _) hf sne (fun t e => ctX3_number hx h 0 ((rd h 36 12) - 1) t e) (fun t25 h26 hf => ?_)
                refine PW.putiN cx qX3_readNumbers_215 (sh_35 hx) rfl fpX3_152 hf (fun h27 hf => ?_)
                refine PW.goto cx qX3_readNumbers_218 ?_
                exact PW.vret cx hrt qX3_readNumbers_337 (le_wv hf)
              · refine PW.tswC (v := 8) (off := 213) (tgt := 221) cx qX3_readNumbers_8 (by decide) (by decide) rfl rfl hf (fun hf => ?_) (fun hf n8 => ?_)
                · refine PW.aload_n cx qX3_readNumbers_221 rfl ?_
                  refine PW.aload_n cx qX3_readNumbers_222 rfl ?_
                  refine PW.iconst (v := 0) cx qX3_readNumbers_223 rfl ?_
                  refine PW.aload_n cx qX3_readNumbers_224 rfl ?_
                  refine PW.getf (t := (2, 36)) (v := .ref (gB g + 36)) cx qX3_readNumbers_225 (sh_35 hx) rfl flX3_12 rfl ?_
                  refine PW.getf (t := (0, 0)) (v := .int (rd h 36 5)) cx qX3_readNumbers_228 (as_36 hx).1 rfl flX3_155 rfl ?_
                  refine PW.iconst (v := 1) cx qX3_readNumbers_231 rfl ?_
                  refine PW.isub cx qX3_readNumbers_232 ?_
                  refine PW.callVWIc (As := [.int 0, .int ((rd h 36 5) - 1)]) (st := [.ref (gB g + 35)]) cx hR qX3_readNumbers_233 klX3_133 mvX3_number (sh_35 hx) rfl rfl rfl rfl (Nat.le_of_ble_eq_true rfl) (Nat.le_of_ble_eq_true rfl) (Nat.le_of_ble_eq_true rfl) (Nat.zero_le _) (Nat.zero_le _) hf sne (fun t e => ctX3_number hx h 0 ((rd h 36 5) - 1) t e) (fun t19 h20 hf => ?_)
                  refine PW.putiN cx qX3_readNumbers_236 (sh_35 hx) rfl fpX3_152 hf (fun h21 hf => ?_)
                  refine PW.aload_n cx qX3_readNumbers_239 rfl ?_
                  refine PW.aload_n cx qX3_readNumbers_240 rfl ?_
                  refine PW.iconst (v := 1) cx qX3_readNumbers_241 rfl ?_
                  refine PW.bipush (v := 50) cx qX3_readNumbers_242 rfl ?_
                  refine PW.callVWIc (As := [.int 1, .int 50]) (st := [.ref (gB g + 35)]) cx hR qX3_readNumbers_244 klX3_133 mvX3_number (sh_35 hx) rfl rfl rfl rfl (Nat.le_of_ble_eq_true rfl) (Nat.le_of_ble_eq_true rfl) (Nat.le_of_ble_eq_true rfl) (Nat.zero_le _) (Nat.zero_le _) hf sne (fun t e => ctX3_number hx h21 1 50 t e) (fun t22 h23 hf => ?_)
                  refine PW.putiN cx qX3_readNumbers_247 (sh_35 hx) rfl fpX3_161 hf (fun h24 hf => ?_)
                  refine PW.goto cx qX3_readNumbers_250 ?_
                  exact PW.vret cx hrt qX3_readNumbers_337 (le_wv hf)
                · refine PW.tswC (v := 9) (off := 245) (tgt := 253) cx qX3_readNumbers_8 (by decide) (by decide) rfl rfl hf (fun hf => ?_) (fun hf n9 => ?_)
                  · refine PW.aload_n cx qX3_readNumbers_253 rfl ?_
                    refine PW.aload_n cx qX3_readNumbers_254 rfl ?_
                    refine PW.iconst (v := 1) cx qX3_readNumbers_255 rfl ?_
                    refine PW.sipush (v := 999) cx qX3_readNumbers_256 rfl ?_
                    refine PW.callVWIc (As := [.int 1, .int 999]) (st := [.ref (gB g + 35)]) cx hR qX3_readNumbers_259 klX3_133 mvX3_number (sh_35 hx) rfl rfl rfl rfl (Nat.le_of_ble_eq_true rfl) (Nat.le_of_ble_eq_true rfl) (Nat.le_of_ble_eq_true rfl) (Nat.zero_le _) (Nat.zero_le _) hf sne (fun t e => ctX3_number hx h 1 999 t e) (fun t16 h17 hf => ?_)
                    refine PW.putiN cx qX3_readNumbers_262 (sh_35 hx) rfl fpX3_152 hf (fun h18 hf => ?_)
                    refine PW.goto cx qX3_readNumbers_265 ?_
                    exact PW.vret cx hrt qX3_readNumbers_337 (le_wv hf)
                  · refine PW.tswC (v := 10) (off := 260) (tgt := 268) cx qX3_readNumbers_8 (by decide) (by decide) rfl rfl hf (fun hf => ?_) (fun hf n10 => ?_)
                    · refine PW.aload_n cx qX3_readNumbers_268 rfl ?_
                      refine PW.aload_n cx qX3_readNumbers_269 rfl ?_
                      refine PW.iconst (v := 0) cx qX3_readNumbers_270 rfl ?_
                      refine PW.aload_n cx qX3_readNumbers_271 rfl ?_
                      refine PW.getf (t := (2, 36)) (v := .ref (gB g + 36)) cx qX3_readNumbers_272 (sh_35 hx) rfl flX3_12 rfl ?_
                      refine PW.getf (t := (0, 0)) (v := .int (rd h 36 5)) cx qX3_readNumbers_275 (as_36 hx).1 rfl flX3_155 rfl ?_
                      refine PW.iconst (v := 1) cx qX3_readNumbers_278 rfl ?_
                      refine PW.isub cx qX3_readNumbers_279 ?_
                      refine PW.callVWIc (As := [.int 0, .int ((rd h 36 5) - 1)]) (st := [.ref (gB g + 35)]) cx hR qX3_readNumbers_280 klX3_133 mvX3_number (sh_35 hx) rfl rfl rfl rfl (Nat.le_of_ble_eq_true rfl) (Nat.le_of_ble_eq_true rfl) (Nat.le_of_ble_eq_true rfl) (Nat.zero_le _) (Nat.zero_le _) hf sne (fun t e => ctX3_number hx h 0 ((rd h 36 5) - 1) t e) (fun t6 h7 hf => ?_)
                      refine PW.putiN cx qX3_readNumbers_283 (sh_35 hx) rfl fpX3_152 hf (fun h8 hf => ?_)
                      refine PW.aload_n cx qX3_readNumbers_286 rfl ?_
                      refine PW.aload_n cx qX3_readNumbers_287 rfl ?_
                      refine PW.iconst (v := 0) cx qX3_readNumbers_288 rfl ?_
                      refine PW.aload_n cx qX3_readNumbers_289 rfl ?_
                      refine PW.getf (t := (2, 36)) (v := .ref (gB g + 36)) cx qX3_readNumbers_290 (sh_35 hx) rfl flX3_12 rfl ?_
                      refine PW.getf (t := (2, 36 + 1)) (v := .ref (gB g + (36 + 1))) cx qX3_readNumbers_293 (as_36 hx).1 rfl flX3_167 rfl ?_
                      refine PW.aload_n cx qX3_readNumbers_296 rfl ?_
                      refine PW.getf (t := (0, 0)) (v := .int (rd h8 35 8)) cx qX3_readNumbers_297 (sh_35 hx) rfl flX3_152 rfl ?_
                      refine PW.iald cx qX3_readNumbers_300 (AS.r1 (as_36 hx)) hf sne (fun t9 hf => ?_)
                      refine PW.iconst (v := 1) cx qX3_readNumbers_301 rfl ?_
                      refine PW.isub cx qX3_readNumbers_302 ?_
                      refine PW.callVWIc (As := [.int 0, .int (t9 - 1)]) (st := [.ref (gB g + 35)]) cx hR qX3_readNumbers_303 klX3_133 mvX3_number (sh_35 hx) rfl rfl rfl rfl (Nat.le_of_ble_eq_true rfl) (Nat.le_of_ble_eq_true rfl) (Nat.le_of_ble_eq_true rfl) (Nat.zero_le _) (Nat.zero_le _) hf sne (fun t e => ctX3_number hx h8 0 (t9 - 1) t e) (fun t10 h11 hf => ?_)
                      refine PW.putiN cx qX3_readNumbers_306 (sh_35 hx) rfl fpX3_161 hf (fun h12 hf => ?_)
                      refine PW.aload_n cx qX3_readNumbers_309 rfl ?_
                      refine PW.aload_n cx qX3_readNumbers_310 rfl ?_
                      refine PW.iconst (v := 1) cx qX3_readNumbers_311 rfl ?_
                      refine PW.bipush (v := 9) cx qX3_readNumbers_312 rfl ?_
                      refine PW.callVWIc (As := [.int 1, .int 9]) (st := [.ref (gB g + 35)]) cx hR qX3_readNumbers_314 klX3_133 mvX3_number (sh_35 hx) rfl rfl rfl rfl (Nat.le_of_ble_eq_true rfl) (Nat.le_of_ble_eq_true rfl) (Nat.le_of_ble_eq_true rfl) (Nat.zero_le _) (Nat.zero_le _) hf sne (fun t e => ctX3_number hx h12 1 9 t e) (fun t13 h14 hf => ?_)
                      refine PW.putiN cx qX3_readNumbers_317 (sh_35 hx) rfl fpX3_170 hf (fun h15 hf => ?_)
                      refine PW.goto cx qX3_readNumbers_320 ?_
                      exact PW.vret cx hrt qX3_readNumbers_337 (le_wv hf)
                    · refine PW.tswC (v := 11) (off := 315) (tgt := 323) cx qX3_readNumbers_8 (by decide) (by decide) rfl rfl hf (fun hf => ?_) (fun hf n11 => ?_)
                      · refine PW.aload_n cx qX3_readNumbers_323 rfl ?_
                        refine PW.aload_n cx qX3_readNumbers_324 rfl ?_
                        refine PW.iconst (v := 1) cx qX3_readNumbers_325 rfl ?_
                        refine PW.bipush (v := 50) cx qX3_readNumbers_326 rfl ?_
                        refine PW.callVWIc (As := [.int 1, .int 50]) (st := [.ref (gB g + 35)]) cx hR qX3_readNumbers_328 klX3_133 mvX3_number (sh_35 hx) rfl rfl rfl rfl (Nat.le_of_ble_eq_true rfl) (Nat.le_of_ble_eq_true rfl) (Nat.le_of_ble_eq_true rfl) (Nat.zero_le _) (Nat.zero_le _) hf sne (fun t e => ctX3_number hx h 1 50 t e) (fun t3 h4 hf => ?_)
                        refine PW.putiN cx qX3_readNumbers_331 (sh_35 hx) rfl fpX3_152 hf (fun h5 hf => ?_)
                        refine PW.goto cx qX3_readNumbers_334 ?_
                        exact PW.vret cx hrt qX3_readNumbers_337 (le_wv hf)
                      · refine PW.tswD cx qX3_readNumbers_8 (tsw_out (lo := 1) (hi := 11) (N := 11) rfl (fun k hk => match k, hk with | 0, _ => n1 | 1, _ => n2 | 2, _ => n3 | 3, _ => n4 | 4, _ => n5 | 5, _ => n6 | 6, _ => n7 | 7, _ => n8 | 8, _ => n9 | 9, _ => n10 | 10, _ => n11 | k + 11, hk => absurd hk (by omega))) rfl ?_
                        exact PW.vret cx hrt qX3_readNumbers_337 (le_wv hf)
set_option maxRecDepth 20000 in
theorem ctX3_isRefused {g : GT} {ex : Bool} {sh : List Shp} (hx : XSh sh) (h : Hp) (p1 : Int32) (r0 : Bool) (hf : S_isRefused h p1 = some r0) : Ct g mX3_isRefused 3 0 0 ex [.ref (gB g + 35), .ref (ga g (p1 : Int32).toNatClampNeg)] sh h (PE (some (.int (b2i r0))) sh h) := by
  refine Ct.of (L := [some (.ref (gB g + 35)), some (.ref (ga g (p1 : Int32).toNatClampNeg))]) (by decide) (by intro w hw; simp only [List.mem_cons, List.not_mem_nil, or_false] at hw; rcases hw with rfl | rfl <;> rfl) (Nat.le_of_ble_eq_true rfl) rfl (fun X mx => ?_)
  obtain ⟨cx, hR, hml, hrt, -⟩ := mx
  have cx : Cx g X RX3 cX3_isRefused := cx
  have hrt : X.2.2.2.2.2.2.2.1.sig.returnType = (some .boolean) := hrt
  unfold S_isRefused at hf
  refine PW.gsW cx qX3_isRefused_0 glX3_140 ?_
  refine PW.aload_n cx qX3_isRefused_3 rfl ?_
  refine PW.ordn cx hR qX3_isRefused_4 klX3_145 (Nat.le_of_ble_eq_true rfl) (Nat.le_of_ble_eq_true rfl) (Nat.zero_le _) (Nat.zero_le _) hf sne (fun t1 hf => ?_)
  refine PW.swm cx qX3_isRefused_7 hf sne (fun t2 hf => ?_)
  refine PW.tswC (v := 1) (off := 60) (tgt := 68) cx qX3_isRefused_8 (by decide) (by decide) rfl rfl hf (fun hf => ?_) (fun hf n1 => ?_)
  · refine PW.aload_n cx qX3_isRefused_68 rfl ?_
    refine PW.getf (t := (2, 36)) (v := .ref (gB g + 36)) cx qX3_isRefused_69 (sh_35 hx) rfl flX3_12 rfl ?_
    refine PW.callVRB (As := []) (st := []) cx hR qX3_isRefused_72 klX3_182 mvX1_hasRoomForClip (as_36 hx).1 rfl rfl rfl rfl (Nat.le_of_ble_eq_true rfl) (Nat.le_of_ble_eq_true rfl) (Nat.le_of_ble_eq_true rfl) (Nat.zero_le _) (Nat.zero_le _) hf sne (fun t e => ctX1_hasRoomForClip (as_36 hx) h t e) (fun t11 hf => ?_)
    refine PW.if_ne cx qX3_isRefused_75 hf (fun hf => ?_) (fun hf => ?_)
    · refine PW.iconst (v := 1) cx qX3_isRefused_78 rfl ?_
      refine PW.goto cx qX3_isRefused_79 ?_
      exact PW.zret cx hrt nb1 qX3_isRefused_83 (le_rz hf)
    · refine PW.iconst (v := 0) cx qX3_isRefused_82 rfl ?_
      exact PW.zret cx hrt nb0 qX3_isRefused_83 (le_rz hf)
  · refine PW.tswC (v := 2) (off := 76) (tgt := 84) cx qX3_isRefused_8 (by decide) (by decide) rfl rfl hf (fun hf => ?_) (fun hf n2 => ?_)
    · refine PW.aload_n cx qX3_isRefused_84 rfl ?_
      refine PW.getf (t := (2, 36)) (v := .ref (gB g + 36)) cx qX3_isRefused_85 (sh_35 hx) rfl flX3_12 rfl ?_
      refine PW.callVRB (As := []) (st := []) cx hR qX3_isRefused_88 klX3_186 mvX1_hasRoomForReel (as_36 hx).1 rfl rfl rfl rfl (Nat.le_of_ble_eq_true rfl) (Nat.le_of_ble_eq_true rfl) (Nat.le_of_ble_eq_true rfl) (Nat.zero_le _) (Nat.zero_le _) hf sne (fun t e => ctX1_hasRoomForReel (as_36 hx) h t e) (fun t10 hf => ?_)
      refine PW.if_ne cx qX3_isRefused_91 hf (fun hf => ?_) (fun hf => ?_)
      · refine PW.iconst (v := 1) cx qX3_isRefused_94 rfl ?_
        refine PW.goto cx qX3_isRefused_95 ?_
        exact PW.zret cx hrt nb1 qX3_isRefused_99 (le_rz hf)
      · refine PW.iconst (v := 0) cx qX3_isRefused_98 rfl ?_
        exact PW.zret cx hrt nb0 qX3_isRefused_99 (le_rz hf)
    · refine PW.tswC (v := 3) (off := 92) (tgt := 100) cx qX3_isRefused_8 (by decide) (by decide) rfl rfl hf (fun hf => ?_) (fun hf n3 => ?_)
      · refine PW.aload_n cx qX3_isRefused_100 rfl ?_
        refine PW.getf (t := (2, 36)) (v := .ref (gB g + 36)) cx qX3_isRefused_101 (sh_35 hx) rfl flX3_12 rfl ?_
        refine PW.callVRB (As := []) (st := []) cx hR qX3_isRefused_104 klX3_189 mvX1_hasRoomForScene (as_36 hx).1 rfl rfl rfl rfl (Nat.le_of_ble_eq_true rfl) (Nat.le_of_ble_eq_true rfl) (Nat.le_of_ble_eq_true rfl) (Nat.zero_le _) (Nat.zero_le _) hf sne (fun t e => ctX1_hasRoomForScene (as_36 hx) h t e) (fun t9 hf => ?_)
        refine PW.if_ne cx qX3_isRefused_107 hf (fun hf => ?_) (fun hf => ?_)
        · refine PW.iconst (v := 1) cx qX3_isRefused_110 rfl ?_
          refine PW.goto cx qX3_isRefused_111 ?_
          exact PW.zret cx hrt nb1 qX3_isRefused_115 (le_rz hf)
        · refine PW.iconst (v := 0) cx qX3_isRefused_114 rfl ?_
          exact PW.zret cx hrt nb0 qX3_isRefused_115 (le_rz hf)
      · refine PW.tswC (v := 4) (off := 108) (tgt := 116) cx qX3_isRefused_8 (by decide) (by decide) rfl rfl hf (fun hf => ?_) (fun hf n4 => ?_)
        · refine PW.aload_n cx qX3_isRefused_116 rfl ?_
          refine PW.getf (t := (2, 36)) (v := .ref (gB g + 36)) cx qX3_isRefused_117 (sh_35 hx) rfl flX3_12 rfl ?_
          refine PW.aload_n cx qX3_isRefused_120 rfl ?_
          refine PW.getf (t := (0, 0)) (v := .int (rd h 35 8)) cx qX3_isRefused_121 (sh_35 hx) rfl flX3_152 rfl ?_
          refine PW.aload_n cx qX3_isRefused_124 rfl ?_
          refine PW.getf (t := (0, 0)) (v := .int (rd h 35 9)) cx qX3_isRefused_125 (sh_35 hx) rfl flX3_161 rfl ?_
          refine PW.callVRI (As := [.int (rd h 35 8), .int (rd h 35 9)]) (st := []) cx hR qX3_isRefused_128 klX3_192 mvX1_refusal (as_36 hx).1 rfl rfl rfl rfl (Nat.le_of_ble_eq_true rfl) (Nat.le_of_ble_eq_true rfl) (Nat.le_of_ble_eq_true rfl) (Nat.zero_le _) (Nat.zero_le _) hf sne (fun t e => ctX1_refusal (as_36 hx) h (rd h 35 8) (rd h 35 9) t e) (fun t8 hf => ?_)
          refine PW.if_eq cx qX3_isRefused_131 hf (fun hf => ?_) (fun hf => ?_)
          · refine PW.iconst (v := 0) cx qX3_isRefused_138 rfl ?_
            exact PW.zret cx hrt nb0 qX3_isRefused_139 (le_rz hf)
          · refine PW.iconst (v := 1) cx qX3_isRefused_134 rfl ?_
            refine PW.goto cx qX3_isRefused_135 ?_
            exact PW.zret cx hrt nb1 qX3_isRefused_139 (le_rz hf)
        · refine PW.tswC (v := 5) (off := 132) (tgt := 140) cx qX3_isRefused_8 (by decide) (by decide) rfl rfl hf (fun hf => ?_) (fun hf n5 => ?_)
          · refine PW.aload_n cx qX3_isRefused_140 rfl ?_
            refine PW.getf (t := (2, 36)) (v := .ref (gB g + 36)) cx qX3_isRefused_141 (sh_35 hx) rfl flX3_12 rfl ?_
            refine PW.getf (t := (2, 36 + 4)) (v := .ref (gB g + (36 + 4))) cx qX3_isRefused_144 (as_36 hx).1 rfl flX3_195 rfl ?_
            refine PW.aload_n cx qX3_isRefused_147 rfl ?_
            refine PW.getf (t := (0, 0)) (v := .int (rd h 35 8)) cx qX3_isRefused_148 (sh_35 hx) rfl flX3_152 rfl ?_
            refine PW.iald cx qX3_isRefused_151 (AS.r4 (as_36 hx)) hf sne (fun t7 hf => ?_)
            refine PW.iconst (v := 1) cx qX3_isRefused_152 rfl ?_
            refine PW.icmp_eq cx qX3_isRefused_153 hf (fun hf => ?_) (fun hf => ?_)
            · refine PW.iconst (v := 0) cx qX3_isRefused_160 rfl ?_
              exact PW.zret cx hrt nb0 qX3_isRefused_161 (le_rz hf)
            · refine PW.iconst (v := 1) cx qX3_isRefused_156 rfl ?_
              refine PW.goto cx qX3_isRefused_157 ?_
              exact PW.zret cx hrt nb1 qX3_isRefused_161 (le_rz hf)
          · refine PW.tswC (v := 6) (off := 239) (tgt := 247) cx qX3_isRefused_8 (by decide) (by decide) rfl rfl hf (fun hf => ?_) (fun hf n6 => ?_)
            · refine PW.iconst (v := 0) cx qX3_isRefused_247 rfl ?_
              exact PW.zret cx hrt nb0 qX3_isRefused_248 (le_rz hf)
            · refine PW.tswC (v := 7) (off := 239) (tgt := 247) cx qX3_isRefused_8 (by decide) (by decide) rfl rfl hf (fun hf => ?_) (fun hf n7 => ?_)
              · refine PW.iconst (v := 0) cx qX3_isRefused_247 rfl ?_
                exact PW.zret cx hrt nb0 qX3_isRefused_248 (le_rz hf)
              · refine PW.tswC (v := 8) (off := 154) (tgt := 162) cx qX3_isRefused_8 (by decide) (by decide) rfl rfl hf (fun hf => ?_) (fun hf n8 => ?_)
                · refine PW.aload_n cx qX3_isRefused_162 rfl ?_
                  refine PW.getf (t := (2, 36)) (v := .ref (gB g + 36)) cx qX3_isRefused_163 (sh_35 hx) rfl flX3_12 rfl ?_
                  refine PW.aload_n cx qX3_isRefused_166 rfl ?_
                  refine PW.getf (t := (0, 0)) (v := .int (rd h 35 8)) cx qX3_isRefused_167 (sh_35 hx) rfl flX3_152 rfl ?_
                  refine PW.aload_n cx qX3_isRefused_170 rfl ?_
                  refine PW.getf (t := (0, 0)) (v := .int (rd h 35 9)) cx qX3_isRefused_171 (sh_35 hx) rfl flX3_161 rfl ?_
                  refine PW.callVRB (As := [.int (rd h 35 8), .int (rd h 35 9)]) (st := []) cx hR qX3_isRefused_174 klX3_198 mvX1_mayFeed (as_36 hx).1 rfl rfl rfl rfl (Nat.le_of_ble_eq_true rfl) (Nat.le_of_ble_eq_true rfl) (Nat.le_of_ble_eq_true rfl) (Nat.zero_le _) (Nat.zero_le _) hf sne (fun t e => ctX1_mayFeed (as_36 hx) h (rd h 35 8) (rd h 35 9) t e) (fun t6 hf => ?_)
                  refine PW.if_ne cx qX3_isRefused_177 hf (fun hf => ?_) (fun hf => ?_)
                  · refine PW.iconst (v := 1) cx qX3_isRefused_180 rfl ?_
                    refine PW.goto cx qX3_isRefused_181 ?_
                    exact PW.zret cx hrt nb1 qX3_isRefused_185 (le_rz hf)
                  · refine PW.iconst (v := 0) cx qX3_isRefused_184 rfl ?_
                    exact PW.zret cx hrt nb0 qX3_isRefused_185 (le_rz hf)
                · refine PW.tswC (v := 9) (off := 178) (tgt := 186) cx qX3_isRefused_8 (by decide) (by decide) rfl rfl hf (fun hf => ?_) (fun hf n9 => ?_)
                  · refine PW.aload_n cx qX3_isRefused_186 rfl ?_
                    refine PW.getf (t := (2, 36)) (v := .ref (gB g + 36)) cx qX3_isRefused_187 (sh_35 hx) rfl flX3_12 rfl ?_
                    refine PW.aload_n cx qX3_isRefused_190 rfl ?_
                    refine PW.getf (t := (0, 0)) (v := .int (rd h 35 8)) cx qX3_isRefused_191 (sh_35 hx) rfl flX3_152 rfl ?_
                    refine PW.callVRB (As := [.int (rd h 35 8)]) (st := []) cx hR qX3_isRefused_194 klX3_202 mvX1_mayStore (as_36 hx).1 rfl rfl rfl rfl (Nat.le_of_ble_eq_true rfl) (Nat.le_of_ble_eq_true rfl) (Nat.le_of_ble_eq_true rfl) (Nat.zero_le _) (Nat.zero_le _) hf sne (fun t e => ctX1_mayStore (as_36 hx) h (rd h 35 8) t e) (fun t5 hf => ?_)
                    refine PW.if_ne cx qX3_isRefused_197 hf (fun hf => ?_) (fun hf => ?_)
                    · refine PW.iconst (v := 1) cx qX3_isRefused_200 rfl ?_
                      refine PW.goto cx qX3_isRefused_201 ?_
                      exact PW.zret cx hrt nb1 qX3_isRefused_205 (le_rz hf)
                    · refine PW.iconst (v := 0) cx qX3_isRefused_204 rfl ?_
                      exact PW.zret cx hrt nb0 qX3_isRefused_205 (le_rz hf)
                  · refine PW.tswC (v := 10) (off := 198) (tgt := 206) cx qX3_isRefused_8 (by decide) (by decide) rfl rfl hf (fun hf => ?_) (fun hf n10 => ?_)
                    · refine PW.aload_n cx qX3_isRefused_206 rfl ?_
                      refine PW.getf (t := (2, 36)) (v := .ref (gB g + 36)) cx qX3_isRefused_207 (sh_35 hx) rfl flX3_12 rfl ?_
                      refine PW.getf (t := (2, 36 + 4)) (v := .ref (gB g + (36 + 4))) cx qX3_isRefused_210 (as_36 hx).1 rfl flX3_195 rfl ?_
                      refine PW.aload_n cx qX3_isRefused_213 rfl ?_
                      refine PW.getf (t := (0, 0)) (v := .int (rd h 35 8)) cx qX3_isRefused_214 (sh_35 hx) rfl flX3_152 rfl ?_
                      refine PW.iald cx qX3_isRefused_217 (AS.r4 (as_36 hx)) hf sne (fun t4 hf => ?_)
                      refine PW.if_eq cx qX3_isRefused_218 hf (fun hf => ?_) (fun hf => ?_)
                      · refine PW.iconst (v := 0) cx qX3_isRefused_225 rfl ?_
                        exact PW.zret cx hrt nb0 qX3_isRefused_226 (le_rz hf)
                      · refine PW.iconst (v := 1) cx qX3_isRefused_221 rfl ?_
                        refine PW.goto cx qX3_isRefused_222 ?_
                        exact PW.zret cx hrt nb1 qX3_isRefused_226 (le_rz hf)
                    · refine PW.tswC (v := 11) (off := 219) (tgt := 227) cx qX3_isRefused_8 (by decide) (by decide) rfl rfl hf (fun hf => ?_) (fun hf n11 => ?_)
                      · refine PW.aload_n cx qX3_isRefused_227 rfl ?_
                        refine PW.getf (t := (2, 36)) (v := .ref (gB g + 36)) cx qX3_isRefused_228 (sh_35 hx) rfl flX3_12 rfl ?_
                        refine PW.aload_n cx qX3_isRefused_231 rfl ?_
                        refine PW.getf (t := (0, 0)) (v := .int (rd h 35 8)) cx qX3_isRefused_232 (sh_35 hx) rfl flX3_152 rfl ?_
                        refine PW.callVRB (As := [.int (rd h 35 8)]) (st := []) cx hR qX3_isRefused_235 klX3_206 mvX1_mayPass (as_36 hx).1 rfl rfl rfl rfl (Nat.le_of_ble_eq_true rfl) (Nat.le_of_ble_eq_true rfl) (Nat.le_of_ble_eq_true rfl) (Nat.zero_le _) (Nat.zero_le _) hf sne (fun t e => ctX1_mayPass (as_36 hx) h (rd h 35 8) t e) (fun t3 hf => ?_)
                        refine PW.if_ne cx qX3_isRefused_238 hf (fun hf => ?_) (fun hf => ?_)
                        · refine PW.iconst (v := 1) cx qX3_isRefused_241 rfl ?_
                          refine PW.goto cx qX3_isRefused_242 ?_
                          exact PW.zret cx hrt nb1 qX3_isRefused_246 (le_rz hf)
                        · refine PW.iconst (v := 0) cx qX3_isRefused_245 rfl ?_
                          exact PW.zret cx hrt nb0 qX3_isRefused_246 (le_rz hf)
                      · refine PW.tswD cx qX3_isRefused_8 (tsw_out (lo := 1) (hi := 11) (N := 11) rfl (fun k hk => match k, hk with | 0, _ => n1 | 1, _ => n2 | 2, _ => n3 | 3, _ => n4 | 4, _ => n5 | 5, _ => n6 | 6, _ => n7 | 7, _ => n8 | 8, _ => n9 | 9, _ => n10 | 10, _ => n11 | k + 11, hk => absurd hk (by omega))) rfl ?_
                        refine PW.iconst (v := 0) cx qX3_isRefused_247 rfl ?_
                        exact PW.zret cx hrt nb0 qX3_isRefused_248 (le_rz hf)
set_option maxRecDepth 20000 in
theorem ctX3_carryOut {g : GT} {ex : Bool} {sh : List Shp} (hx : XSh sh) (h : Hp) (p1 : Int32) (r0 : Hp) (hf : S_carryOut h p1 = some r0) : Ct g mX3_carryOut 4 0 0 ex [.ref (gB g + 35), .ref (ga g (p1 : Int32).toNatClampNeg)] sh h (PE none sh r0) := by
  refine Ct.of (L := [some (.ref (gB g + 35)), some (.ref (ga g (p1 : Int32).toNatClampNeg))]) (by decide) (by intro w hw; simp only [List.mem_cons, List.not_mem_nil, or_false] at hw; rcases hw with rfl | rfl <;> rfl) (Nat.le_of_ble_eq_true rfl) rfl (fun X mx => ?_)
  obtain ⟨cx, hR, hml, hrt, -⟩ := mx
  have cx : Cx g X RX3 cX3_carryOut := cx
  have hrt : X.2.2.2.2.2.2.2.1.sig.returnType = none := hrt
  unfold S_carryOut at hf
  refine PW.gsW cx qX3_carryOut_0 glX3_140 ?_
  refine PW.aload_n cx qX3_carryOut_3 rfl ?_
  refine PW.ordn cx hR qX3_carryOut_4 klX3_145 (Nat.le_of_ble_eq_true rfl) (Nat.le_of_ble_eq_true rfl) (Nat.zero_le _) (Nat.zero_le _) hf sne (fun t1 hf => ?_)
  refine PW.swm cx qX3_carryOut_7 hf sne (fun t2 hf => ?_)
  refine PW.tswC (v := 1) (off := 60) (tgt := 68) cx qX3_carryOut_8 (by decide) (by decide) rfl rfl hf (fun hf => ?_) (fun hf n1 => ?_)
  · refine PW.aload_n cx qX3_carryOut_68 rfl ?_
    refine PW.getf (t := (2, 36)) (v := .ref (gB g + 36)) cx qX3_carryOut_69 (sh_35 hx) rfl flX3_12 rfl ?_
    refine PW.aload_n cx qX3_carryOut_72 rfl ?_
    refine PW.getf (t := (0, 0)) (v := .int (rd h 35 8)) cx qX3_carryOut_73 (sh_35 hx) rfl flX3_152 rfl ?_
    refine PW.callVWIc (As := [.int (rd h 35 8)]) (st := []) cx hR qX3_carryOut_76 klX3_209 mvX1_putClip (as_36 hx).1 rfl rfl rfl rfl (Nat.le_of_ble_eq_true rfl) (Nat.le_of_ble_eq_true rfl) (Nat.le_of_ble_eq_true rfl) (Nat.zero_le _) (Nat.zero_le _) hf sne (fun t e => ctX1_putClip (as_36 hx) h (rd h 35 8) t e) (fun t23 h24 hf => ?_)
    refine PW.pop cx qX3_carryOut_79 rfl ?_
    refine PW.goto cx qX3_carryOut_80 ?_
    exact PW.vret cx hrt qX3_carryOut_253 (le_wv hf)
  · refine PW.tswC (v := 2) (off := 75) (tgt := 83) cx qX3_carryOut_8 (by decide) (by decide) rfl rfl hf (fun hf => ?_) (fun hf n2 => ?_)
    · refine PW.aload_n cx qX3_carryOut_83 rfl ?_
      refine PW.getf (t := (2, 36)) (v := .ref (gB g + 36)) cx qX3_carryOut_84 (sh_35 hx) rfl flX3_12 rfl ?_
      refine PW.aload_n cx qX3_carryOut_87 rfl ?_
      refine PW.getf (t := (0, 0)) (v := .int (rd h 35 8)) cx qX3_carryOut_88 (sh_35 hx) rfl flX3_152 rfl ?_
      refine PW.callVWIc (As := [.int (rd h 35 8)]) (st := []) cx hR qX3_carryOut_91 klX3_213 mvX1_putReel (as_36 hx).1 rfl rfl rfl rfl (Nat.le_of_ble_eq_true rfl) (Nat.le_of_ble_eq_true rfl) (Nat.le_of_ble_eq_true rfl) (Nat.zero_le _) (Nat.zero_le _) hf sne (fun t e => ctX1_putReel (as_36 hx) h (rd h 35 8) t e) (fun t21 h22 hf => ?_)
      refine PW.pop cx qX3_carryOut_94 rfl ?_
      refine PW.goto cx qX3_carryOut_95 ?_
      exact PW.vret cx hrt qX3_carryOut_253 (le_wv hf)
    · refine PW.tswC (v := 3) (off := 90) (tgt := 98) cx qX3_carryOut_8 (by decide) (by decide) rfl rfl hf (fun hf => ?_) (fun hf n3 => ?_)
      · refine PW.aload_n cx qX3_carryOut_98 rfl ?_
        refine PW.getf (t := (2, 36)) (v := .ref (gB g + 36)) cx qX3_carryOut_99 (sh_35 hx) rfl flX3_12 rfl ?_
        refine PW.aload_n cx qX3_carryOut_102 rfl ?_
        refine PW.getf (t := (0, 0)) (v := .int (rd h 35 8)) cx qX3_carryOut_103 (sh_35 hx) rfl flX3_152 rfl ?_
        refine PW.callVWIc (As := [.int (rd h 35 8)]) (st := []) cx hR qX3_carryOut_106 klX3_216 mvX1_putScene (as_36 hx).1 rfl rfl rfl rfl (Nat.le_of_ble_eq_true rfl) (Nat.le_of_ble_eq_true rfl) (Nat.le_of_ble_eq_true rfl) (Nat.zero_le _) (Nat.zero_le _) hf sne (fun t e => ctX1_putScene (as_36 hx) h (rd h 35 8) t e) (fun t19 h20 hf => ?_)
        refine PW.pop cx qX3_carryOut_109 rfl ?_
        refine PW.goto cx qX3_carryOut_110 ?_
        exact PW.vret cx hrt qX3_carryOut_253 (le_wv hf)
      · refine PW.tswC (v := 4) (off := 105) (tgt := 113) cx qX3_carryOut_8 (by decide) (by decide) rfl rfl hf (fun hf => ?_) (fun hf n4 => ?_)
        · refine PW.aload_n cx qX3_carryOut_113 rfl ?_
          refine PW.getf (t := (2, 36)) (v := .ref (gB g + 36)) cx qX3_carryOut_114 (sh_35 hx) rfl flX3_12 rfl ?_
          refine PW.aload_n cx qX3_carryOut_117 rfl ?_
          refine PW.getf (t := (0, 0)) (v := .int (rd h 35 8)) cx qX3_carryOut_118 (sh_35 hx) rfl flX3_152 rfl ?_
          refine PW.aload_n cx qX3_carryOut_121 rfl ?_
          refine PW.getf (t := (0, 0)) (v := .int (rd h 35 9)) cx qX3_carryOut_122 (sh_35 hx) rfl flX3_161 rfl ?_
          refine PW.callVWIc (As := [.int (rd h 35 8), .int (rd h 35 9)]) (st := []) cx hR qX3_carryOut_125 klX3_219 mvX1_layDown (as_36 hx).1 rfl rfl rfl rfl (Nat.le_of_ble_eq_true rfl) (Nat.le_of_ble_eq_true rfl) (Nat.le_of_ble_eq_true rfl) (Nat.zero_le _) (Nat.zero_le _) hf sne (fun t e => ctX1_layDown (as_36 hx) h (rd h 35 8) (rd h 35 9) t e) (fun t17 h18 hf => ?_)
          refine PW.pop cx qX3_carryOut_128 rfl ?_
          refine PW.goto cx qX3_carryOut_129 ?_
          exact PW.vret cx hrt qX3_carryOut_253 (le_wv hf)
        · refine PW.tswC (v := 5) (off := 124) (tgt := 132) cx qX3_carryOut_8 (by decide) (by decide) rfl rfl hf (fun hf => ?_) (fun hf n5 => ?_)
          · refine PW.aload_n cx qX3_carryOut_132 rfl ?_
            refine PW.getf (t := (2, 36)) (v := .ref (gB g + 36)) cx qX3_carryOut_133 (sh_35 hx) rfl flX3_12 rfl ?_
            refine PW.aload_n cx qX3_carryOut_136 rfl ?_
            refine PW.getf (t := (0, 0)) (v := .int (rd h 35 8)) cx qX3_carryOut_137 (sh_35 hx) rfl flX3_152 rfl ?_
            refine PW.callVWIc (As := [.int (rd h 35 8)]) (st := []) cx hR qX3_carryOut_140 klX3_222 mvX1_rouse (as_36 hx).1 rfl rfl rfl rfl (Nat.le_of_ble_eq_true rfl) (Nat.le_of_ble_eq_true rfl) (Nat.le_of_ble_eq_true rfl) (Nat.zero_le _) (Nat.zero_le _) hf sne (fun t e => ctX1_rouse (as_36 hx) h (rd h 35 8) t e) (fun t15 h16 hf => ?_)
            refine PW.pop cx qX3_carryOut_143 rfl ?_
            refine PW.goto cx qX3_carryOut_144 ?_
            exact PW.vret cx hrt qX3_carryOut_253 (le_wv hf)
          · refine PW.tswC (v := 6) (off := 139) (tgt := 147) cx qX3_carryOut_8 (by decide) (by decide) rfl rfl hf (fun hf => ?_) (fun hf n6 => ?_)
            · refine PW.aload_n cx qX3_carryOut_147 rfl ?_
              refine PW.getf (t := (2, 36)) (v := .ref (gB g + 36)) cx qX3_carryOut_148 (sh_35 hx) rfl flX3_12 rfl ?_
              refine PW.aload_n cx qX3_carryOut_151 rfl ?_
              refine PW.getf (t := (0, 0)) (v := .int (rd h 35 8)) cx qX3_carryOut_152 (sh_35 hx) rfl flX3_152 rfl ?_
              refine PW.aload_n cx qX3_carryOut_155 rfl ?_
              refine PW.getf (t := (0, 0)) (v := .int (rd h 35 9)) cx qX3_carryOut_156 (sh_35 hx) rfl flX3_161 rfl ?_
              refine PW.callVWIc (As := [.int (rd h 35 8), .int (rd h 35 9)]) (st := []) cx hR qX3_carryOut_159 klX3_225 mvX1_cutScene (as_36 hx).1 rfl rfl rfl rfl (Nat.le_of_ble_eq_true rfl) (Nat.le_of_ble_eq_true rfl) (Nat.le_of_ble_eq_true rfl) (Nat.zero_le _) (Nat.zero_le _) hf sne (fun t e => ctX1_cutScene (as_36 hx) h (rd h 35 8) (rd h 35 9) t e) (fun t13 h14 hf => ?_)
              refine PW.pop cx qX3_carryOut_162 rfl ?_
              refine PW.goto cx qX3_carryOut_163 ?_
              exact PW.vret cx hrt qX3_carryOut_253 (le_wv hf)
            · refine PW.tswC (v := 7) (off := 158) (tgt := 166) cx qX3_carryOut_8 (by decide) (by decide) rfl rfl hf (fun hf => ?_) (fun hf n7 => ?_)
              · refine PW.aload_n cx qX3_carryOut_166 rfl ?_
                refine PW.getf (t := (2, 36)) (v := .ref (gB g + 36)) cx qX3_carryOut_167 (sh_35 hx) rfl flX3_12 rfl ?_
                refine PW.aload_n cx qX3_carryOut_170 rfl ?_
                refine PW.getf (t := (0, 0)) (v := .int (rd h 35 8)) cx qX3_carryOut_171 (sh_35 hx) rfl flX3_152 rfl ?_
                refine PW.callVWIc (As := [.int (rd h 35 8)]) (st := []) cx hR qX3_carryOut_174 klX3_228 mvX1_airReel (as_36 hx).1 rfl rfl rfl rfl (Nat.le_of_ble_eq_true rfl) (Nat.le_of_ble_eq_true rfl) (Nat.le_of_ble_eq_true rfl) (Nat.zero_le _) (Nat.zero_le _) hf sne (fun t e => ctX1_airReel (as_36 hx) h (rd h 35 8) t e) (fun t11 h12 hf => ?_)
                refine PW.pop cx qX3_carryOut_177 rfl ?_
                refine PW.goto cx qX3_carryOut_178 ?_
                exact PW.vret cx hrt qX3_carryOut_253 (le_wv hf)
              · refine PW.tswC (v := 8) (off := 173) (tgt := 181) cx qX3_carryOut_8 (by decide) (by decide) rfl rfl hf (fun hf => ?_) (fun hf n8 => ?_)
                · refine PW.aload_n cx qX3_carryOut_181 rfl ?_
                  refine PW.getf (t := (2, 36)) (v := .ref (gB g + 36)) cx qX3_carryOut_182 (sh_35 hx) rfl flX3_12 rfl ?_
                  refine PW.aload_n cx qX3_carryOut_185 rfl ?_
                  refine PW.getf (t := (0, 0)) (v := .int (rd h 35 8)) cx qX3_carryOut_186 (sh_35 hx) rfl flX3_152 rfl ?_
                  refine PW.aload_n cx qX3_carryOut_189 rfl ?_
                  refine PW.getf (t := (0, 0)) (v := .int (rd h 35 9)) cx qX3_carryOut_190 (sh_35 hx) rfl flX3_161 rfl ?_
                  refine PW.callVWIc (As := [.int (rd h 35 8), .int (rd h 35 9)]) (st := []) cx hR qX3_carryOut_193 klX3_231 mvX1_feedClip (as_36 hx).1 rfl rfl rfl rfl (Nat.le_of_ble_eq_true rfl) (Nat.le_of_ble_eq_true rfl) (Nat.le_of_ble_eq_true rfl) (Nat.zero_le _) (Nat.zero_le _) hf sne (fun t e => ctX1_feedClip (as_36 hx) h (rd h 35 8) (rd h 35 9) t e) (fun t9 h10 hf => ?_)
                  refine PW.pop cx qX3_carryOut_196 rfl ?_
                  refine PW.goto cx qX3_carryOut_197 ?_
                  exact PW.vret cx hrt qX3_carryOut_253 (le_wv hf)
                · refine PW.tswC (v := 9) (off := 192) (tgt := 200) cx qX3_carryOut_8 (by decide) (by decide) rfl rfl hf (fun hf => ?_) (fun hf n9 => ?_)
                  · refine PW.aload_n cx qX3_carryOut_200 rfl ?_
                    refine PW.getf (t := (2, 36)) (v := .ref (gB g + 36)) cx qX3_carryOut_201 (sh_35 hx) rfl flX3_12 rfl ?_
                    refine PW.aload_n cx qX3_carryOut_204 rfl ?_
                    refine PW.getf (t := (0, 0)) (v := .int (rd h 35 8)) cx qX3_carryOut_205 (sh_35 hx) rfl flX3_152 rfl ?_
                    refine PW.callVWIc (As := [.int (rd h 35 8)]) (st := []) cx hR qX3_carryOut_208 klX3_234 mvX1_store (as_36 hx).1 rfl rfl rfl rfl (Nat.le_of_ble_eq_true rfl) (Nat.le_of_ble_eq_true rfl) (Nat.le_of_ble_eq_true rfl) (Nat.zero_le _) (Nat.zero_le _) hf sne (fun t e => ctX1_store (as_36 hx) h (rd h 35 8) t e) (fun t7 h8 hf => ?_)
                    refine PW.pop cx qX3_carryOut_211 rfl ?_
                    refine PW.goto cx qX3_carryOut_212 ?_
                    exact PW.vret cx hrt qX3_carryOut_253 (le_wv hf)
                  · refine PW.tswC (v := 10) (off := 207) (tgt := 215) cx qX3_carryOut_8 (by decide) (by decide) rfl rfl hf (fun hf => ?_) (fun hf n10 => ?_)
                    · refine PW.aload_n cx qX3_carryOut_215 rfl ?_
                      refine PW.getf (t := (2, 36)) (v := .ref (gB g + 36)) cx qX3_carryOut_216 (sh_35 hx) rfl flX3_12 rfl ?_
                      refine PW.aload_n cx qX3_carryOut_219 rfl ?_
                      refine PW.getf (t := (0, 0)) (v := .int (rd h 35 8)) cx qX3_carryOut_220 (sh_35 hx) rfl flX3_152 rfl ?_
                      refine PW.aload_n cx qX3_carryOut_223 rfl ?_
                      refine PW.getf (t := (0, 0)) (v := .int (rd h 35 9)) cx qX3_carryOut_224 (sh_35 hx) rfl flX3_161 rfl ?_
                      refine PW.aload_n cx qX3_carryOut_227 rfl ?_
                      refine PW.getf (t := (0, 0)) (v := .int (rd h 35 10)) cx qX3_carryOut_228 (sh_35 hx) rfl flX3_170 rfl ?_
                      refine PW.callVWIc (As := [.int (rd h 35 8), .int (rd h 35 9), .int (rd h 35 10)]) (st := []) cx hR qX3_carryOut_231 klX3_237 mvX1_paintClip (as_36 hx).1 rfl rfl rfl rfl (Nat.le_of_ble_eq_true rfl) (Nat.le_of_ble_eq_true rfl) (Nat.le_of_ble_eq_true rfl) (Nat.zero_le _) (Nat.zero_le _) hf sne (fun t e => ctX1_paintClip (as_36 hx) h (rd h 35 8) (rd h 35 9) (rd h 35 10) t e) (fun t5 h6 hf => ?_)
                      refine PW.pop cx qX3_carryOut_234 rfl ?_
                      refine PW.goto cx qX3_carryOut_235 ?_
                      exact PW.vret cx hrt qX3_carryOut_253 (le_wv hf)
                    · refine PW.tswC (v := 11) (off := 230) (tgt := 238) cx qX3_carryOut_8 (by decide) (by decide) rfl rfl hf (fun hf => ?_) (fun hf n11 => ?_)
                      · refine PW.aload_n cx qX3_carryOut_238 rfl ?_
                        refine PW.getf (t := (2, 36)) (v := .ref (gB g + 36)) cx qX3_carryOut_239 (sh_35 hx) rfl flX3_12 rfl ?_
                        refine PW.aload_n cx qX3_carryOut_242 rfl ?_
                        refine PW.getf (t := (0, 0)) (v := .int (rd h 35 8)) cx qX3_carryOut_243 (sh_35 hx) rfl flX3_152 rfl ?_
                        refine PW.callVWIc (As := [.int (rd h 35 8)]) (st := []) cx hR qX3_carryOut_246 klX3_241 mvX1_pass (as_36 hx).1 rfl rfl rfl rfl (Nat.le_of_ble_eq_true rfl) (Nat.le_of_ble_eq_true rfl) (Nat.le_of_ble_eq_true rfl) (Nat.zero_le _) (Nat.zero_le _) hf sne (fun t e => ctX1_pass (as_36 hx) h (rd h 35 8) t e) (fun t3 h4 hf => ?_)
                        refine PW.pop cx qX3_carryOut_249 rfl ?_
                        refine PW.goto cx qX3_carryOut_250 ?_
                        exact PW.vret cx hrt qX3_carryOut_253 (le_wv hf)
                      · refine PW.tswD cx qX3_carryOut_8 (tsw_out (lo := 1) (hi := 11) (N := 11) rfl (fun k hk => match k, hk with | 0, _ => n1 | 1, _ => n2 | 2, _ => n3 | 3, _ => n4 | 4, _ => n5 | 5, _ => n6 | 6, _ => n7 | 7, _ => n8 | 8, _ => n9 | 9, _ => n10 | 10, _ => n11 | k + 11, hk => absurd hk (by omega))) rfl ?_
                        exact PW.vret cx hrt qX3_carryOut_253 (le_wv hf)
set_option maxRecDepth 20000 in
theorem ctX3_runCommand {g : GT} {ex : Bool} {sh : List Shp} (hx : XSh sh) (h : Hp) (r0 : Hp) (hf : S_runCommand h = some r0) : Ct g mX3_runCommand 7 0 0 ex [.ref (gB g + 35)] sh h (PE none sh r0) := by
  refine Ct.of (L := [some (.ref (gB g + 35)), none]) (by decide) (by intro w hw; simp only [List.mem_cons, List.not_mem_nil, or_false] at hw; rcases hw with rfl <;> rfl) (Nat.le_of_ble_eq_true rfl) rfl (fun X mx => ?_)
  obtain ⟨cx, hR, hml, hrt, -⟩ := mx
  have cx : Cx g X RX3 cX3_runCommand := cx
  have hrt : X.2.2.2.2.2.2.2.1.sig.returnType = none := hrt
  have hi1 : 1 < X.2.2.2.2.2.2.2.2.maxLocals := by rw [hml]; exact Nat.le_of_ble_eq_true rfl
  unfold S_runCommand at hf
  refine PW.aload_n cx qX3_runCommand_0 rfl ?_
  refine PW.callVRN (As := []) (st := []) cx hR qX3_runCommand_1 klX3_101 mvX3_presentCommand (sh_35 hx) rfl rfl rfl rfl (Nat.le_of_ble_eq_true rfl) (Nat.le_of_ble_eq_true rfl) (Nat.le_of_ble_eq_true rfl) (Nat.zero_le _) (Nat.zero_le _) hf sne (fun t e => ctX3_presentCommand hx h t e) (fun hf => ?_) (fun t1 hf => ?_)
  · refine PW.astoreN_n (L' := [some (.ref (gB g + 35)), some (.null)]) cx qX3_runCommand_4 hi1 rfl rfl ?_
    refine PW.aloadN_n cx qX3_runCommand_5 rfl ?_
    refine PW.ifnonnullN cx qX3_runCommand_6 ?_
    refine PW.aload_n cx qX3_runCommand_9 rfl ?_
    refine PW.iconst (v := 1) cx qX3_runCommand_10 rfl ?_
    refine PW.callVWV (As := [.int 1]) (st := []) cx hR qX3_runCommand_11 klX3_91 mvX3_fail (sh_35 hx) rfl rfl rfl rfl (Nat.le_of_ble_eq_true rfl) (Nat.le_of_ble_eq_true rfl) (Nat.le_of_ble_eq_true rfl) (Nat.zero_le _) (Nat.zero_le _) hf sne (fun t e => ctX3_fail hx h 1 t e) (fun h17 hf => ?_)
    refine PW.goto cx qX3_runCommand_14 ?_
    exact PW.vret cx hrt qX3_runCommand_103 (le_wv hf)
  · refine PW.astore_n (L' := [some (.ref (gB g + 35)), some (.ref (ga g (t1 : Int32).toNatClampNeg))]) cx qX3_runCommand_4 hi1 rfl rfl ?_
    refine PW.aload_n cx qX3_runCommand_5 rfl ?_
    refine PW.ifnonnullR cx qX3_runCommand_6 ?_
    refine PW.aload_n cx qX3_runCommand_17 rfl ?_
    refine PW.gsC (i := 11) (v := 21) cx qX3_runCommand_18 (by decide) rfl glX3_105 ?_
    refine PW.acmp_ne cx qX3_runCommand_21 hf sne (fun hf => ?_) (fun hf => ?_)
    · refine PW.aload_n cx qX3_runCommand_24 rfl ?_
      refine PW.callVWV (As := []) (st := []) cx hR qX3_runCommand_25 klX3_111 mvX3_beginRepeat (sh_35 hx) rfl rfl rfl rfl (Nat.le_of_ble_eq_true rfl) (Nat.le_of_ble_eq_true rfl) (Nat.le_of_ble_eq_true rfl) (Nat.zero_le _) (Nat.zero_le _) hf sne (fun t e => ctX3_beginRepeat hx h t e) (fun h3 hf => ?_)
      refine PW.goto cx qX3_runCommand_28 ?_
      exact PW.vret cx hrt qX3_runCommand_103 (le_wv hf)
    · refine PW.aload_n cx qX3_runCommand_31 rfl ?_
      refine PW.getf (t := (0, 0)) (v := .int (rd h 35 4)) cx qX3_runCommand_32 (sh_35 hx) rfl flX3_76 rfl ?_
      refine PW.sipush (v := 200) cx qX3_runCommand_35 rfl ?_
      refine PW.icmp_lt cx qX3_runCommand_38 hf (fun hf => ?_) (fun hf => ?_)
      · refine PW.aload_n cx qX3_runCommand_49 rfl ?_
        refine PW.dup cx qX3_runCommand_50 rfl ?_
        refine PW.getf (t := (0, 0)) (v := .int (rd h 35 4)) cx qX3_runCommand_51 (sh_35 hx) rfl flX3_76 rfl ?_
        refine PW.iconst (v := 1) cx qX3_runCommand_54 rfl ?_
        refine PW.iadd cx qX3_runCommand_55 ?_
        refine PW.putiN cx qX3_runCommand_56 (sh_35 hx) rfl fpX3_76 hf (fun h4 hf => ?_)
        refine PW.aload_n cx qX3_runCommand_59 rfl ?_
        refine PW.aload_n cx qX3_runCommand_60 rfl ?_
        refine PW.callVWV (As := [.ref (ga g (t1 : Int32).toNatClampNeg)]) (st := []) cx hR qX3_runCommand_61 klX3_114 mvX3_readNumbers (sh_35 hx) rfl rfl rfl rfl (Nat.le_of_ble_eq_true rfl) (Nat.le_of_ble_eq_true rfl) (Nat.le_of_ble_eq_true rfl) (Nat.zero_le _) (Nat.zero_le _) hf sne (fun t e => ctX3_readNumbers hx h4 t1 t e) (fun h6 hf => ?_)
        refine PW.aload_n cx qX3_runCommand_64 rfl ?_
        refine PW.gsT (v := 4) cx qX3_runCommand_65 (by decide) rfl glX3_95 ?_
        refine PW.callVWV (As := [.ref (ga g (4 : Int32).toNatClampNeg)]) (st := []) cx hR qX3_runCommand_68 klX3_82 mvX3_expect (sh_35 hx) rfl rfl rfl rfl (Nat.le_of_ble_eq_true rfl) (Nat.le_of_ble_eq_true rfl) (Nat.le_of_ble_eq_true rfl) (Nat.zero_le _) (Nat.zero_le _) hf sne (fun t e => ctX3_expect hx h6 4 t e) (fun h8 hf => ?_)
        refine PW.aload_n cx qX3_runCommand_71 rfl ?_
        refine PW.getf (t := (0, 0)) (v := .int (rd h8 35 2)) cx qX3_runCommand_72 (sh_35 hx) rfl flX3_40 rfl ?_
        obtain ⟨j91, ej91, hf⟩ := lt_split hf
        have hj91 : ∀ (h_91 : Hp), j91 h_91 = some r0 → PW g X ex (QE g X ex (PE none sh r0) 0 0) 0 0 sh h_91 91 [some (.ref (gB g + 35)), some (.ref (ga g (t1 : Int32).toNatClampNeg))] [] := by
          intro h_91 hf
          rw [ej91] at hf
          refine PW.aload_n cx qX3_runCommand_91 rfl ?_
          refine PW.getf (t := (0, 0)) (v := .int (rd h_91 35 2)) cx qX3_runCommand_92 (sh_35 hx) rfl flX3_40 rfl ?_
          refine PW.if_ne cx qX3_runCommand_95 hf (fun hf => ?_) (fun hf => ?_)
          · refine PW.aload_n cx qX3_runCommand_98 rfl ?_
            refine PW.aload_n cx qX3_runCommand_99 rfl ?_
            refine PW.callVWV (As := [.ref (ga g (t1 : Int32).toNatClampNeg)]) (st := []) cx hR qX3_runCommand_100 klX3_122 mvX3_carryOut (sh_35 hx) rfl rfl rfl rfl (Nat.le_of_ble_eq_true rfl) (Nat.le_of_ble_eq_true rfl) (Nat.le_of_ble_eq_true rfl) (Nat.zero_le _) (Nat.zero_le _) hf sne (fun t e => ctX3_carryOut hx h_91 t1 t e) (fun h10 hf => ?_)
            exact PW.vret cx hrt qX3_runCommand_103 (le_wv hf)
          · exact PW.vret cx hrt qX3_runCommand_103 (le_wv hf)
        refine PW.if_ne cx qX3_runCommand_75 hf (fun hf => ?_) (fun hf => ?_)
        · refine PW.aload_n cx qX3_runCommand_78 rfl ?_
          refine PW.aload_n cx qX3_runCommand_79 rfl ?_
          refine PW.callVRB (As := [.ref (ga g (t1 : Int32).toNatClampNeg)]) (st := []) cx hR qX3_runCommand_80 klX3_118 mvX3_isRefused (sh_35 hx) rfl rfl rfl rfl (Nat.le_of_ble_eq_true rfl) (Nat.le_of_ble_eq_true rfl) (Nat.le_of_ble_eq_true rfl) (Nat.zero_le _) (Nat.zero_le _) hf sne (fun t e => ctX3_isRefused hx h8 t1 t e) (fun t11 hf => ?_)
          refine PW.if_eq cx qX3_runCommand_83 hf (fun hf => ?_) (fun hf => ?_)
          · exact PW.locs (Lsub.keep (Lsub.keep Lsub.nil)) (hj91 h8 hf)
          · refine PW.aload_n cx qX3_runCommand_86 rfl ?_
            refine PW.iconst (v := 3) cx qX3_runCommand_87 rfl ?_
            refine PW.callVWV (As := [.int 3]) (st := []) cx hR qX3_runCommand_88 klX3_91 mvX3_fail (sh_35 hx) rfl rfl rfl rfl (Nat.le_of_ble_eq_true rfl) (Nat.le_of_ble_eq_true rfl) (Nat.le_of_ble_eq_true rfl) (Nat.zero_le _) (Nat.zero_le _) hf sne (fun t e => ctX3_fail hx h8 3 t e) (fun h13 hf => ?_)
            exact PW.locs (Lsub.keep (Lsub.keep Lsub.nil)) (hj91 h13 hf)
        · exact PW.locs (Lsub.keep (Lsub.keep Lsub.nil)) (hj91 h8 hf)
      · refine PW.aload_n cx qX3_runCommand_41 rfl ?_
        refine PW.iconst (v := 5) cx qX3_runCommand_42 rfl ?_
        refine PW.callVWV (As := [.int 5]) (st := []) cx hR qX3_runCommand_43 klX3_91 mvX3_fail (sh_35 hx) rfl rfl rfl rfl (Nat.le_of_ble_eq_true rfl) (Nat.le_of_ble_eq_true rfl) (Nat.le_of_ble_eq_true rfl) (Nat.zero_le _) (Nat.zero_le _) hf sne (fun t e => ctX3_fail hx h 5 t e) (fun h15 hf => ?_)
        refine PW.goto cx qX3_runCommand_46 ?_
        exact PW.vret cx hrt qX3_runCommand_103 (le_wv hf)
set_option maxRecDepth 20000 in
theorem lX3_run_8 {g : GT} {X : XT} {ex : Bool} {post : Option Value → List Shp → Hp → Prop} {sh : List Shp} (mx : Mx g X mX3_run 8 0 0) (hx : XSh sh) : ∀ (n : Nat) (v1 : Int32) (v2 : Int32) (h : Hp) (r : Hp) (hf : S_run_L8 n v1 v2 h = some r) (kx : ∀ (h1 : Hp), r = h1 → PW g X ex (QE g X ex post 0 0) 0 0 sh h1 94 [some (.ref (gB g + 35)), none, none] []), PW g X ex (QE g X ex post 0 0) 0 0 sh h 8 [some (.ref (gB g + 35)), some (.int v1), some (.int v2)] [] := by
  have mx0 := mx
  obtain ⟨cx, hR, hml, hrt, -⟩ := mx0
  have cx : Cx g X RX3 cX3_run := cx
  have hrt : X.2.2.2.2.2.2.2.1.sig.returnType = none := hrt
  have hi1 : 1 < X.2.2.2.2.2.2.2.2.maxLocals := by rw [hml]; exact Nat.le_of_ble_eq_true rfl
  have hi2 : 2 < X.2.2.2.2.2.2.2.2.maxLocals := by rw [hml]; exact Nat.le_of_ble_eq_true rfl
  intro n
  induction n with
  | zero =>
    intro v1 v2 h r hf kx
    cases hf
  | succ n ih =>
    intro v1 v2 h r hf kx
    unfold S_run_L8 at hf
    refine PW.iload_n cx qX3_run_8 rfl ?_
    refine PW.ldc (v := 1000000) cx qX3_run_9 kcX3_39 ?_
    refine PW.icmp_ge cx qX3_run_11 hf (fun hf => ?_) (fun hf => ?_)
    · exact PW.locs (Lsub.keep (Lsub.drop (Lsub.drop Lsub.nil))) (kx h (Option.some.inj hf).symm)
    · refine PW.iload_n cx qX3_run_14 rfl ?_
      refine PW.if_ne cx qX3_run_15 hf (fun hf => ?_) (fun hf => ?_)
      · refine PW.aload_n cx qX3_run_18 rfl ?_
        refine PW.getf (t := (0, 0)) (v := .int (rd h 35 2)) cx qX3_run_19 (sh_35 hx) rfl flX3_40 rfl ?_
        refine PW.if_ne cx qX3_run_22 hf (fun hf => ?_) (fun hf => ?_)
        · refine PW.aload_n cx qX3_run_25 rfl ?_
          refine PW.getf (t := (2, 47)) (v := .ref (gB g + 47)) cx qX3_run_26 (sh_35 hx) rfl flX3_21 rfl ?_
          refine PW.callVWV (As := []) (st := []) cx hR qX3_run_29 klX3_43 mvX4_readToken (sh_47 hx) rfl rfl rfl rfl (Nat.le_of_ble_eq_true rfl) (Nat.le_of_ble_eq_true rfl) (Nat.le_of_ble_eq_true rfl) (Nat.zero_le _) (Nat.zero_le _) hf sne (fun t e => ctX4_readToken hx h t e) (fun h4 hf => ?_)
          refine PW.aload_n cx qX3_run_32 rfl ?_
          refine PW.getf (t := (2, 47)) (v := .ref (gB g + 47)) cx qX3_run_33 (sh_35 hx) rfl flX3_21 rfl ?_
          refine PW.getf (t := (3, 0)) (v := .ref (ga g (rd h4 47 3).toNatClampNeg)) cx qX3_run_36 (sh_47 hx) rfl flX3_46 rfl ?_
          refine PW.gsT (v := 5) cx qX3_run_39 (by decide) rfl glX3_50 ?_
          obtain ⟨j57, ej57, hf⟩ := lt_split hf
          have hj57 : ∀ (u_57 : Unit), j57 u_57 = some r → PW g X ex (QE g X ex post 0 0) 0 0 sh h4 57 [some (.ref (gB g + 35)), some (.int v1), some (.int v2)] [] := by
            intro u_57 hf
            rw [ej57] at hf
            refine PW.aload_n cx qX3_run_57 rfl ?_
            refine PW.getf (t := (2, 47)) (v := .ref (gB g + 47)) cx qX3_run_58 (sh_35 hx) rfl flX3_21 rfl ?_
            refine PW.getf (t := (3, 0)) (v := .ref (ga g (rd h4 47 3).toNatClampNeg)) cx qX3_run_61 (sh_47 hx) rfl flX3_46 rfl ?_
            refine PW.gsT (v := 3) cx qX3_run_64 (by decide) rfl glX3_58 ?_
            refine PW.acmp_ne cx qX3_run_67 hf sne (fun hf => ?_) (fun hf => ?_)
            · refine PW.aload_n cx qX3_run_70 rfl ?_
              refine PW.getf (t := (0, 0)) (v := .int (rd h4 35 5)) cx qX3_run_71 (sh_35 hx) rfl flX3_55 rfl ?_
              refine PW.if_le cx qX3_run_74 hf (fun hf => ?_) (fun hf => ?_)
              · refine PW.aload_n cx qX3_run_84 rfl ?_
                refine PW.callVWV (As := []) (st := []) cx hR qX3_run_85 klX3_64 mvX3_runCommand (sh_35 hx) rfl rfl rfl rfl (Nat.le_of_ble_eq_true rfl) (Nat.le_of_ble_eq_true rfl) (Nat.le_of_ble_eq_true rfl) (Nat.zero_le _) (Nat.zero_le _) hf sne (fun t e => ctX3_runCommand hx h4 t e) (fun h6 hf => ?_)
                refine PW.iinc (v := 1) (L' := [some (.ref (gB g + 35)), some (.int v1), some (.int (v2 + 1))]) cx qX3_run_88 rfl rfl hi2 rfl rfl ?_
                refine PW.goto cx qX3_run_91 ?_
                exact PW.locs (Lsub.keep (Lsub.keep (Lsub.keep Lsub.nil))) (ih v1 (v2 + 1) h6 _ hf kx)
              · refine PW.aload_n cx qX3_run_77 rfl ?_
                refine PW.callVWV (As := []) (st := []) cx hR qX3_run_78 klX3_61 mvX3_endRound (sh_35 hx) rfl rfl rfl rfl (Nat.le_of_ble_eq_true rfl) (Nat.le_of_ble_eq_true rfl) (Nat.le_of_ble_eq_true rfl) (Nat.zero_le _) (Nat.zero_le _) hf sne (fun t e => ctX3_endRound hx h4 t e) (fun h8 hf => ?_)
                refine PW.goto cx qX3_run_81 ?_
                refine PW.iinc (v := 1) (L' := [some (.ref (gB g + 35)), some (.int v1), some (.int (v2 + 1))]) cx qX3_run_88 rfl rfl hi2 rfl rfl ?_
                refine PW.goto cx qX3_run_91 ?_
                exact PW.locs (Lsub.keep (Lsub.keep (Lsub.keep Lsub.nil))) (ih v1 (v2 + 1) h8 _ hf kx)
            · refine PW.aload_n cx qX3_run_84 rfl ?_
              refine PW.callVWV (As := []) (st := []) cx hR qX3_run_85 klX3_64 mvX3_runCommand (sh_35 hx) rfl rfl rfl rfl (Nat.le_of_ble_eq_true rfl) (Nat.le_of_ble_eq_true rfl) (Nat.le_of_ble_eq_true rfl) (Nat.zero_le _) (Nat.zero_le _) hf sne (fun t e => ctX3_runCommand hx h4 t e) (fun h10 hf => ?_)
              refine PW.iinc (v := 1) (L' := [some (.ref (gB g + 35)), some (.int v1), some (.int (v2 + 1))]) cx qX3_run_88 rfl rfl hi2 rfl rfl ?_
              refine PW.goto cx qX3_run_91 ?_
              exact PW.locs (Lsub.keep (Lsub.keep (Lsub.keep Lsub.nil))) (ih v1 (v2 + 1) h10 _ hf kx)
          refine PW.acmp_ne cx qX3_run_42 hf sne (fun hf => ?_) (fun hf => ?_)
          · refine PW.aload_n cx qX3_run_45 rfl ?_
            refine PW.getf (t := (0, 0)) (v := .int (rd h4 35 5)) cx qX3_run_46 (sh_35 hx) rfl flX3_55 rfl ?_
            refine PW.if_ne cx qX3_run_49 hf (fun hf => ?_) (fun hf => ?_)
            · refine PW.iconst (v := 1) cx qX3_run_52 rfl ?_
              refine PW.istore_n (L' := [some (.ref (gB g + 35)), some (.int 1), some (.int v2)]) cx qX3_run_53 hi1 rfl rfl ?_
              refine PW.goto cx qX3_run_54 ?_
              refine PW.iinc (v := 1) (L' := [some (.ref (gB g + 35)), some (.int 1), some (.int (v2 + 1))]) cx qX3_run_88 rfl rfl hi2 rfl rfl ?_
              refine PW.goto cx qX3_run_91 ?_
              exact PW.locs (Lsub.keep (Lsub.keep (Lsub.keep Lsub.nil))) (ih 1 (v2 + 1) h4 _ hf kx)
            · exact PW.locs (Lsub.keep (Lsub.keep (Lsub.keep Lsub.nil))) (hj57 () hf)
          · exact PW.locs (Lsub.keep (Lsub.keep (Lsub.keep Lsub.nil))) (hj57 () hf)
        · exact PW.locs (Lsub.keep (Lsub.drop (Lsub.drop Lsub.nil))) (kx h (Option.some.inj hf).symm)
      · exact PW.locs (Lsub.keep (Lsub.drop (Lsub.drop Lsub.nil))) (kx h (Option.some.inj hf).symm)
set_option maxRecDepth 20000 in
theorem ctX3_run {g : GT} {ex : Bool} {sh : List Shp} (hx : XSh sh) (h : Hp) (r0 : Hp) (hf : S_run h = some r0) : Ct g mX3_run 8 0 0 ex [.ref (gB g + 35)] sh h (PE none sh r0) := by
  refine Ct.of (L := [some (.ref (gB g + 35)), none, none]) (by decide) (by intro w hw; simp only [List.mem_cons, List.not_mem_nil, or_false] at hw; rcases hw with rfl <;> rfl) (Nat.le_of_ble_eq_true rfl) rfl (fun X mx => ?_)
  have mx0 := mx
  obtain ⟨cx, hR, hml, hrt, -⟩ := mx0
  have cx : Cx g X RX3 cX3_run := cx
  have hrt : X.2.2.2.2.2.2.2.1.sig.returnType = none := hrt
  have hi1 : 1 < X.2.2.2.2.2.2.2.2.maxLocals := by rw [hml]; exact Nat.le_of_ble_eq_true rfl
  have hi2 : 2 < X.2.2.2.2.2.2.2.2.maxLocals := by rw [hml]; exact Nat.le_of_ble_eq_true rfl
  unfold S_run at hf
  refine PW.aload_n cx qX3_run_0 rfl ?_
  refine PW.callVWV (As := []) (st := []) cx hR qX3_run_1 klX3_36 mvX3_begin (sh_35 hx) rfl rfl rfl rfl (Nat.le_of_ble_eq_true rfl) (Nat.le_of_ble_eq_true rfl) (Nat.le_of_ble_eq_true rfl) (Nat.zero_le _) (Nat.zero_le _) hf sne (fun t e => ctX3_begin hx h t e) (fun h2 hf => ?_)
  refine PW.iconst (v := 0) cx qX3_run_4 rfl ?_
  refine PW.istore_n (L' := [some (.ref (gB g + 35)), some (.int 0), none]) cx qX3_run_5 hi1 rfl rfl ?_
  refine PW.iconst (v := 0) cx qX3_run_6 rfl ?_
  refine PW.istore_n (L' := [some (.ref (gB g + 35)), some (.int 0), some (.int 0)]) cx qX3_run_7 hi2 rfl rfl ?_
  obtain ⟨r11, er11, hf⟩ := bndO hf sne
  refine PW.locs (Lsub.keep (Lsub.keep (Lsub.keep Lsub.nil))) (lX3_run_8 mx hx FU 0 0 h2 r11 er11 (fun xx_ e => ?_))
  subst e
  refine PW.aload_n cx qX3_run_94 rfl ?_
  refine PW.getf (t := (2, 47)) (v := .ref (gB g + 47)) cx qX3_run_95 (sh_35 hx) rfl flX3_21 rfl ?_
  refine PW.iconst (v := 0) cx qX3_run_98 rfl ?_
  refine PW.putiN cx qX3_run_99 (sh_47 hx) rfl fpX3_67 hf (fun h12 hf => ?_)
  exact PW.vret cx hrt qX3_run_102 (le_wv hf)
