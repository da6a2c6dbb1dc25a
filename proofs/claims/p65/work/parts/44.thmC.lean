set_option maxRecDepth 20000 in
theorem lX1_airReel_11 {g : GT} {X : XT} {ex : Bool} {post : Option Value → List Shp → Hp → Prop} {sh : List Shp} (mx : Mx g X mX1_airReel 3 0 0) {a : Nat} (hA : AS sh a) (c1 : Int32) (d2 : Int32) : ∀ (n : Nat) (v3 : Int32) (v4 : Int32) (h : Hp) (r : Int32 × Hp) (hf : A_airReel_L11 a c1 n v3 v4 h = some r) (kx : ∀ (x3 : Int32) (h1 : Hp), r = (x3, h1) → PW g X ex (QE g X ex post 0 0) 0 0 sh h1 51 [some (.ref (gB g + a)), some (.int c1), some (.int d2), some (.int x3), none] []), PW g X ex (QE g X ex post 0 0) 0 0 sh h 11 [some (.ref (gB g + a)), some (.int c1), some (.int d2), some (.int v3), some (.int v4)] [] := by
  have mx0 := mx
  obtain ⟨cx, hR, hml, hrt, -⟩ := mx0
  have cx : Cx g X RX1 cX1_airReel := cx
  have hrt : X.2.2.2.2.2.2.2.1.sig.returnType = (some .int) := hrt
  have hi2 : 2 < X.2.2.2.2.2.2.2.2.maxLocals := by rw [hml]; exact Nat.le_of_ble_eq_true rfl
  have hi3 : 3 < X.2.2.2.2.2.2.2.2.maxLocals := by rw [hml]; exact Nat.le_of_ble_eq_true rfl
  have hi4 : 4 < X.2.2.2.2.2.2.2.2.maxLocals := by rw [hml]; exact Nat.le_of_ble_eq_true rfl
  intro n
  induction n with
  | zero =>
    intro v3 v4 h r hf kx
    cases hf
  | succ n ih =>
    intro v3 v4 h r hf kx
    unfold A_airReel_L11 at hf
    refine PW.iload cx qX1_airReel_11 rfl ?_
    refine PW.aload_n cx qX1_airReel_13 rfl ?_
    refine PW.getf (t := (2, a + 7)) (v := .ref (gB g + (a + 7))) cx qX1_airReel_14 (hA).1 rfl flX1_30 rfl ?_
    refine PW.iload_n cx qX1_airReel_17 rfl ?_
    refine PW.iald cx qX1_airReel_18 (AS.r7 hA) hf sne (fun t2 hf => ?_)
    refine PW.icmp_ge cx qX1_airReel_19 hf (fun hf => ?_) (fun hf => ?_)
    · exact PW.locs (Lsub.keep (Lsub.keep (Lsub.keep (Lsub.keep (Lsub.drop Lsub.nil))))) (kx v3 h (Option.some.inj hf).symm)
    · refine PW.aload_n cx qX1_airReel_22 rfl ?_
      refine PW.iload_n cx qX1_airReel_23 rfl ?_
      refine PW.iload cx qX1_airReel_24 rfl ?_
      refine PW.callVRI (As := [.int c1, .int v4]) (st := []) cx hR qX1_airReel_26 klX1_115 mvX1_inBed (hA).1 rfl rfl rfl rfl (Nat.le_of_ble_eq_true rfl) (Nat.le_of_ble_eq_true rfl) (Nat.le_of_ble_eq_true rfl) (Nat.zero_le _) (Nat.zero_le _) hf sne (fun t e => ctX1_inBed hA h c1 v4 t e) (fun t3 hf => ?_)
      refine PW.bipush (v := (-2)) cx qX1_airReel_29 rfl ?_
      obtain ⟨j37, ej37, hf⟩ := lt_split hf
      have hj37 : ∀ (y3_37 : Int32), j37 y3_37 = some r → PW g X ex (QE g X ex post 0 0) 0 0 sh h 37 [some (.ref (gB g + a)), some (.int c1), some (.int d2), some (.int y3_37), some (.int v4)] [] := by
        intro y3_37 hf
        rw [ej37] at hf
        refine PW.aload_n cx qX1_airReel_37 rfl ?_
        refine PW.iload_n cx qX1_airReel_38 rfl ?_
        refine PW.iload cx qX1_airReel_39 rfl ?_
        refine PW.iconst (v := (-1)) cx qX1_airReel_41 rfl ?_
        refine PW.callVWV (As := [.int c1, .int v4, .int (-1)]) (st := []) cx hR qX1_airReel_42 klX1_81 mvX1_setBed (hA).1 rfl rfl rfl rfl (Nat.le_of_ble_eq_true rfl) (Nat.le_of_ble_eq_true rfl) (Nat.le_of_ble_eq_true rfl) (Nat.zero_le _) (Nat.zero_le _) hf sne (fun t e => ctX1_setBed hA h c1 v4 (-1) t e) (fun h5 hf => ?_)
        refine PW.iinc (v := 1) (L' := [some (.ref (gB g + a)), some (.int c1), some (.int d2), some (.int y3_37), some (.int (v4 + 1))]) cx qX1_airReel_45 rfl rfl hi4 rfl rfl ?_
        refine PW.goto cx qX1_airReel_48 ?_
        exact PW.locs (Lsub.keep (Lsub.keep (Lsub.keep (Lsub.keep (Lsub.keep Lsub.nil))))) (ih y3_37 (v4 + 1) h5 _ hf kx)
      refine PW.icmp_ne cx qX1_airReel_31 hf (fun hf => ?_) (fun hf => ?_)
      · refine PW.iinc (v := 1) (L' := [some (.ref (gB g + a)), some (.int c1), some (.int d2), some (.int (v3 + 1)), some (.int v4)]) cx qX1_airReel_34 rfl rfl hi3 rfl rfl ?_
        exact PW.locs (Lsub.keep (Lsub.keep (Lsub.keep (Lsub.keep (Lsub.keep Lsub.nil))))) (hj37 (v3 + 1) hf)
      · exact PW.locs (Lsub.keep (Lsub.keep (Lsub.keep (Lsub.keep (Lsub.keep Lsub.nil))))) (hj37 v3 hf)
set_option maxRecDepth 20000 in
theorem lX1_airReel_54 {g : GT} {X : XT} {ex : Bool} {post : Option Value → List Shp → Hp → Prop} {sh : List Shp} (mx : Mx g X mX1_airReel 3 0 0) {a : Nat} (hA : AS sh a) (c1 : Int32) (c2 : Int32) (d3 : Int32) : ∀ (n : Nat) (v4 : Int32) (h : Hp) (r : Hp) (hf : A_airReel_L54 a c1 c2 n v4 h = some r) (kx : ∀ (h1 : Hp), r = h1 → PW g X ex (QE g X ex post 0 0) 0 0 sh h1 87 [some (.ref (gB g + a)), some (.int c1), some (.int c2), some (.int d3), none] []), PW g X ex (QE g X ex post 0 0) 0 0 sh h 54 [some (.ref (gB g + a)), some (.int c1), some (.int c2), some (.int d3), some (.int v4)] [] := by
  have mx0 := mx
  obtain ⟨cx, hR, hml, hrt, -⟩ := mx0
  have cx : Cx g X RX1 cX1_airReel := cx
  have hrt : X.2.2.2.2.2.2.2.1.sig.returnType = (some .int) := hrt
  have hi2 : 2 < X.2.2.2.2.2.2.2.2.maxLocals := by rw [hml]; exact Nat.le_of_ble_eq_true rfl
  have hi3 : 3 < X.2.2.2.2.2.2.2.2.maxLocals := by rw [hml]; exact Nat.le_of_ble_eq_true rfl
  have hi4 : 4 < X.2.2.2.2.2.2.2.2.maxLocals := by rw [hml]; exact Nat.le_of_ble_eq_true rfl
  intro n
  induction n with
  | zero =>
    intro v4 h r hf kx
    cases hf
  | succ n ih =>
    intro v4 h r hf kx
    unfold A_airReel_L54 at hf
    refine PW.iload cx qX1_airReel_54 rfl ?_
    refine PW.aload_n cx qX1_airReel_56 rfl ?_
    refine PW.getf (t := (0, 0)) (v := .int (rd h a 5)) cx qX1_airReel_57 (hA).1 rfl flX1_58 rfl ?_
    refine PW.icmp_ge cx qX1_airReel_60 hf (fun hf => ?_) (fun hf => ?_)
    · exact PW.locs (Lsub.keep (Lsub.keep (Lsub.keep (Lsub.keep (Lsub.drop Lsub.nil))))) (kx h (Option.some.inj hf).symm)
    · refine PW.iload_n cx qX1_airReel_63 rfl ?_
      refine PW.iload cx qX1_airReel_64 rfl ?_
      refine PW.ishr cx qX1_airReel_66 ?_
      refine PW.iconst (v := 1) cx qX1_airReel_67 rfl ?_
      refine PW.iand cx qX1_airReel_68 ?_
      refine PW.iconst (v := 1) cx qX1_airReel_69 rfl ?_
      refine PW.icmp_ne cx qX1_airReel_70 hf (fun hf => ?_) (fun hf => ?_)
      · refine PW.aload_n cx qX1_airReel_73 rfl ?_
        refine PW.iload cx qX1_airReel_74 rfl ?_
        refine PW.iload_n cx qX1_airReel_76 rfl ?_
        refine PW.callVWIc (As := [.int v4, .int c1]) (st := []) cx hR qX1_airReel_77 klX1_134 mvX1_layDown (hA).1 rfl rfl rfl rfl (Nat.le_of_ble_eq_true rfl) (Nat.le_of_ble_eq_true rfl) (Nat.le_of_ble_eq_true rfl) (Nat.zero_le _) (Nat.zero_le _) hf sne (fun t e => ctX1_layDown hA h v4 c1 t e) (fun t9 h10 hf => ?_)
        refine PW.pop cx qX1_airReel_80 rfl ?_
        refine PW.iinc (v := 1) (L' := [some (.ref (gB g + a)), some (.int c1), some (.int c2), some (.int d3), some (.int (v4 + 1))]) cx qX1_airReel_81 rfl rfl hi4 rfl rfl ?_
        refine PW.goto cx qX1_airReel_84 ?_
        exact PW.locs (Lsub.keep (Lsub.keep (Lsub.keep (Lsub.keep (Lsub.keep Lsub.nil))))) (ih (v4 + 1) h10 _ hf kx)
      · refine PW.iinc (v := 1) (L' := [some (.ref (gB g + a)), some (.int c1), some (.int c2), some (.int d3), some (.int (v4 + 1))]) cx qX1_airReel_81 rfl rfl hi4 rfl rfl ?_
        refine PW.goto cx qX1_airReel_84 ?_
        exact PW.locs (Lsub.keep (Lsub.keep (Lsub.keep (Lsub.keep (Lsub.keep Lsub.nil))))) (ih (v4 + 1) h _ hf kx)
set_option maxRecDepth 20000 in
theorem ctX1_airReel {g : GT} {ex : Bool} {sh : List Shp} {a : Nat} (hA : AS sh a) (h : Hp) (p1 : Int32) (r0 : Int32 × Hp) (hf : A_airReel h a p1 = some r0) : Ct g mX1_airReel 3 0 0 ex [.ref (gB g + a), .int p1] sh h (PE (some (.int r0.1)) sh r0.2) := by
  refine Ct.of (L := [some (.ref (gB g + a)), some (.int p1), none, none, none]) (by decide) (by intro w hw; simp only [List.mem_cons, List.not_mem_nil, or_false] at hw; rcases hw with rfl | rfl <;> rfl) (Nat.le_of_ble_eq_true rfl) rfl (fun X mx => ?_)
  have mx0 := mx
  obtain ⟨cx, hR, hml, hrt, -⟩ := mx0
  have cx : Cx g X RX1 cX1_airReel := cx
  have hrt : X.2.2.2.2.2.2.2.1.sig.returnType = (some .int) := hrt
  have hi2 : 2 < X.2.2.2.2.2.2.2.2.maxLocals := by rw [hml]; exact Nat.le_of_ble_eq_true rfl
  have hi3 : 3 < X.2.2.2.2.2.2.2.2.maxLocals := by rw [hml]; exact Nat.le_of_ble_eq_true rfl
  have hi4 : 4 < X.2.2.2.2.2.2.2.2.maxLocals := by rw [hml]; exact Nat.le_of_ble_eq_true rfl
  unfold A_airReel at hf
  refine PW.aload_n cx qX1_airReel_0 rfl ?_
  refine PW.iload_n cx qX1_airReel_1 rfl ?_
  refine PW.callVRI (As := [.int p1]) (st := []) cx hR qX1_airReel_2 klX1_131 mvX1_sleepersIn (hA).1 rfl rfl rfl rfl (Nat.le_of_ble_eq_true rfl) (Nat.le_of_ble_eq_true rfl) (Nat.le_of_ble_eq_true rfl) (Nat.zero_le _) (Nat.zero_le _) hf sne (fun t e => ctX1_sleepersIn hA h p1 t e) (fun t1 hf => ?_)
  refine PW.istore_n (L' := [some (.ref (gB g + a)), some (.int p1), some (.int t1), none, none]) cx qX1_airReel_5 hi2 rfl rfl ?_
  refine PW.iconst (v := 0) cx qX1_airReel_6 rfl ?_
  refine PW.istore_n (L' := [some (.ref (gB g + a)), some (.int p1), some (.int t1), some (.int 0), none]) cx qX1_airReel_7 hi3 rfl rfl ?_
  refine PW.iconst (v := 0) cx qX1_airReel_8 rfl ?_
  refine PW.istore (L' := [some (.ref (gB g + a)), some (.int p1), some (.int t1), some (.int 0), some (.int 0)]) cx qX1_airReel_9 hi4 rfl rfl ?_
  obtain ⟨r6, er6, hf⟩ := bndO hf sne
  refine PW.locs (Lsub.keep (Lsub.keep (Lsub.keep (Lsub.keep (Lsub.keep Lsub.nil))))) (lX1_airReel_11 mx hA p1 t1 FU 0 0 h r6 er6 (fun x3_7 h8 e => ?_))
  subst e
  refine PW.iconst (v := 0) cx qX1_airReel_51 rfl ?_
  refine PW.istore (L' := [some (.ref (gB g + a)), some (.int p1), some (.int t1), some (.int x3_7), some (.int 0)]) cx qX1_airReel_52 hi4 rfl rfl ?_
  obtain ⟨r11, er11, hf⟩ := bndO hf sne
  refine PW.locs (Lsub.keep (Lsub.keep (Lsub.keep (Lsub.keep (Lsub.keep Lsub.nil))))) (lX1_airReel_54 mx hA p1 t1 x3_7 FU 0 h8 r11 er11 (fun xx_ e => ?_))
  subst e
  refine PW.iload_n cx qX1_airReel_87 rfl ?_
  exact PW.iret cx hrt qX1_airReel_88 (le_wi hf)
set_option maxRecDepth 20000 in
theorem lX1_looks_2 {g : GT} {X : XT} {ex : Bool} {post : Option Value → List Shp → Hp → Prop} {sh : List Shp} (mx : Mx g X mX1_looks 1 0 0) {a : Nat} (hA : AS sh a) (h : Hp) (c1 : Int32) (c2 : Int32) : ∀ (n : Nat) (v3 : Int32) (r : (Unit) ⊕ (Int32)) (hf : A_looks_L2 h a c1 c2 n v3 = some r) (kx : r = .inl () → PW g X ex (QE g X ex post 0 0) 0 0 sh h 48 [some (.ref (gB g + a)), some (.int c1), some (.int c2), none, none] []) (kr : ∀ y : Int32, r = .inr y → post (some (.int y)) sh h), PW g X ex (QE g X ex post 0 0) 0 0 sh h 2 [some (.ref (gB g + a)), some (.int c1), some (.int c2), some (.int v3), none] [] := by
  have mx0 := mx
  obtain ⟨cx, hR, hml, hrt, -⟩ := mx0
  have cx : Cx g X RX1 cX1_looks := cx
  have hrt : X.2.2.2.2.2.2.2.1.sig.returnType = (some .int) := hrt
  have hi3 : 3 < X.2.2.2.2.2.2.2.2.maxLocals := by rw [hml]; exact Nat.le_of_ble_eq_true rfl
  have hi4 : 4 < X.2.2.2.2.2.2.2.2.maxLocals := by rw [hml]; exact Nat.le_of_ble_eq_true rfl
  intro n
  induction n with
  | zero =>
    intro v3 r hf kx kr
    cases hf
  | succ n ih =>
    intro v3 r hf kx kr
    unfold A_looks_L2 at hf
    refine PW.iload_n cx qX1_looks_2 rfl ?_
    refine PW.aload_n cx qX1_looks_3 rfl ?_
    refine PW.getf (t := (2, a + 7)) (v := .ref (gB g + (a + 7))) cx qX1_looks_4 (hA).1 rfl flX1_30 rfl ?_
    refine PW.iload_n cx qX1_looks_7 rfl ?_
    refine PW.iald cx qX1_looks_8 (AS.r7 hA) hf sne (fun t1 hf => ?_)
    refine PW.icmp_ge cx qX1_looks_9 hf (fun hf => ?_) (fun hf => ?_)
    · exact PW.locs (Lsub.keep (Lsub.keep (Lsub.keep (Lsub.drop (Lsub.drop Lsub.nil))))) (kx (Option.some.inj hf).symm)
    · refine PW.aload_n cx qX1_looks_12 rfl ?_
      refine PW.iload_n cx qX1_looks_13 rfl ?_
      refine PW.aload_n cx qX1_looks_14 rfl ?_
      refine PW.iload_n cx qX1_looks_15 rfl ?_
      refine PW.iload_n cx qX1_looks_16 rfl ?_
      refine PW.iload_n cx qX1_looks_17 rfl ?_
      refine PW.callVRI (As := [.int c1, .int c2, .int v3]) (st := [.int c2, .ref (gB g + a)]) cx hR qX1_looks_18 klX1_118 mvX1_wayBed (hA).1 rfl rfl rfl rfl (Nat.le_of_ble_eq_true rfl) (Nat.le_of_ble_eq_true rfl) (Nat.le_of_ble_eq_true rfl) (Nat.zero_le _) (Nat.zero_le _) hf sne (fun t e => ctX1_wayBed hA h c1 c2 v3 t e) (fun t2 hf => ?_)
      refine PW.callVRI (As := [.int c2, .int t2]) (st := []) cx hR qX1_looks_21 klX1_115 mvX1_inBed (hA).1 rfl rfl rfl rfl (Nat.le_of_ble_eq_true rfl) (Nat.le_of_ble_eq_true rfl) (Nat.le_of_ble_eq_true rfl) (Nat.zero_le _) (Nat.zero_le _) hf sne (fun t e => ctX1_inBed hA h c2 t2 t e) (fun t3 hf => ?_)
      refine PW.istore (L' := [some (.ref (gB g + a)), some (.int c1), some (.int c2), some (.int v3), some (.int t3)]) cx qX1_looks_24 hi4 rfl rfl ?_
      refine PW.iload cx qX1_looks_26 rfl ?_
      refine PW.iload_n cx qX1_looks_28 rfl ?_
      refine PW.icmp_eq cx qX1_looks_29 hf (fun hf => ?_) (fun hf => ?_)
      · refine PW.iload_n cx qX1_looks_38 rfl ?_
        refine PW.iconst (v := 1) cx qX1_looks_39 rfl ?_
        refine PW.iadd cx qX1_looks_40 ?_
        exact PW.iret cx hrt qX1_looks_41 (kr _ (Option.some.inj hf).symm)
      · refine PW.iload cx qX1_looks_32 rfl ?_
        refine PW.iconst (v := (-1)) cx qX1_looks_34 rfl ?_
        refine PW.icmp_ne cx qX1_looks_35 hf (fun hf => ?_) (fun hf => ?_)
        · refine PW.iload_n cx qX1_looks_38 rfl ?_
          refine PW.iconst (v := 1) cx qX1_looks_39 rfl ?_
          refine PW.iadd cx qX1_looks_40 ?_
          exact PW.iret cx hrt qX1_looks_41 (kr _ (Option.some.inj hf).symm)
        · refine PW.iinc (v := 1) (L' := [some (.ref (gB g + a)), some (.int c1), some (.int c2), some (.int (v3 + 1)), some (.int t3)]) cx qX1_looks_42 rfl rfl hi3 rfl rfl ?_
          refine PW.goto cx qX1_looks_45 ?_
          exact PW.locs (Lsub.keep (Lsub.keep (Lsub.keep (Lsub.keep (Lsub.drop Lsub.nil))))) (ih (v3 + 1) _ hf kx kr)
set_option maxRecDepth 20000 in
theorem ctX1_looks {g : GT} {ex : Bool} {sh : List Shp} {a : Nat} (hA : AS sh a) (h : Hp) (p1 : Int32) (p2 : Int32) (r0 : Int32) (hf : A_looks h a p1 p2 = some r0) : Ct g mX1_looks 1 0 0 ex [.ref (gB g + a), .int p1, .int p2] sh h (PE (some (.int r0)) sh h) := by
  refine Ct.of (L := [some (.ref (gB g + a)), some (.int p1), some (.int p2), none, none]) (by decide) (by intro w hw; simp only [List.mem_cons, List.not_mem_nil, or_false] at hw; rcases hw with rfl | rfl | rfl <;> rfl) (Nat.le_of_ble_eq_true rfl) rfl (fun X mx => ?_)
  have mx0 := mx
  obtain ⟨cx, hR, hml, hrt, -⟩ := mx0
  have cx : Cx g X RX1 cX1_looks := cx
  have hrt : X.2.2.2.2.2.2.2.1.sig.returnType = (some .int) := hrt
  have hi3 : 3 < X.2.2.2.2.2.2.2.2.maxLocals := by rw [hml]; exact Nat.le_of_ble_eq_true rfl
  have hi4 : 4 < X.2.2.2.2.2.2.2.2.maxLocals := by rw [hml]; exact Nat.le_of_ble_eq_true rfl
  unfold A_looks at hf
  refine PW.iconst (v := 0) cx qX1_looks_0 rfl ?_
  refine PW.istore_n (L' := [some (.ref (gB g + a)), some (.int p1), some (.int p2), some (.int 0), none]) cx qX1_looks_1 hi3 rfl rfl ?_
  obtain ⟨r4, er4, hf⟩ := bndO hf sne
  refine PW.locs (Lsub.keep (Lsub.keep (Lsub.keep (Lsub.keep (Lsub.drop Lsub.nil))))) (lX1_looks_2 mx hA h p1 p2 FU 0 r4 er4 (fun e => ?_) (fun y e => ?_))
  · subst e
    refine PW.aload_n cx qX1_looks_48 rfl ?_
    refine PW.getf (t := (2, a + 7)) (v := .ref (gB g + (a + 7))) cx qX1_looks_49 (hA).1 rfl flX1_30 rfl ?_
    refine PW.iload_n cx qX1_looks_52 rfl ?_
    refine PW.iald cx qX1_looks_53 (AS.r7 hA) hf sne (fun t5 hf => ?_)
    exact PW.iret cx hrt qX1_looks_54 (le_ri hf)
  · subst e
    exact (le_ri hf)
set_option maxRecDepth 20000 in
theorem lX1_mostLooks_4 {g : GT} {X : XT} {ex : Bool} {post : Option Value → List Shp → Hp → Prop} {sh : List Shp} (mx : Mx g X mX1_mostLooks 2 0 0) {a : Nat} (hA : AS sh a) (h : Hp) (c1 : Int32) : ∀ (n : Nat) (v2 : Int32) (v3 : Int32) (r : Int32) (hf : A_mostLooks_L4 h a c1 n v2 v3 = some r) (kx : ∀ (x2 : Int32), r = x2 → PW g X ex (QE g X ex post 0 0) 0 0 sh h 45 [some (.ref (gB g + a)), some (.int c1), some (.int x2), none, none] []), PW g X ex (QE g X ex post 0 0) 0 0 sh h 4 [some (.ref (gB g + a)), some (.int c1), some (.int v2), some (.int v3), none] [] := by
  have mx0 := mx
  obtain ⟨cx, hR, hml, hrt, -⟩ := mx0
  have cx : Cx g X RX1 cX1_mostLooks := cx
  have hrt : X.2.2.2.2.2.2.2.1.sig.returnType = (some .int) := hrt
  have hi2 : 2 < X.2.2.2.2.2.2.2.2.maxLocals := by rw [hml]; exact Nat.le_of_ble_eq_true rfl
  have hi3 : 3 < X.2.2.2.2.2.2.2.2.maxLocals := by rw [hml]; exact Nat.le_of_ble_eq_true rfl
  have hi4 : 4 < X.2.2.2.2.2.2.2.2.maxLocals := by rw [hml]; exact Nat.le_of_ble_eq_true rfl
  intro n
  induction n with
  | zero =>
    intro v2 v3 r hf kx
    cases hf
  | succ n ih =>
    intro v2 v3 r hf kx
    unfold A_mostLooks_L4 at hf
    refine PW.iload_n cx qX1_mostLooks_4 rfl ?_
    refine PW.aload_n cx qX1_mostLooks_5 rfl ?_
    refine PW.getf (t := (2, a + 7)) (v := .ref (gB g + (a + 7))) cx qX1_mostLooks_6 (hA).1 rfl flX1_30 rfl ?_
    refine PW.iload_n cx qX1_mostLooks_9 rfl ?_
    refine PW.iald cx qX1_mostLooks_10 (AS.r7 hA) hf sne (fun t1 hf => ?_)
    refine PW.icmp_ge cx qX1_mostLooks_11 hf (fun hf => ?_) (fun hf => ?_)
    · exact PW.locs (Lsub.keep (Lsub.keep (Lsub.keep (Lsub.drop (Lsub.drop Lsub.nil))))) (kx v2 (Option.some.inj hf).symm)
    · refine PW.aload_n cx qX1_mostLooks_14 rfl ?_
      refine PW.iload_n cx qX1_mostLooks_15 rfl ?_
      refine PW.iload_n cx qX1_mostLooks_16 rfl ?_
      refine PW.callVRI (As := [.int c1, .int v3]) (st := []) cx hR qX1_mostLooks_17 klX1_115 mvX1_inBed (hA).1 rfl rfl rfl rfl (Nat.le_of_ble_eq_true rfl) (Nat.le_of_ble_eq_true rfl) (Nat.le_of_ble_eq_true rfl) (Nat.zero_le _) (Nat.zero_le _) hf sne (fun t e => ctX1_inBed hA h c1 v3 t e) (fun t2 hf => ?_)
      refine PW.istore (L' := [some (.ref (gB g + a)), some (.int c1), some (.int v2), some (.int v3), some (.int t2)]) cx qX1_mostLooks_20 hi4 rfl rfl ?_
      refine PW.iload cx qX1_mostLooks_22 rfl ?_
      refine PW.if_lt cx qX1_mostLooks_24 hf (fun hf => ?_) (fun hf => ?_)
      · refine PW.iinc (v := 1) (L' := [some (.ref (gB g + a)), some (.int c1), some (.int v2), some (.int (v3 + 1)), some (.int t2)]) cx qX1_mostLooks_39 rfl rfl hi3 rfl rfl ?_
        refine PW.goto cx qX1_mostLooks_42 ?_
        exact PW.locs (Lsub.keep (Lsub.keep (Lsub.keep (Lsub.keep (Lsub.drop Lsub.nil))))) (ih v2 (v3 + 1) _ hf kx)
      · refine PW.iload_n cx qX1_mostLooks_27 rfl ?_
        refine PW.aload_n cx qX1_mostLooks_28 rfl ?_
        refine PW.iload cx qX1_mostLooks_29 rfl ?_
        refine PW.iload_n cx qX1_mostLooks_31 rfl ?_
        refine PW.callVRI (As := [.int t2, .int c1]) (st := [.int v2]) cx hR qX1_mostLooks_32 klX1_137 mvX1_looks (hA).1 rfl rfl rfl rfl (Nat.le_of_ble_eq_true rfl) (Nat.le_of_ble_eq_true rfl) (Nat.le_of_ble_eq_true rfl) (Nat.zero_le _) (Nat.zero_le _) hf sne (fun t e => ctX1_looks hA h t2 c1 t e) (fun t3 hf => ?_)
        refine PW.mmax cx hR qX1_mostLooks_35 klX1_93 (Nat.le_of_ble_eq_true rfl) (Nat.le_of_ble_eq_true rfl) (Nat.zero_le _) (Nat.zero_le _) ?_
        refine PW.istore_n (L' := [some (.ref (gB g + a)), some (.int c1), some (.int (mxI v2 t3)), some (.int v3), some (.int t2)]) cx qX1_mostLooks_38 hi2 rfl rfl ?_
        refine PW.iinc (v := 1) (L' := [some (.ref (gB g + a)), some (.int c1), some (.int (mxI v2 t3)), some (.int (v3 + 1)), some (.int t2)]) cx qX1_mostLooks_39 rfl rfl hi3 rfl rfl ?_
        refine PW.goto cx qX1_mostLooks_42 ?_
        exact PW.locs (Lsub.keep (Lsub.keep (Lsub.keep (Lsub.keep (Lsub.drop Lsub.nil))))) (ih (mxI v2 t3) (v3 + 1) _ hf kx)
set_option maxRecDepth 20000 in
theorem ctX1_mostLooks {g : GT} {ex : Bool} {sh : List Shp} {a : Nat} (hA : AS sh a) (h : Hp) (p1 : Int32) (r0 : Int32) (hf : A_mostLooks h a p1 = some r0) : Ct g mX1_mostLooks 2 0 0 ex [.ref (gB g + a), .int p1] sh h (PE (some (.int r0)) sh h) := by
  refine Ct.of (L := [some (.ref (gB g + a)), some (.int p1), none, none, none]) (by decide) (by intro w hw; simp only [List.mem_cons, List.not_mem_nil, or_false] at hw; rcases hw with rfl | rfl <;> rfl) (Nat.le_of_ble_eq_true rfl) rfl (fun X mx => ?_)
  have mx0 := mx
  obtain ⟨cx, hR, hml, hrt, -⟩ := mx0
  have cx : Cx g X RX1 cX1_mostLooks := cx
  have hrt : X.2.2.2.2.2.2.2.1.sig.returnType = (some .int) := hrt
  have hi2 : 2 < X.2.2.2.2.2.2.2.2.maxLocals := by rw [hml]; exact Nat.le_of_ble_eq_true rfl
  have hi3 : 3 < X.2.2.2.2.2.2.2.2.maxLocals := by rw [hml]; exact Nat.le_of_ble_eq_true rfl
  have hi4 : 4 < X.2.2.2.2.2.2.2.2.maxLocals := by rw [hml]; exact Nat.le_of_ble_eq_true rfl
  unfold A_mostLooks at hf
  refine PW.iconst (v := 0) cx qX1_mostLooks_0 rfl ?_
  refine PW.istore_n (L' := [some (.ref (gB g + a)), some (.int p1), some (.int 0), none, none]) cx qX1_mostLooks_1 hi2 rfl rfl ?_
  refine PW.iconst (v := 0) cx qX1_mostLooks_2 rfl ?_
  refine PW.istore_n (L' := [some (.ref (gB g + a)), some (.int p1), some (.int 0), some (.int 0), none]) cx qX1_mostLooks_3 hi3 rfl rfl ?_
  obtain ⟨r4, er4, hf⟩ := bndO hf sne
  refine PW.locs (Lsub.keep (Lsub.keep (Lsub.keep (Lsub.keep (Lsub.drop Lsub.nil))))) (lX1_mostLooks_4 mx hA h p1 FU 0 0 r4 er4 (fun xx_ e => ?_))
  subst e
  refine PW.iload_n cx qX1_mostLooks_45 rfl ?_
  exact PW.iret cx hrt qX1_mostLooks_46 (le_ri hf)
set_option maxRecDepth 20000 in
theorem lX1_allLooks_4 {g : GT} {X : XT} {ex : Bool} {post : Option Value → List Shp → Hp → Prop} {sh : List Shp} (mx : Mx g X mX1_allLooks 2 0 0) {a : Nat} (hA : AS sh a) (h : Hp) (c1 : Int32) : ∀ (n : Nat) (v2 : Int32) (v3 : Int32) (r : Int32) (hf : A_allLooks_L4 h a c1 n v2 v3 = some r) (kx : ∀ (x2 : Int32), r = x2 → PW g X ex (QE g X ex post 0 0) 0 0 sh h 43 [some (.ref (gB g + a)), some (.int c1), some (.int x2), none, none] []), PW g X ex (QE g X ex post 0 0) 0 0 sh h 4 [some (.ref (gB g + a)), some (.int c1), some (.int v2), some (.int v3), none] [] := by
  have mx0 := mx
  obtain ⟨cx, hR, hml, hrt, -⟩ := mx0
  have cx : Cx g X RX1 cX1_allLooks := cx
  have hrt : X.2.2.2.2.2.2.2.1.sig.returnType = (some .int) := hrt
  have hi2 : 2 < X.2.2.2.2.2.2.2.2.maxLocals := by rw [hml]; exact Nat.le_of_ble_eq_true rfl
  have hi3 : 3 < X.2.2.2.2.2.2.2.2.maxLocals := by rw [hml]; exact Nat.le_of_ble_eq_true rfl
  have hi4 : 4 < X.2.2.2.2.2.2.2.2.maxLocals := by rw [hml]; exact Nat.le_of_ble_eq_true rfl
  intro n
  induction n with
  | zero =>
    intro v2 v3 r hf kx
    cases hf
  | succ n ih =>
    intro v2 v3 r hf kx
    unfold A_allLooks_L4 at hf
    refine PW.iload_n cx qX1_allLooks_4 rfl ?_
    refine PW.aload_n cx qX1_allLooks_5 rfl ?_
    refine PW.getf (t := (2, a + 7)) (v := .ref (gB g + (a + 7))) cx qX1_allLooks_6 (hA).1 rfl flX1_30 rfl ?_
    refine PW.iload_n cx qX1_allLooks_9 rfl ?_
    refine PW.iald cx qX1_allLooks_10 (AS.r7 hA) hf sne (fun t1 hf => ?_)
    refine PW.icmp_ge cx qX1_allLooks_11 hf (fun hf => ?_) (fun hf => ?_)
    · exact PW.locs (Lsub.keep (Lsub.keep (Lsub.keep (Lsub.drop (Lsub.drop Lsub.nil))))) (kx v2 (Option.some.inj hf).symm)
    · refine PW.aload_n cx qX1_allLooks_14 rfl ?_
      refine PW.iload_n cx qX1_allLooks_15 rfl ?_
      refine PW.iload_n cx qX1_allLooks_16 rfl ?_
      refine PW.callVRI (As := [.int c1, .int v3]) (st := []) cx hR qX1_allLooks_17 klX1_115 mvX1_inBed (hA).1 rfl rfl rfl rfl (Nat.le_of_ble_eq_true rfl) (Nat.le_of_ble_eq_true rfl) (Nat.le_of_ble_eq_true rfl) (Nat.zero_le _) (Nat.zero_le _) hf sne (fun t e => ctX1_inBed hA h c1 v3 t e) (fun t2 hf => ?_)
      refine PW.istore (L' := [some (.ref (gB g + a)), some (.int c1), some (.int v2), some (.int v3), some (.int t2)]) cx qX1_allLooks_20 hi4 rfl rfl ?_
      refine PW.iload cx qX1_allLooks_22 rfl ?_
      refine PW.if_lt cx qX1_allLooks_24 hf (fun hf => ?_) (fun hf => ?_)
      · refine PW.iinc (v := 1) (L' := [some (.ref (gB g + a)), some (.int c1), some (.int v2), some (.int (v3 + 1)), some (.int t2)]) cx qX1_allLooks_37 rfl rfl hi3 rfl rfl ?_
        refine PW.goto cx qX1_allLooks_40 ?_
        exact PW.locs (Lsub.keep (Lsub.keep (Lsub.keep (Lsub.keep (Lsub.drop Lsub.nil))))) (ih v2 (v3 + 1) _ hf kx)
      · refine PW.iload_n cx qX1_allLooks_27 rfl ?_
        refine PW.aload_n cx qX1_allLooks_28 rfl ?_
        refine PW.iload cx qX1_allLooks_29 rfl ?_
        refine PW.iload_n cx qX1_allLooks_31 rfl ?_
        refine PW.callVRI (As := [.int t2, .int c1]) (st := [.int v2]) cx hR qX1_allLooks_32 klX1_137 mvX1_looks (hA).1 rfl rfl rfl rfl (Nat.le_of_ble_eq_true rfl) (Nat.le_of_ble_eq_true rfl) (Nat.le_of_ble_eq_true rfl) (Nat.zero_le _) (Nat.zero_le _) hf sne (fun t e => ctX1_looks hA h t2 c1 t e) (fun t3 hf => ?_)
        refine PW.iadd cx qX1_allLooks_35 ?_
        refine PW.istore_n (L' := [some (.ref (gB g + a)), some (.int c1), some (.int (v2 + t3)), some (.int v3), some (.int t2)]) cx qX1_allLooks_36 hi2 rfl rfl ?_
        refine PW.iinc (v := 1) (L' := [some (.ref (gB g + a)), some (.int c1), some (.int (v2 + t3)), some (.int (v3 + 1)), some (.int t2)]) cx qX1_allLooks_37 rfl rfl hi3 rfl rfl ?_
        refine PW.goto cx qX1_allLooks_40 ?_
        exact PW.locs (Lsub.keep (Lsub.keep (Lsub.keep (Lsub.keep (Lsub.drop Lsub.nil))))) (ih (v2 + t3) (v3 + 1) _ hf kx)
set_option maxRecDepth 20000 in
theorem ctX1_allLooks {g : GT} {ex : Bool} {sh : List Shp} {a : Nat} (hA : AS sh a) (h : Hp) (p1 : Int32) (r0 : Int32) (hf : A_allLooks h a p1 = some r0) : Ct g mX1_allLooks 2 0 0 ex [.ref (gB g + a), .int p1] sh h (PE (some (.int r0)) sh h) := by
  refine Ct.of (L := [some (.ref (gB g + a)), some (.int p1), none, none, none]) (by decide) (by intro w hw; simp only [List.mem_cons, List.not_mem_nil, or_false] at hw; rcases hw with rfl | rfl <;> rfl) (Nat.le_of_ble_eq_true rfl) rfl (fun X mx => ?_)
  have mx0 := mx
  obtain ⟨cx, hR, hml, hrt, -⟩ := mx0
  have cx : Cx g X RX1 cX1_allLooks := cx
  have hrt : X.2.2.2.2.2.2.2.1.sig.returnType = (some .int) := hrt
  have hi2 : 2 < X.2.2.2.2.2.2.2.2.maxLocals := by rw [hml]; exact Nat.le_of_ble_eq_true rfl
  have hi3 : 3 < X.2.2.2.2.2.2.2.2.maxLocals := by rw [hml]; exact Nat.le_of_ble_eq_true rfl
  have hi4 : 4 < X.2.2.2.2.2.2.2.2.maxLocals := by rw [hml]; exact Nat.le_of_ble_eq_true rfl
  unfold A_allLooks at hf
  refine PW.iconst (v := 0) cx qX1_allLooks_0 rfl ?_
  refine PW.istore_n (L' := [some (.ref (gB g + a)), some (.int p1), some (.int 0), none, none]) cx qX1_allLooks_1 hi2 rfl rfl ?_
  refine PW.iconst (v := 0) cx qX1_allLooks_2 rfl ?_
  refine PW.istore_n (L' := [some (.ref (gB g + a)), some (.int p1), some (.int 0), some (.int 0), none]) cx qX1_allLooks_3 hi3 rfl rfl ?_
  obtain ⟨r4, er4, hf⟩ := bndO hf sne
  refine PW.locs (Lsub.keep (Lsub.keep (Lsub.keep (Lsub.keep (Lsub.drop Lsub.nil))))) (lX1_allLooks_4 mx hA h p1 FU 0 0 r4 er4 (fun xx_ e => ?_))
  subst e
  refine PW.iload_n cx qX1_allLooks_43 rfl ?_
  exact PW.iret cx hrt qX1_allLooks_44 (le_ri hf)
set_option maxRecDepth 20000 in
theorem lX1_nearestReel_8 {g : GT} {X : XT} {ex : Bool} {post : Option Value → List Shp → Hp → Prop} {sh : List Shp} (mx : Mx g X mX1_nearestReel 3 0 0) {a : Nat} (hA : AS sh a) (h : Hp) (c1 : Int32) : ∀ (n : Nat) (v2 : Int32) (v3 : Int32) (v4 : Int32) (r : Int32) (hf : A_nearestReel_L8 h a c1 n v2 v3 v4 = some r) (kx : ∀ (x2 : Int32), r = x2 → PW g X ex (QE g X ex post 0 0) 0 0 sh h 55 [some (.ref (gB g + a)), some (.int c1), some (.int x2), none, none] []), PW g X ex (QE g X ex post 0 0) 0 0 sh h 8 [some (.ref (gB g + a)), some (.int c1), some (.int v2), some (.int v3), some (.int v4)] [] := by
  have mx0 := mx
  obtain ⟨cx, hR, hml, hrt, -⟩ := mx0
  have cx : Cx g X RX1 cX1_nearestReel := cx
  have hrt : X.2.2.2.2.2.2.2.1.sig.returnType = (some .int) := hrt
  have hi2 : 2 < X.2.2.2.2.2.2.2.2.maxLocals := by rw [hml]; exact Nat.le_of_ble_eq_true rfl
  have hi3 : 3 < X.2.2.2.2.2.2.2.2.maxLocals := by rw [hml]; exact Nat.le_of_ble_eq_true rfl
  have hi4 : 4 < X.2.2.2.2.2.2.2.2.maxLocals := by rw [hml]; exact Nat.le_of_ble_eq_true rfl
  intro n
  induction n with
  | zero =>
    intro v2 v3 v4 r hf kx
    cases hf
  | succ n ih =>
    intro v2 v3 v4 r hf kx
    unfold A_nearestReel_L8 at hf
    refine PW.iload cx qX1_nearestReel_8 rfl ?_
    refine PW.aload_n cx qX1_nearestReel_10 rfl ?_
    refine PW.getf (t := (0, 0)) (v := .int (rd h a 12)) cx qX1_nearestReel_11 (hA).1 rfl flX1_67 rfl ?_
    refine PW.icmp_ge cx qX1_nearestReel_14 hf (fun hf => ?_) (fun hf => ?_)
    · exact PW.locs (Lsub.keep (Lsub.keep (Lsub.keep (Lsub.drop (Lsub.drop Lsub.nil))))) (kx v2 (Option.some.inj hf).symm)
    · refine PW.aload_n cx qX1_nearestReel_17 rfl ?_
      refine PW.iload_n cx qX1_nearestReel_18 rfl ?_
      refine PW.iload cx qX1_nearestReel_19 rfl ?_
      refine PW.callVRI (As := [.int c1, .int v4]) (st := []) cx hR qX1_nearestReel_21 klX1_140 mvX1_refusal (hA).1 rfl rfl rfl rfl (Nat.le_of_ble_eq_true rfl) (Nat.le_of_ble_eq_true rfl) (Nat.le_of_ble_eq_true rfl) (Nat.zero_le _) (Nat.zero_le _) hf sne (fun t e => ctX1_refusal hA h c1 v4 t e) (fun t1 hf => ?_)
      refine PW.if_ne cx qX1_nearestReel_24 hf (fun hf => ?_) (fun hf => ?_)
      · refine PW.aload_n cx qX1_nearestReel_27 rfl ?_
        refine PW.iload_n cx qX1_nearestReel_28 rfl ?_
        refine PW.iload cx qX1_nearestReel_29 rfl ?_
        refine PW.callVRI (As := [.int c1, .int v4]) (st := []) cx hR qX1_nearestReel_31 klX1_122 mvX1_passedBeds (hA).1 rfl rfl rfl rfl (Nat.le_of_ble_eq_true rfl) (Nat.le_of_ble_eq_true rfl) (Nat.le_of_ble_eq_true rfl) (Nat.zero_le _) (Nat.zero_le _) hf sne (fun t e => ctX1_passedBeds hA h c1 v4 t e) (fun t2 hf => ?_)
        refine PW.iload_n cx qX1_nearestReel_34 rfl ?_
        refine PW.icmp_ge cx qX1_nearestReel_35 hf (fun hf => ?_) (fun hf => ?_)
        · refine PW.iinc (v := 1) (L' := [some (.ref (gB g + a)), some (.int c1), some (.int v2), some (.int v3), some (.int (v4 + 1))]) cx qX1_nearestReel_49 rfl rfl hi4 rfl rfl ?_
          refine PW.goto cx qX1_nearestReel_52 ?_
          exact PW.locs (Lsub.keep (Lsub.keep (Lsub.keep (Lsub.keep (Lsub.keep Lsub.nil))))) (ih v2 v3 (v4 + 1) _ hf kx)
        · refine PW.iload cx qX1_nearestReel_38 rfl ?_
          refine PW.istore_n (L' := [some (.ref (gB g + a)), some (.int c1), some (.int v4), some (.int v3), some (.int v4)]) cx qX1_nearestReel_40 hi2 rfl rfl ?_
          refine PW.aload_n cx qX1_nearestReel_41 rfl ?_
          refine PW.iload_n cx qX1_nearestReel_42 rfl ?_
          refine PW.iload cx qX1_nearestReel_43 rfl ?_
          refine PW.callVRI (As := [.int c1, .int v4]) (st := []) cx hR qX1_nearestReel_45 klX1_122 mvX1_passedBeds (hA).1 rfl rfl rfl rfl (Nat.le_of_ble_eq_true rfl) (Nat.le_of_ble_eq_true rfl) (Nat.le_of_ble_eq_true rfl) (Nat.zero_le _) (Nat.zero_le _) hf sne (fun t e => ctX1_passedBeds hA h c1 v4 t e) (fun t3 hf => ?_)
          refine PW.istore_n (L' := [some (.ref (gB g + a)), some (.int c1), some (.int v4), some (.int t3), some (.int v4)]) cx qX1_nearestReel_48 hi3 rfl rfl ?_
          refine PW.iinc (v := 1) (L' := [some (.ref (gB g + a)), some (.int c1), some (.int v4), some (.int t3), some (.int (v4 + 1))]) cx qX1_nearestReel_49 rfl rfl hi4 rfl rfl ?_
          refine PW.goto cx qX1_nearestReel_52 ?_
          exact PW.locs (Lsub.keep (Lsub.keep (Lsub.keep (Lsub.keep (Lsub.keep Lsub.nil))))) (ih v4 t3 (v4 + 1) _ hf kx)
      · refine PW.iinc (v := 1) (L' := [some (.ref (gB g + a)), some (.int c1), some (.int v2), some (.int v3), some (.int (v4 + 1))]) cx qX1_nearestReel_49 rfl rfl hi4 rfl rfl ?_
        refine PW.goto cx qX1_nearestReel_52 ?_
        exact PW.locs (Lsub.keep (Lsub.keep (Lsub.keep (Lsub.keep (Lsub.keep Lsub.nil))))) (ih v2 v3 (v4 + 1) _ hf kx)
set_option maxRecDepth 20000 in
theorem ctX1_nearestReel {g : GT} {ex : Bool} {sh : List Shp} {a : Nat} (hA : AS sh a) (h : Hp) (p1 : Int32) (r0 : Int32) (hf : A_nearestReel h a p1 = some r0) : Ct g mX1_nearestReel 3 0 0 ex [.ref (gB g + a), .int p1] sh h (PE (some (.int r0)) sh h) := by
  refine Ct.of (L := [some (.ref (gB g + a)), some (.int p1), none, none, none]) (by decide) (by intro w hw; simp only [List.mem_cons, List.not_mem_nil, or_false] at hw; rcases hw with rfl | rfl <;> rfl) (Nat.le_of_ble_eq_true rfl) rfl (fun X mx => ?_)
  have mx0 := mx
  obtain ⟨cx, hR, hml, hrt, -⟩ := mx0
  have cx : Cx g X RX1 cX1_nearestReel := cx
  have hrt : X.2.2.2.2.2.2.2.1.sig.returnType = (some .int) := hrt
  have hi2 : 2 < X.2.2.2.2.2.2.2.2.maxLocals := by rw [hml]; exact Nat.le_of_ble_eq_true rfl
  have hi3 : 3 < X.2.2.2.2.2.2.2.2.maxLocals := by rw [hml]; exact Nat.le_of_ble_eq_true rfl
  have hi4 : 4 < X.2.2.2.2.2.2.2.2.maxLocals := by rw [hml]; exact Nat.le_of_ble_eq_true rfl
  unfold A_nearestReel at hf
  refine PW.iconst (v := (-1)) cx qX1_nearestReel_0 rfl ?_
  refine PW.istore_n (L' := [some (.ref (gB g + a)), some (.int p1), some (.int (-1)), none, none]) cx qX1_nearestReel_1 hi2 rfl rfl ?_
  refine PW.bipush (v := 9) cx qX1_nearestReel_2 rfl ?_
  refine PW.istore_n (L' := [some (.ref (gB g + a)), some (.int p1), some (.int (-1)), some (.int 9), none]) cx qX1_nearestReel_4 hi3 rfl rfl ?_
  refine PW.iconst (v := 0) cx qX1_nearestReel_5 rfl ?_
  refine PW.istore (L' := [some (.ref (gB g + a)), some (.int p1), some (.int (-1)), some (.int 9), some (.int 0)]) cx qX1_nearestReel_6 hi4 rfl rfl ?_
  obtain ⟨r4, er4, hf⟩ := bndO hf sne
  refine PW.locs (Lsub.keep (Lsub.keep (Lsub.keep (Lsub.keep (Lsub.keep Lsub.nil))))) (lX1_nearestReel_8 mx hA h p1 FU (-1) 9 0 r4 er4 (fun xx_ e => ?_))
  subst e
  refine PW.iload_n cx qX1_nearestReel_55 rfl ?_
  exact PW.iret cx hrt qX1_nearestReel_56 (le_ri hf)
set_option maxRecDepth 20000 in
theorem ctX1_mayFeed {g : GT} {ex : Bool} {sh : List Shp} {a : Nat} (hA : AS sh a) (h : Hp) (p1 : Int32) (p2 : Int32) (r0 : Bool) (hf : A_mayFeed h a p1 p2 = some r0) : Ct g mX1_mayFeed 0 0 0 ex [.ref (gB g + a), .int p1, .int p2] sh h (PE (some (.int (b2i r0))) sh h) := by
  refine Ct.of (L := [some (.ref (gB g + a)), some (.int p1), some (.int p2)]) (by decide) (by intro w hw; simp only [List.mem_cons, List.not_mem_nil, or_false] at hw; rcases hw with rfl | rfl | rfl <;> rfl) (Nat.le_of_ble_eq_true rfl) rfl (fun X mx => ?_)
  obtain ⟨cx, hR, hml, hrt, -⟩ := mx
  have cx : Cx g X RX1 cX1_mayFeed := cx
  have hrt : X.2.2.2.2.2.2.2.1.sig.returnType = (some .boolean) := hrt
  unfold A_mayFeed at hf
  refine PW.aload_n cx qX1_mayFeed_0 rfl ?_
  refine PW.getf (t := (2, a + 4)) (v := .ref (gB g + (a + 4))) cx qX1_mayFeed_1 (hA).1 rfl flX1_21 rfl ?_
  refine PW.iload_n cx qX1_mayFeed_4 rfl ?_
  refine PW.iald cx qX1_mayFeed_5 (AS.r4 hA) hf sne (fun t1 hf => ?_)
  refine PW.if_ne cx qX1_mayFeed_6 hf (fun hf => ?_) (fun hf => ?_)
  · refine PW.aload_n cx qX1_mayFeed_9 rfl ?_
    refine PW.getf (t := (0, 0)) (v := .int (rd h a 1)) cx qX1_mayFeed_10 (hA).1 rfl flX1_46 rfl ?_
    refine PW.iload_n cx qX1_mayFeed_13 rfl ?_
    refine PW.icmp_lt cx qX1_mayFeed_14 hf (fun hf => ?_) (fun hf => ?_)
    · refine PW.iconst (v := 0) cx qX1_mayFeed_34 rfl ?_
      exact PW.zret cx hrt nb0 qX1_mayFeed_35 (le_rz hf)
    · refine PW.aload_n cx qX1_mayFeed_17 rfl ?_
      refine PW.getf (t := (2, a + 5)) (v := .ref (gB g + (a + 5))) cx qX1_mayFeed_18 (hA).1 rfl flX1_24 rfl ?_
      refine PW.iload_n cx qX1_mayFeed_21 rfl ?_
      refine PW.iald cx qX1_mayFeed_22 (AS.r5 hA) hf sne (fun t2 hf => ?_)
      refine PW.iload_n cx qX1_mayFeed_23 rfl ?_
      refine PW.iadd cx qX1_mayFeed_24 ?_
      refine PW.bipush (v := 99) cx qX1_mayFeed_25 rfl ?_
      refine PW.icmp_gt cx qX1_mayFeed_27 hf (fun hf => ?_) (fun hf => ?_)
      · refine PW.iconst (v := 0) cx qX1_mayFeed_34 rfl ?_
        exact PW.zret cx hrt nb0 qX1_mayFeed_35 (le_rz hf)
      · refine PW.iconst (v := 1) cx qX1_mayFeed_30 rfl ?_
        refine PW.goto cx qX1_mayFeed_31 ?_
        exact PW.zret cx hrt nb1 qX1_mayFeed_35 (le_rz hf)
  · refine PW.iconst (v := 0) cx qX1_mayFeed_34 rfl ?_
    exact PW.zret cx hrt nb0 qX1_mayFeed_35 (le_rz hf)
set_option maxRecDepth 20000 in
theorem ctX1_feedClip {g : GT} {ex : Bool} {sh : List Shp} {a : Nat} (hA : AS sh a) (h : Hp) (p1 : Int32) (p2 : Int32) (r0 : Int32 × Hp) (hf : A_feedClip h a p1 p2 = some r0) : Ct g mX1_feedClip 0 0 0 ex [.ref (gB g + a), .int p1, .int p2] sh h (PE (some (.int r0.1)) sh r0.2) := by
  refine Ct.of (L := [some (.ref (gB g + a)), some (.int p1), some (.int p2)]) (by decide) (by intro w hw; simp only [List.mem_cons, List.not_mem_nil, or_false] at hw; rcases hw with rfl | rfl | rfl <;> rfl) (Nat.le_of_ble_eq_true rfl) rfl (fun X mx => ?_)
  obtain ⟨cx, hR, hml, hrt, -⟩ := mx
  have cx : Cx g X RX1 cX1_feedClip := cx
  have hrt : X.2.2.2.2.2.2.2.1.sig.returnType = (some .int) := hrt
  unfold A_feedClip at hf
  refine PW.aload_n cx qX1_feedClip_0 rfl ?_
  refine PW.getf (t := (2, a + 5)) (v := .ref (gB g + (a + 5))) cx qX1_feedClip_1 (hA).1 rfl flX1_24 rfl ?_
  refine PW.iload_n cx qX1_feedClip_4 rfl ?_
  refine PW.dup2 cx qX1_feedClip_5 rfl rfl ?_
  refine PW.iald cx qX1_feedClip_6 (AS.r5 hA) hf sne (fun t1 hf => ?_)
  refine PW.iload_n cx qX1_feedClip_7 rfl ?_
  refine PW.iadd cx qX1_feedClip_8 ?_
  refine PW.iast cx qX1_feedClip_9 (AS.r5 hA) hf sne (fun h2 hf => ?_)
  refine PW.aload_n cx qX1_feedClip_10 rfl ?_
  refine PW.dup cx qX1_feedClip_11 rfl ?_
  refine PW.getf (t := (0, 0)) (v := .int (rd h2 a 1)) cx qX1_feedClip_12 (hA).1 rfl flX1_46 rfl ?_
  refine PW.iload_n cx qX1_feedClip_15 rfl ?_
  refine PW.isub cx qX1_feedClip_16 ?_
  refine PW.putiN cx qX1_feedClip_17 (hA).1 rfl fpX1_46 hf (fun h3 hf => ?_)
  refine PW.aload_n cx qX1_feedClip_20 rfl ?_
  refine PW.dup cx qX1_feedClip_21 rfl ?_
  refine PW.getf (t := (0, 0)) (v := .int (rd h3 a 2)) cx qX1_feedClip_22 (hA).1 rfl flX1_49 rfl ?_
  refine PW.iload_n cx qX1_feedClip_25 rfl ?_
  refine PW.iadd cx qX1_feedClip_26 ?_
  refine PW.putiN cx qX1_feedClip_27 (hA).1 rfl fpX1_49 hf (fun h4 hf => ?_)
  refine PW.aload_n cx qX1_feedClip_30 rfl ?_
  refine PW.getf (t := (2, a + 5)) (v := .ref (gB g + (a + 5))) cx qX1_feedClip_31 (hA).1 rfl flX1_24 rfl ?_
  refine PW.iload_n cx qX1_feedClip_34 rfl ?_
  refine PW.iald cx qX1_feedClip_35 (AS.r5 hA) hf sne (fun t5 hf => ?_)
  exact PW.iret cx hrt qX1_feedClip_36 (le_wi hf)
set_option maxRecDepth 20000 in
theorem ctX1_mayStore {g : GT} {ex : Bool} {sh : List Shp} {a : Nat} (hA : AS sh a) (h : Hp) (p1 : Int32) (r0 : Bool) (hf : A_mayStore h a p1 = some r0) : Ct g mX1_mayStore 0 0 0 ex [.ref (gB g + a), .int p1] sh h (PE (some (.int (b2i r0))) sh h) := by
  refine Ct.of (L := [some (.ref (gB g + a)), some (.int p1)]) (by decide) (by intro w hw; simp only [List.mem_cons, List.not_mem_nil, or_false] at hw; rcases hw with rfl | rfl <;> rfl) (Nat.le_of_ble_eq_true rfl) rfl (fun X mx => ?_)
  obtain ⟨cx, hR, hml, hrt, -⟩ := mx
  have cx : Cx g X RX1 cX1_mayStore := cx
  have hrt : X.2.2.2.2.2.2.2.1.sig.returnType = (some .boolean) := hrt
  unfold A_mayStore at hf
  refine PW.aload_n cx qX1_mayStore_0 rfl ?_
  refine PW.getf (t := (0, 0)) (v := .int (rd h a 1)) cx qX1_mayStore_1 (hA).1 rfl flX1_46 rfl ?_
  refine PW.iload_n cx qX1_mayStore_4 rfl ?_
  refine PW.iadd cx qX1_mayStore_5 ?_
  refine PW.sipush (v := 9999) cx qX1_mayStore_6 rfl ?_
  refine PW.icmp_gt cx qX1_mayStore_9 hf (fun hf => ?_) (fun hf => ?_)
  · refine PW.iconst (v := 0) cx qX1_mayStore_16 rfl ?_
    exact PW.zret cx hrt nb0 qX1_mayStore_17 (le_rz hf)
  · refine PW.iconst (v := 1) cx qX1_mayStore_12 rfl ?_
    refine PW.goto cx qX1_mayStore_13 ?_
    exact PW.zret cx hrt nb1 qX1_mayStore_17 (le_rz hf)
set_option maxRecDepth 20000 in
theorem ctX1_store {g : GT} {ex : Bool} {sh : List Shp} {a : Nat} (hA : AS sh a) (h : Hp) (p1 : Int32) (r0 : Int32 × Hp) (hf : A_store h a p1 = some r0) : Ct g mX1_store 0 0 0 ex [.ref (gB g + a), .int p1] sh h (PE (some (.int r0.1)) sh r0.2) := by
  refine Ct.of (L := [some (.ref (gB g + a)), some (.int p1)]) (by decide) (by intro w hw; simp only [List.mem_cons, List.not_mem_nil, or_false] at hw; rcases hw with rfl | rfl <;> rfl) (Nat.le_of_ble_eq_true rfl) rfl (fun X mx => ?_)
  obtain ⟨cx, hR, hml, hrt, -⟩ := mx
  have cx : Cx g X RX1 cX1_store := cx
  have hrt : X.2.2.2.2.2.2.2.1.sig.returnType = (some .int) := hrt
  unfold A_store at hf
  refine PW.aload_n cx qX1_store_0 rfl ?_
  refine PW.dup cx qX1_store_1 rfl ?_
  refine PW.getf (t := (0, 0)) (v := .int (rd h a 1)) cx qX1_store_2 (hA).1 rfl flX1_46 rfl ?_
  refine PW.iload_n cx qX1_store_5 rfl ?_
  refine PW.iadd cx qX1_store_6 ?_
  refine PW.putiN cx qX1_store_7 (hA).1 rfl fpX1_46 hf (fun h1 hf => ?_)
  refine PW.aload_n cx qX1_store_10 rfl ?_
  refine PW.getf (t := (0, 0)) (v := .int (rd h1 a 1)) cx qX1_store_11 (hA).1 rfl flX1_46 rfl ?_
  exact PW.iret cx hrt qX1_store_14 (le_wi hf)
set_option maxRecDepth 20000 in
theorem ctX1_mayPass {g : GT} {ex : Bool} {sh : List Shp} {a : Nat} (hA : AS sh a) (h : Hp) (p1 : Int32) (r0 : Bool) (hf : A_mayPass h a p1 = some r0) : Ct g mX1_mayPass 0 0 0 ex [.ref (gB g + a), .int p1] sh h (PE (some (.int (b2i r0))) sh h) := by
  refine Ct.of (L := [some (.ref (gB g + a)), some (.int p1)]) (by decide) (by intro w hw; simp only [List.mem_cons, List.not_mem_nil, or_false] at hw; rcases hw with rfl | rfl <;> rfl) (Nat.le_of_ble_eq_true rfl) rfl (fun X mx => ?_)
  obtain ⟨cx, hR, hml, hrt, -⟩ := mx
  have cx : Cx g X RX1 cX1_mayPass := cx
  have hrt : X.2.2.2.2.2.2.2.1.sig.returnType = (some .boolean) := hrt
  unfold A_mayPass at hf
  refine PW.aload_n cx qX1_mayPass_0 rfl ?_
  refine PW.getf (t := (0, 0)) (v := .int (rd h a 0)) cx qX1_mayPass_1 (hA).1 rfl flX1_42 rfl ?_
  refine PW.iload_n cx qX1_mayPass_4 rfl ?_
  refine PW.iadd cx qX1_mayPass_5 ?_
  refine PW.sipush (v := 999) cx qX1_mayPass_6 rfl ?_
  refine PW.icmp_gt cx qX1_mayPass_9 hf (fun hf => ?_) (fun hf => ?_)
  · refine PW.iconst (v := 0) cx qX1_mayPass_16 rfl ?_
    exact PW.zret cx hrt nb0 qX1_mayPass_17 (le_rz hf)
  · refine PW.iconst (v := 1) cx qX1_mayPass_12 rfl ?_
    refine PW.goto cx qX1_mayPass_13 ?_
    exact PW.zret cx hrt nb1 qX1_mayPass_17 (le_rz hf)
set_option maxRecDepth 20000 in
theorem ctX1_burn {g : GT} {ex : Bool} {sh : List Shp} {a : Nat} (hA : AS sh a) (h : Hp) (p1 : Int32) (r0 : Int32 × Hp) (hf : A_burn h a p1 = some r0) : Ct g mX1_burn 2 0 0 ex [.ref (gB g + a), .int p1] sh h (PE (some (.int r0.1)) sh r0.2) := by
  refine Ct.of (L := [some (.ref (gB g + a)), some (.int p1), none]) (by decide) (by intro w hw; simp only [List.mem_cons, List.not_mem_nil, or_false] at hw; rcases hw with rfl | rfl <;> rfl) (Nat.le_of_ble_eq_true rfl) rfl (fun X mx => ?_)
  obtain ⟨cx, hR, hml, hrt, -⟩ := mx
  have cx : Cx g X RX1 cX1_burn := cx
  have hrt : X.2.2.2.2.2.2.2.1.sig.returnType = (some .int) := hrt
  have hi2 : 2 < X.2.2.2.2.2.2.2.2.maxLocals := by rw [hml]; exact Nat.le_of_ble_eq_true rfl
  unfold A_burn at hf
  refine PW.aload_n cx qX1_burn_0 rfl ?_
  refine PW.getf (t := (2, a + 4)) (v := .ref (gB g + (a + 4))) cx qX1_burn_1 (hA).1 rfl flX1_21 rfl ?_
  refine PW.iload_n cx qX1_burn_4 rfl ?_
  refine PW.iald cx qX1_burn_5 (AS.r4 hA) hf sne (fun t1 hf => ?_)
  refine PW.iconst (v := 2) cx qX1_burn_6 rfl ?_
  refine PW.icmp_ne cx qX1_burn_7 hf (fun hf => ?_) (fun hf => ?_)
  · refine PW.iconst (v := 0) cx qX1_burn_10 rfl ?_
    exact PW.iret cx hrt qX1_burn_11 (le_wi hf)
  · refine PW.aload_n cx qX1_burn_12 rfl ?_
    refine PW.getf (t := (2, a + 5)) (v := .ref (gB g + (a + 5))) cx qX1_burn_13 (hA).1 rfl flX1_24 rfl ?_
    refine PW.iload_n cx qX1_burn_16 rfl ?_
    refine PW.iald cx qX1_burn_17 (AS.r5 hA) hf sne (fun t2 hf => ?_)
    refine PW.aload_n cx qX1_burn_18 rfl ?_
    refine PW.getf (t := (2, a + 4)) (v := .ref (gB g + (a + 4))) cx qX1_burn_19 (hA).1 rfl flX1_21 rfl ?_
    refine PW.iload_n cx qX1_burn_22 rfl ?_
    refine PW.iald cx qX1_burn_23 (AS.r4 hA) hf sne (fun t3 hf => ?_)
    refine PW.iconst (v := 1) cx qX1_burn_24 rfl ?_
    obtain ⟨j33, ej33, hf⟩ := lt_split hf
    have hj33 : ∀ (z0_33 : Int32), j33 z0_33 = some r0 → PW g X ex (QE g X ex (PE (some (.int r0.1)) sh r0.2) 0 0) 0 0 sh h 33 [some (.ref (gB g + a)), some (.int p1), none] [.int z0_33, .int t2] := by
      intro z0_33 hf
      rw [ej33] at hf
      refine PW.mmin cx hR qX1_burn_33 klX1_98 (Nat.le_of_ble_eq_true rfl) (Nat.le_of_ble_eq_true rfl) (Nat.zero_le _) (Nat.zero_le _) ?_
      refine PW.istore_n (L' := [some (.ref (gB g + a)), some (.int p1), some (.int (mnI t2 z0_33))]) cx qX1_burn_36 hi2 rfl rfl ?_
      refine PW.aload_n cx qX1_burn_37 rfl ?_
      refine PW.getf (t := (2, a + 5)) (v := .ref (gB g + (a + 5))) cx qX1_burn_38 (hA).1 rfl flX1_24 rfl ?_
      refine PW.iload_n cx qX1_burn_41 rfl ?_
      refine PW.dup2 cx qX1_burn_42 rfl rfl ?_
      refine PW.iald cx qX1_burn_43 (AS.r5 hA) hf sne (fun t4 hf => ?_)
      refine PW.iload_n cx qX1_burn_44 rfl ?_
      refine PW.isub cx qX1_burn_45 ?_
      refine PW.iast cx qX1_burn_46 (AS.r5 hA) hf sne (fun h5 hf => ?_)
      refine PW.aload_n cx qX1_burn_47 rfl ?_
      refine PW.dup cx qX1_burn_48 rfl ?_
      refine PW.getf (t := (0, 0)) (v := .int (rd h5 a 3)) cx qX1_burn_49 (hA).1 rfl flX1_52 rfl ?_
      refine PW.iload_n cx qX1_burn_52 rfl ?_
      refine PW.iadd cx qX1_burn_53 ?_
      refine PW.putiN cx qX1_burn_54 (hA).1 rfl fpX1_52 hf (fun h6 hf => ?_)
      refine PW.aload_n cx qX1_burn_57 rfl ?_
      refine PW.getf (t := (2, a + 5)) (v := .ref (gB g + (a + 5))) cx qX1_burn_58 (hA).1 rfl flX1_24 rfl ?_
      refine PW.iload_n cx qX1_burn_61 rfl ?_
      refine PW.iald cx qX1_burn_62 (AS.r5 hA) hf sne (fun t7 hf => ?_)
      refine PW.if_le cx qX1_burn_63 hf (fun hf => ?_) (fun hf => ?_)
      · refine PW.aload_n cx qX1_burn_68 rfl ?_
        refine PW.iload_n cx qX1_burn_69 rfl ?_
        refine PW.callVWIc (As := [.int p1]) (st := []) cx hR qX1_burn_70 klX1_125 mvX1_leaveBed (hA).1 rfl rfl rfl rfl (Nat.le_of_ble_eq_true rfl) (Nat.le_of_ble_eq_true rfl) (Nat.le_of_ble_eq_true rfl) (Nat.zero_le _) (Nat.zero_le _) hf sne (fun t e => ctX1_leaveBed hA h6 p1 t e) (fun t8 h9 hf => ?_)
        refine PW.pop cx qX1_burn_73 rfl ?_
        refine PW.aload_n cx qX1_burn_74 rfl ?_
        refine PW.getf (t := (2, a + 4)) (v := .ref (gB g + (a + 4))) cx qX1_burn_75 (hA).1 rfl flX1_21 rfl ?_
        refine PW.iload_n cx qX1_burn_78 rfl ?_
        refine PW.iconst (v := 2) cx qX1_burn_79 rfl ?_
        refine PW.iast cx qX1_burn_80 (AS.r4 hA) hf sne (fun h10 hf => ?_)
        refine PW.iconst (v := 1) cx qX1_burn_81 rfl ?_
        exact PW.iret cx hrt qX1_burn_82 (le_wi hf)
      · refine PW.iconst (v := 0) cx qX1_burn_66 rfl ?_
        exact PW.iret cx hrt qX1_burn_67 (le_wi hf)
    refine PW.icmp_ne cx qX1_burn_25 hf (fun hf => ?_) (fun hf => ?_)
    · refine PW.iconst (v := 1) cx qX1_burn_28 rfl ?_
      refine PW.goto cx qX1_burn_29 ?_
      exact PW.locs (Lsub.keep (Lsub.keep (Lsub.drop Lsub.nil))) (hj33 1 hf)
    · refine PW.iconst (v := 4) cx qX1_burn_32 rfl ?_
      exact PW.locs (Lsub.keep (Lsub.keep (Lsub.drop Lsub.nil))) (hj33 4 hf)
set_option maxRecDepth 20000 in
theorem lX1_refillSprings_2 {g : GT} {X : XT} {ex : Bool} {post : Option Value → List Shp → Hp → Prop} {sh : List Shp} (mx : Mx g X mX1_refillSprings 1 0 0) {a : Nat} (hA : AS sh a) : ∀ (n : Nat) (v1 : Int32) (h : Hp) (r : Hp) (hf : A_refillSprings_L2 a n v1 h = some r) (kx : ∀ (h1 : Hp), r = h1 → PW g X ex (QE g X ex post 0 0) 0 0 sh h1 39 [some (.ref (gB g + a)), none] []), PW g X ex (QE g X ex post 0 0) 0 0 sh h 2 [some (.ref (gB g + a)), some (.int v1)] [] := by
  have mx0 := mx
  obtain ⟨cx, hR, hml, hrt, -⟩ := mx0
  have cx : Cx g X RX1 cX1_refillSprings := cx
  have hrt : X.2.2.2.2.2.2.2.1.sig.returnType = none := hrt
  have hi1 : 1 < X.2.2.2.2.2.2.2.2.maxLocals := by rw [hml]; exact Nat.le_of_ble_eq_true rfl
  intro n
  induction n with
  | zero =>
    intro v1 h r hf kx
    cases hf
  | succ n ih =>
    intro v1 h r hf kx
    unfold A_refillSprings_L2 at hf
    refine PW.iload_n cx qX1_refillSprings_2 rfl ?_
    refine PW.aload_n cx qX1_refillSprings_3 rfl ?_
    refine PW.getf (t := (0, 0)) (v := .int (rd h a 15)) cx qX1_refillSprings_4 (hA).1 rfl flX1_70 rfl ?_
    refine PW.icmp_ge cx qX1_refillSprings_7 hf (fun hf => ?_) (fun hf => ?_)
    · exact PW.locs (Lsub.keep (Lsub.drop Lsub.nil)) (kx h (Option.some.inj hf).symm)
    · refine PW.aload_n cx qX1_refillSprings_10 rfl ?_
      refine PW.getf (t := (2, a + 10)) (v := .ref (gB g + (a + 10))) cx qX1_refillSprings_11 (hA).1 rfl flX1_39 rfl ?_
      refine PW.iload_n cx qX1_refillSprings_14 rfl ?_
      refine PW.aload_n cx qX1_refillSprings_15 rfl ?_
      refine PW.getf (t := (2, a + 10)) (v := .ref (gB g + (a + 10))) cx qX1_refillSprings_16 (hA).1 rfl flX1_39 rfl ?_
      refine PW.iload_n cx qX1_refillSprings_19 rfl ?_
      refine PW.iald cx qX1_refillSprings_20 (AS.r10 hA) hf sne (fun t1 hf => ?_)
      refine PW.iconst (v := 1) cx qX1_refillSprings_21 rfl ?_
      refine PW.iadd cx qX1_refillSprings_22 ?_
      refine PW.aload_n cx qX1_refillSprings_23 rfl ?_
      refine PW.getf (t := (2, a + 9)) (v := .ref (gB g + (a + 9))) cx qX1_refillSprings_24 (hA).1 rfl flX1_36 rfl ?_
      refine PW.iload_n cx qX1_refillSprings_27 rfl ?_
      refine PW.iald cx qX1_refillSprings_28 (AS.r9 hA) hf sne (fun t2 hf => ?_)
      refine PW.mmin cx hR qX1_refillSprings_29 klX1_98 (Nat.le_of_ble_eq_true rfl) (Nat.le_of_ble_eq_true rfl) (Nat.zero_le _) (Nat.zero_le _) ?_
      refine PW.iast cx qX1_refillSprings_32 (AS.r10 hA) hf sne (fun h3 hf => ?_)
      refine PW.iinc (v := 1) (L' := [some (.ref (gB g + a)), some (.int (v1 + 1))]) cx qX1_refillSprings_33 rfl rfl hi1 rfl rfl ?_
      refine PW.goto cx qX1_refillSprings_36 ?_
      exact PW.locs (Lsub.keep (Lsub.keep Lsub.nil)) (ih (v1 + 1) h3 _ hf kx)
set_option maxRecDepth 20000 in
theorem ctX1_refillSprings {g : GT} {ex : Bool} {sh : List Shp} {a : Nat} (hA : AS sh a) (h : Hp) (r0 : Hp) (hf : A_refillSprings h a = some r0) : Ct g mX1_refillSprings 1 0 0 ex [.ref (gB g + a)] sh h (PE none sh r0) := by
  refine Ct.of (L := [some (.ref (gB g + a)), none]) (by decide) (by intro w hw; simp only [List.mem_cons, List.not_mem_nil, or_false] at hw; rcases hw with rfl <;> rfl) (Nat.le_of_ble_eq_true rfl) rfl (fun X mx => ?_)
  have mx0 := mx
  obtain ⟨cx, hR, hml, hrt, -⟩ := mx0
  have cx : Cx g X RX1 cX1_refillSprings := cx
  have hrt : X.2.2.2.2.2.2.2.1.sig.returnType = none := hrt
  have hi1 : 1 < X.2.2.2.2.2.2.2.2.maxLocals := by rw [hml]; exact Nat.le_of_ble_eq_true rfl
  unfold A_refillSprings at hf
  refine PW.iconst (v := 0) cx qX1_refillSprings_0 rfl ?_
  refine PW.istore_n (L' := [some (.ref (gB g + a)), some (.int 0)]) cx qX1_refillSprings_1 hi1 rfl rfl ?_
  obtain ⟨r4, er4, hf⟩ := bndO hf sne
  refine PW.locs (Lsub.keep (Lsub.keep Lsub.nil)) (lX1_refillSprings_2 mx hA FU 0 h r4 er4 (fun xx_ e => ?_))
  subst e
  exact PW.vret cx hrt qX1_refillSprings_39 (le_wv hf)
set_option maxRecDepth 20000 in
theorem lX1_pass_22 {g : GT} {X : XT} {ex : Bool} {post : Option Value → List Shp → Hp → Prop} {sh : List Shp} (mx : Mx g X mX1_pass 3 0 0) {a : Nat} (hA : AS sh a) (d1 : Int32) (d3 : Int32) : ∀ (n : Nat) (v2 : Int32) (v4 : Int32) (h : Hp) (r : Int32 × Hp) (hf : A_pass_L22 a n v2 v4 h = some r) (kx : ∀ (x2 : Int32) (h1 : Hp), r = (x2, h1) → PW g X ex (QE g X ex post 0 0) 0 0 sh h1 46 [some (.ref (gB g + a)), some (.int d1), some (.int x2), some (.int d3), none] []), PW g X ex (QE g X ex post 0 0) 0 0 sh h 22 [some (.ref (gB g + a)), some (.int d1), some (.int v2), some (.int d3), some (.int v4)] [] := by
  have mx0 := mx
  obtain ⟨cx, hR, hml, hrt, -⟩ := mx0
  have cx : Cx g X RX1 cX1_pass := cx
  have hrt : X.2.2.2.2.2.2.2.1.sig.returnType = (some .int) := hrt
  have hi2 : 2 < X.2.2.2.2.2.2.2.2.maxLocals := by rw [hml]; exact Nat.le_of_ble_eq_true rfl
  have hi3 : 3 < X.2.2.2.2.2.2.2.2.maxLocals := by rw [hml]; exact Nat.le_of_ble_eq_true rfl
  have hi4 : 4 < X.2.2.2.2.2.2.2.2.maxLocals := by rw [hml]; exact Nat.le_of_ble_eq_true rfl
  intro n
  induction n with
  | zero =>
    intro v2 v4 h r hf kx
    cases hf
  | succ n ih =>
    intro v2 v4 h r hf kx
    unfold A_pass_L22 at hf
    refine PW.iload cx qX1_pass_22 rfl ?_
    refine PW.aload_n cx qX1_pass_24 rfl ?_
    refine PW.getf (t := (0, 0)) (v := .int (rd h a 5)) cx qX1_pass_25 (hA).1 rfl flX1_58 rfl ?_
    refine PW.icmp_ge cx qX1_pass_28 hf (fun hf => ?_) (fun hf => ?_)
    · exact PW.locs (Lsub.keep (Lsub.keep (Lsub.keep (Lsub.keep (Lsub.drop Lsub.nil))))) (kx v2 h (Option.some.inj hf).symm)
    · refine PW.iload_n cx qX1_pass_31 rfl ?_
      refine PW.aload_n cx qX1_pass_32 rfl ?_
      refine PW.iload cx qX1_pass_33 rfl ?_
      refine PW.callVWIc (As := [.int v4]) (st := [.int v2]) cx hR qX1_pass_35 klX1_143 mvX1_burn (hA).1 rfl rfl rfl rfl (Nat.le_of_ble_eq_true rfl) (Nat.le_of_ble_eq_true rfl) (Nat.le_of_ble_eq_true rfl) (Nat.zero_le _) (Nat.zero_le _) hf sne (fun t e => ctX1_burn hA h v4 t e) (fun t2 h3 hf => ?_)
      refine PW.iadd cx qX1_pass_38 ?_
      refine PW.istore_n (L' := [some (.ref (gB g + a)), some (.int d1), some (.int (v2 + t2)), some (.int d3), some (.int v4)]) cx qX1_pass_39 hi2 rfl rfl ?_
      refine PW.iinc (v := 1) (L' := [some (.ref (gB g + a)), some (.int d1), some (.int (v2 + t2)), some (.int d3), some (.int (v4 + 1))]) cx qX1_pass_40 rfl rfl hi4 rfl rfl ?_
      refine PW.goto cx qX1_pass_43 ?_
      exact PW.locs (Lsub.keep (Lsub.keep (Lsub.keep (Lsub.keep (Lsub.keep Lsub.nil))))) (ih (v2 + t2) (v4 + 1) h3 _ hf kx)
set_option maxRecDepth 20000 in
theorem lX1_pass_4 {g : GT} {X : XT} {ex : Bool} {post : Option Value → List Shp → Hp → Prop} {sh : List Shp} (mx : Mx g X mX1_pass 3 0 0) {a : Nat} (hA : AS sh a) (c1 : Int32) : ∀ (n : Nat) (v2 : Int32) (v3 : Int32) (h : Hp) (r : Int32 × Hp) (hf : A_pass_L4 a c1 n v2 v3 h = some r) (kx : ∀ (x2 : Int32) (h1 : Hp), r = (x2, h1) → PW g X ex (QE g X ex post 0 0) 0 0 sh h1 56 [some (.ref (gB g + a)), some (.int c1), some (.int x2), none, none] []), PW g X ex (QE g X ex post 0 0) 0 0 sh h 4 [some (.ref (gB g + a)), some (.int c1), some (.int v2), some (.int v3), none] [] := by
  have mx0 := mx
  obtain ⟨cx, hR, hml, hrt, -⟩ := mx0
  have cx : Cx g X RX1 cX1_pass := cx
  have hrt : X.2.2.2.2.2.2.2.1.sig.returnType = (some .int) := hrt
  have hi2 : 2 < X.2.2.2.2.2.2.2.2.maxLocals := by rw [hml]; exact Nat.le_of_ble_eq_true rfl
  have hi3 : 3 < X.2.2.2.2.2.2.2.2.maxLocals := by rw [hml]; exact Nat.le_of_ble_eq_true rfl
  have hi4 : 4 < X.2.2.2.2.2.2.2.2.maxLocals := by rw [hml]; exact Nat.le_of_ble_eq_true rfl
  intro n
  induction n with
  | zero =>
    intro v2 v3 h r hf kx
    cases hf
  | succ n ih =>
    intro v2 v3 h r hf kx
    unfold A_pass_L4 at hf
    refine PW.iload_n cx qX1_pass_4 rfl ?_
    refine PW.iload_n cx qX1_pass_5 rfl ?_
    refine PW.icmp_ge cx qX1_pass_6 hf (fun hf => ?_) (fun hf => ?_)
    · exact PW.locs (Lsub.keep (Lsub.keep (Lsub.keep (Lsub.drop (Lsub.drop Lsub.nil))))) (kx v2 h (Option.some.inj hf).symm)
    · refine PW.aload_n cx qX1_pass_9 rfl ?_
      refine PW.dup cx qX1_pass_10 rfl ?_
      refine PW.getf (t := (0, 0)) (v := .int (rd h a 0)) cx qX1_pass_11 (hA).1 rfl flX1_42 rfl ?_
      refine PW.iconst (v := 1) cx qX1_pass_14 rfl ?_
      refine PW.iadd cx qX1_pass_15 ?_
      refine PW.putiN cx qX1_pass_16 (hA).1 rfl fpX1_42 hf (fun h1 hf => ?_)
      refine PW.iconst (v := 0) cx qX1_pass_19 rfl ?_
      refine PW.istore (L' := [some (.ref (gB g + a)), some (.int c1), some (.int v2), some (.int v3), some (.int 0)]) cx qX1_pass_20 hi4 rfl rfl ?_
      obtain ⟨r4, er4, hf⟩ := bndO hf sne
      refine PW.locs (Lsub.keep (Lsub.keep (Lsub.keep (Lsub.keep (Lsub.keep Lsub.nil))))) (lX1_pass_22 mx hA c1 v3 FU v2 0 h1 r4 er4 (fun x2_5 h6 e => ?_))
      subst e
      refine PW.aload_n cx qX1_pass_46 rfl ?_
      refine PW.callVWV (As := []) (st := []) cx hR qX1_pass_47 klX1_146 mvX1_refillSprings (hA).1 rfl rfl rfl rfl (Nat.le_of_ble_eq_true rfl) (Nat.le_of_ble_eq_true rfl) (Nat.le_of_ble_eq_true rfl) (Nat.zero_le _) (Nat.zero_le _) hf sne (fun t e => ctX1_refillSprings hA h6 t e) (fun h8 hf => ?_)
      refine PW.iinc (v := 1) (L' := [some (.ref (gB g + a)), some (.int c1), some (.int x2_5), some (.int (v3 + 1)), none]) cx qX1_pass_50 rfl rfl hi3 rfl rfl ?_
      refine PW.goto cx qX1_pass_53 ?_
      exact PW.locs (Lsub.keep (Lsub.keep (Lsub.keep (Lsub.keep (Lsub.drop Lsub.nil))))) (ih x2_5 (v3 + 1) h8 _ hf kx)
set_option maxRecDepth 20000 in
theorem ctX1_pass {g : GT} {ex : Bool} {sh : List Shp} {a : Nat} (hA : AS sh a) (h : Hp) (p1 : Int32) (r0 : Int32 × Hp) (hf : A_pass h a p1 = some r0) : Ct g mX1_pass 3 0 0 ex [.ref (gB g + a), .int p1] sh h (PE (some (.int r0.1)) sh r0.2) := by
  refine Ct.of (L := [some (.ref (gB g + a)), some (.int p1), none, none, none]) (by decide) (by intro w hw; simp only [List.mem_cons, List.not_mem_nil, or_false] at hw; rcases hw with rfl | rfl <;> rfl) (Nat.le_of_ble_eq_true rfl) rfl (fun X mx => ?_)
  have mx0 := mx
  obtain ⟨cx, hR, hml, hrt, -⟩ := mx0
  have cx : Cx g X RX1 cX1_pass := cx
  have hrt : X.2.2.2.2.2.2.2.1.sig.returnType = (some .int) := hrt
  have hi2 : 2 < X.2.2.2.2.2.2.2.2.maxLocals := by rw [hml]; exact Nat.le_of_ble_eq_true rfl
  have hi3 : 3 < X.2.2.2.2.2.2.2.2.maxLocals := by rw [hml]; exact Nat.le_of_ble_eq_true rfl
  have hi4 : 4 < X.2.2.2.2.2.2.2.2.maxLocals := by rw [hml]; exact Nat.le_of_ble_eq_true rfl
  unfold A_pass at hf
  refine PW.iconst (v := 0) cx qX1_pass_0 rfl ?_
  refine PW.istore_n (L' := [some (.ref (gB g + a)), some (.int p1), some (.int 0), none, none]) cx qX1_pass_1 hi2 rfl rfl ?_
  refine PW.iconst (v := 0) cx qX1_pass_2 rfl ?_
  refine PW.istore_n (L' := [some (.ref (gB g + a)), some (.int p1), some (.int 0), some (.int 0), none]) cx qX1_pass_3 hi3 rfl rfl ?_
  obtain ⟨r9, er9, hf⟩ := bndO hf sne
  refine PW.locs (Lsub.keep (Lsub.keep (Lsub.keep (Lsub.keep (Lsub.drop Lsub.nil))))) (lX1_pass_4 mx hA p1 FU 0 0 h r9 er9 (fun x2_10 h11 e => ?_))
  subst e
  refine PW.iload_n cx qX1_pass_56 rfl ?_
  exact PW.iret cx hrt qX1_pass_57 (le_wi hf)
set_option maxRecDepth 20000 in
theorem lX1_allFat_4 {g : GT} {X : XT} {ex : Bool} {post : Option Value → List Shp → Hp → Prop} {sh : List Shp} (mx : Mx g X mX1_allFat 0 0 0) {a : Nat} (hA : AS sh a) (h : Hp) : ∀ (n : Nat) (v1 : Int32) (v2 : Int32) (r : Int32) (hf : A_allFat_L4 h a n v1 v2 = some r) (kx : ∀ (x1 : Int32), r = x1 → PW g X ex (QE g X ex post 0 0) 0 0 sh h 27 [some (.ref (gB g + a)), some (.int x1), none] []), PW g X ex (QE g X ex post 0 0) 0 0 sh h 4 [some (.ref (gB g + a)), some (.int v1), some (.int v2)] [] := by
  have mx0 := mx
  obtain ⟨cx, hR, hml, hrt, -⟩ := mx0
  have cx : Cx g X RX1 cX1_allFat := cx
  have hrt : X.2.2.2.2.2.2.2.1.sig.returnType = (some .int) := hrt
  have hi1 : 1 < X.2.2.2.2.2.2.2.2.maxLocals := by rw [hml]; exact Nat.le_of_ble_eq_true rfl
  have hi2 : 2 < X.2.2.2.2.2.2.2.2.maxLocals := by rw [hml]; exact Nat.le_of_ble_eq_true rfl
  intro n
  induction n with
  | zero =>
    intro v1 v2 r hf kx
    cases hf
  | succ n ih =>
    intro v1 v2 r hf kx
    unfold A_allFat_L4 at hf
    refine PW.iload_n cx qX1_allFat_4 rfl ?_
    refine PW.aload_n cx qX1_allFat_5 rfl ?_
    refine PW.getf (t := (0, 0)) (v := .int (rd h a 5)) cx qX1_allFat_6 (hA).1 rfl flX1_58 rfl ?_
    refine PW.icmp_ge cx qX1_allFat_9 hf (fun hf => ?_) (fun hf => ?_)
    · exact PW.locs (Lsub.keep (Lsub.keep (Lsub.drop Lsub.nil))) (kx v1 (Option.some.inj hf).symm)
    · refine PW.iload_n cx qX1_allFat_12 rfl ?_
      refine PW.aload_n cx qX1_allFat_13 rfl ?_
      refine PW.getf (t := (2, a + 5)) (v := .ref (gB g + (a + 5))) cx qX1_allFat_14 (hA).1 rfl flX1_24 rfl ?_
      refine PW.iload_n cx qX1_allFat_17 rfl ?_
      refine PW.iald cx qX1_allFat_18 (AS.r5 hA) hf sne (fun t1 hf => ?_)
      refine PW.iadd cx qX1_allFat_19 ?_
      refine PW.istore_n (L' := [some (.ref (gB g + a)), some (.int (v1 + t1)), some (.int v2)]) cx qX1_allFat_20 hi1 rfl rfl ?_
      refine PW.iinc (v := 1) (L' := [some (.ref (gB g + a)), some (.int (v1 + t1)), some (.int (v2 + 1))]) cx qX1_allFat_21 rfl rfl hi2 rfl rfl ?_
      refine PW.goto cx qX1_allFat_24 ?_
      exact PW.locs (Lsub.keep (Lsub.keep (Lsub.keep Lsub.nil))) (ih (v1 + t1) (v2 + 1) _ hf kx)
set_option maxRecDepth 20000 in
theorem ctX1_allFat {g : GT} {ex : Bool} {sh : List Shp} {a : Nat} (hA : AS sh a) (h : Hp) (r0 : Int32) (hf : A_allFat h a = some r0) : Ct g mX1_allFat 0 0 0 ex [.ref (gB g + a)] sh h (PE (some (.int r0)) sh h) := by
  refine Ct.of (L := [some (.ref (gB g + a)), none, none]) (by decide) (by intro w hw; simp only [List.mem_cons, List.not_mem_nil, or_false] at hw; rcases hw with rfl <;> rfl) (Nat.le_of_ble_eq_true rfl) rfl (fun X mx => ?_)
  have mx0 := mx
  obtain ⟨cx, hR, hml, hrt, -⟩ := mx0
  have cx : Cx g X RX1 cX1_allFat := cx
  have hrt : X.2.2.2.2.2.2.2.1.sig.returnType = (some .int) := hrt
  have hi1 : 1 < X.2.2.2.2.2.2.2.2.maxLocals := by rw [hml]; exact Nat.le_of_ble_eq_true rfl
  have hi2 : 2 < X.2.2.2.2.2.2.2.2.maxLocals := by rw [hml]; exact Nat.le_of_ble_eq_true rfl
  unfold A_allFat at hf
  refine PW.iconst (v := 0) cx qX1_allFat_0 rfl ?_
  refine PW.istore_n (L' := [some (.ref (gB g + a)), some (.int 0), none]) cx qX1_allFat_1 hi1 rfl rfl ?_
  refine PW.iconst (v := 0) cx qX1_allFat_2 rfl ?_
  refine PW.istore_n (L' := [some (.ref (gB g + a)), some (.int 0), some (.int 0)]) cx qX1_allFat_3 hi2 rfl rfl ?_
  obtain ⟨r2, er2, hf⟩ := bndO hf sne
  refine PW.locs (Lsub.keep (Lsub.keep (Lsub.keep Lsub.nil))) (lX1_allFat_4 mx hA h FU 0 0 r2 er2 (fun xx_ e => ?_))
  subst e
  refine PW.iload_n cx qX1_allFat_27 rfl ?_
  exact PW.iret cx hrt qX1_allFat_28 (le_ri hf)
set_option maxRecDepth 20000 in
theorem lX1_clipsInState_4 {g : GT} {X : XT} {ex : Bool} {post : Option Value → List Shp → Hp → Prop} {sh : List Shp} (mx : Mx g X mX1_clipsInState 0 0 0) {a : Nat} (hA : AS sh a) (h : Hp) (c1 : Int32) : ∀ (n : Nat) (v2 : Int32) (v3 : Int32) (r : Int32) (hf : A_clipsInState_L4 h a c1 n v2 v3 = some r) (kx : ∀ (x2 : Int32), r = x2 → PW g X ex (QE g X ex post 0 0) 0 0 sh h 34 [some (.ref (gB g + a)), some (.int c1), some (.int x2), none] []), PW g X ex (QE g X ex post 0 0) 0 0 sh h 4 [some (.ref (gB g + a)), some (.int c1), some (.int v2), some (.int v3)] [] := by
  have mx0 := mx
  obtain ⟨cx, hR, hml, hrt, -⟩ := mx0
  have cx : Cx g X RX1 cX1_clipsInState := cx
  have hrt : X.2.2.2.2.2.2.2.1.sig.returnType = (some .int) := hrt
  have hi2 : 2 < X.2.2.2.2.2.2.2.2.maxLocals := by rw [hml]; exact Nat.le_of_ble_eq_true rfl
  have hi3 : 3 < X.2.2.2.2.2.2.2.2.maxLocals := by rw [hml]; exact Nat.le_of_ble_eq_true rfl
  intro n
  induction n with
  | zero =>
    intro v2 v3 r hf kx
    cases hf
  | succ n ih =>
    intro v2 v3 r hf kx
    unfold A_clipsInState_L4 at hf
    refine PW.iload_n cx qX1_clipsInState_4 rfl ?_
    refine PW.aload_n cx qX1_clipsInState_5 rfl ?_
    refine PW.getf (t := (0, 0)) (v := .int (rd h a 5)) cx qX1_clipsInState_6 (hA).1 rfl flX1_58 rfl ?_
    refine PW.icmp_ge cx qX1_clipsInState_9 hf (fun hf => ?_) (fun hf => ?_)
    · exact PW.locs (Lsub.keep (Lsub.keep (Lsub.keep (Lsub.drop Lsub.nil)))) (kx v2 (Option.some.inj hf).symm)
    · refine PW.aload_n cx qX1_clipsInState_12 rfl ?_
      refine PW.getf (t := (2, a + 4)) (v := .ref (gB g + (a + 4))) cx qX1_clipsInState_13 (hA).1 rfl flX1_21 rfl ?_
      refine PW.iload_n cx qX1_clipsInState_16 rfl ?_
      refine PW.iald cx qX1_clipsInState_17 (AS.r4 hA) hf sne (fun t1 hf => ?_)
      refine PW.iload_n cx qX1_clipsInState_18 rfl ?_
      refine PW.icmp_ne cx qX1_clipsInState_19 hf (fun hf => ?_) (fun hf => ?_)
      · refine PW.iload_n cx qX1_clipsInState_22 rfl ?_
        refine PW.iconst (v := 1) cx qX1_clipsInState_23 rfl ?_
        refine PW.iload_n cx qX1_clipsInState_24 rfl ?_
        refine PW.ishl cx qX1_clipsInState_25 ?_
        refine PW.ior cx qX1_clipsInState_26 ?_
        refine PW.istore_n (L' := [some (.ref (gB g + a)), some (.int c1), some (.int (v2 ||| (1 <<< (v3 &&& 31)))), some (.int v3)]) cx qX1_clipsInState_27 hi2 rfl rfl ?_
        refine PW.iinc (v := 1) (L' := [some (.ref (gB g + a)), some (.int c1), some (.int (v2 ||| (1 <<< (v3 &&& 31)))), some (.int (v3 + 1))]) cx qX1_clipsInState_28 rfl rfl hi3 rfl rfl ?_
        refine PW.goto cx qX1_clipsInState_31 ?_
        exact PW.locs (Lsub.keep (Lsub.keep (Lsub.keep (Lsub.keep Lsub.nil)))) (ih (v2 ||| (1 <<< (v3 &&& 31))) (v3 + 1) _ hf kx)
      · refine PW.iinc (v := 1) (L' := [some (.ref (gB g + a)), some (.int c1), some (.int v2), some (.int (v3 + 1))]) cx qX1_clipsInState_28 rfl rfl hi3 rfl rfl ?_
        refine PW.goto cx qX1_clipsInState_31 ?_
        exact PW.locs (Lsub.keep (Lsub.keep (Lsub.keep (Lsub.keep Lsub.nil)))) (ih v2 (v3 + 1) _ hf kx)
set_option maxRecDepth 20000 in
theorem ctX1_clipsInState {g : GT} {ex : Bool} {sh : List Shp} {a : Nat} (hA : AS sh a) (h : Hp) (p1 : Int32) (r0 : Int32) (hf : A_clipsInState h a p1 = some r0) : Ct g mX1_clipsInState 0 0 0 ex [.ref (gB g + a), .int p1] sh h (PE (some (.int r0)) sh h) := by
  refine Ct.of (L := [some (.ref (gB g + a)), some (.int p1), none, none]) (by decide) (by intro w hw; simp only [List.mem_cons, List.not_mem_nil, or_false] at hw; rcases hw with rfl | rfl <;> rfl) (Nat.le_of_ble_eq_true rfl) rfl (fun X mx => ?_)
  have mx0 := mx
  obtain ⟨cx, hR, hml, hrt, -⟩ := mx0
  have cx : Cx g X RX1 cX1_clipsInState := cx
  have hrt : X.2.2.2.2.2.2.2.1.sig.returnType = (some .int) := hrt
  have hi2 : 2 < X.2.2.2.2.2.2.2.2.maxLocals := by rw [hml]; exact Nat.le_of_ble_eq_true rfl
  have hi3 : 3 < X.2.2.2.2.2.2.2.2.maxLocals := by rw [hml]; exact Nat.le_of_ble_eq_true rfl
  unfold A_clipsInState at hf
  refine PW.iconst (v := 0) cx qX1_clipsInState_0 rfl ?_
  refine PW.istore_n (L' := [some (.ref (gB g + a)), some (.int p1), some (.int 0), none]) cx qX1_clipsInState_1 hi2 rfl rfl ?_
  refine PW.iconst (v := 0) cx qX1_clipsInState_2 rfl ?_
  refine PW.istore_n (L' := [some (.ref (gB g + a)), some (.int p1), some (.int 0), some (.int 0)]) cx qX1_clipsInState_3 hi3 rfl rfl ?_
  obtain ⟨r2, er2, hf⟩ := bndO hf sne
  refine PW.locs (Lsub.keep (Lsub.keep (Lsub.keep (Lsub.keep Lsub.nil)))) (lX1_clipsInState_4 mx hA h p1 FU 0 0 r2 er2 (fun xx_ e => ?_))
  subst e
  refine PW.iload_n cx qX1_clipsInState_34 rfl ?_
  exact PW.iret cx hrt qX1_clipsInState_35 (le_ri hf)
set_option maxRecDepth 20000 in
theorem lX1_bedsWith_15 {g : GT} {X : XT} {ex : Bool} {post : Option Value → List Shp → Hp → Prop} {sh : List Shp} (mx : Mx g X mX1_bedsWith 1 0 0) {a : Nat} (hA : AS sh a) (h : Hp) (c1 : Int32) (c3 : Int32) : ∀ (n : Nat) (v2 : Int32) (v4 : Int32) (r : Int32) (hf : A_bedsWith_L15 h a c1 c3 n v2 v4 = some r) (kx : ∀ (x2 : Int32), r = x2 → PW g X ex (QE g X ex post 0 0) 0 0 sh h 46 [some (.ref (gB g + a)), some (.int c1), some (.int x2), some (.int c3), none] []), PW g X ex (QE g X ex post 0 0) 0 0 sh h 15 [some (.ref (gB g + a)), some (.int c1), some (.int v2), some (.int c3), some (.int v4)] [] := by
  have mx0 := mx
  obtain ⟨cx, hR, hml, hrt, -⟩ := mx0
  have cx : Cx g X RX1 cX1_bedsWith := cx
  have hrt : X.2.2.2.2.2.2.2.1.sig.returnType = (some .int) := hrt
  have hi2 : 2 < X.2.2.2.2.2.2.2.2.maxLocals := by rw [hml]; exact Nat.le_of_ble_eq_true rfl
  have hi3 : 3 < X.2.2.2.2.2.2.2.2.maxLocals := by rw [hml]; exact Nat.le_of_ble_eq_true rfl
  have hi4 : 4 < X.2.2.2.2.2.2.2.2.maxLocals := by rw [hml]; exact Nat.le_of_ble_eq_true rfl
  intro n
  induction n with
  | zero =>
    intro v2 v4 r hf kx
    cases hf
  | succ n ih =>
    intro v2 v4 r hf kx
    unfold A_bedsWith_L15 at hf
    refine PW.iload cx qX1_bedsWith_15 rfl ?_
    refine PW.aload_n cx qX1_bedsWith_17 rfl ?_
    refine PW.getf (t := (2, a + 7)) (v := .ref (gB g + (a + 7))) cx qX1_bedsWith_18 (hA).1 rfl flX1_30 rfl ?_
    refine PW.iload_n cx qX1_bedsWith_21 rfl ?_
    refine PW.iald cx qX1_bedsWith_22 (AS.r7 hA) hf sne (fun t1 hf => ?_)
    refine PW.icmp_ge cx qX1_bedsWith_23 hf (fun hf => ?_) (fun hf => ?_)
    · exact PW.locs (Lsub.keep (Lsub.keep (Lsub.keep (Lsub.keep (Lsub.drop Lsub.nil))))) (kx v2 (Option.some.inj hf).symm)
    · refine PW.aload_n cx qX1_bedsWith_26 rfl ?_
      refine PW.iload_n cx qX1_bedsWith_27 rfl ?_
      refine PW.iload cx qX1_bedsWith_28 rfl ?_
      refine PW.callVRI (As := [.int c3, .int v4]) (st := []) cx hR qX1_bedsWith_30 klX1_115 mvX1_inBed (hA).1 rfl rfl rfl rfl (Nat.le_of_ble_eq_true rfl) (Nat.le_of_ble_eq_true rfl) (Nat.le_of_ble_eq_true rfl) (Nat.zero_le _) (Nat.zero_le _) hf sne (fun t e => ctX1_inBed hA h c3 v4 t e) (fun t2 hf => ?_)
      refine PW.iload_n cx qX1_bedsWith_33 rfl ?_
      refine PW.icmp_ne cx qX1_bedsWith_34 hf (fun hf => ?_) (fun hf => ?_)
      · refine PW.iinc (v := 1) (L' := [some (.ref (gB g + a)), some (.int c1), some (.int (v2 + 1)), some (.int c3), some (.int v4)]) cx qX1_bedsWith_37 rfl rfl hi2 rfl rfl ?_
        refine PW.iinc (v := 1) (L' := [some (.ref (gB g + a)), some (.int c1), some (.int (v2 + 1)), some (.int c3), some (.int (v4 + 1))]) cx qX1_bedsWith_40 rfl rfl hi4 rfl rfl ?_
        refine PW.goto cx qX1_bedsWith_43 ?_
        exact PW.locs (Lsub.keep (Lsub.keep (Lsub.keep (Lsub.keep (Lsub.keep Lsub.nil))))) (ih (v2 + 1) (v4 + 1) _ hf kx)
      · refine PW.iinc (v := 1) (L' := [some (.ref (gB g + a)), some (.int c1), some (.int v2), some (.int c3), some (.int (v4 + 1))]) cx qX1_bedsWith_40 rfl rfl hi4 rfl rfl ?_
        refine PW.goto cx qX1_bedsWith_43 ?_
        exact PW.locs (Lsub.keep (Lsub.keep (Lsub.keep (Lsub.keep (Lsub.keep Lsub.nil))))) (ih v2 (v4 + 1) _ hf kx)
set_option maxRecDepth 20000 in
theorem lX1_bedsWith_4 {g : GT} {X : XT} {ex : Bool} {post : Option Value → List Shp → Hp → Prop} {sh : List Shp} (mx : Mx g X mX1_bedsWith 1 0 0) {a : Nat} (hA : AS sh a) (h : Hp) (c1 : Int32) : ∀ (n : Nat) (v2 : Int32) (v3 : Int32) (r : Int32) (hf : A_bedsWith_L4 h a c1 n v2 v3 = some r) (kx : ∀ (x2 : Int32), r = x2 → PW g X ex (QE g X ex post 0 0) 0 0 sh h 52 [some (.ref (gB g + a)), some (.int c1), some (.int x2), none, none] []), PW g X ex (QE g X ex post 0 0) 0 0 sh h 4 [some (.ref (gB g + a)), some (.int c1), some (.int v2), some (.int v3), none] [] := by
  have mx0 := mx
  obtain ⟨cx, hR, hml, hrt, -⟩ := mx0
  have cx : Cx g X RX1 cX1_bedsWith := cx
  have hrt : X.2.2.2.2.2.2.2.1.sig.returnType = (some .int) := hrt
  have hi2 : 2 < X.2.2.2.2.2.2.2.2.maxLocals := by rw [hml]; exact Nat.le_of_ble_eq_true rfl
  have hi3 : 3 < X.2.2.2.2.2.2.2.2.maxLocals := by rw [hml]; exact Nat.le_of_ble_eq_true rfl
  have hi4 : 4 < X.2.2.2.2.2.2.2.2.maxLocals := by rw [hml]; exact Nat.le_of_ble_eq_true rfl
  intro n
  induction n with
  | zero =>
    intro v2 v3 r hf kx
    cases hf
  | succ n ih =>
    intro v2 v3 r hf kx
    unfold A_bedsWith_L4 at hf
    refine PW.iload_n cx qX1_bedsWith_4 rfl ?_
    refine PW.aload_n cx qX1_bedsWith_5 rfl ?_
    refine PW.getf (t := (0, 0)) (v := .int (rd h a 12)) cx qX1_bedsWith_6 (hA).1 rfl flX1_67 rfl ?_
    refine PW.icmp_ge cx qX1_bedsWith_9 hf (fun hf => ?_) (fun hf => ?_)
    · exact PW.locs (Lsub.keep (Lsub.keep (Lsub.keep (Lsub.drop (Lsub.drop Lsub.nil))))) (kx v2 (Option.some.inj hf).symm)
    · refine PW.iconst (v := 0) cx qX1_bedsWith_12 rfl ?_
      refine PW.istore (L' := [some (.ref (gB g + a)), some (.int c1), some (.int v2), some (.int v3), some (.int 0)]) cx qX1_bedsWith_13 hi4 rfl rfl ?_
      obtain ⟨r3, er3, hf⟩ := bndO hf sne
      refine PW.locs (Lsub.keep (Lsub.keep (Lsub.keep (Lsub.keep (Lsub.keep Lsub.nil))))) (lX1_bedsWith_15 mx hA h c1 v3 FU v2 0 r3 er3 (fun xx_ e => ?_))
      subst e
      refine PW.iinc (v := 1) (L' := [some (.ref (gB g + a)), some (.int c1), some (.int r3), some (.int (v3 + 1)), none]) cx qX1_bedsWith_46 rfl rfl hi3 rfl rfl ?_
      refine PW.goto cx qX1_bedsWith_49 ?_
      exact PW.locs (Lsub.keep (Lsub.keep (Lsub.keep (Lsub.keep (Lsub.drop Lsub.nil))))) (ih r3 (v3 + 1) _ hf kx)
set_option maxRecDepth 20000 in
theorem ctX1_bedsWith {g : GT} {ex : Bool} {sh : List Shp} {a : Nat} (hA : AS sh a) (h : Hp) (p1 : Int32) (r0 : Int32) (hf : A_bedsWith h a p1 = some r0) : Ct g mX1_bedsWith 1 0 0 ex [.ref (gB g + a), .int p1] sh h (PE (some (.int r0)) sh h) := by
  refine Ct.of (L := [some (.ref (gB g + a)), some (.int p1), none, none, none]) (by decide) (by intro w hw; simp only [List.mem_cons, List.not_mem_nil, or_false] at hw; rcases hw with rfl | rfl <;> rfl) (Nat.le_of_ble_eq_true rfl) rfl (fun X mx => ?_)
  have mx0 := mx
  obtain ⟨cx, hR, hml, hrt, -⟩ := mx0
  have cx : Cx g X RX1 cX1_bedsWith := cx
  have hrt : X.2.2.2.2.2.2.2.1.sig.returnType = (some .int) := hrt
  have hi2 : 2 < X.2.2.2.2.2.2.2.2.maxLocals := by rw [hml]; exact Nat.le_of_ble_eq_true rfl
  have hi3 : 3 < X.2.2.2.2.2.2.2.2.maxLocals := by rw [hml]; exact Nat.le_of_ble_eq_true rfl
  have hi4 : 4 < X.2.2.2.2.2.2.2.2.maxLocals := by rw [hml]; exact Nat.le_of_ble_eq_true rfl
  unfold A_bedsWith at hf
  refine PW.iconst (v := 0) cx qX1_bedsWith_0 rfl ?_
  refine PW.istore_n (L' := [some (.ref (gB g + a)), some (.int p1), some (.int 0), none, none]) cx qX1_bedsWith_1 hi2 rfl rfl ?_
  refine PW.iconst (v := 0) cx qX1_bedsWith_2 rfl ?_
  refine PW.istore_n (L' := [some (.ref (gB g + a)), some (.int p1), some (.int 0), some (.int 0), none]) cx qX1_bedsWith_3 hi3 rfl rfl ?_
  obtain ⟨r4, er4, hf⟩ := bndO hf sne
  refine PW.locs (Lsub.keep (Lsub.keep (Lsub.keep (Lsub.keep (Lsub.drop Lsub.nil))))) (lX1_bedsWith_4 mx hA h p1 FU 0 0 r4 er4 (fun xx_ e => ?_))
  subst e
  refine PW.iload_n cx qX1_bedsWith_52 rfl ?_
  exact PW.iret cx hrt qX1_bedsWith_53 (le_ri hf)
set_option maxRecDepth 20000 in
theorem ctX1_isFound {g : GT} {ex : Bool} {sh : List Shp} {a : Nat} (hA : AS sh a) (h : Hp) (p1 : Int32) (r0 : Bool) (hf : A_isFound h a p1 = some r0) : Ct g mX1_isFound 2 0 0 ex [.ref (gB g + a), .int p1] sh h (PE (some (.int (b2i r0))) sh h) := by
  refine Ct.of (L := [some (.ref (gB g + a)), some (.int p1), none, none, none]) (by decide) (by intro w hw; simp only [List.mem_cons, List.not_mem_nil, or_false] at hw; rcases hw with rfl | rfl <;> rfl) (Nat.le_of_ble_eq_true rfl) rfl (fun X mx => ?_)
  obtain ⟨cx, hR, hml, hrt, -⟩ := mx
  have cx : Cx g X RX1 cX1_isFound := cx
  have hrt : X.2.2.2.2.2.2.2.1.sig.returnType = (some .boolean) := hrt
  have hi2 : 2 < X.2.2.2.2.2.2.2.2.maxLocals := by rw [hml]; exact Nat.le_of_ble_eq_true rfl
  have hi3 : 3 < X.2.2.2.2.2.2.2.2.maxLocals := by rw [hml]; exact Nat.le_of_ble_eq_true rfl
  have hi4 : 4 < X.2.2.2.2.2.2.2.2.maxLocals := by rw [hml]; exact Nat.le_of_ble_eq_true rfl
  unfold A_isFound at hf
  refine PW.aload_n cx qX1_isFound_0 rfl ?_
  refine PW.iload_n cx qX1_isFound_1 rfl ?_
  refine PW.callVRI (As := [.int p1]) (st := []) cx hR qX1_isFound_2 klX1_128 mvX1_placeOf (hA).1 rfl rfl rfl rfl (Nat.le_of_ble_eq_true rfl) (Nat.le_of_ble_eq_true rfl) (Nat.le_of_ble_eq_true rfl) (Nat.zero_le _) (Nat.zero_le _) hf sne (fun t e => ctX1_placeOf hA h p1 t e) (fun t1 hf => ?_)
  refine PW.istore_n (L' := [some (.ref (gB g + a)), some (.int p1), some (.int t1), none, none]) cx qX1_isFound_5 hi2 rfl rfl ?_
  refine PW.iload_n cx qX1_isFound_6 rfl ?_
  refine PW.iconst (v := (-1)) cx qX1_isFound_7 rfl ?_
  refine PW.icmp_ne cx qX1_isFound_8 hf (fun hf => ?_) (fun hf => ?_)
  · refine PW.iconst (v := 0) cx qX1_isFound_11 rfl ?_
    exact PW.zret cx hrt nb0 qX1_isFound_12 (le_rz hf)
  · refine PW.iload_n cx qX1_isFound_13 rfl ?_
    refine PW.bipush (v := 9) cx qX1_isFound_14 rfl ?_
    refine PW.idivK cx qX1_isFound_16 (by decide) ?_
    refine PW.istore_n (L' := [some (.ref (gB g + a)), some (.int p1), some (.int t1), some (.int (t1 / 9)), none]) cx qX1_isFound_17 hi3 rfl rfl ?_
    refine PW.aload_n cx qX1_isFound_18 rfl ?_
    refine PW.iload_n cx qX1_isFound_19 rfl ?_
    refine PW.iload_n cx qX1_isFound_20 rfl ?_
    refine PW.callVRI (As := [.int p1, .int (t1 / 9)]) (st := []) cx hR qX1_isFound_21 klX1_137 mvX1_looks (hA).1 rfl rfl rfl rfl (Nat.le_of_ble_eq_true rfl) (Nat.le_of_ble_eq_true rfl) (Nat.le_of_ble_eq_true rfl) (Nat.zero_le _) (Nat.zero_le _) hf sne (fun t e => ctX1_looks hA h p1 (t1 / 9) t e) (fun t2 hf => ?_)
    refine PW.iconst (v := 1) cx qX1_isFound_24 rfl ?_
    refine PW.isub cx qX1_isFound_25 ?_
    refine PW.istore (L' := [some (.ref (gB g + a)), some (.int p1), some (.int t1), some (.int (t1 / 9)), some (.int (t2 - 1))]) cx qX1_isFound_26 hi4 rfl rfl ?_
    refine PW.aload_n cx qX1_isFound_28 rfl ?_
    refine PW.iload_n cx qX1_isFound_29 rfl ?_
    refine PW.aload_n cx qX1_isFound_30 rfl ?_
    refine PW.iload_n cx qX1_isFound_31 rfl ?_
    refine PW.iload_n cx qX1_isFound_32 rfl ?_
    refine PW.iload cx qX1_isFound_33 rfl ?_
    refine PW.callVRI (As := [.int p1, .int (t1 / 9), .int (t2 - 1)]) (st := [.int (t1 / 9), .ref (gB g + a)]) cx hR qX1_isFound_35 klX1_118 mvX1_wayBed (hA).1 rfl rfl rfl rfl (Nat.le_of_ble_eq_true rfl) (Nat.le_of_ble_eq_true rfl) (Nat.le_of_ble_eq_true rfl) (Nat.zero_le _) (Nat.zero_le _) hf sne (fun t e => ctX1_wayBed hA h p1 (t1 / 9) (t2 - 1) t e) (fun t3 hf => ?_)
    refine PW.callVRI (As := [.int (t1 / 9), .int t3]) (st := []) cx hR qX1_isFound_38 klX1_115 mvX1_inBed (hA).1 rfl rfl rfl rfl (Nat.le_of_ble_eq_true rfl) (Nat.le_of_ble_eq_true rfl) (Nat.le_of_ble_eq_true rfl) (Nat.zero_le _) (Nat.zero_le _) hf sne (fun t e => ctX1_inBed hA h (t1 / 9) t3 t e) (fun t4 hf => ?_)
    refine PW.iload_n cx qX1_isFound_41 rfl ?_
    refine PW.icmp_ne cx qX1_isFound_42 hf (fun hf => ?_) (fun hf => ?_)
    · refine PW.iconst (v := 1) cx qX1_isFound_45 rfl ?_
      refine PW.goto cx qX1_isFound_46 ?_
      exact PW.zret cx hrt nb1 qX1_isFound_50 (le_rz hf)
    · refine PW.iconst (v := 0) cx qX1_isFound_49 rfl ?_
      exact PW.zret cx hrt nb0 qX1_isFound_50 (le_rz hf)
set_option maxRecDepth 20000 in
theorem ctJ6_bitCount_0f7a4 {g : GT} {ex : Bool} {sh : List Shp} (h : Hp) (p1 : Int32) (r0 : Int32) (hf : J_bitCount p1 = some r0) : Ct g mJ6_bitCount_0f7a4 0 0 0 ex [.int p1] sh h (PE (some (.int r0)) sh h) := by
  refine Ct.of (L := [some (.int p1)]) (by decide) (by intro w hw; simp only [List.mem_cons, List.not_mem_nil, or_false] at hw; rcases hw with rfl <;> rfl) (Nat.le_of_ble_eq_true rfl) rfl (fun X mx => ?_)
  obtain ⟨cx, hR, hml, hrt, -⟩ := mx
  have cx : Cx g X RJ6 cJ6_bitCount_0f7a4 := cx
  have hrt : X.2.2.2.2.2.2.2.1.sig.returnType = (some .int) := hrt
  have hi0 : 0 < X.2.2.2.2.2.2.2.2.maxLocals := by rw [hml]; exact Nat.le_of_ble_eq_true rfl
  unfold J_bitCount at hf
  refine PW.iload_n cx qJ6_bitCount_0f7a4_0 rfl ?_
  refine PW.iload_n cx qJ6_bitCount_0f7a4_1 rfl ?_
  refine PW.iconst (v := 1) cx qJ6_bitCount_0f7a4_2 rfl ?_
  refine PW.iushr cx qJ6_bitCount_0f7a4_3 ?_
  refine PW.ldc_w (v := 1431655765) cx qJ6_bitCount_0f7a4_4 kcJ6_265 ?_
  refine PW.iand cx qJ6_bitCount_0f7a4_7 ?_
  refine PW.isub cx qJ6_bitCount_0f7a4_8 ?_
  refine PW.istore_n (L' := [some (.int (p1 - ((iush p1 1) &&& 1431655765)))]) cx qJ6_bitCount_0f7a4_9 hi0 rfl rfl ?_
  refine PW.iload_n cx qJ6_bitCount_0f7a4_10 rfl ?_
  refine PW.ldc_w (v := 858993459) cx qJ6_bitCount_0f7a4_11 kcJ6_266 ?_
  refine PW.iand cx qJ6_bitCount_0f7a4_14 ?_
  refine PW.iload_n cx qJ6_bitCount_0f7a4_15 rfl ?_
  refine PW.iconst (v := 2) cx qJ6_bitCount_0f7a4_16 rfl ?_
  refine PW.iushr cx qJ6_bitCount_0f7a4_17 ?_
  refine PW.ldc_w (v := 858993459) cx qJ6_bitCount_0f7a4_18 kcJ6_266 ?_
  refine PW.iand cx qJ6_bitCount_0f7a4_21 ?_
  refine PW.iadd cx qJ6_bitCount_0f7a4_22 ?_
  obtain ⟨w1, e_w1, hf⟩ := nm_split hf
  refine PW.istore_n (L' := [some (.int w1)]) cx qJ6_bitCount_0f7a4_23 hi0 rfl (by rw [e_w1]; rfl) ?_
  refine PW.iload_n cx qJ6_bitCount_0f7a4_24 rfl ?_
  refine PW.iload_n cx qJ6_bitCount_0f7a4_25 rfl ?_
  refine PW.iconst (v := 4) cx qJ6_bitCount_0f7a4_26 rfl ?_
  refine PW.iushr cx qJ6_bitCount_0f7a4_27 ?_
  refine PW.iadd cx qJ6_bitCount_0f7a4_28 ?_
  refine PW.ldc_w (v := 252645135) cx qJ6_bitCount_0f7a4_29 kcJ6_267 ?_
  refine PW.iand cx qJ6_bitCount_0f7a4_32 ?_
  refine PW.istore_n (L' := [some (.int ((w1 + (iush w1 4)) &&& 252645135))]) cx qJ6_bitCount_0f7a4_33 hi0 rfl rfl ?_
  refine PW.iload_n cx qJ6_bitCount_0f7a4_34 rfl ?_
  refine PW.iload_n cx qJ6_bitCount_0f7a4_35 rfl ?_
  refine PW.bipush (v := 8) cx qJ6_bitCount_0f7a4_36 rfl ?_
  refine PW.iushr cx qJ6_bitCount_0f7a4_38 ?_
  refine PW.iadd cx qJ6_bitCount_0f7a4_39 ?_
  obtain ⟨w2, e_w2, hf⟩ := nm_split hf
  refine PW.istore_n (L' := [some (.int w2)]) cx qJ6_bitCount_0f7a4_40 hi0 rfl (by rw [e_w2]; rfl) ?_
  refine PW.iload_n cx qJ6_bitCount_0f7a4_41 rfl ?_
  refine PW.iload_n cx qJ6_bitCount_0f7a4_42 rfl ?_
  refine PW.bipush (v := 16) cx qJ6_bitCount_0f7a4_43 rfl ?_
  refine PW.iushr cx qJ6_bitCount_0f7a4_45 ?_
  refine PW.iadd cx qJ6_bitCount_0f7a4_46 ?_
  refine PW.istore_n (L' := [some (.int (w2 + (iush w2 16)))]) cx qJ6_bitCount_0f7a4_47 hi0 rfl rfl ?_
  refine PW.iload_n cx qJ6_bitCount_0f7a4_48 rfl ?_
  refine PW.bipush (v := 63) cx qJ6_bitCount_0f7a4_49 rfl ?_
  refine PW.iand cx qJ6_bitCount_0f7a4_51 ?_
  exact PW.iret cx hrt qJ6_bitCount_0f7a4_52 (le_ri hf)
set_option maxRecDepth 20000 in
theorem lX1_faults_28 {g : GT} {X : XT} {ex : Bool} {post : Option Value → List Shp → Hp → Prop} {sh : List Shp} (mx : Mx g X mX1_faults 3 0 0) {a : Nat} (hA : AS sh a) (h : Hp) : ∀ (n : Nat) (v1 : Int32) (v2 : Int32) (r : Int32) (hf : A_faults_L28 h a n v1 v2 = some r) (kx : ∀ (x1 : Int32), r = x1 → PW g X ex (QE g X ex post 0 0) 0 0 sh h 72 [some (.ref (gB g + a)), some (.int x1), none] []), PW g X ex (QE g X ex post 0 0) 0 0 sh h 28 [some (.ref (gB g + a)), some (.int v1), some (.int v2)] [] := by
  have mx0 := mx
  obtain ⟨cx, hR, hml, hrt, -⟩ := mx0
  have cx : Cx g X RX1 cX1_faults := cx
  have hrt : X.2.2.2.2.2.2.2.1.sig.returnType = (some .int) := hrt
  have hi1 : 1 < X.2.2.2.2.2.2.2.2.maxLocals := by rw [hml]; exact Nat.le_of_ble_eq_true rfl
  have hi2 : 2 < X.2.2.2.2.2.2.2.2.maxLocals := by rw [hml]; exact Nat.le_of_ble_eq_true rfl
  intro n
  induction n with
  | zero =>
    intro v1 v2 r hf kx
    cases hf
  | succ n ih =>
    intro v1 v2 r hf kx
    unfold A_faults_L28 at hf
    refine PW.iload_n cx qX1_faults_28 rfl ?_
    refine PW.aload_n cx qX1_faults_29 rfl ?_
    refine PW.getf (t := (0, 0)) (v := .int (rd h a 5)) cx qX1_faults_30 (hA).1 rfl flX1_58 rfl ?_
    refine PW.icmp_ge cx qX1_faults_33 hf (fun hf => ?_) (fun hf => ?_)
    · exact PW.locs (Lsub.keep (Lsub.keep (Lsub.drop Lsub.nil))) (kx v1 (Option.some.inj hf).symm)
    · refine PW.aload_n cx qX1_faults_36 rfl ?_
      refine PW.getf (t := (2, a + 4)) (v := .ref (gB g + (a + 4))) cx qX1_faults_37 (hA).1 rfl flX1_21 rfl ?_
      refine PW.iload_n cx qX1_faults_40 rfl ?_
      refine PW.iald cx qX1_faults_41 (AS.r4 hA) hf sne (fun t2 hf => ?_)
      refine PW.iconst (v := 1) cx qX1_faults_42 rfl ?_
      refine PW.icmp_ne cx qX1_faults_43 hf (fun hf => ?_) (fun hf => ?_)
      · refine PW.aload_n cx qX1_faults_46 rfl ?_
        refine PW.iload_n cx qX1_faults_47 rfl ?_
        refine PW.callVRI (As := [.int v2]) (st := []) cx hR qX1_faults_48 klX1_156 mvX1_bedsWith (hA).1 rfl rfl rfl rfl (Nat.le_of_ble_eq_true rfl) (Nat.le_of_ble_eq_true rfl) (Nat.le_of_ble_eq_true rfl) (Nat.zero_le _) (Nat.zero_le _) hf sne (fun t e => ctX1_bedsWith hA h v2 t e) (fun t3 hf => ?_)
        refine PW.iconst (v := 1) cx qX1_faults_51 rfl ?_
        refine PW.icmp_ne cx qX1_faults_52 hf (fun hf => ?_) (fun hf => ?_)
        · refine PW.aload_n cx qX1_faults_55 rfl ?_
          refine PW.iload_n cx qX1_faults_56 rfl ?_
          refine PW.callVRB (As := [.int v2]) (st := []) cx hR qX1_faults_57 klX1_159 mvX1_isFound (hA).1 rfl rfl rfl rfl (Nat.le_of_ble_eq_true rfl) (Nat.le_of_ble_eq_true rfl) (Nat.le_of_ble_eq_true rfl) (Nat.zero_le _) (Nat.zero_le _) hf sne (fun t e => ctX1_isFound hA h v2 t e) (fun t4 hf => ?_)
          refine PW.if_ne cx qX1_faults_60 hf (fun hf => ?_) (fun hf => ?_)
          · refine PW.iinc (v := 1) (L' := [some (.ref (gB g + a)), some (.int (v1 + 1)), some (.int v2)]) cx qX1_faults_63 rfl rfl hi1 rfl rfl ?_
            refine PW.iinc (v := 1) (L' := [some (.ref (gB g + a)), some (.int (v1 + 1)), some (.int (v2 + 1))]) cx qX1_faults_66 rfl rfl hi2 rfl rfl ?_
            refine PW.goto cx qX1_faults_69 ?_
            exact PW.locs (Lsub.keep (Lsub.keep (Lsub.keep Lsub.nil))) (ih (v1 + 1) (v2 + 1) _ hf kx)
          · refine PW.iinc (v := 1) (L' := [some (.ref (gB g + a)), some (.int v1), some (.int (v2 + 1))]) cx qX1_faults_66 rfl rfl hi2 rfl rfl ?_
            refine PW.goto cx qX1_faults_69 ?_
            exact PW.locs (Lsub.keep (Lsub.keep (Lsub.keep Lsub.nil))) (ih v1 (v2 + 1) _ hf kx)
        · refine PW.iinc (v := 1) (L' := [some (.ref (gB g + a)), some (.int (v1 + 1)), some (.int v2)]) cx qX1_faults_63 rfl rfl hi1 rfl rfl ?_
          refine PW.iinc (v := 1) (L' := [some (.ref (gB g + a)), some (.int (v1 + 1)), some (.int (v2 + 1))]) cx qX1_faults_66 rfl rfl hi2 rfl rfl ?_
          refine PW.goto cx qX1_faults_69 ?_
          exact PW.locs (Lsub.keep (Lsub.keep (Lsub.keep Lsub.nil))) (ih (v1 + 1) (v2 + 1) _ hf kx)
      · refine PW.iinc (v := 1) (L' := [some (.ref (gB g + a)), some (.int v1), some (.int (v2 + 1))]) cx qX1_faults_66 rfl rfl hi2 rfl rfl ?_
        refine PW.goto cx qX1_faults_69 ?_
        exact PW.locs (Lsub.keep (Lsub.keep (Lsub.keep Lsub.nil))) (ih v1 (v2 + 1) _ hf kx)
set_option maxRecDepth 20000 in
theorem lX1_faults_74 {g : GT} {X : XT} {ex : Bool} {post : Option Value → List Shp → Hp → Prop} {sh : List Shp} (mx : Mx g X mX1_faults 3 0 0) {a : Nat} (hA : AS sh a) (h : Hp) : ∀ (n : Nat) (v1 : Int32) (v2 : Int32) (r : Int32) (hf : A_faults_L74 h a n v1 v2 = some r) (kx : ∀ (x1 : Int32), r = x1 → PW g X ex (QE g X ex post 0 0) 0 0 sh h 107 [some (.ref (gB g + a)), some (.int x1), none] []), PW g X ex (QE g X ex post 0 0) 0 0 sh h 74 [some (.ref (gB g + a)), some (.int v1), some (.int v2)] [] := by
  have mx0 := mx
  obtain ⟨cx, hR, hml, hrt, -⟩ := mx0
  have cx : Cx g X RX1 cX1_faults := cx
  have hrt : X.2.2.2.2.2.2.2.1.sig.returnType = (some .int) := hrt
  have hi1 : 1 < X.2.2.2.2.2.2.2.2.maxLocals := by rw [hml]; exact Nat.le_of_ble_eq_true rfl
  have hi2 : 2 < X.2.2.2.2.2.2.2.2.maxLocals := by rw [hml]; exact Nat.le_of_ble_eq_true rfl
  intro n
  induction n with
  | zero =>
    intro v1 v2 r hf kx
    cases hf
  | succ n ih =>
    intro v1 v2 r hf kx
    unfold A_faults_L74 at hf
    refine PW.iload_n cx qX1_faults_74 rfl ?_
    refine PW.aload_n cx qX1_faults_75 rfl ?_
    refine PW.getf (t := (0, 0)) (v := .int (rd h a 12)) cx qX1_faults_76 (hA).1 rfl flX1_67 rfl ?_
    refine PW.icmp_ge cx qX1_faults_79 hf (fun hf => ?_) (fun hf => ?_)
    · exact PW.locs (Lsub.keep (Lsub.keep (Lsub.drop Lsub.nil))) (kx v1 (Option.some.inj hf).symm)
    · refine PW.iload_n cx qX1_faults_82 rfl ?_
      refine PW.aload_n cx qX1_faults_83 rfl ?_
      refine PW.iload_n cx qX1_faults_84 rfl ?_
      refine PW.callVRI (As := [.int v2]) (st := [.int v1]) cx hR qX1_faults_85 klX1_131 mvX1_sleepersIn (hA).1 rfl rfl rfl rfl (Nat.le_of_ble_eq_true rfl) (Nat.le_of_ble_eq_true rfl) (Nat.le_of_ble_eq_true rfl) (Nat.zero_le _) (Nat.zero_le _) hf sne (fun t e => ctX1_sleepersIn hA h v2 t e) (fun t6 hf => ?_)
      refine PW.aload_n cx qX1_faults_88 rfl ?_
      refine PW.iconst (v := 1) cx qX1_faults_89 rfl ?_
      refine PW.callVRI (As := [.int 1]) (st := [.int t6, .int v1]) cx hR qX1_faults_90 klX1_163 mvX1_clipsInState (hA).1 rfl rfl rfl rfl (Nat.le_of_ble_eq_true rfl) (Nat.le_of_ble_eq_true rfl) (Nat.le_of_ble_eq_true rfl) (Nat.zero_le _) (Nat.zero_le _) hf sne (fun t e => ctX1_clipsInState hA h 1 t e) (fun t7 hf => ?_)
      refine PW.iconst (v := (-1)) cx qX1_faults_93 rfl ?_
      refine PW.ixor cx qX1_faults_94 ?_
      refine PW.iand cx qX1_faults_95 ?_
      refine PW.callSRI (As := [.int (t6 &&& (t7 ^^^ (-1)))]) (st := [.int v1]) cx hR qX1_faults_96 klX1_166 miJ6_bitCount_0f7a4 rfl rfl (Nat.le_of_ble_eq_true rfl) (Nat.le_of_ble_eq_true rfl) (Nat.le_of_ble_eq_true rfl) (Nat.zero_le _) (Nat.zero_le _) hf sne (fun t e => ctJ6_bitCount_0f7a4 h (t6 &&& (t7 ^^^ (-1))) t e) (fun t8 hf => ?_)
      refine PW.iadd cx qX1_faults_99 ?_
      refine PW.istore_n (L' := [some (.ref (gB g + a)), some (.int (v1 + t8)), some (.int v2)]) cx qX1_faults_100 hi1 rfl rfl ?_
      refine PW.iinc (v := 1) (L' := [some (.ref (gB g + a)), some (.int (v1 + t8)), some (.int (v2 + 1))]) cx qX1_faults_101 rfl rfl hi2 rfl rfl ?_
      refine PW.goto cx qX1_faults_104 ?_
      exact PW.locs (Lsub.keep (Lsub.keep (Lsub.keep Lsub.nil))) (ih (v1 + t8) (v2 + 1) _ hf kx)
set_option maxRecDepth 20000 in
theorem ctX1_faults {g : GT} {ex : Bool} {sh : List Shp} {a : Nat} (hA : AS sh a) (h : Hp) (r0 : Int32) (hf : A_faults h a = some r0) : Ct g mX1_faults 3 0 0 ex [.ref (gB g + a)] sh h (PE (some (.int r0)) sh h) := by
  refine Ct.of (L := [some (.ref (gB g + a)), none, none]) (by decide) (by intro w hw; simp only [List.mem_cons, List.not_mem_nil, or_false] at hw; rcases hw with rfl <;> rfl) (Nat.le_of_ble_eq_true rfl) rfl (fun X mx => ?_)
  have mx0 := mx
  obtain ⟨cx, hR, hml, hrt, -⟩ := mx0
  have cx : Cx g X RX1 cX1_faults := cx
  have hrt : X.2.2.2.2.2.2.2.1.sig.returnType = (some .int) := hrt
  have hi1 : 1 < X.2.2.2.2.2.2.2.2.maxLocals := by rw [hml]; exact Nat.le_of_ble_eq_true rfl
  have hi2 : 2 < X.2.2.2.2.2.2.2.2.maxLocals := by rw [hml]; exact Nat.le_of_ble_eq_true rfl
  unfold A_faults at hf
  refine PW.bipush (v := 40) cx qX1_faults_0 rfl ?_
  refine PW.aload_n cx qX1_faults_2 rfl ?_
  refine PW.getf (t := (0, 0)) (v := .int (rd h a 5)) cx qX1_faults_3 (hA).1 rfl flX1_58 rfl ?_
  refine PW.imul cx qX1_faults_6 ?_
  refine PW.aload_n cx qX1_faults_7 rfl ?_
  refine PW.getf (t := (0, 0)) (v := .int (rd h a 2)) cx qX1_faults_8 (hA).1 rfl flX1_49 rfl ?_
  refine PW.iadd cx qX1_faults_11 ?_
  refine PW.aload_n cx qX1_faults_12 rfl ?_
  refine PW.callVRI (As := []) (st := [.int ((40 * (rd h a 5)) + (rd h a 2))]) cx hR qX1_faults_13 klX1_149 mvX1_allFat (hA).1 rfl rfl rfl rfl (Nat.le_of_ble_eq_true rfl) (Nat.le_of_ble_eq_true rfl) (Nat.le_of_ble_eq_true rfl) (Nat.zero_le _) (Nat.zero_le _) hf sne (fun t e => ctX1_allFat hA h t e) (fun t1 hf => ?_)
  refine PW.isub cx qX1_faults_16 ?_
  refine PW.aload_n cx qX1_faults_17 rfl ?_
  refine PW.getf (t := (0, 0)) (v := .int (rd h a 3)) cx qX1_faults_18 (hA).1 rfl flX1_52 rfl ?_
  refine PW.isub cx qX1_faults_21 ?_
  refine PW.mabs cx hR qX1_faults_22 klX1_153 (Nat.le_of_ble_eq_true rfl) (Nat.le_of_ble_eq_true rfl) (Nat.zero_le _) (Nat.zero_le _) ?_
  refine PW.istore_n (L' := [some (.ref (gB g + a)), some (.int (abI ((((40 * (rd h a 5)) + (rd h a 2)) - t1) - (rd h a 3)))), none]) cx qX1_faults_25 hi1 rfl rfl ?_
  refine PW.iconst (v := 0) cx qX1_faults_26 rfl ?_
  refine PW.istore_n (L' := [some (.ref (gB g + a)), some (.int (abI ((((40 * (rd h a 5)) + (rd h a 2)) - t1) - (rd h a 3)))), some (.int 0)]) cx qX1_faults_27 hi2 rfl rfl ?_
  obtain ⟨r5, er5, hf⟩ := bndO hf sne
  refine PW.locs (Lsub.keep (Lsub.keep (Lsub.keep Lsub.nil))) (lX1_faults_28 mx hA h FU (abI ((((40 * (rd h a 5)) + (rd h a 2)) - t1) - (rd h a 3))) 0 r5 er5 (fun xx_ e => ?_))
  subst e
  refine PW.iconst (v := 0) cx qX1_faults_72 rfl ?_
  refine PW.istore_n (L' := [some (.ref (gB g + a)), some (.int r5), some (.int 0)]) cx qX1_faults_73 hi2 rfl rfl ?_
  obtain ⟨r9, er9, hf⟩ := bndO hf sne
  refine PW.locs (Lsub.keep (Lsub.keep (Lsub.keep Lsub.nil))) (lX1_faults_74 mx hA h FU r5 0 r9 er9 (fun xx_ e => ?_))
  subst e
  refine PW.iload_n cx qX1_faults_107 rfl ?_
  exact PW.iret cx hrt qX1_faults_108 (le_ri hf)
set_option maxRecDepth 20000 in
theorem lX4_readWord_7 {g : GT} {X : XT} {ex : Bool} {post : Option Value → List Shp → Hp → Prop} {sh : List Shp} (mx : Mx g X mX4_readWord 0 0 0) (hx : XSh sh) : ∀ (n : Nat) (h : Hp) (r : Hp) (hf : T_readWord_L7 n h = some r) (kx : ∀ (h1 : Hp), r = h1 → PW g X ex (QE g X ex post 0 0) 0 0 sh h1 59 [some (.ref (gB g + 47))] []), PW g X ex (QE g X ex post 0 0) 0 0 sh h 7 [some (.ref (gB g + 47))] [] := by
  have mx0 := mx
  obtain ⟨cx, hR, hml, hrt, -⟩ := mx0
  have cx : Cx g X RX4 cX4_readWord := cx
  have hrt : X.2.2.2.2.2.2.2.1.sig.returnType = none := hrt
  intro n
  induction n with
  | zero =>
    intro h r hf kx
    cases hf
  | succ n ih =>
    intro h r hf kx
    unfold T_readWord_L7 at hf
    refine PW.aload_n cx qX4_readWord_7 rfl ?_
    refine PW.getf (t := (0, 0)) (v := .int (rd h 47 2)) cx qX4_readWord_8 (sh_47 hx) rfl flX4_42 rfl ?_
    refine PW.aload_n cx qX4_readWord_11 rfl ?_
    refine PW.getf (t := (0, 0)) (v := .int (rd h 47 1)) cx qX4_readWord_12 (sh_47 hx) rfl flX4_38 rfl ?_
    refine PW.icmp_ge cx qX4_readWord_15 hf (fun hf => ?_) (fun hf => ?_)
    · exact PW.locs (Lsub.keep Lsub.nil) (kx h (Option.some.inj hf).symm)
    · refine PW.aload_n cx qX4_readWord_18 rfl ?_
      refine PW.getf (t := (2, 48)) (v := .ref (gB g + 48)) cx qX4_readWord_19 (sh_47 hx) rfl flX4_9 rfl ?_
      refine PW.aload_n cx qX4_readWord_22 rfl ?_
      refine PW.getf (t := (0, 0)) (v := .int (rd h 47 2)) cx qX4_readWord_23 (sh_47 hx) rfl flX4_42 rfl ?_
      refine PW.bald cx qX4_readWord_26 (sh_48 hx) hf sne (fun t2 hf => ?_)
      refine PW.bipush (v := 97) cx qX4_readWord_27 rfl ?_
      refine PW.icmp_lt cx qX4_readWord_29 hf (fun hf => ?_) (fun hf => ?_)
      · exact PW.locs (Lsub.keep Lsub.nil) (kx h (Option.some.inj hf).symm)
      · refine PW.aload_n cx qX4_readWord_32 rfl ?_
        refine PW.getf (t := (2, 48)) (v := .ref (gB g + 48)) cx qX4_readWord_33 (sh_47 hx) rfl flX4_9 rfl ?_
        refine PW.aload_n cx qX4_readWord_36 rfl ?_
        refine PW.getf (t := (0, 0)) (v := .int (rd h 47 2)) cx qX4_readWord_37 (sh_47 hx) rfl flX4_42 rfl ?_
        refine PW.bald cx qX4_readWord_40 (sh_48 hx) hf sne (fun t3 hf => ?_)
        refine PW.bipush (v := 122) cx qX4_readWord_41 rfl ?_
        refine PW.icmp_gt cx qX4_readWord_43 hf (fun hf => ?_) (fun hf => ?_)
        · exact PW.locs (Lsub.keep Lsub.nil) (kx h (Option.some.inj hf).symm)
        · refine PW.aload_n cx qX4_readWord_46 rfl ?_
          refine PW.dup cx qX4_readWord_47 rfl ?_
          refine PW.getf (t := (0, 0)) (v := .int (rd h 47 2)) cx qX4_readWord_48 (sh_47 hx) rfl flX4_42 rfl ?_
          refine PW.iconst (v := 1) cx qX4_readWord_51 rfl ?_
          refine PW.iadd cx qX4_readWord_52 ?_
          refine PW.putiN cx qX4_readWord_53 (sh_47 hx) rfl fpX4_42 hf (fun h4 hf => ?_)
          refine PW.goto cx qX4_readWord_56 ?_
          exact PW.locs (Lsub.keep Lsub.nil) (ih h4 _ hf kx)
set_option maxRecDepth 20000 in
theorem ctX4_readWord {g : GT} {ex : Bool} {sh : List Shp} (hx : XSh sh) (h : Hp) (r0 : Hp) (hf : T_readWord h = some r0) : Ct g mX4_readWord 0 0 0 ex [.ref (gB g + 47)] sh h (PE none sh r0) := by
  refine Ct.of (L := [some (.ref (gB g + 47))]) (by decide) (by intro w hw; simp only [List.mem_cons, List.not_mem_nil, or_false] at hw; rcases hw with rfl <;> rfl) (Nat.le_of_ble_eq_true rfl) rfl (fun X mx => ?_)
  have mx0 := mx
  obtain ⟨cx, hR, hml, hrt, -⟩ := mx0
  have cx : Cx g X RX4 cX4_readWord := cx
  have hrt : X.2.2.2.2.2.2.2.1.sig.returnType = none := hrt
  unfold T_readWord at hf
  refine PW.aload_n cx qX4_readWord_0 rfl ?_
  refine PW.gsT (v := 0) cx qX4_readWord_1 (by decide) rfl glX4_58 ?_
  refine PW.putTN cx qX4_readWord_4 (sh_47 hx) rfl fpX4_21 hf (fun h1 hf => ?_)
  obtain ⟨r5, er5, hf⟩ := bndO hf sne
  refine PW.locs (Lsub.keep Lsub.nil) (lX4_readWord_7 mx hx FU h1 r5 er5 (fun xx_ e => ?_))
  subst e
  exact PW.vret cx hrt qX4_readWord_59 (le_wv hf)
set_option maxRecDepth 20000 in
theorem lX4_readNumber_10 {g : GT} {X : XT} {ex : Bool} {post : Option Value → List Shp → Hp → Prop} {sh : List Shp} (mx : Mx g X mX4_readNumber 0 0 0) (hx : XSh sh) : ∀ (n : Nat) (h : Hp) (r : Hp) (hf : T_readNumber_L10 n h = some r) (kx : ∀ (h1 : Hp), r = h1 → PW g X ex (QE g X ex post 0 0) 0 0 sh h1 116 [some (.ref (gB g + 47))] []), PW g X ex (QE g X ex post 0 0) 0 0 sh h 10 [some (.ref (gB g + 47))] [] := by
  have mx0 := mx
  obtain ⟨cx, hR, hml, hrt, -⟩ := mx0
  have cx : Cx g X RX4 cX4_readNumber := cx
  have hrt : X.2.2.2.2.2.2.2.1.sig.returnType = none := hrt
  intro n
  induction n with
  | zero =>
    intro h r hf kx
    cases hf
  | succ n ih =>
    intro h r hf kx
    unfold T_readNumber_L10 at hf
    refine PW.aload_n cx qX4_readNumber_10 rfl ?_
    refine PW.getf (t := (0, 0)) (v := .int (rd h 47 2)) cx qX4_readNumber_11 (sh_47 hx) rfl flX4_42 rfl ?_
    refine PW.aload_n cx qX4_readNumber_14 rfl ?_
    refine PW.getf (t := (0, 0)) (v := .int (rd h 47 1)) cx qX4_readNumber_15 (sh_47 hx) rfl flX4_38 rfl ?_
    refine PW.icmp_ge cx qX4_readNumber_18 hf (fun hf => ?_) (fun hf => ?_)
    · exact PW.locs (Lsub.keep Lsub.nil) (kx h (Option.some.inj hf).symm)
    · refine PW.aload_n cx qX4_readNumber_21 rfl ?_
      refine PW.getf (t := (2, 48)) (v := .ref (gB g + 48)) cx qX4_readNumber_22 (sh_47 hx) rfl flX4_9 rfl ?_
      refine PW.aload_n cx qX4_readNumber_25 rfl ?_
      refine PW.getf (t := (0, 0)) (v := .int (rd h 47 2)) cx qX4_readNumber_26 (sh_47 hx) rfl flX4_42 rfl ?_
      refine PW.bald cx qX4_readNumber_29 (sh_48 hx) hf sne (fun t3 hf => ?_)
      refine PW.bipush (v := 48) cx qX4_readNumber_30 rfl ?_
      refine PW.icmp_lt cx qX4_readNumber_32 hf (fun hf => ?_) (fun hf => ?_)
      · exact PW.locs (Lsub.keep Lsub.nil) (kx h (Option.some.inj hf).symm)
      · refine PW.aload_n cx qX4_readNumber_35 rfl ?_
        refine PW.getf (t := (2, 48)) (v := .ref (gB g + 48)) cx qX4_readNumber_36 (sh_47 hx) rfl flX4_9 rfl ?_
        refine PW.aload_n cx qX4_readNumber_39 rfl ?_
        refine PW.getf (t := (0, 0)) (v := .int (rd h 47 2)) cx qX4_readNumber_40 (sh_47 hx) rfl flX4_42 rfl ?_
        refine PW.bald cx qX4_readNumber_43 (sh_48 hx) hf sne (fun t4 hf => ?_)
        refine PW.bipush (v := 57) cx qX4_readNumber_44 rfl ?_
        refine PW.icmp_gt cx qX4_readNumber_46 hf (fun hf => ?_) (fun hf => ?_)
        · exact PW.locs (Lsub.keep Lsub.nil) (kx h (Option.some.inj hf).symm)
        · refine PW.aload_n cx qX4_readNumber_49 rfl ?_
          refine PW.bipush (v := 10) cx qX4_readNumber_50 rfl ?_
          refine PW.aload_n cx qX4_readNumber_52 rfl ?_
          refine PW.getf (t := (0, 0)) (v := .int (rd h 47 5)) cx qX4_readNumber_53 (sh_47 hx) rfl flX4_61 rfl ?_
          refine PW.imul cx qX4_readNumber_56 ?_
          refine PW.aload_n cx qX4_readNumber_57 rfl ?_
          refine PW.getf (t := (2, 48)) (v := .ref (gB g + 48)) cx qX4_readNumber_58 (sh_47 hx) rfl flX4_9 rfl ?_
          refine PW.aload_n cx qX4_readNumber_61 rfl ?_
          refine PW.getf (t := (0, 0)) (v := .int (rd h 47 2)) cx qX4_readNumber_62 (sh_47 hx) rfl flX4_42 rfl ?_
          refine PW.bald cx qX4_readNumber_65 (sh_48 hx) hf sne (fun t5 hf => ?_)
          refine PW.iadd cx qX4_readNumber_66 ?_
          refine PW.bipush (v := 48) cx qX4_readNumber_67 rfl ?_
          refine PW.isub cx qX4_readNumber_69 ?_
          refine PW.putiN cx qX4_readNumber_70 (sh_47 hx) rfl fpX4_61 hf (fun h6 hf => ?_)
          refine PW.aload_n cx qX4_readNumber_73 rfl ?_
          refine PW.aload_n cx qX4_readNumber_74 rfl ?_
          refine PW.getf (t := (1, 0)) (v := .int (rd h6 47 6)) cx qX4_readNumber_75 (sh_47 hx) rfl flX4_64 rfl ?_
          obtain ⟨j100, ej100, hf⟩ := lt_split hf
          have hj100 : ∀ (z0_100 : Bool), j100 z0_100 = some r → PW g X ex (QE g X ex post 0 0) 0 0 sh h6 100 [some (.ref (gB g + 47))] [.int (b2i z0_100), .ref (gB g + 47)] := by
            intro z0_100 hf
            rw [ej100] at hf
            refine PW.putbN cx qX4_readNumber_100 (sh_47 hx) rfl fpX4_64 hf (fun h7 hf => ?_)
            refine PW.aload_n cx qX4_readNumber_103 rfl ?_
            refine PW.dup cx qX4_readNumber_104 rfl ?_
            refine PW.getf (t := (0, 0)) (v := .int (rd h7 47 2)) cx qX4_readNumber_105 (sh_47 hx) rfl flX4_42 rfl ?_
            refine PW.iconst (v := 1) cx qX4_readNumber_108 rfl ?_
            refine PW.iadd cx qX4_readNumber_109 ?_
            refine PW.putiN cx qX4_readNumber_110 (sh_47 hx) rfl fpX4_42 hf (fun h8 hf => ?_)
            refine PW.goto cx qX4_readNumber_113 ?_
            exact PW.locs (Lsub.keep Lsub.nil) (ih h8 _ hf kx)
          obtain ⟨j95, ej95, hf⟩ := lt_split hf
          have hj95 : ∀ (u_95 : Unit), j95 u_95 = some r → PW g X ex (QE g X ex post 0 0) 0 0 sh h6 95 [some (.ref (gB g + 47))] [.ref (gB g + 47)] := by
            intro u_95 hf
            rw [ej95] at hf
            refine PW.iconst (v := 1) cx qX4_readNumber_95 rfl ?_
            refine PW.goto cx qX4_readNumber_96 ?_
            exact PW.locs (Lsub.keep Lsub.nil) (hj100 true hf)
          refine PW.if_ne cx qX4_readNumber_78 hf (fun hf => ?_) (fun hf => ?_)
          · refine PW.aload_n cx qX4_readNumber_81 rfl ?_
            refine PW.getf (t := (2, 48)) (v := .ref (gB g + 48)) cx qX4_readNumber_82 (sh_47 hx) rfl flX4_9 rfl ?_
            refine PW.aload_n cx qX4_readNumber_85 rfl ?_
            refine PW.getf (t := (0, 0)) (v := .int (rd h6 47 2)) cx qX4_readNumber_86 (sh_47 hx) rfl flX4_42 rfl ?_
            refine PW.bald cx qX4_readNumber_89 (sh_48 hx) hf sne (fun t9 hf => ?_)
            refine PW.bipush (v := 48) cx qX4_readNumber_90 rfl ?_
            refine PW.icmp_ne cx qX4_readNumber_92 hf (fun hf => ?_) (fun hf => ?_)
            · exact PW.locs (Lsub.keep Lsub.nil) (hj95 () hf)
            · refine PW.iconst (v := 0) cx qX4_readNumber_99 rfl ?_
              exact PW.locs (Lsub.keep Lsub.nil) (hj100 false hf)
          · exact PW.locs (Lsub.keep Lsub.nil) (hj95 () hf)
set_option maxRecDepth 20000 in
theorem ctX4_readNumber {g : GT} {ex : Bool} {sh : List Shp} (hx : XSh sh) (h : Hp) (r0 : Hp) (hf : T_readNumber h = some r0) : Ct g mX4_readNumber 0 0 0 ex [.ref (gB g + 47)] sh h (PE none sh r0) := by
  refine Ct.of (L := [some (.ref (gB g + 47))]) (by decide) (by intro w hw; simp only [List.mem_cons, List.not_mem_nil, or_false] at hw; rcases hw with rfl <;> rfl) (Nat.le_of_ble_eq_true rfl) rfl (fun X mx => ?_)
  have mx0 := mx
  obtain ⟨cx, hR, hml, hrt, -⟩ := mx0
  have cx : Cx g X RX4 cX4_readNumber := cx
  have hrt : X.2.2.2.2.2.2.2.1.sig.returnType = none := hrt
  unfold T_readNumber at hf
  refine PW.aload_n cx qX4_readNumber_0 rfl ?_
  refine PW.iconst (v := 0) cx qX4_readNumber_1 rfl ?_
  refine PW.putiN cx qX4_readNumber_2 (sh_47 hx) rfl fpX4_61 hf (fun h1 hf => ?_)
  refine PW.aload_n cx qX4_readNumber_5 rfl ?_
  refine PW.iconst (v := 0) cx qX4_readNumber_6 rfl ?_
  refine PW.putzN cx qX4_readNumber_7 (sh_47 hx) rfl fpX4_64 (by decide) (by decide) hf (fun h2 hf => ?_)
  obtain ⟨r10, er10, hf⟩ := bndO hf sne
  refine PW.locs (Lsub.keep Lsub.nil) (lX4_readNumber_10 mx hx FU h2 r10 er10 (fun xx_ e => ?_))
  subst e
  refine PW.aload_n cx qX4_readNumber_116 rfl ?_
  refine PW.aload_n cx qX4_readNumber_117 rfl ?_
  refine PW.getf (t := (0, 0)) (v := .int (rd r10 47 2)) cx qX4_readNumber_118 (sh_47 hx) rfl flX4_42 rfl ?_
  refine PW.aload_n cx qX4_readNumber_121 rfl ?_
  refine PW.getf (t := (0, 0)) (v := .int (rd r10 47 4)) cx qX4_readNumber_122 (sh_47 hx) rfl flX4_45 rfl ?_
  refine PW.isub cx qX4_readNumber_125 ?_
  refine PW.bipush (v := 8) cx qX4_readNumber_126 rfl ?_
  refine PW.icmp_le cx qX4_readNumber_128 hf (fun hf => ?_) (fun hf => ?_)
  · refine PW.gsT (v := 1) cx qX4_readNumber_137 (by decide) rfl glX4_71 ?_
    refine PW.putTN cx qX4_readNumber_140 (sh_47 hx) rfl fpX4_21 hf (fun h11 hf => ?_)
    exact PW.vret cx hrt qX4_readNumber_143 (le_wv hf)
  · refine PW.gsT (v := 6) cx qX4_readNumber_131 (by decide) rfl glX4_68 ?_
    refine PW.goto cx qX4_readNumber_134 ?_
    refine PW.putTN cx qX4_readNumber_140 (sh_47 hx) rfl fpX4_21 hf (fun h12 hf => ?_)
    exact PW.vret cx hrt qX4_readNumber_143 (le_wv hf)
set_option maxRecDepth 20000 in
theorem ctX4_tokenOf {g : GT} {ex : Bool} {sh : List Shp} (h : Hp) (p1 : Int32) (r0 : Int32) (hf : T_tokenOf p1 = some r0) : Ct g mX4_tokenOf 0 0 0 ex [.int p1] sh h (PE (some (.ref (ga g (r0 : Int32).toNatClampNeg))) sh h) := by
  refine Ct.of (L := [some (.int p1)]) (by decide) (by intro w hw; simp only [List.mem_cons, List.not_mem_nil, or_false] at hw; rcases hw with rfl <;> rfl) (Nat.le_of_ble_eq_true rfl) rfl (fun X mx => ?_)
  obtain ⟨cx, hR, hml, hrt, -⟩ := mx
  have cx : Cx g X RX4 cX4_tokenOf := cx
  have hrt : X.2.2.2.2.2.2.2.1.sig.returnType = (some (.object "ClipHibernation$Token")) := hrt
  unfold T_tokenOf at hf
  refine PW.iload_n cx qX4_tokenOf_0 rfl ?_
  refine PW.lswC (v := 40) (off := 35) (tgt := 36) cx qX4_tokenOf_1 (by decide) rfl rfl hf (fun hf => ?_) (fun hf n40 => ?_)
  · refine PW.gsT (v := 2) cx qX4_tokenOf_36 (by decide) rfl glX4_74 ?_
    exact PW.aret cx hrt qX4_tokenOf_39 (le_rt hf)
  · refine PW.lswC (v := 41) (off := 39) (tgt := 40) cx qX4_tokenOf_1 (by decide) rfl rfl hf (fun hf => ?_) (fun hf n41 => ?_)
    · refine PW.gsT (v := 3) cx qX4_tokenOf_40 (by decide) rfl glX4_77 ?_
      exact PW.aret cx hrt qX4_tokenOf_43 (le_rt hf)
    · refine PW.lswC (v := 59) (off := 43) (tgt := 44) cx qX4_tokenOf_1 (by decide) rfl rfl hf (fun hf => ?_) (fun hf n59 => ?_)
      · refine PW.gsT (v := 4) cx qX4_tokenOf_44 (by decide) rfl glX4_80 ?_
        exact PW.aret cx hrt qX4_tokenOf_47 (le_rt hf)
      · refine PW.lswD [40, 41, 59] cx qX4_tokenOf_1 (by decide) (by decide) (by intro v hv; simp only [List.mem_cons, List.not_mem_nil, or_false] at hv; rcases hv with rfl | rfl | rfl; exact n40; exact n41; exact n59) rfl ?_
        refine PW.gsT (v := 6) cx qX4_tokenOf_48 (by decide) rfl glX4_68 ?_
        exact PW.aret cx hrt qX4_tokenOf_51 (le_rt hf)
