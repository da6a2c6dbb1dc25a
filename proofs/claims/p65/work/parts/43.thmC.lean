set_option maxRecDepth 20000 in
theorem ctX1_copyFrom {g : GT} {ex : Bool} {sh : List Shp} {a : Nat} (hA : AS sh a) {o : Nat} (hO : AS sh o) (h : Hp) (r0 : Hp) (hf : A_copyFrom h a o = some r0) : Ct g mX1_copyFrom 1 0 0 ex [.ref (gB g + a), .ref (gB g + o)] sh h (PE none sh r0) := by
  refine Ct.of (L := [some (.ref (gB g + a)), some (.ref (gB g + o))]) (by decide) (by intro w hw; simp only [List.mem_cons, List.not_mem_nil, or_false] at hw; rcases hw with rfl | rfl <;> rfl) (Nat.le_of_ble_eq_true rfl) rfl (fun X mx => ?_)
  obtain ⟨cx, hR, hml, hrt, -⟩ := mx
  have cx : Cx g X RX1 cX1_copyFrom := cx
  have hrt : X.2.2.2.2.2.2.2.1.sig.returnType = none := hrt
  unfold A_copyFrom at hf
  refine PW.aload_n cx qX1_copyFrom_0 rfl ?_
  refine PW.aload_n cx qX1_copyFrom_1 rfl ?_
  refine PW.getf (t := (0, 0)) (v := .int (rd h o 0)) cx qX1_copyFrom_2 (hO).1 rfl flX1_42 rfl ?_
  refine PW.putiN cx qX1_copyFrom_5 (hA).1 rfl fpX1_42 hf (fun h1 hf => ?_)
  refine PW.aload_n cx qX1_copyFrom_8 rfl ?_
  refine PW.aload_n cx qX1_copyFrom_9 rfl ?_
  refine PW.getf (t := (0, 0)) (v := .int (rd h1 o 1)) cx qX1_copyFrom_10 (hO).1 rfl flX1_46 rfl ?_
  refine PW.putiN cx qX1_copyFrom_13 (hA).1 rfl fpX1_46 hf (fun h2 hf => ?_)
  refine PW.aload_n cx qX1_copyFrom_16 rfl ?_
  refine PW.aload_n cx qX1_copyFrom_17 rfl ?_
  refine PW.getf (t := (0, 0)) (v := .int (rd h2 o 2)) cx qX1_copyFrom_18 (hO).1 rfl flX1_49 rfl ?_
  refine PW.putiN cx qX1_copyFrom_21 (hA).1 rfl fpX1_49 hf (fun h3 hf => ?_)
  refine PW.aload_n cx qX1_copyFrom_24 rfl ?_
  refine PW.aload_n cx qX1_copyFrom_25 rfl ?_
  refine PW.getf (t := (0, 0)) (v := .int (rd h3 o 3)) cx qX1_copyFrom_26 (hO).1 rfl flX1_52 rfl ?_
  refine PW.putiN cx qX1_copyFrom_29 (hA).1 rfl fpX1_52 hf (fun h4 hf => ?_)
  refine PW.aload_n cx qX1_copyFrom_32 rfl ?_
  refine PW.aload_n cx qX1_copyFrom_33 rfl ?_
  refine PW.getf (t := (0, 0)) (v := .int (rd h4 o 4)) cx qX1_copyFrom_34 (hO).1 rfl flX1_55 rfl ?_
  refine PW.putiN cx qX1_copyFrom_37 (hA).1 rfl fpX1_55 hf (fun h5 hf => ?_)
  refine PW.aload_n cx qX1_copyFrom_40 rfl ?_
  refine PW.aload_n cx qX1_copyFrom_41 rfl ?_
  refine PW.getf (t := (0, 0)) (v := .int (rd h5 o 5)) cx qX1_copyFrom_42 (hO).1 rfl flX1_58 rfl ?_
  refine PW.putiN cx qX1_copyFrom_45 (hA).1 rfl fpX1_58 hf (fun h6 hf => ?_)
  refine PW.aload_n cx qX1_copyFrom_48 rfl ?_
  refine PW.getf (t := (2, o + 1)) (v := .ref (gB g + (o + 1))) cx qX1_copyFrom_49 (hO).1 rfl flX1_9 rfl ?_
  refine PW.iconst (v := 0) cx qX1_copyFrom_52 rfl ?_
  refine PW.aload_n cx qX1_copyFrom_53 rfl ?_
  refine PW.getf (t := (2, a + 1)) (v := .ref (gB g + (a + 1))) cx qX1_copyFrom_54 (hA).1 rfl flX1_9 rfl ?_
  refine PW.iconst (v := 0) cx qX1_copyFrom_57 rfl ?_
  refine PW.bipush (v := 12) cx qX1_copyFrom_58 rfl ?_
  refine PW.acopy (N := 12) cx hR qX1_copyFrom_60 klX1_61 (AS.r1 hO) (AS.r1 hA) (by decide) (Nat.le_of_ble_eq_true rfl) (by decide) hf (fun h7 hf => ?_)
  refine PW.aload_n cx qX1_copyFrom_63 rfl ?_
  refine PW.getf (t := (2, o + 2)) (v := .ref (gB g + (o + 2))) cx qX1_copyFrom_64 (hO).1 rfl flX1_15 rfl ?_
  refine PW.iconst (v := 0) cx qX1_copyFrom_67 rfl ?_
  refine PW.aload_n cx qX1_copyFrom_68 rfl ?_
  refine PW.getf (t := (2, a + 2)) (v := .ref (gB g + (a + 2))) cx qX1_copyFrom_69 (hA).1 rfl flX1_15 rfl ?_
  refine PW.iconst (v := 0) cx qX1_copyFrom_72 rfl ?_
  refine PW.bipush (v := 96) cx qX1_copyFrom_73 rfl ?_
  refine PW.acopy (N := 96) cx hR qX1_copyFrom_75 klX1_61 (AS.r2 hO) (AS.r2 hA) (by decide) (Nat.le_of_ble_eq_true rfl) (by decide) hf (fun h8 hf => ?_)
  refine PW.aload_n cx qX1_copyFrom_78 rfl ?_
  refine PW.getf (t := (2, o + 3)) (v := .ref (gB g + (o + 3))) cx qX1_copyFrom_79 (hO).1 rfl flX1_18 rfl ?_
  refine PW.iconst (v := 0) cx qX1_copyFrom_82 rfl ?_
  refine PW.aload_n cx qX1_copyFrom_83 rfl ?_
  refine PW.getf (t := (2, a + 3)) (v := .ref (gB g + (a + 3))) cx qX1_copyFrom_84 (hA).1 rfl flX1_18 rfl ?_
  refine PW.iconst (v := 0) cx qX1_copyFrom_87 rfl ?_
  refine PW.bipush (v := 12) cx qX1_copyFrom_88 rfl ?_
  refine PW.acopy (N := 12) cx hR qX1_copyFrom_90 klX1_61 (AS.r3 hO) (AS.r3 hA) (by decide) (Nat.le_of_ble_eq_true rfl) (by decide) hf (fun h9 hf => ?_)
  refine PW.aload_n cx qX1_copyFrom_93 rfl ?_
  refine PW.getf (t := (2, o + 4)) (v := .ref (gB g + (o + 4))) cx qX1_copyFrom_94 (hO).1 rfl flX1_21 rfl ?_
  refine PW.iconst (v := 0) cx qX1_copyFrom_97 rfl ?_
  refine PW.aload_n cx qX1_copyFrom_98 rfl ?_
  refine PW.getf (t := (2, a + 4)) (v := .ref (gB g + (a + 4))) cx qX1_copyFrom_99 (hA).1 rfl flX1_21 rfl ?_
  refine PW.iconst (v := 0) cx qX1_copyFrom_102 rfl ?_
  refine PW.bipush (v := 12) cx qX1_copyFrom_103 rfl ?_
  refine PW.acopy (N := 12) cx hR qX1_copyFrom_105 klX1_61 (AS.r4 hO) (AS.r4 hA) (by decide) (Nat.le_of_ble_eq_true rfl) (by decide) hf (fun h10 hf => ?_)
  refine PW.aload_n cx qX1_copyFrom_108 rfl ?_
  refine PW.getf (t := (2, o + 5)) (v := .ref (gB g + (o + 5))) cx qX1_copyFrom_109 (hO).1 rfl flX1_24 rfl ?_
  refine PW.iconst (v := 0) cx qX1_copyFrom_112 rfl ?_
  refine PW.aload_n cx qX1_copyFrom_113 rfl ?_
  refine PW.getf (t := (2, a + 5)) (v := .ref (gB g + (a + 5))) cx qX1_copyFrom_114 (hA).1 rfl flX1_24 rfl ?_
  refine PW.iconst (v := 0) cx qX1_copyFrom_117 rfl ?_
  refine PW.bipush (v := 12) cx qX1_copyFrom_118 rfl ?_
  refine PW.acopy (N := 12) cx hR qX1_copyFrom_120 klX1_61 (AS.r5 hO) (AS.r5 hA) (by decide) (Nat.le_of_ble_eq_true rfl) (by decide) hf (fun h11 hf => ?_)
  refine PW.aload_n cx qX1_copyFrom_123 rfl ?_
  refine PW.getf (t := (2, o + 6)) (v := .ref (gB g + (o + 6))) cx qX1_copyFrom_124 (hO).1 rfl flX1_27 rfl ?_
  refine PW.iconst (v := 0) cx qX1_copyFrom_127 rfl ?_
  refine PW.aload_n cx qX1_copyFrom_128 rfl ?_
  refine PW.getf (t := (2, a + 6)) (v := .ref (gB g + (a + 6))) cx qX1_copyFrom_129 (hA).1 rfl flX1_27 rfl ?_
  refine PW.iconst (v := 0) cx qX1_copyFrom_132 rfl ?_
  refine PW.bipush (v := 12) cx qX1_copyFrom_133 rfl ?_
  refine PW.acopy (N := 12) cx hR qX1_copyFrom_135 klX1_61 (AS.r6 hO) (AS.r6 hA) (by decide) (Nat.le_of_ble_eq_true rfl) (by decide) hf (fun h12 hf => ?_)
  refine PW.aload_n cx qX1_copyFrom_138 rfl ?_
  refine PW.aload_n cx qX1_copyFrom_139 rfl ?_
  refine PW.getf (t := (0, 0)) (v := .int (rd h12 o 12)) cx qX1_copyFrom_140 (hO).1 rfl flX1_67 rfl ?_
  refine PW.putiN cx qX1_copyFrom_143 (hA).1 rfl fpX1_67 hf (fun h13 hf => ?_)
  refine PW.aload_n cx qX1_copyFrom_146 rfl ?_
  refine PW.getf (t := (2, o + 7)) (v := .ref (gB g + (o + 7))) cx qX1_copyFrom_147 (hO).1 rfl flX1_30 rfl ?_
  refine PW.iconst (v := 0) cx qX1_copyFrom_150 rfl ?_
  refine PW.aload_n cx qX1_copyFrom_151 rfl ?_
  refine PW.getf (t := (2, a + 7)) (v := .ref (gB g + (a + 7))) cx qX1_copyFrom_152 (hA).1 rfl flX1_30 rfl ?_
  refine PW.iconst (v := 0) cx qX1_copyFrom_155 rfl ?_
  refine PW.iconst (v := 4) cx qX1_copyFrom_156 rfl ?_
  refine PW.acopy (N := 4) cx hR qX1_copyFrom_157 klX1_61 (AS.r7 hO) (AS.r7 hA) (by decide) (Nat.le_of_ble_eq_true rfl) (by decide) hf (fun h14 hf => ?_)
  refine PW.aload_n cx qX1_copyFrom_160 rfl ?_
  refine PW.getf (t := (2, o + 8)) (v := .ref (gB g + (o + 8))) cx qX1_copyFrom_161 (hO).1 rfl flX1_33 rfl ?_
  refine PW.iconst (v := 0) cx qX1_copyFrom_164 rfl ?_
  refine PW.aload_n cx qX1_copyFrom_165 rfl ?_
  refine PW.getf (t := (2, a + 8)) (v := .ref (gB g + (a + 8))) cx qX1_copyFrom_166 (hA).1 rfl flX1_33 rfl ?_
  refine PW.iconst (v := 0) cx qX1_copyFrom_169 rfl ?_
  refine PW.bipush (v := 36) cx qX1_copyFrom_170 rfl ?_
  refine PW.acopy (N := 36) cx hR qX1_copyFrom_172 klX1_61 (AS.r8 hO) (AS.r8 hA) (by decide) (Nat.le_of_ble_eq_true rfl) (by decide) hf (fun h15 hf => ?_)
  refine PW.aload_n cx qX1_copyFrom_175 rfl ?_
  refine PW.aload_n cx qX1_copyFrom_176 rfl ?_
  refine PW.getf (t := (0, 0)) (v := .int (rd h15 o 15)) cx qX1_copyFrom_177 (hO).1 rfl flX1_70 rfl ?_
  refine PW.putiN cx qX1_copyFrom_180 (hA).1 rfl fpX1_70 hf (fun h16 hf => ?_)
  refine PW.aload_n cx qX1_copyFrom_183 rfl ?_
  refine PW.getf (t := (2, o + 9)) (v := .ref (gB g + (o + 9))) cx qX1_copyFrom_184 (hO).1 rfl flX1_36 rfl ?_
  refine PW.iconst (v := 0) cx qX1_copyFrom_187 rfl ?_
  refine PW.aload_n cx qX1_copyFrom_188 rfl ?_
  refine PW.getf (t := (2, a + 9)) (v := .ref (gB g + (a + 9))) cx qX1_copyFrom_189 (hA).1 rfl flX1_36 rfl ?_
  refine PW.iconst (v := 0) cx qX1_copyFrom_192 rfl ?_
  refine PW.iconst (v := 5) cx qX1_copyFrom_193 rfl ?_
  refine PW.acopy (N := 5) cx hR qX1_copyFrom_194 klX1_61 (AS.r9 hO) (AS.r9 hA) (by decide) (Nat.le_of_ble_eq_true rfl) (by decide) hf (fun h17 hf => ?_)
  refine PW.aload_n cx qX1_copyFrom_197 rfl ?_
  refine PW.getf (t := (2, o + 10)) (v := .ref (gB g + (o + 10))) cx qX1_copyFrom_198 (hO).1 rfl flX1_39 rfl ?_
  refine PW.iconst (v := 0) cx qX1_copyFrom_201 rfl ?_
  refine PW.aload_n cx qX1_copyFrom_202 rfl ?_
  refine PW.getf (t := (2, a + 10)) (v := .ref (gB g + (a + 10))) cx qX1_copyFrom_203 (hA).1 rfl flX1_39 rfl ?_
  refine PW.iconst (v := 0) cx qX1_copyFrom_206 rfl ?_
  refine PW.iconst (v := 5) cx qX1_copyFrom_207 rfl ?_
  refine PW.acopy (N := 5) cx hR qX1_copyFrom_208 klX1_61 (AS.r10 hO) (AS.r10 hA) (by decide) (Nat.le_of_ble_eq_true rfl) (by decide) hf (fun h18 hf => ?_)
  exact PW.vret cx hrt qX1_copyFrom_211 (le_wv hf)
set_option maxRecDepth 20000 in
theorem ctX1_empty {g : GT} {ex : Bool} {sh : List Shp} {a : Nat} (hA : AS sh a) (h : Hp) (r0 : Hp) (hf : A_empty h a = some r0) : Ct g mX1_empty 0 0 0 ex [.ref (gB g + a)] sh h (PE none sh r0) := by
  refine Ct.of (L := [some (.ref (gB g + a))]) (by decide) (by intro w hw; simp only [List.mem_cons, List.not_mem_nil, or_false] at hw; rcases hw with rfl <;> rfl) (Nat.le_of_ble_eq_true rfl) rfl (fun X mx => ?_)
  obtain ⟨cx, hR, hml, hrt, -⟩ := mx
  have cx : Cx g X RX1 cX1_empty := cx
  have hrt : X.2.2.2.2.2.2.2.1.sig.returnType = none := hrt
  unfold A_empty at hf
  refine PW.aload_n cx qX1_empty_0 rfl ?_
  refine PW.iconst (v := 0) cx qX1_empty_1 rfl ?_
  refine PW.putiN cx qX1_empty_2 (hA).1 rfl fpX1_42 hf (fun h1 hf => ?_)
  refine PW.aload_n cx qX1_empty_5 rfl ?_
  refine PW.bipush (v := 100) cx qX1_empty_6 rfl ?_
  refine PW.putiN cx qX1_empty_8 (hA).1 rfl fpX1_46 hf (fun h2 hf => ?_)
  refine PW.aload_n cx qX1_empty_11 rfl ?_
  refine PW.iconst (v := 0) cx qX1_empty_12 rfl ?_
  refine PW.putiN cx qX1_empty_13 (hA).1 rfl fpX1_49 hf (fun h3 hf => ?_)
  refine PW.aload_n cx qX1_empty_16 rfl ?_
  refine PW.iconst (v := 0) cx qX1_empty_17 rfl ?_
  refine PW.putiN cx qX1_empty_18 (hA).1 rfl fpX1_52 hf (fun h4 hf => ?_)
  refine PW.aload_n cx qX1_empty_21 rfl ?_
  refine PW.iconst (v := 0) cx qX1_empty_22 rfl ?_
  refine PW.putiN cx qX1_empty_23 (hA).1 rfl fpX1_55 hf (fun h5 hf => ?_)
  refine PW.aload_n cx qX1_empty_26 rfl ?_
  refine PW.iconst (v := 0) cx qX1_empty_27 rfl ?_
  refine PW.putiN cx qX1_empty_28 (hA).1 rfl fpX1_58 hf (fun h6 hf => ?_)
  refine PW.aload_n cx qX1_empty_31 rfl ?_
  refine PW.iconst (v := 0) cx qX1_empty_32 rfl ?_
  refine PW.putiN cx qX1_empty_33 (hA).1 rfl fpX1_67 hf (fun h7 hf => ?_)
  refine PW.aload_n cx qX1_empty_36 rfl ?_
  refine PW.iconst (v := 0) cx qX1_empty_37 rfl ?_
  refine PW.putiN cx qX1_empty_38 (hA).1 rfl fpX1_70 hf (fun h8 hf => ?_)
  exact PW.vret cx hrt qX1_empty_41 (le_wv hf)
set_option maxRecDepth 20000 in
theorem lX1_areColours_4 {g : GT} {X : XT} {ex : Bool} {post : Option Value → List Shp → Hp → Prop} {sh : List Shp} (mx : Mx g X mX1_areColours 0 0 0) (h : Hp) : ∀ (n : Nat) (v1 : Int32) (v2 : Int32) (r : (Unit) ⊕ (Bool)) (hf : A_areColours_L4 n v1 v2 = some r) (kx : r = .inl () → PW g X ex (QE g X ex post 0 0) 0 0 sh h 41 [none, none, none] []) (kr : ∀ y : Bool, r = .inr y → post (some (.int (b2i y))) sh h), PW g X ex (QE g X ex post 0 0) 0 0 sh h 4 [none, some (.int v1), some (.int v2)] [] := by
  have mx0 := mx
  obtain ⟨cx, hR, hml, hrt, -⟩ := mx0
  have cx : Cx g X RX1 cX1_areColours := cx
  have hrt : X.2.2.2.2.2.2.2.1.sig.returnType = (some .boolean) := hrt
  have hi1 : 1 < X.2.2.2.2.2.2.2.2.maxLocals := by rw [hml]; exact Nat.le_of_ble_eq_true rfl
  have hi2 : 2 < X.2.2.2.2.2.2.2.2.maxLocals := by rw [hml]; exact Nat.le_of_ble_eq_true rfl
  intro n
  induction n with
  | zero =>
    intro v1 v2 r hf kx kr
    cases hf
  | succ n ih =>
    intro v1 v2 r hf kx kr
    unfold A_areColours_L4 at hf
    refine PW.iload_n cx qX1_areColours_4 rfl ?_
    refine PW.bipush (v := 8) cx qX1_areColours_5 rfl ?_
    refine PW.icmp_ge cx qX1_areColours_7 hf (fun hf => ?_) (fun hf => ?_)
    · exact PW.locs (Lsub.drop (Lsub.drop (Lsub.drop Lsub.nil))) (kx (Option.some.inj hf).symm)
    · refine PW.iload_n cx qX1_areColours_10 rfl ?_
      refine PW.iconst (v := 1) cx qX1_areColours_11 rfl ?_
      refine PW.icmp_lt cx qX1_areColours_12 hf (fun hf => ?_) (fun hf => ?_)
      · refine PW.iconst (v := 0) cx qX1_areColours_22 rfl ?_
        exact PW.zret cx hrt nb0 qX1_areColours_23 (kr _ (Option.some.inj hf).symm)
      · refine PW.iload_n cx qX1_areColours_15 rfl ?_
        refine PW.bipush (v := 10) cx qX1_areColours_16 rfl ?_
        refine PW.iremK cx qX1_areColours_18 (by decide) ?_
        refine PW.if_ne cx qX1_areColours_19 hf (fun hf => ?_) (fun hf => ?_)
        · refine PW.iconst (v := 0) cx qX1_areColours_22 rfl ?_
          exact PW.zret cx hrt nb0 qX1_areColours_23 (kr _ (Option.some.inj hf).symm)
        · refine PW.iload_n cx qX1_areColours_24 rfl ?_
          refine PW.bipush (v := 10) cx qX1_areColours_25 rfl ?_
          refine PW.idivK cx qX1_areColours_27 (by decide) ?_
          refine PW.istore_n (L' := [none, some (.int (v1 / 10)), some (.int v2)]) cx qX1_areColours_28 hi1 rfl rfl ?_
          refine PW.iload_n cx qX1_areColours_29 rfl ?_
          refine PW.if_ne cx qX1_areColours_30 hf (fun hf => ?_) (fun hf => ?_)
          · refine PW.iconst (v := 1) cx qX1_areColours_33 rfl ?_
            exact PW.zret cx hrt nb1 qX1_areColours_34 (kr _ (Option.some.inj hf).symm)
          · refine PW.iinc (v := 1) (L' := [none, some (.int (v1 / 10)), some (.int (v2 + 1))]) cx qX1_areColours_35 rfl rfl hi2 rfl rfl ?_
            refine PW.goto cx qX1_areColours_38 ?_
            exact PW.locs (Lsub.drop (Lsub.keep (Lsub.keep Lsub.nil))) (ih (v1 / 10) (v2 + 1) _ hf kx kr)
set_option maxRecDepth 20000 in
theorem ctX1_areColours {g : GT} {ex : Bool} {sh : List Shp} (h : Hp) (p1 : Int32) (r0 : Bool) (hf : A_areColours p1 = some r0) : Ct g mX1_areColours 0 0 0 ex [.int p1] sh h (PE (some (.int (b2i r0))) sh h) := by
  refine Ct.of (L := [some (.int p1), none, none]) (by decide) (by intro w hw; simp only [List.mem_cons, List.not_mem_nil, or_false] at hw; rcases hw with rfl <;> rfl) (Nat.le_of_ble_eq_true rfl) rfl (fun X mx => ?_)
  have mx0 := mx
  obtain ⟨cx, hR, hml, hrt, -⟩ := mx0
  have cx : Cx g X RX1 cX1_areColours := cx
  have hrt : X.2.2.2.2.2.2.2.1.sig.returnType = (some .boolean) := hrt
  have hi1 : 1 < X.2.2.2.2.2.2.2.2.maxLocals := by rw [hml]; exact Nat.le_of_ble_eq_true rfl
  have hi2 : 2 < X.2.2.2.2.2.2.2.2.maxLocals := by rw [hml]; exact Nat.le_of_ble_eq_true rfl
  unfold A_areColours at hf
  refine PW.iload_n cx qX1_areColours_0 rfl ?_
  refine PW.istore_n (L' := [some (.int p1), some (.int p1), none]) cx qX1_areColours_1 hi1 rfl rfl ?_
  refine PW.iconst (v := 0) cx qX1_areColours_2 rfl ?_
  refine PW.istore_n (L' := [some (.int p1), some (.int p1), some (.int 0)]) cx qX1_areColours_3 hi2 rfl rfl ?_
  obtain ⟨r1, er1, hf⟩ := bndO hf sne
  refine PW.locs (Lsub.drop (Lsub.keep (Lsub.keep Lsub.nil))) (lX1_areColours_4 mx h FU p1 0 r1 er1 (fun e => ?_) (fun y e => ?_))
  · subst e
    refine PW.iconst (v := 0) cx qX1_areColours_41 rfl ?_
    exact PW.zret cx hrt nb0 qX1_areColours_42 (le_rz hf)
  · subst e
    exact (le_rz hf)
set_option maxRecDepth 20000 in
theorem ctX1_hasRoomForClip {g : GT} {ex : Bool} {sh : List Shp} {a : Nat} (hA : AS sh a) (h : Hp) (r0 : Bool) (hf : A_hasRoomForClip h a = some r0) : Ct g mX1_hasRoomForClip 0 0 0 ex [.ref (gB g + a)] sh h (PE (some (.int (b2i r0))) sh h) := by
  refine Ct.of (L := [some (.ref (gB g + a))]) (by decide) (by intro w hw; simp only [List.mem_cons, List.not_mem_nil, or_false] at hw; rcases hw with rfl <;> rfl) (Nat.le_of_ble_eq_true rfl) rfl (fun X mx => ?_)
  obtain ⟨cx, hR, hml, hrt, -⟩ := mx
  have cx : Cx g X RX1 cX1_hasRoomForClip := cx
  have hrt : X.2.2.2.2.2.2.2.1.sig.returnType = (some .boolean) := hrt
  unfold A_hasRoomForClip at hf
  refine PW.aload_n cx qX1_hasRoomForClip_0 rfl ?_
  refine PW.getf (t := (0, 0)) (v := .int (rd h a 5)) cx qX1_hasRoomForClip_1 (hA).1 rfl flX1_58 rfl ?_
  refine PW.bipush (v := 12) cx qX1_hasRoomForClip_4 rfl ?_
  refine PW.icmp_ge cx qX1_hasRoomForClip_6 hf (fun hf => ?_) (fun hf => ?_)
  · refine PW.iconst (v := 0) cx qX1_hasRoomForClip_13 rfl ?_
    exact PW.zret cx hrt nb0 qX1_hasRoomForClip_14 (le_rz hf)
  · refine PW.iconst (v := 1) cx qX1_hasRoomForClip_9 rfl ?_
    refine PW.goto cx qX1_hasRoomForClip_10 ?_
    exact PW.zret cx hrt nb1 qX1_hasRoomForClip_14 (le_rz hf)
set_option maxRecDepth 20000 in
theorem ctX1_hasRoomForReel {g : GT} {ex : Bool} {sh : List Shp} {a : Nat} (hA : AS sh a) (h : Hp) (r0 : Bool) (hf : A_hasRoomForReel h a = some r0) : Ct g mX1_hasRoomForReel 0 0 0 ex [.ref (gB g + a)] sh h (PE (some (.int (b2i r0))) sh h) := by
  refine Ct.of (L := [some (.ref (gB g + a))]) (by decide) (by intro w hw; simp only [List.mem_cons, List.not_mem_nil, or_false] at hw; rcases hw with rfl <;> rfl) (Nat.le_of_ble_eq_true rfl) rfl (fun X mx => ?_)
  obtain ⟨cx, hR, hml, hrt, -⟩ := mx
  have cx : Cx g X RX1 cX1_hasRoomForReel := cx
  have hrt : X.2.2.2.2.2.2.2.1.sig.returnType = (some .boolean) := hrt
  unfold A_hasRoomForReel at hf
  refine PW.aload_n cx qX1_hasRoomForReel_0 rfl ?_
  refine PW.getf (t := (0, 0)) (v := .int (rd h a 12)) cx qX1_hasRoomForReel_1 (hA).1 rfl flX1_67 rfl ?_
  refine PW.iconst (v := 4) cx qX1_hasRoomForReel_4 rfl ?_
  refine PW.icmp_ge cx qX1_hasRoomForReel_5 hf (fun hf => ?_) (fun hf => ?_)
  · refine PW.iconst (v := 0) cx qX1_hasRoomForReel_12 rfl ?_
    exact PW.zret cx hrt nb0 qX1_hasRoomForReel_13 (le_rz hf)
  · refine PW.iconst (v := 1) cx qX1_hasRoomForReel_8 rfl ?_
    refine PW.goto cx qX1_hasRoomForReel_9 ?_
    exact PW.zret cx hrt nb1 qX1_hasRoomForReel_13 (le_rz hf)
set_option maxRecDepth 20000 in
theorem ctX1_hasRoomForScene {g : GT} {ex : Bool} {sh : List Shp} {a : Nat} (hA : AS sh a) (h : Hp) (r0 : Bool) (hf : A_hasRoomForScene h a = some r0) : Ct g mX1_hasRoomForScene 0 0 0 ex [.ref (gB g + a)] sh h (PE (some (.int (b2i r0))) sh h) := by
  refine Ct.of (L := [some (.ref (gB g + a))]) (by decide) (by intro w hw; simp only [List.mem_cons, List.not_mem_nil, or_false] at hw; rcases hw with rfl <;> rfl) (Nat.le_of_ble_eq_true rfl) rfl (fun X mx => ?_)
  obtain ⟨cx, hR, hml, hrt, -⟩ := mx
  have cx : Cx g X RX1 cX1_hasRoomForScene := cx
  have hrt : X.2.2.2.2.2.2.2.1.sig.returnType = (some .boolean) := hrt
  unfold A_hasRoomForScene at hf
  refine PW.aload_n cx qX1_hasRoomForScene_0 rfl ?_
  refine PW.getf (t := (0, 0)) (v := .int (rd h a 15)) cx qX1_hasRoomForScene_1 (hA).1 rfl flX1_70 rfl ?_
  refine PW.iconst (v := 5) cx qX1_hasRoomForScene_4 rfl ?_
  refine PW.icmp_ge cx qX1_hasRoomForScene_5 hf (fun hf => ?_) (fun hf => ?_)
  · refine PW.iconst (v := 0) cx qX1_hasRoomForScene_12 rfl ?_
    exact PW.zret cx hrt nb0 qX1_hasRoomForScene_13 (le_rz hf)
  · refine PW.iconst (v := 1) cx qX1_hasRoomForScene_8 rfl ?_
    refine PW.goto cx qX1_hasRoomForScene_9 ?_
    exact PW.zret cx hrt nb1 qX1_hasRoomForScene_13 (le_rz hf)
set_option maxRecDepth 20000 in
theorem lX1_digits_7 {g : GT} {X : XT} {ex : Bool} {post : Option Value → List Shp → Hp → Prop} {sh : List Shp} (mx : Mx g X mX1_digits 0 0 0) (h : Hp) : ∀ (n : Nat) (v1 : Int32) (v2 : Int32) (r : Int32) (hf : A_digits_L7 n v1 v2 = some r) (kx : ∀ (x1 : Int32), r = x1 → PW g X ex (QE g X ex post 0 0) 0 0 sh h 28 [none, some (.int x1), none] []), PW g X ex (QE g X ex post 0 0) 0 0 sh h 7 [none, some (.int v1), some (.int v2)] [] := by
  have mx0 := mx
  obtain ⟨cx, hR, hml, hrt, -⟩ := mx0
  have cx : Cx g X RX1 cX1_digits := cx
  have hrt : X.2.2.2.2.2.2.2.1.sig.returnType = (some .int) := hrt
  have hi1 : 1 < X.2.2.2.2.2.2.2.2.maxLocals := by rw [hml]; exact Nat.le_of_ble_eq_true rfl
  have hi2 : 2 < X.2.2.2.2.2.2.2.2.maxLocals := by rw [hml]; exact Nat.le_of_ble_eq_true rfl
  intro n
  induction n with
  | zero =>
    intro v1 v2 r hf kx
    cases hf
  | succ n ih =>
    intro v1 v2 r hf kx
    unfold A_digits_L7 at hf
    refine PW.iload_n cx qX1_digits_7 rfl ?_
    refine PW.if_le cx qX1_digits_8 hf (fun hf => ?_) (fun hf => ?_)
    · exact PW.locs (Lsub.drop (Lsub.keep (Lsub.drop Lsub.nil))) (kx v1 (Option.some.inj hf).symm)
    · refine PW.iload_n cx qX1_digits_11 rfl ?_
      refine PW.bipush (v := 8) cx qX1_digits_12 rfl ?_
      refine PW.icmp_ge cx qX1_digits_14 hf (fun hf => ?_) (fun hf => ?_)
      · exact PW.locs (Lsub.drop (Lsub.keep (Lsub.drop Lsub.nil))) (kx v1 (Option.some.inj hf).symm)
      · refine PW.iinc (v := 1) (L' := [none, some (.int (v1 + 1)), some (.int v2)]) cx qX1_digits_17 rfl rfl hi1 rfl rfl ?_
        refine PW.iload_n cx qX1_digits_20 rfl ?_
        refine PW.bipush (v := 10) cx qX1_digits_21 rfl ?_
        refine PW.idivK cx qX1_digits_23 (by decide) ?_
        refine PW.istore_n (L' := [none, some (.int (v1 + 1)), some (.int (v2 / 10))]) cx qX1_digits_24 hi2 rfl rfl ?_
        refine PW.goto cx qX1_digits_25 ?_
        exact PW.locs (Lsub.drop (Lsub.keep (Lsub.keep Lsub.nil))) (ih (v1 + 1) (v2 / 10) _ hf kx)
set_option maxRecDepth 20000 in
theorem ctX1_digits {g : GT} {ex : Bool} {sh : List Shp} (h : Hp) (p1 : Int32) (r0 : Int32) (hf : A_digits p1 = some r0) : Ct g mX1_digits 0 0 0 ex [.int p1] sh h (PE (some (.int r0)) sh h) := by
  refine Ct.of (L := [some (.int p1), none, none]) (by decide) (by intro w hw; simp only [List.mem_cons, List.not_mem_nil, or_false] at hw; rcases hw with rfl <;> rfl) (Nat.le_of_ble_eq_true rfl) rfl (fun X mx => ?_)
  have mx0 := mx
  obtain ⟨cx, hR, hml, hrt, -⟩ := mx0
  have cx : Cx g X RX1 cX1_digits := cx
  have hrt : X.2.2.2.2.2.2.2.1.sig.returnType = (some .int) := hrt
  have hi1 : 1 < X.2.2.2.2.2.2.2.2.maxLocals := by rw [hml]; exact Nat.le_of_ble_eq_true rfl
  have hi2 : 2 < X.2.2.2.2.2.2.2.2.maxLocals := by rw [hml]; exact Nat.le_of_ble_eq_true rfl
  unfold A_digits at hf
  refine PW.iconst (v := 1) cx qX1_digits_0 rfl ?_
  refine PW.istore_n (L' := [some (.int p1), some (.int 1), none]) cx qX1_digits_1 hi1 rfl rfl ?_
  refine PW.iload_n cx qX1_digits_2 rfl ?_
  refine PW.bipush (v := 10) cx qX1_digits_3 rfl ?_
  refine PW.idivK cx qX1_digits_5 (by decide) ?_
  refine PW.istore_n (L' := [some (.int p1), some (.int 1), some (.int (p1 / 10))]) cx qX1_digits_6 hi2 rfl rfl ?_
  obtain ⟨r1, er1, hf⟩ := bndO hf sne
  refine PW.locs (Lsub.drop (Lsub.keep (Lsub.keep Lsub.nil))) (lX1_digits_7 mx h FU 1 (p1 / 10) r1 er1 (fun xx_ e => ?_))
  subst e
  refine PW.iload_n cx qX1_digits_28 rfl ?_
  exact PW.iret cx hrt qX1_digits_29 (le_ri hf)
set_option maxRecDepth 20000 in
theorem ctX1_colourAt {g : GT} {ex : Bool} {sh : List Shp} {a : Nat} (hA : AS sh a) (h : Hp) (p1 : Int32) (p2 : Int32) (r0 : Int32) (hf : A_colourAt h a p1 p2 = some r0) : Ct g mX1_colourAt 0 0 0 ex [.ref (gB g + a), .int p1, .int p2] sh h (PE (some (.int r0)) sh h) := by
  refine Ct.of (L := [some (.ref (gB g + a)), some (.int p1), some (.int p2)]) (by decide) (by intro w hw; simp only [List.mem_cons, List.not_mem_nil, or_false] at hw; rcases hw with rfl | rfl | rfl <;> rfl) (Nat.le_of_ble_eq_true rfl) rfl (fun X mx => ?_)
  obtain ⟨cx, hR, hml, hrt, -⟩ := mx
  have cx : Cx g X RX1 cX1_colourAt := cx
  have hrt : X.2.2.2.2.2.2.2.1.sig.returnType = (some .int) := hrt
  unfold A_colourAt at hf
  refine PW.aload_n cx qX1_colourAt_0 rfl ?_
  refine PW.getf (t := (2, a + 2)) (v := .ref (gB g + (a + 2))) cx qX1_colourAt_1 (hA).1 rfl flX1_15 rfl ?_
  refine PW.iload_n cx qX1_colourAt_4 rfl ?_
  refine PW.bipush (v := 8) cx qX1_colourAt_5 rfl ?_
  refine PW.imul cx qX1_colourAt_7 ?_
  refine PW.iload_n cx qX1_colourAt_8 rfl ?_
  refine PW.iadd cx qX1_colourAt_9 ?_
  refine PW.iald cx qX1_colourAt_10 (AS.r2 hA) hf sne (fun t1 hf => ?_)
  exact PW.iret cx hrt qX1_colourAt_11 (le_ri hf)
set_option maxRecDepth 20000 in
theorem lX1_renewHash_4 {g : GT} {X : XT} {ex : Bool} {post : Option Value → List Shp → Hp → Prop} {sh : List Shp} (mx : Mx g X mX1_renewHash 1 0 0) {a : Nat} (hA : AS sh a) (h : Hp) (c1 : Int32) : ∀ (n : Nat) (v2 : Int32) (v3 : Int32) (r : Int32) (hf : A_renewHash_L4 h a c1 n v2 v3 = some r) (kx : ∀ (x2 : Int32), r = x2 → PW g X ex (QE g X ex post 0 0) 0 0 sh h 36 [some (.ref (gB g + a)), some (.int c1), some (.int x2), none] []), PW g X ex (QE g X ex post 0 0) 0 0 sh h 4 [some (.ref (gB g + a)), some (.int c1), some (.int v2), some (.int v3)] [] := by
  have mx0 := mx
  obtain ⟨cx, hR, hml, hrt, -⟩ := mx0
  have cx : Cx g X RX1 cX1_renewHash := cx
  have hrt : X.2.2.2.2.2.2.2.1.sig.returnType = none := hrt
  have hi2 : 2 < X.2.2.2.2.2.2.2.2.maxLocals := by rw [hml]; exact Nat.le_of_ble_eq_true rfl
  have hi3 : 3 < X.2.2.2.2.2.2.2.2.maxLocals := by rw [hml]; exact Nat.le_of_ble_eq_true rfl
  intro n
  induction n with
  | zero =>
    intro v2 v3 r hf kx
    cases hf
  | succ n ih =>
    intro v2 v3 r hf kx
    unfold A_renewHash_L4 at hf
    refine PW.iload_n cx qX1_renewHash_4 rfl ?_
    refine PW.aload_n cx qX1_renewHash_5 rfl ?_
    refine PW.getf (t := (2, a + 1)) (v := .ref (gB g + (a + 1))) cx qX1_renewHash_6 (hA).1 rfl flX1_9 rfl ?_
    refine PW.iload_n cx qX1_renewHash_9 rfl ?_
    refine PW.iald cx qX1_renewHash_10 (AS.r1 hA) hf sne (fun t1 hf => ?_)
    refine PW.icmp_ge cx qX1_renewHash_11 hf (fun hf => ?_) (fun hf => ?_)
    · exact PW.locs (Lsub.keep (Lsub.keep (Lsub.keep (Lsub.drop Lsub.nil)))) (kx v2 (Option.some.inj hf).symm)
    · refine PW.bipush (v := 31) cx qX1_renewHash_14 rfl ?_
      refine PW.iload_n cx qX1_renewHash_16 rfl ?_
      refine PW.imul cx qX1_renewHash_17 ?_
      refine PW.aload_n cx qX1_renewHash_18 rfl ?_
      refine PW.iload_n cx qX1_renewHash_19 rfl ?_
      refine PW.iload_n cx qX1_renewHash_20 rfl ?_
      refine PW.callVRI (As := [.int c1, .int v3]) (st := [.int (31 * v2)]) cx hR qX1_renewHash_21 klX1_85 mvX1_colourAt (hA).1 rfl rfl rfl rfl (Nat.le_of_ble_eq_true rfl) (Nat.le_of_ble_eq_true rfl) (Nat.le_of_ble_eq_true rfl) (Nat.zero_le _) (Nat.zero_le _) hf sne (fun t e => ctX1_colourAt hA h c1 v3 t e) (fun t2 hf => ?_)
      refine PW.iadd cx qX1_renewHash_24 ?_
      refine PW.sipush (v := 997) cx qX1_renewHash_25 rfl ?_
      refine PW.iremK cx qX1_renewHash_28 (by decide) ?_
      refine PW.istore_n (L' := [some (.ref (gB g + a)), some (.int c1), some (.int (((31 * v2) + t2) - ((31 * v2) + t2) / 997 * 997)), some (.int v3)]) cx qX1_renewHash_29 hi2 rfl rfl ?_
      refine PW.iinc (v := 1) (L' := [some (.ref (gB g + a)), some (.int c1), some (.int (((31 * v2) + t2) - ((31 * v2) + t2) / 997 * 997)), some (.int (v3 + 1))]) cx qX1_renewHash_30 rfl rfl hi3 rfl rfl ?_
      refine PW.goto cx qX1_renewHash_33 ?_
      exact PW.locs (Lsub.keep (Lsub.keep (Lsub.keep (Lsub.keep Lsub.nil)))) (ih (((31 * v2) + t2) - ((31 * v2) + t2) / 997 * 997) (v3 + 1) _ hf kx)
set_option maxRecDepth 20000 in
theorem ctX1_renewHash {g : GT} {ex : Bool} {sh : List Shp} {a : Nat} (hA : AS sh a) (h : Hp) (p1 : Int32) (r0 : Hp) (hf : A_renewHash h a p1 = some r0) : Ct g mX1_renewHash 1 0 0 ex [.ref (gB g + a), .int p1] sh h (PE none sh r0) := by
  refine Ct.of (L := [some (.ref (gB g + a)), some (.int p1), none, none]) (by decide) (by intro w hw; simp only [List.mem_cons, List.not_mem_nil, or_false] at hw; rcases hw with rfl | rfl <;> rfl) (Nat.le_of_ble_eq_true rfl) rfl (fun X mx => ?_)
  have mx0 := mx
  obtain ⟨cx, hR, hml, hrt, -⟩ := mx0
  have cx : Cx g X RX1 cX1_renewHash := cx
  have hrt : X.2.2.2.2.2.2.2.1.sig.returnType = none := hrt
  have hi2 : 2 < X.2.2.2.2.2.2.2.2.maxLocals := by rw [hml]; exact Nat.le_of_ble_eq_true rfl
  have hi3 : 3 < X.2.2.2.2.2.2.2.2.maxLocals := by rw [hml]; exact Nat.le_of_ble_eq_true rfl
  unfold A_renewHash at hf
  refine PW.iconst (v := 0) cx qX1_renewHash_0 rfl ?_
  refine PW.istore_n (L' := [some (.ref (gB g + a)), some (.int p1), some (.int 0), none]) cx qX1_renewHash_1 hi2 rfl rfl ?_
  refine PW.iconst (v := 0) cx qX1_renewHash_2 rfl ?_
  refine PW.istore_n (L' := [some (.ref (gB g + a)), some (.int p1), some (.int 0), some (.int 0)]) cx qX1_renewHash_3 hi3 rfl rfl ?_
  obtain ⟨r3, er3, hf⟩ := bndO hf sne
  refine PW.locs (Lsub.keep (Lsub.keep (Lsub.keep (Lsub.keep Lsub.nil)))) (lX1_renewHash_4 mx hA h p1 FU 0 0 r3 er3 (fun xx_ e => ?_))
  subst e
  refine PW.aload_n cx qX1_renewHash_36 rfl ?_
  refine PW.getf (t := (2, a + 3)) (v := .ref (gB g + (a + 3))) cx qX1_renewHash_37 (hA).1 rfl flX1_18 rfl ?_
  refine PW.iload_n cx qX1_renewHash_40 rfl ?_
  refine PW.iload_n cx qX1_renewHash_41 rfl ?_
  refine PW.iast cx qX1_renewHash_42 (AS.r3 hA) hf sne (fun h4 hf => ?_)
  exact PW.vret cx hrt qX1_renewHash_43 (le_wv hf)
set_option maxRecDepth 20000 in
theorem lX1_putClip_37 {g : GT} {X : XT} {ex : Bool} {post : Option Value → List Shp → Hp → Prop} {sh : List Shp} (mx : Mx g X mX1_putClip 2 0 0) {a : Nat} (hA : AS sh a) (c2 : Int32) : ∀ (n : Nat) (v3 : Int32) (v4 : Int32) (h : Hp) (r : Hp) (hf : A_putClip_L37 a c2 n v3 v4 h = some r) (kx : ∀ (h1 : Hp), r = h1 → PW g X ex (QE g X ex post 0 0) 0 0 sh h1 69 [some (.ref (gB g + a)), none, some (.int c2), none, none] []), PW g X ex (QE g X ex post 0 0) 0 0 sh h 37 [some (.ref (gB g + a)), none, some (.int c2), some (.int v3), some (.int v4)] [] := by
  have mx0 := mx
  obtain ⟨cx, hR, hml, hrt, -⟩ := mx0
  have cx : Cx g X RX1 cX1_putClip := cx
  have hrt : X.2.2.2.2.2.2.2.1.sig.returnType = (some .int) := hrt
  have hi2 : 2 < X.2.2.2.2.2.2.2.2.maxLocals := by rw [hml]; exact Nat.le_of_ble_eq_true rfl
  have hi3 : 3 < X.2.2.2.2.2.2.2.2.maxLocals := by rw [hml]; exact Nat.le_of_ble_eq_true rfl
  have hi4 : 4 < X.2.2.2.2.2.2.2.2.maxLocals := by rw [hml]; exact Nat.le_of_ble_eq_true rfl
  intro n
  induction n with
  | zero =>
    intro v3 v4 h r hf kx
    cases hf
  | succ n ih =>
    intro v3 v4 h r hf kx
    unfold A_putClip_L37 at hf
    refine PW.iload cx qX1_putClip_37 rfl ?_
    refine PW.if_lt cx qX1_putClip_39 hf (fun hf => ?_) (fun hf => ?_)
    · exact PW.locs (Lsub.keep (Lsub.drop (Lsub.keep (Lsub.drop (Lsub.drop Lsub.nil))))) (kx h (Option.some.inj hf).symm)
    · refine PW.aload_n cx qX1_putClip_42 rfl ?_
      refine PW.getf (t := (2, a + 2)) (v := .ref (gB g + (a + 2))) cx qX1_putClip_43 (hA).1 rfl flX1_15 rfl ?_
      refine PW.iload_n cx qX1_putClip_46 rfl ?_
      refine PW.bipush (v := 8) cx qX1_putClip_47 rfl ?_
      refine PW.imul cx qX1_putClip_49 ?_
      refine PW.iload cx qX1_putClip_50 rfl ?_
      refine PW.iadd cx qX1_putClip_52 ?_
      refine PW.iload_n cx qX1_putClip_53 rfl ?_
      refine PW.bipush (v := 10) cx qX1_putClip_54 rfl ?_
      refine PW.iremK cx qX1_putClip_56 (by decide) ?_
      refine PW.iast cx qX1_putClip_57 (AS.r2 hA) hf sne (fun h5 hf => ?_)
      refine PW.iload_n cx qX1_putClip_58 rfl ?_
      refine PW.bipush (v := 10) cx qX1_putClip_59 rfl ?_
      refine PW.idivK cx qX1_putClip_61 (by decide) ?_
      refine PW.istore_n (L' := [some (.ref (gB g + a)), none, some (.int c2), some (.int (v3 / 10)), some (.int v4)]) cx qX1_putClip_62 hi3 rfl rfl ?_
      refine PW.iinc (v := (-1)) (L' := [some (.ref (gB g + a)), none, some (.int c2), some (.int (v3 / 10)), some (.int (v4 + (-1)))]) cx qX1_putClip_63 rfl rfl hi4 rfl rfl ?_
      refine PW.goto cx qX1_putClip_66 ?_
      exact PW.locs (Lsub.keep (Lsub.drop (Lsub.keep (Lsub.keep (Lsub.keep Lsub.nil))))) (ih (v3 / 10) (v4 + (-1)) h5 _ hf kx)
set_option maxRecDepth 20000 in
theorem ctX1_putClip {g : GT} {ex : Bool} {sh : List Shp} {a : Nat} (hA : AS sh a) (h : Hp) (p1 : Int32) (r0 : Int32 × Hp) (hf : A_putClip h a p1 = some r0) : Ct g mX1_putClip 2 0 0 ex [.ref (gB g + a), .int p1] sh h (PE (some (.int r0.1)) sh r0.2) := by
  refine Ct.of (L := [some (.ref (gB g + a)), some (.int p1), none, none, none]) (by decide) (by intro w hw; simp only [List.mem_cons, List.not_mem_nil, or_false] at hw; rcases hw with rfl | rfl <;> rfl) (Nat.le_of_ble_eq_true rfl) rfl (fun X mx => ?_)
  have mx0 := mx
  obtain ⟨cx, hR, hml, hrt, -⟩ := mx0
  have cx : Cx g X RX1 cX1_putClip := cx
  have hrt : X.2.2.2.2.2.2.2.1.sig.returnType = (some .int) := hrt
  have hi2 : 2 < X.2.2.2.2.2.2.2.2.maxLocals := by rw [hml]; exact Nat.le_of_ble_eq_true rfl
  have hi3 : 3 < X.2.2.2.2.2.2.2.2.maxLocals := by rw [hml]; exact Nat.le_of_ble_eq_true rfl
  have hi4 : 4 < X.2.2.2.2.2.2.2.2.maxLocals := by rw [hml]; exact Nat.le_of_ble_eq_true rfl
  unfold A_putClip at hf
  refine PW.aload_n cx qX1_putClip_0 rfl ?_
  refine PW.getf (t := (0, 0)) (v := .int (rd h a 5)) cx qX1_putClip_1 (hA).1 rfl flX1_58 rfl ?_
  refine PW.istore_n (L' := [some (.ref (gB g + a)), some (.int p1), some (.int (rd h a 5)), none, none]) cx qX1_putClip_4 hi2 rfl rfl ?_
  refine PW.aload_n cx qX1_putClip_5 rfl ?_
  refine PW.dup cx qX1_putClip_6 rfl ?_
  refine PW.getf (t := (0, 0)) (v := .int (rd h a 5)) cx qX1_putClip_7 (hA).1 rfl flX1_58 rfl ?_
  refine PW.iconst (v := 1) cx qX1_putClip_10 rfl ?_
  refine PW.iadd cx qX1_putClip_11 ?_
  refine PW.putiN cx qX1_putClip_12 (hA).1 rfl fpX1_58 hf (fun h1 hf => ?_)
  refine PW.aload_n cx qX1_putClip_15 rfl ?_
  refine PW.getf (t := (2, a + 1)) (v := .ref (gB g + (a + 1))) cx qX1_putClip_16 (hA).1 rfl flX1_9 rfl ?_
  refine PW.iload_n cx qX1_putClip_19 rfl ?_
  refine PW.iload_n cx qX1_putClip_20 rfl ?_
  refine PW.callSRI (As := [.int p1]) (st := [.int (rd h a 5), .ref (gB g + (a + 1))]) cx hR qX1_putClip_21 klX1_73 miX1_digits rfl rfl (Nat.le_of_ble_eq_true rfl) (Nat.le_of_ble_eq_true rfl) (Nat.le_of_ble_eq_true rfl) (Nat.zero_le _) (Nat.zero_le _) hf sne (fun t e => ctX1_digits h1 p1 t e) (fun t2 hf => ?_)
  refine PW.iast cx qX1_putClip_24 (AS.r1 hA) hf sne (fun h3 hf => ?_)
  refine PW.iload_n cx qX1_putClip_25 rfl ?_
  refine PW.istore_n (L' := [some (.ref (gB g + a)), some (.int p1), some (.int (rd h a 5)), some (.int p1), none]) cx qX1_putClip_26 hi3 rfl rfl ?_
  refine PW.aload_n cx qX1_putClip_27 rfl ?_
  refine PW.getf (t := (2, a + 1)) (v := .ref (gB g + (a + 1))) cx qX1_putClip_28 (hA).1 rfl flX1_9 rfl ?_
  refine PW.iload_n cx qX1_putClip_31 rfl ?_
  refine PW.iald cx qX1_putClip_32 (AS.r1 hA) hf sne (fun t4 hf => ?_)
  refine PW.iconst (v := 1) cx qX1_putClip_33 rfl ?_
  refine PW.isub cx qX1_putClip_34 ?_
  refine PW.istore (L' := [some (.ref (gB g + a)), some (.int p1), some (.int (rd h a 5)), some (.int p1), some (.int (t4 - 1))]) cx qX1_putClip_35 hi4 rfl rfl ?_
  obtain ⟨r6, er6, hf⟩ := bndO hf sne
  refine PW.locs (Lsub.keep (Lsub.drop (Lsub.keep (Lsub.keep (Lsub.keep Lsub.nil))))) (lX1_putClip_37 mx hA (rd h a 5) FU p1 (t4 - 1) h3 r6 er6 (fun xx_ e => ?_))
  subst e
  refine PW.aload_n cx qX1_putClip_69 rfl ?_
  refine PW.getf (t := (2, a + 4)) (v := .ref (gB g + (a + 4))) cx qX1_putClip_70 (hA).1 rfl flX1_21 rfl ?_
  refine PW.iload_n cx qX1_putClip_73 rfl ?_
  refine PW.iconst (v := 0) cx qX1_putClip_74 rfl ?_
  refine PW.iast cx qX1_putClip_75 (AS.r4 hA) hf sne (fun h7 hf => ?_)
  refine PW.aload_n cx qX1_putClip_76 rfl ?_
  refine PW.getf (t := (2, a + 5)) (v := .ref (gB g + (a + 5))) cx qX1_putClip_77 (hA).1 rfl flX1_24 rfl ?_
  refine PW.iload_n cx qX1_putClip_80 rfl ?_
  refine PW.bipush (v := 40) cx qX1_putClip_81 rfl ?_
  refine PW.iast cx qX1_putClip_83 (AS.r5 hA) hf sne (fun h8 hf => ?_)
  refine PW.aload_n cx qX1_putClip_84 rfl ?_
  refine PW.getf (t := (2, a + 6)) (v := .ref (gB g + (a + 6))) cx qX1_putClip_85 (hA).1 rfl flX1_27 rfl ?_
  refine PW.iload_n cx qX1_putClip_88 rfl ?_
  refine PW.iconst (v := (-1)) cx qX1_putClip_89 rfl ?_
  refine PW.iast cx qX1_putClip_90 (AS.r6 hA) hf sne (fun h9 hf => ?_)
  refine PW.aload_n cx qX1_putClip_91 rfl ?_
  refine PW.iload_n cx qX1_putClip_92 rfl ?_
  refine PW.callVWV (As := [.int (rd h a 5)]) (st := []) cx hR qX1_putClip_93 klX1_77 mvX1_renewHash (hA).1 rfl rfl rfl rfl (Nat.le_of_ble_eq_true rfl) (Nat.le_of_ble_eq_true rfl) (Nat.le_of_ble_eq_true rfl) (Nat.zero_le _) (Nat.zero_le _) hf sne (fun t e => ctX1_renewHash hA h9 (rd h a 5) t e) (fun h11 hf => ?_)
  refine PW.iload_n cx qX1_putClip_96 rfl ?_
  exact PW.iret cx hrt qX1_putClip_97 (le_wi hf)
set_option maxRecDepth 20000 in
theorem ctX1_setBed {g : GT} {ex : Bool} {sh : List Shp} {a : Nat} (hA : AS sh a) (h : Hp) (p1 : Int32) (p2 : Int32) (p3 : Int32) (r0 : Hp) (hf : A_setBed h a p1 p2 p3 = some r0) : Ct g mX1_setBed 0 0 0 ex [.ref (gB g + a), .int p1, .int p2, .int p3] sh h (PE none sh r0) := by
  refine Ct.of (L := [some (.ref (gB g + a)), some (.int p1), some (.int p2), some (.int p3)]) (by decide) (by intro w hw; simp only [List.mem_cons, List.not_mem_nil, or_false] at hw; rcases hw with rfl | rfl | rfl | rfl <;> rfl) (Nat.le_of_ble_eq_true rfl) rfl (fun X mx => ?_)
  obtain ⟨cx, hR, hml, hrt, -⟩ := mx
  have cx : Cx g X RX1 cX1_setBed := cx
  have hrt : X.2.2.2.2.2.2.2.1.sig.returnType = none := hrt
  unfold A_setBed at hf
  refine PW.aload_n cx qX1_setBed_0 rfl ?_
  refine PW.getf (t := (2, a + 8)) (v := .ref (gB g + (a + 8))) cx qX1_setBed_1 (hA).1 rfl flX1_33 rfl ?_
  refine PW.iload_n cx qX1_setBed_4 rfl ?_
  refine PW.bipush (v := 9) cx qX1_setBed_5 rfl ?_
  refine PW.imul cx qX1_setBed_7 ?_
  refine PW.iload_n cx qX1_setBed_8 rfl ?_
  refine PW.iadd cx qX1_setBed_9 ?_
  refine PW.iload_n cx qX1_setBed_10 rfl ?_
  refine PW.iast cx qX1_setBed_11 (AS.r8 hA) hf sne (fun h1 hf => ?_)
  exact PW.vret cx hrt qX1_setBed_12 (le_wv hf)
set_option maxRecDepth 20000 in
theorem lX1_putReel_24 {g : GT} {X : XT} {ex : Bool} {post : Option Value → List Shp → Hp → Prop} {sh : List Shp} (mx : Mx g X mX1_putReel 1 0 0) {a : Nat} (hA : AS sh a) (c1 : Int32) (c2 : Int32) : ∀ (n : Nat) (v3 : Int32) (h : Hp) (r : Hp) (hf : A_putReel_L24 a c1 c2 n v3 h = some r) (kx : ∀ (h1 : Hp), r = h1 → PW g X ex (QE g X ex post 0 0) 0 0 sh h1 42 [some (.ref (gB g + a)), some (.int c1), some (.int c2), none] []), PW g X ex (QE g X ex post 0 0) 0 0 sh h 24 [some (.ref (gB g + a)), some (.int c1), some (.int c2), some (.int v3)] [] := by
  have mx0 := mx
  obtain ⟨cx, hR, hml, hrt, -⟩ := mx0
  have cx : Cx g X RX1 cX1_putReel := cx
  have hrt : X.2.2.2.2.2.2.2.1.sig.returnType = (some .int) := hrt
  have hi2 : 2 < X.2.2.2.2.2.2.2.2.maxLocals := by rw [hml]; exact Nat.le_of_ble_eq_true rfl
  have hi3 : 3 < X.2.2.2.2.2.2.2.2.maxLocals := by rw [hml]; exact Nat.le_of_ble_eq_true rfl
  intro n
  induction n with
  | zero =>
    intro v3 h r hf kx
    cases hf
  | succ n ih =>
    intro v3 h r hf kx
    unfold A_putReel_L24 at hf
    refine PW.iload_n cx qX1_putReel_24 rfl ?_
    refine PW.iload_n cx qX1_putReel_25 rfl ?_
    refine PW.icmp_ge cx qX1_putReel_26 hf (fun hf => ?_) (fun hf => ?_)
    · exact PW.locs (Lsub.keep (Lsub.keep (Lsub.keep (Lsub.drop Lsub.nil)))) (kx h (Option.some.inj hf).symm)
    · refine PW.aload_n cx qX1_putReel_29 rfl ?_
      refine PW.iload_n cx qX1_putReel_30 rfl ?_
      refine PW.iload_n cx qX1_putReel_31 rfl ?_
      refine PW.iconst (v := (-1)) cx qX1_putReel_32 rfl ?_
      refine PW.callVWV (As := [.int c2, .int v3, .int (-1)]) (st := []) cx hR qX1_putReel_33 klX1_81 mvX1_setBed (hA).1 rfl rfl rfl rfl (Nat.le_of_ble_eq_true rfl) (Nat.le_of_ble_eq_true rfl) (Nat.le_of_ble_eq_true rfl) (Nat.zero_le _) (Nat.zero_le _) hf sne (fun t e => ctX1_setBed hA h c2 v3 (-1) t e) (fun h4 hf => ?_)
      refine PW.iinc (v := 1) (L' := [some (.ref (gB g + a)), some (.int c1), some (.int c2), some (.int (v3 + 1))]) cx qX1_putReel_36 rfl rfl hi3 rfl rfl ?_
      refine PW.goto cx qX1_putReel_39 ?_
      exact PW.locs (Lsub.keep (Lsub.keep (Lsub.keep (Lsub.keep Lsub.nil)))) (ih (v3 + 1) h4 _ hf kx)
set_option maxRecDepth 20000 in
theorem ctX1_putReel {g : GT} {ex : Bool} {sh : List Shp} {a : Nat} (hA : AS sh a) (h : Hp) (p1 : Int32) (r0 : Int32 × Hp) (hf : A_putReel h a p1 = some r0) : Ct g mX1_putReel 1 0 0 ex [.ref (gB g + a), .int p1] sh h (PE (some (.int r0.1)) sh r0.2) := by
  refine Ct.of (L := [some (.ref (gB g + a)), some (.int p1), none, none]) (by decide) (by intro w hw; simp only [List.mem_cons, List.not_mem_nil, or_false] at hw; rcases hw with rfl | rfl <;> rfl) (Nat.le_of_ble_eq_true rfl) rfl (fun X mx => ?_)
  have mx0 := mx
  obtain ⟨cx, hR, hml, hrt, -⟩ := mx0
  have cx : Cx g X RX1 cX1_putReel := cx
  have hrt : X.2.2.2.2.2.2.2.1.sig.returnType = (some .int) := hrt
  have hi2 : 2 < X.2.2.2.2.2.2.2.2.maxLocals := by rw [hml]; exact Nat.le_of_ble_eq_true rfl
  have hi3 : 3 < X.2.2.2.2.2.2.2.2.maxLocals := by rw [hml]; exact Nat.le_of_ble_eq_true rfl
  unfold A_putReel at hf
  refine PW.aload_n cx qX1_putReel_0 rfl ?_
  refine PW.getf (t := (0, 0)) (v := .int (rd h a 12)) cx qX1_putReel_1 (hA).1 rfl flX1_67 rfl ?_
  refine PW.istore_n (L' := [some (.ref (gB g + a)), some (.int p1), some (.int (rd h a 12)), none]) cx qX1_putReel_4 hi2 rfl rfl ?_
  refine PW.aload_n cx qX1_putReel_5 rfl ?_
  refine PW.dup cx qX1_putReel_6 rfl ?_
  refine PW.getf (t := (0, 0)) (v := .int (rd h a 12)) cx qX1_putReel_7 (hA).1 rfl flX1_67 rfl ?_
  refine PW.iconst (v := 1) cx qX1_putReel_10 rfl ?_
  refine PW.iadd cx qX1_putReel_11 ?_
  refine PW.putiN cx qX1_putReel_12 (hA).1 rfl fpX1_67 hf (fun h1 hf => ?_)
  refine PW.aload_n cx qX1_putReel_15 rfl ?_
  refine PW.getf (t := (2, a + 7)) (v := .ref (gB g + (a + 7))) cx qX1_putReel_16 (hA).1 rfl flX1_30 rfl ?_
  refine PW.iload_n cx qX1_putReel_19 rfl ?_
  refine PW.iload_n cx qX1_putReel_20 rfl ?_
  refine PW.iast cx qX1_putReel_21 (AS.r7 hA) hf sne (fun h2 hf => ?_)
  refine PW.iconst (v := 0) cx qX1_putReel_22 rfl ?_
  refine PW.istore_n (L' := [some (.ref (gB g + a)), some (.int p1), some (.int (rd h a 12)), some (.int 0)]) cx qX1_putReel_23 hi3 rfl rfl ?_
  obtain ⟨r5, er5, hf⟩ := bndO hf sne
  refine PW.locs (Lsub.keep (Lsub.keep (Lsub.keep (Lsub.keep Lsub.nil)))) (lX1_putReel_24 mx hA p1 (rd h a 12) FU 0 h2 r5 er5 (fun xx_ e => ?_))
  subst e
  refine PW.iload_n cx qX1_putReel_42 rfl ?_
  exact PW.iret cx hrt qX1_putReel_43 (le_wi hf)
set_option maxRecDepth 20000 in
theorem ctX1_putScene {g : GT} {ex : Bool} {sh : List Shp} {a : Nat} (hA : AS sh a) (h : Hp) (p1 : Int32) (r0 : Int32 × Hp) (hf : A_putScene h a p1 = some r0) : Ct g mX1_putScene 0 0 0 ex [.ref (gB g + a), .int p1] sh h (PE (some (.int r0.1)) sh r0.2) := by
  refine Ct.of (L := [some (.ref (gB g + a)), some (.int p1), none]) (by decide) (by intro w hw; simp only [List.mem_cons, List.not_mem_nil, or_false] at hw; rcases hw with rfl | rfl <;> rfl) (Nat.le_of_ble_eq_true rfl) rfl (fun X mx => ?_)
  obtain ⟨cx, hR, hml, hrt, -⟩ := mx
  have cx : Cx g X RX1 cX1_putScene := cx
  have hrt : X.2.2.2.2.2.2.2.1.sig.returnType = (some .int) := hrt
  have hi2 : 2 < X.2.2.2.2.2.2.2.2.maxLocals := by rw [hml]; exact Nat.le_of_ble_eq_true rfl
  unfold A_putScene at hf
  refine PW.aload_n cx qX1_putScene_0 rfl ?_
  refine PW.getf (t := (0, 0)) (v := .int (rd h a 15)) cx qX1_putScene_1 (hA).1 rfl flX1_70 rfl ?_
  refine PW.istore_n (L' := [some (.ref (gB g + a)), some (.int p1), some (.int (rd h a 15))]) cx qX1_putScene_4 hi2 rfl rfl ?_
  refine PW.aload_n cx qX1_putScene_5 rfl ?_
  refine PW.dup cx qX1_putScene_6 rfl ?_
  refine PW.getf (t := (0, 0)) (v := .int (rd h a 15)) cx qX1_putScene_7 (hA).1 rfl flX1_70 rfl ?_
  refine PW.iconst (v := 1) cx qX1_putScene_10 rfl ?_
  refine PW.iadd cx qX1_putScene_11 ?_
  refine PW.putiN cx qX1_putScene_12 (hA).1 rfl fpX1_70 hf (fun h1 hf => ?_)
  refine PW.aload_n cx qX1_putScene_15 rfl ?_
  refine PW.getf (t := (2, a + 9)) (v := .ref (gB g + (a + 9))) cx qX1_putScene_16 (hA).1 rfl flX1_36 rfl ?_
  refine PW.iload_n cx qX1_putScene_19 rfl ?_
  refine PW.iload_n cx qX1_putScene_20 rfl ?_
  refine PW.iast cx qX1_putScene_21 (AS.r9 hA) hf sne (fun h2 hf => ?_)
  refine PW.aload_n cx qX1_putScene_22 rfl ?_
  refine PW.getf (t := (2, a + 10)) (v := .ref (gB g + (a + 10))) cx qX1_putScene_23 (hA).1 rfl flX1_39 rfl ?_
  refine PW.iload_n cx qX1_putScene_26 rfl ?_
  refine PW.iload_n cx qX1_putScene_27 rfl ?_
  refine PW.iast cx qX1_putScene_28 (AS.r10 hA) hf sne (fun h3 hf => ?_)
  refine PW.iload_n cx qX1_putScene_29 rfl ?_
  exact PW.iret cx hrt qX1_putScene_30 (le_wi hf)
set_option maxRecDepth 20000 in
theorem lX1_coloursOf_4 {g : GT} {X : XT} {ex : Bool} {post : Option Value → List Shp → Hp → Prop} {sh : List Shp} (mx : Mx g X mX1_coloursOf 1 0 0) {a : Nat} (hA : AS sh a) (h : Hp) (c1 : Int32) : ∀ (n : Nat) (v2 : Int32) (v3 : Int32) (r : Int32) (hf : A_coloursOf_L4 h a c1 n v2 v3 = some r) (kx : ∀ (x2 : Int32), r = x2 → PW g X ex (QE g X ex post 0 0) 0 0 sh h 32 [some (.ref (gB g + a)), some (.int c1), some (.int x2), none] []), PW g X ex (QE g X ex post 0 0) 0 0 sh h 4 [some (.ref (gB g + a)), some (.int c1), some (.int v2), some (.int v3)] [] := by
  have mx0 := mx
  obtain ⟨cx, hR, hml, hrt, -⟩ := mx0
  have cx : Cx g X RX1 cX1_coloursOf := cx
  have hrt : X.2.2.2.2.2.2.2.1.sig.returnType = (some .int) := hrt
  have hi2 : 2 < X.2.2.2.2.2.2.2.2.maxLocals := by rw [hml]; exact Nat.le_of_ble_eq_true rfl
  have hi3 : 3 < X.2.2.2.2.2.2.2.2.maxLocals := by rw [hml]; exact Nat.le_of_ble_eq_true rfl
  intro n
  induction n with
  | zero =>
    intro v2 v3 r hf kx
    cases hf
  | succ n ih =>
    intro v2 v3 r hf kx
    unfold A_coloursOf_L4 at hf
    refine PW.iload_n cx qX1_coloursOf_4 rfl ?_
    refine PW.aload_n cx qX1_coloursOf_5 rfl ?_
    refine PW.getf (t := (2, a + 1)) (v := .ref (gB g + (a + 1))) cx qX1_coloursOf_6 (hA).1 rfl flX1_9 rfl ?_
    refine PW.iload_n cx qX1_coloursOf_9 rfl ?_
    refine PW.iald cx qX1_coloursOf_10 (AS.r1 hA) hf sne (fun t1 hf => ?_)
    refine PW.icmp_ge cx qX1_coloursOf_11 hf (fun hf => ?_) (fun hf => ?_)
    · exact PW.locs (Lsub.keep (Lsub.keep (Lsub.keep (Lsub.drop Lsub.nil)))) (kx v2 (Option.some.inj hf).symm)
    · refine PW.bipush (v := 10) cx qX1_coloursOf_14 rfl ?_
      refine PW.iload_n cx qX1_coloursOf_16 rfl ?_
      refine PW.imul cx qX1_coloursOf_17 ?_
      refine PW.aload_n cx qX1_coloursOf_18 rfl ?_
      refine PW.iload_n cx qX1_coloursOf_19 rfl ?_
      refine PW.iload_n cx qX1_coloursOf_20 rfl ?_
      refine PW.callVRI (As := [.int c1, .int v3]) (st := [.int (10 * v2)]) cx hR qX1_coloursOf_21 klX1_85 mvX1_colourAt (hA).1 rfl rfl rfl rfl (Nat.le_of_ble_eq_true rfl) (Nat.le_of_ble_eq_true rfl) (Nat.le_of_ble_eq_true rfl) (Nat.zero_le _) (Nat.zero_le _) hf sne (fun t e => ctX1_colourAt hA h c1 v3 t e) (fun t2 hf => ?_)
      refine PW.iadd cx qX1_coloursOf_24 ?_
      refine PW.istore_n (L' := [some (.ref (gB g + a)), some (.int c1), some (.int ((10 * v2) + t2)), some (.int v3)]) cx qX1_coloursOf_25 hi2 rfl rfl ?_
      refine PW.iinc (v := 1) (L' := [some (.ref (gB g + a)), some (.int c1), some (.int ((10 * v2) + t2)), some (.int (v3 + 1))]) cx qX1_coloursOf_26 rfl rfl hi3 rfl rfl ?_
      refine PW.goto cx qX1_coloursOf_29 ?_
      exact PW.locs (Lsub.keep (Lsub.keep (Lsub.keep (Lsub.keep Lsub.nil)))) (ih ((10 * v2) + t2) (v3 + 1) _ hf kx)
set_option maxRecDepth 20000 in
theorem ctX1_coloursOf {g : GT} {ex : Bool} {sh : List Shp} {a : Nat} (hA : AS sh a) (h : Hp) (p1 : Int32) (r0 : Int32) (hf : A_coloursOf h a p1 = some r0) : Ct g mX1_coloursOf 1 0 0 ex [.ref (gB g + a), .int p1] sh h (PE (some (.int r0)) sh h) := by
  refine Ct.of (L := [some (.ref (gB g + a)), some (.int p1), none, none]) (by decide) (by intro w hw; simp only [List.mem_cons, List.not_mem_nil, or_false] at hw; rcases hw with rfl | rfl <;> rfl) (Nat.le_of_ble_eq_true rfl) rfl (fun X mx => ?_)
  have mx0 := mx
  obtain ⟨cx, hR, hml, hrt, -⟩ := mx0
  have cx : Cx g X RX1 cX1_coloursOf := cx
  have hrt : X.2.2.2.2.2.2.2.1.sig.returnType = (some .int) := hrt
  have hi2 : 2 < X.2.2.2.2.2.2.2.2.maxLocals := by rw [hml]; exact Nat.le_of_ble_eq_true rfl
  have hi3 : 3 < X.2.2.2.2.2.2.2.2.maxLocals := by rw [hml]; exact Nat.le_of_ble_eq_true rfl
  unfold A_coloursOf at hf
  refine PW.iconst (v := 0) cx qX1_coloursOf_0 rfl ?_
  refine PW.istore_n (L' := [some (.ref (gB g + a)), some (.int p1), some (.int 0), none]) cx qX1_coloursOf_1 hi2 rfl rfl ?_
  refine PW.iconst (v := 0) cx qX1_coloursOf_2 rfl ?_
  refine PW.istore_n (L' := [some (.ref (gB g + a)), some (.int p1), some (.int 0), some (.int 0)]) cx qX1_coloursOf_3 hi3 rfl rfl ?_
  obtain ⟨r3, er3, hf⟩ := bndO hf sne
  refine PW.locs (Lsub.keep (Lsub.keep (Lsub.keep (Lsub.keep Lsub.nil)))) (lX1_coloursOf_4 mx hA h p1 FU 0 0 r3 er3 (fun xx_ e => ?_))
  subst e
  refine PW.iload_n cx qX1_coloursOf_32 rfl ?_
  exact PW.iret cx hrt qX1_coloursOf_33 (le_ri hf)
set_option maxRecDepth 20000 in
theorem ctX1_paintClip {g : GT} {ex : Bool} {sh : List Shp} {a : Nat} (hA : AS sh a) (h : Hp) (p1 : Int32) (p2 : Int32) (p3 : Int32) (r0 : Int32 × Hp) (hf : A_paintClip h a p1 p2 p3 = some r0) : Ct g mX1_paintClip 2 0 0 ex [.ref (gB g + a), .int p1, .int p2, .int p3] sh h (PE (some (.int r0.1)) sh r0.2) := by
  refine Ct.of (L := [some (.ref (gB g + a)), some (.int p1), some (.int p2), some (.int p3)]) (by decide) (by intro w hw; simp only [List.mem_cons, List.not_mem_nil, or_false] at hw; rcases hw with rfl | rfl | rfl | rfl <;> rfl) (Nat.le_of_ble_eq_true rfl) rfl (fun X mx => ?_)
  obtain ⟨cx, hR, hml, hrt, -⟩ := mx
  have cx : Cx g X RX1 cX1_paintClip := cx
  have hrt : X.2.2.2.2.2.2.2.1.sig.returnType = (some .int) := hrt
  unfold A_paintClip at hf
  refine PW.aload_n cx qX1_paintClip_0 rfl ?_
  refine PW.getf (t := (2, a + 2)) (v := .ref (gB g + (a + 2))) cx qX1_paintClip_1 (hA).1 rfl flX1_15 rfl ?_
  refine PW.iload_n cx qX1_paintClip_4 rfl ?_
  refine PW.bipush (v := 8) cx qX1_paintClip_5 rfl ?_
  refine PW.imul cx qX1_paintClip_7 ?_
  refine PW.iload_n cx qX1_paintClip_8 rfl ?_
  refine PW.iadd cx qX1_paintClip_9 ?_
  refine PW.iload_n cx qX1_paintClip_10 rfl ?_
  refine PW.iast cx qX1_paintClip_11 (AS.r2 hA) hf sne (fun h1 hf => ?_)
  refine PW.aload_n cx qX1_paintClip_12 rfl ?_
  refine PW.iload_n cx qX1_paintClip_13 rfl ?_
  refine PW.callVWV (As := [.int p1]) (st := []) cx hR qX1_paintClip_14 klX1_77 mvX1_renewHash (hA).1 rfl rfl rfl rfl (Nat.le_of_ble_eq_true rfl) (Nat.le_of_ble_eq_true rfl) (Nat.le_of_ble_eq_true rfl) (Nat.zero_le _) (Nat.zero_le _) hf sne (fun t e => ctX1_renewHash hA h1 p1 t e) (fun h3 hf => ?_)
  refine PW.aload_n cx qX1_paintClip_17 rfl ?_
  refine PW.getf (t := (2, a + 3)) (v := .ref (gB g + (a + 3))) cx qX1_paintClip_18 (hA).1 rfl flX1_18 rfl ?_
  refine PW.iload_n cx qX1_paintClip_21 rfl ?_
  refine PW.iald cx qX1_paintClip_22 (AS.r3 hA) hf sne (fun t4 hf => ?_)
  exact PW.iret cx hrt qX1_paintClip_23 (le_wi hf)
set_option maxRecDepth 20000 in
theorem lX1_matchesAt_8 {g : GT} {X : XT} {ex : Bool} {post : Option Value → List Shp → Hp → Prop} {sh : List Shp} (mx : Mx g X mX1_matchesAt 1 0 0) {a : Nat} (hA : AS sh a) (h : Hp) (c1 : Int32) : ∀ (n : Nat) (v4 : Int32) (v5 : Int32) (r : (Unit) ⊕ (Bool)) (hf : A_matchesAt_L8 h a c1 n v4 v5 = some r) (kx : r = .inl () → PW g X ex (QE g X ex post 0 0) 0 0 sh h 57 [some (.ref (gB g + a)), some (.int c1), none, none, none, none, none] []) (kr : ∀ y : Bool, r = .inr y → post (some (.int (b2i y))) sh h), PW g X ex (QE g X ex post 0 0) 0 0 sh h 8 [some (.ref (gB g + a)), some (.int c1), none, none, some (.int v4), some (.int v5), none] [] := by
  have mx0 := mx
  obtain ⟨cx, hR, hml, hrt, -⟩ := mx0
  have cx : Cx g X RX1 cX1_matchesAt := cx
  have hrt : X.2.2.2.2.2.2.2.1.sig.returnType = (some .boolean) := hrt
  have hi4 : 4 < X.2.2.2.2.2.2.2.2.maxLocals := by rw [hml]; exact Nat.le_of_ble_eq_true rfl
  have hi5 : 5 < X.2.2.2.2.2.2.2.2.maxLocals := by rw [hml]; exact Nat.le_of_ble_eq_true rfl
  have hi6 : 6 < X.2.2.2.2.2.2.2.2.maxLocals := by rw [hml]; exact Nat.le_of_ble_eq_true rfl
  intro n
  induction n with
  | zero =>
    intro v4 v5 r hf kx kr
    cases hf
  | succ n ih =>
    intro v4 v5 r hf kx kr
    unfold A_matchesAt_L8 at hf
    refine PW.iload cx qX1_matchesAt_8 rfl ?_
    refine PW.if_lt cx qX1_matchesAt_10 hf (fun hf => ?_) (fun hf => ?_)
    · exact PW.locs (Lsub.keep (Lsub.keep (Lsub.drop (Lsub.drop (Lsub.drop (Lsub.drop (Lsub.drop Lsub.nil))))))) (kx (Option.some.inj hf).symm)
    · refine PW.iload cx qX1_matchesAt_13 rfl ?_
      refine PW.if_le cx qX1_matchesAt_15 hf (fun hf => ?_) (fun hf => ?_)
      · exact PW.locs (Lsub.keep (Lsub.keep (Lsub.drop (Lsub.drop (Lsub.drop (Lsub.drop (Lsub.drop Lsub.nil))))))) (kx (Option.some.inj hf).symm)
      · refine PW.iload cx qX1_matchesAt_18 rfl ?_
        refine PW.bipush (v := 10) cx qX1_matchesAt_20 rfl ?_
        refine PW.iremK cx qX1_matchesAt_22 (by decide) ?_
        refine PW.istore (L' := [some (.ref (gB g + a)), some (.int c1), none, none, some (.int v4), some (.int v5), some (.int (v4 - v4 / 10 * 10))]) cx qX1_matchesAt_23 hi6 rfl rfl ?_
        refine PW.iload cx qX1_matchesAt_25 rfl ?_
        refine PW.if_eq cx qX1_matchesAt_27 hf (fun hf => ?_) (fun hf => ?_)
        · refine PW.iload cx qX1_matchesAt_44 rfl ?_
          refine PW.bipush (v := 10) cx qX1_matchesAt_46 rfl ?_
          refine PW.idivK cx qX1_matchesAt_48 (by decide) ?_
          refine PW.istore (L' := [some (.ref (gB g + a)), some (.int c1), none, none, some (.int (v4 / 10)), some (.int v5), some (.int (v4 - v4 / 10 * 10))]) cx qX1_matchesAt_49 hi4 rfl rfl ?_
          refine PW.iinc (v := (-1)) (L' := [some (.ref (gB g + a)), some (.int c1), none, none, some (.int (v4 / 10)), some (.int (v5 + (-1))), some (.int (v4 - v4 / 10 * 10))]) cx qX1_matchesAt_51 rfl rfl hi5 rfl rfl ?_
          refine PW.goto cx qX1_matchesAt_54 ?_
          exact PW.locs (Lsub.keep (Lsub.keep (Lsub.drop (Lsub.drop (Lsub.keep (Lsub.keep (Lsub.drop Lsub.nil))))))) (ih (v4 / 10) (v5 + (-1)) _ hf kx kr)
        · refine PW.iload cx qX1_matchesAt_30 rfl ?_
          refine PW.aload_n cx qX1_matchesAt_32 rfl ?_
          refine PW.iload_n cx qX1_matchesAt_33 rfl ?_
          refine PW.iload cx qX1_matchesAt_34 rfl ?_
          refine PW.callVRI (As := [.int c1, .int v5]) (st := [.int (v4 - v4 / 10 * 10)]) cx hR qX1_matchesAt_36 klX1_85 mvX1_colourAt (hA).1 rfl rfl rfl rfl (Nat.le_of_ble_eq_true rfl) (Nat.le_of_ble_eq_true rfl) (Nat.le_of_ble_eq_true rfl) (Nat.zero_le _) (Nat.zero_le _) hf sne (fun t e => ctX1_colourAt hA h c1 v5 t e) (fun t1 hf => ?_)
          refine PW.icmp_eq cx qX1_matchesAt_39 hf (fun hf => ?_) (fun hf => ?_)
          · refine PW.iload cx qX1_matchesAt_44 rfl ?_
            refine PW.bipush (v := 10) cx qX1_matchesAt_46 rfl ?_
            refine PW.idivK cx qX1_matchesAt_48 (by decide) ?_
            refine PW.istore (L' := [some (.ref (gB g + a)), some (.int c1), none, none, some (.int (v4 / 10)), some (.int v5), some (.int (v4 - v4 / 10 * 10))]) cx qX1_matchesAt_49 hi4 rfl rfl ?_
            refine PW.iinc (v := (-1)) (L' := [some (.ref (gB g + a)), some (.int c1), none, none, some (.int (v4 / 10)), some (.int (v5 + (-1))), some (.int (v4 - v4 / 10 * 10))]) cx qX1_matchesAt_51 rfl rfl hi5 rfl rfl ?_
            refine PW.goto cx qX1_matchesAt_54 ?_
            exact PW.locs (Lsub.keep (Lsub.keep (Lsub.drop (Lsub.drop (Lsub.keep (Lsub.keep (Lsub.drop Lsub.nil))))))) (ih (v4 / 10) (v5 + (-1)) _ hf kx kr)
          · refine PW.iconst (v := 0) cx qX1_matchesAt_42 rfl ?_
            exact PW.zret cx hrt nb0 qX1_matchesAt_43 (kr _ (Option.some.inj hf).symm)
set_option maxRecDepth 20000 in
theorem ctX1_matchesAt {g : GT} {ex : Bool} {sh : List Shp} {a : Nat} (hA : AS sh a) (h : Hp) (p1 : Int32) (p2 : Int32) (p3 : Int32) (r0 : Bool) (hf : A_matchesAt h a p1 p2 p3 = some r0) : Ct g mX1_matchesAt 1 0 0 ex [.ref (gB g + a), .int p1, .int p2, .int p3] sh h (PE (some (.int (b2i r0))) sh h) := by
  refine Ct.of (L := [some (.ref (gB g + a)), some (.int p1), some (.int p2), some (.int p3), none, none, none]) (by decide) (by intro w hw; simp only [List.mem_cons, List.not_mem_nil, or_false] at hw; rcases hw with rfl | rfl | rfl | rfl <;> rfl) (Nat.le_of_ble_eq_true rfl) rfl (fun X mx => ?_)
  have mx0 := mx
  obtain ⟨cx, hR, hml, hrt, -⟩ := mx0
  have cx : Cx g X RX1 cX1_matchesAt := cx
  have hrt : X.2.2.2.2.2.2.2.1.sig.returnType = (some .boolean) := hrt
  have hi4 : 4 < X.2.2.2.2.2.2.2.2.maxLocals := by rw [hml]; exact Nat.le_of_ble_eq_true rfl
  have hi5 : 5 < X.2.2.2.2.2.2.2.2.maxLocals := by rw [hml]; exact Nat.le_of_ble_eq_true rfl
  have hi6 : 6 < X.2.2.2.2.2.2.2.2.maxLocals := by rw [hml]; exact Nat.le_of_ble_eq_true rfl
  unfold A_matchesAt at hf
  refine PW.iload_n cx qX1_matchesAt_0 rfl ?_
  refine PW.istore (L' := [some (.ref (gB g + a)), some (.int p1), some (.int p2), some (.int p3), some (.int p3), none, none]) cx qX1_matchesAt_1 hi4 rfl rfl ?_
  refine PW.iload_n cx qX1_matchesAt_3 rfl ?_
  refine PW.iconst (v := 1) cx qX1_matchesAt_4 rfl ?_
  refine PW.isub cx qX1_matchesAt_5 ?_
  refine PW.istore (L' := [some (.ref (gB g + a)), some (.int p1), some (.int p2), some (.int p3), some (.int p3), some (.int (p2 - 1)), none]) cx qX1_matchesAt_6 hi5 rfl rfl ?_
  obtain ⟨r2, er2, hf⟩ := bndO hf sne
  refine PW.locs (Lsub.keep (Lsub.keep (Lsub.drop (Lsub.drop (Lsub.keep (Lsub.keep (Lsub.drop Lsub.nil))))))) (lX1_matchesAt_8 mx hA h p1 FU p3 (p2 - 1) r2 er2 (fun e => ?_) (fun y e => ?_))
  · subst e
    refine PW.iconst (v := 1) cx qX1_matchesAt_57 rfl ?_
    exact PW.zret cx hrt nb1 qX1_matchesAt_58 (le_rz hf)
  · subst e
    exact (le_rz hf)
set_option maxRecDepth 20000 in
theorem lX1_findPattern_8 {g : GT} {X : XT} {ex : Bool} {post : Option Value → List Shp → Hp → Prop} {sh : List Shp} (mx : Mx g X mX1_findPattern 2 0 0) {a : Nat} (hA : AS sh a) (h : Hp) (c1 : Int32) (c2 : Int32) (c3 : Int32) : ∀ (n : Nat) (v4 : Int32) (r : (Unit) ⊕ (Int32)) (hf : A_findPattern_L8 h a c1 c2 c3 n v4 = some r) (kx : r = .inl () → PW g X ex (QE g X ex post 0 0) 0 0 sh h 43 [some (.ref (gB g + a)), some (.int c1), some (.int c2), some (.int c3), none] []) (kr : ∀ y : Int32, r = .inr y → post (some (.int y)) sh h), PW g X ex (QE g X ex post 0 0) 0 0 sh h 8 [some (.ref (gB g + a)), some (.int c1), some (.int c2), some (.int c3), some (.int v4)] [] := by
  have mx0 := mx
  obtain ⟨cx, hR, hml, hrt, -⟩ := mx0
  have cx : Cx g X RX1 cX1_findPattern := cx
  have hrt : X.2.2.2.2.2.2.2.1.sig.returnType = (some .int) := hrt
  have hi3 : 3 < X.2.2.2.2.2.2.2.2.maxLocals := by rw [hml]; exact Nat.le_of_ble_eq_true rfl
  have hi4 : 4 < X.2.2.2.2.2.2.2.2.maxLocals := by rw [hml]; exact Nat.le_of_ble_eq_true rfl
  intro n
  induction n with
  | zero =>
    intro v4 r hf kx kr
    cases hf
  | succ n ih =>
    intro v4 r hf kx kr
    unfold A_findPattern_L8 at hf
    refine PW.iload cx qX1_findPattern_8 rfl ?_
    refine PW.iload_n cx qX1_findPattern_10 rfl ?_
    refine PW.iadd cx qX1_findPattern_11 ?_
    refine PW.aload_n cx qX1_findPattern_12 rfl ?_
    refine PW.getf (t := (2, a + 1)) (v := .ref (gB g + (a + 1))) cx qX1_findPattern_13 (hA).1 rfl flX1_9 rfl ?_
    refine PW.iload_n cx qX1_findPattern_16 rfl ?_
    refine PW.iald cx qX1_findPattern_17 (AS.r1 hA) hf sne (fun t2 hf => ?_)
    refine PW.icmp_gt cx qX1_findPattern_18 hf (fun hf => ?_) (fun hf => ?_)
    · exact PW.locs (Lsub.keep (Lsub.keep (Lsub.keep (Lsub.keep (Lsub.drop Lsub.nil))))) (kx (Option.some.inj hf).symm)
    · refine PW.aload_n cx qX1_findPattern_21 rfl ?_
      refine PW.iload_n cx qX1_findPattern_22 rfl ?_
      refine PW.iload cx qX1_findPattern_23 rfl ?_
      refine PW.iload_n cx qX1_findPattern_25 rfl ?_
      refine PW.iadd cx qX1_findPattern_26 ?_
      refine PW.iload_n cx qX1_findPattern_27 rfl ?_
      refine PW.callVRB (As := [.int c1, .int (v4 + c3), .int c2]) (st := []) cx hR qX1_findPattern_28 klX1_104 mvX1_matchesAt (hA).1 rfl rfl rfl rfl (Nat.le_of_ble_eq_true rfl) (Nat.le_of_ble_eq_true rfl) (Nat.le_of_ble_eq_true rfl) (Nat.zero_le _) (Nat.zero_le _) hf sne (fun t e => ctX1_matchesAt hA h c1 (v4 + c3) c2 t e) (fun t3 hf => ?_)
      refine PW.if_eq cx qX1_findPattern_31 hf (fun hf => ?_) (fun hf => ?_)
      · refine PW.iinc (v := 1) (L' := [some (.ref (gB g + a)), some (.int c1), some (.int c2), some (.int c3), some (.int (v4 + 1))]) cx qX1_findPattern_37 rfl rfl hi4 rfl rfl ?_
        refine PW.goto cx qX1_findPattern_40 ?_
        exact PW.locs (Lsub.keep (Lsub.keep (Lsub.keep (Lsub.keep (Lsub.keep Lsub.nil))))) (ih (v4 + 1) _ hf kx kr)
      · refine PW.iload cx qX1_findPattern_34 rfl ?_
        exact PW.iret cx hrt qX1_findPattern_36 (kr _ (Option.some.inj hf).symm)
set_option maxRecDepth 20000 in
theorem ctX1_findPattern {g : GT} {ex : Bool} {sh : List Shp} {a : Nat} (hA : AS sh a) (h : Hp) (p1 : Int32) (p2 : Int32) (r0 : Int32) (hf : A_findPattern h a p1 p2 = some r0) : Ct g mX1_findPattern 2 0 0 ex [.ref (gB g + a), .int p1, .int p2] sh h (PE (some (.int r0)) sh h) := by
  refine Ct.of (L := [some (.ref (gB g + a)), some (.int p1), some (.int p2), none, none]) (by decide) (by intro w hw; simp only [List.mem_cons, List.not_mem_nil, or_false] at hw; rcases hw with rfl | rfl | rfl <;> rfl) (Nat.le_of_ble_eq_true rfl) rfl (fun X mx => ?_)
  have mx0 := mx
  obtain ⟨cx, hR, hml, hrt, -⟩ := mx0
  have cx : Cx g X RX1 cX1_findPattern := cx
  have hrt : X.2.2.2.2.2.2.2.1.sig.returnType = (some .int) := hrt
  have hi3 : 3 < X.2.2.2.2.2.2.2.2.maxLocals := by rw [hml]; exact Nat.le_of_ble_eq_true rfl
  have hi4 : 4 < X.2.2.2.2.2.2.2.2.maxLocals := by rw [hml]; exact Nat.le_of_ble_eq_true rfl
  unfold A_findPattern at hf
  refine PW.iload_n cx qX1_findPattern_0 rfl ?_
  refine PW.callSRI (As := [.int p2]) (st := []) cx hR qX1_findPattern_1 klX1_73 miX1_digits rfl rfl (Nat.le_of_ble_eq_true rfl) (Nat.le_of_ble_eq_true rfl) (Nat.le_of_ble_eq_true rfl) (Nat.zero_le _) (Nat.zero_le _) hf sne (fun t e => ctX1_digits h p2 t e) (fun t1 hf => ?_)
  refine PW.istore_n (L' := [some (.ref (gB g + a)), some (.int p1), some (.int p2), some (.int t1), none]) cx qX1_findPattern_4 hi3 rfl rfl ?_
  refine PW.iconst (v := 0) cx qX1_findPattern_5 rfl ?_
  refine PW.istore (L' := [some (.ref (gB g + a)), some (.int p1), some (.int p2), some (.int t1), some (.int 0)]) cx qX1_findPattern_6 hi4 rfl rfl ?_
  obtain ⟨r4, er4, hf⟩ := bndO hf sne
  refine PW.locs (Lsub.keep (Lsub.keep (Lsub.keep (Lsub.keep (Lsub.keep Lsub.nil))))) (lX1_findPattern_8 mx hA h p1 p2 t1 FU 0 r4 er4 (fun e => ?_) (fun y e => ?_))
  · subst e
    refine PW.iconst (v := (-1)) cx qX1_findPattern_43 rfl ?_
    exact PW.iret cx hrt qX1_findPattern_44 (le_ri hf)
  · subst e
    exact (le_ri hf)
set_option maxRecDepth 20000 in
theorem ctX1_inBed {g : GT} {ex : Bool} {sh : List Shp} {a : Nat} (hA : AS sh a) (h : Hp) (p1 : Int32) (p2 : Int32) (r0 : Int32) (hf : A_inBed h a p1 p2 = some r0) : Ct g mX1_inBed 0 0 0 ex [.ref (gB g + a), .int p1, .int p2] sh h (PE (some (.int r0)) sh h) := by
  refine Ct.of (L := [some (.ref (gB g + a)), some (.int p1), some (.int p2)]) (by decide) (by intro w hw; simp only [List.mem_cons, List.not_mem_nil, or_false] at hw; rcases hw with rfl | rfl | rfl <;> rfl) (Nat.le_of_ble_eq_true rfl) rfl (fun X mx => ?_)
  obtain ⟨cx, hR, hml, hrt, -⟩ := mx
  have cx : Cx g X RX1 cX1_inBed := cx
  have hrt : X.2.2.2.2.2.2.2.1.sig.returnType = (some .int) := hrt
  unfold A_inBed at hf
  refine PW.aload_n cx qX1_inBed_0 rfl ?_
  refine PW.getf (t := (2, a + 8)) (v := .ref (gB g + (a + 8))) cx qX1_inBed_1 (hA).1 rfl flX1_33 rfl ?_
  refine PW.iload_n cx qX1_inBed_4 rfl ?_
  refine PW.bipush (v := 9) cx qX1_inBed_5 rfl ?_
  refine PW.imul cx qX1_inBed_7 ?_
  refine PW.iload_n cx qX1_inBed_8 rfl ?_
  refine PW.iadd cx qX1_inBed_9 ?_
  refine PW.iald cx qX1_inBed_10 (AS.r8 hA) hf sne (fun t1 hf => ?_)
  exact PW.iret cx hrt qX1_inBed_11 (le_ri hf)
set_option maxRecDepth 20000 in
theorem lX1_cutScene_17 {g : GT} {X : XT} {ex : Bool} {post : Option Value → List Shp → Hp → Prop} {sh : List Shp} (mx : Mx g X mX1_cutScene 3 0 0) {a : Nat} (hA : AS sh a) (c1 : Int32) (c2 : Int32) (c4 : Int32) : ∀ (n : Nat) (v3 : Int32) (v5 : Int32) (h : Hp) (r : Int32 × Hp) (hf : A_cutScene_L17 a c1 c2 c4 n v3 v5 h = some r) (kx : ∀ (x3 : Int32) (h1 : Hp), r = (x3, h1) → PW g X ex (QE g X ex post 0 0) 0 0 sh h1 123 [some (.ref (gB g + a)), some (.int c1), some (.int c2), some (.int x3), some (.int c4), none, none] []), PW g X ex (QE g X ex post 0 0) 0 0 sh h 17 [some (.ref (gB g + a)), some (.int c1), some (.int c2), some (.int v3), some (.int c4), some (.int v5), none] [] := by
  have mx0 := mx
  obtain ⟨cx, hR, hml, hrt, -⟩ := mx0
  have cx : Cx g X RX1 cX1_cutScene := cx
  have hrt : X.2.2.2.2.2.2.2.1.sig.returnType = (some .int) := hrt
  have hi3 : 3 < X.2.2.2.2.2.2.2.2.maxLocals := by rw [hml]; exact Nat.le_of_ble_eq_true rfl
  have hi4 : 4 < X.2.2.2.2.2.2.2.2.maxLocals := by rw [hml]; exact Nat.le_of_ble_eq_true rfl
  have hi5 : 5 < X.2.2.2.2.2.2.2.2.maxLocals := by rw [hml]; exact Nat.le_of_ble_eq_true rfl
  have hi6 : 6 < X.2.2.2.2.2.2.2.2.maxLocals := by rw [hml]; exact Nat.le_of_ble_eq_true rfl
  intro n
  induction n with
  | zero =>
    intro v3 v5 h r hf kx
    cases hf
  | succ n ih =>
    intro v3 v5 h r hf kx
    unfold A_cutScene_L17 at hf
    refine PW.iload cx qX1_cutScene_17 rfl ?_
    refine PW.aload_n cx qX1_cutScene_19 rfl ?_
    refine PW.getf (t := (2, a + 7)) (v := .ref (gB g + (a + 7))) cx qX1_cutScene_20 (hA).1 rfl flX1_30 rfl ?_
    refine PW.iload cx qX1_cutScene_23 rfl ?_
    refine PW.iald cx qX1_cutScene_25 (AS.r7 hA) hf sne (fun t1 hf => ?_)
    refine PW.icmp_ge cx qX1_cutScene_26 hf (fun hf => ?_) (fun hf => ?_)
    · exact PW.locs (Lsub.keep (Lsub.keep (Lsub.keep (Lsub.keep (Lsub.keep (Lsub.drop (Lsub.drop Lsub.nil))))))) (kx v3 h (Option.some.inj hf).symm)
    · refine PW.aload_n cx qX1_cutScene_29 rfl ?_
      refine PW.iload cx qX1_cutScene_30 rfl ?_
      refine PW.iload cx qX1_cutScene_32 rfl ?_
      refine PW.callVRI (As := [.int c4, .int v5]) (st := []) cx hR qX1_cutScene_34 klX1_115 mvX1_inBed (hA).1 rfl rfl rfl rfl (Nat.le_of_ble_eq_true rfl) (Nat.le_of_ble_eq_true rfl) (Nat.le_of_ble_eq_true rfl) (Nat.zero_le _) (Nat.zero_le _) hf sne (fun t e => ctX1_inBed hA h c4 v5 t e) (fun t2 hf => ?_)
      refine PW.istore (L' := [some (.ref (gB g + a)), some (.int c1), some (.int c2), some (.int v3), some (.int c4), some (.int v5), some (.int t2)]) cx qX1_cutScene_37 hi6 rfl rfl ?_
      refine PW.aload_n cx qX1_cutScene_39 rfl ?_
      refine PW.getf (t := (2, a + 10)) (v := .ref (gB g + (a + 10))) cx qX1_cutScene_40 (hA).1 rfl flX1_39 rfl ?_
      refine PW.iload_n cx qX1_cutScene_43 rfl ?_
      refine PW.iald cx qX1_cutScene_44 (AS.r10 hA) hf sne (fun t3 hf => ?_)
      refine PW.if_le cx qX1_cutScene_45 hf (fun hf => ?_) (fun hf => ?_)
      · refine PW.iinc (v := 1) (L' := [some (.ref (gB g + a)), some (.int c1), some (.int c2), some (.int v3), some (.int c4), some (.int (v5 + 1)), some (.int t2)]) cx qX1_cutScene_117 rfl rfl hi5 rfl rfl ?_
        refine PW.goto cx qX1_cutScene_120 ?_
        exact PW.locs (Lsub.keep (Lsub.keep (Lsub.keep (Lsub.keep (Lsub.keep (Lsub.keep (Lsub.drop Lsub.nil))))))) (ih v3 (v5 + 1) h _ hf kx)
      · refine PW.iload cx qX1_cutScene_48 rfl ?_
        refine PW.if_lt cx qX1_cutScene_50 hf (fun hf => ?_) (fun hf => ?_)
        · refine PW.iinc (v := 1) (L' := [some (.ref (gB g + a)), some (.int c1), some (.int c2), some (.int v3), some (.int c4), some (.int (v5 + 1)), some (.int t2)]) cx qX1_cutScene_117 rfl rfl hi5 rfl rfl ?_
          refine PW.goto cx qX1_cutScene_120 ?_
          exact PW.locs (Lsub.keep (Lsub.keep (Lsub.keep (Lsub.keep (Lsub.keep (Lsub.keep (Lsub.drop Lsub.nil))))))) (ih v3 (v5 + 1) h _ hf kx)
        · refine PW.aload_n cx qX1_cutScene_53 rfl ?_
          refine PW.iload cx qX1_cutScene_54 rfl ?_
          refine PW.iload_n cx qX1_cutScene_56 rfl ?_
          refine PW.callVRI (As := [.int t2, .int c2]) (st := []) cx hR qX1_cutScene_57 klX1_108 mvX1_findPattern (hA).1 rfl rfl rfl rfl (Nat.le_of_ble_eq_true rfl) (Nat.le_of_ble_eq_true rfl) (Nat.le_of_ble_eq_true rfl) (Nat.zero_le _) (Nat.zero_le _) hf sne (fun t e => ctX1_findPattern hA h t2 c2 t e) (fun t4 hf => ?_)
          refine PW.iconst (v := (-1)) cx qX1_cutScene_60 rfl ?_
          refine PW.icmp_eq cx qX1_cutScene_61 hf (fun hf => ?_) (fun hf => ?_)
          · refine PW.iinc (v := 1) (L' := [some (.ref (gB g + a)), some (.int c1), some (.int c2), some (.int v3), some (.int c4), some (.int (v5 + 1)), some (.int t2)]) cx qX1_cutScene_117 rfl rfl hi5 rfl rfl ?_
            refine PW.goto cx qX1_cutScene_120 ?_
            exact PW.locs (Lsub.keep (Lsub.keep (Lsub.keep (Lsub.keep (Lsub.keep (Lsub.keep (Lsub.drop Lsub.nil))))))) (ih v3 (v5 + 1) h _ hf kx)
          · refine PW.aload_n cx qX1_cutScene_64 rfl ?_
            refine PW.getf (t := (2, a + 10)) (v := .ref (gB g + (a + 10))) cx qX1_cutScene_65 (hA).1 rfl flX1_39 rfl ?_
            refine PW.iload_n cx qX1_cutScene_68 rfl ?_
            refine PW.dup2 cx qX1_cutScene_69 rfl rfl ?_
            refine PW.iald cx qX1_cutScene_70 (AS.r10 hA) hf sne (fun t5 hf => ?_)
            refine PW.iconst (v := 1) cx qX1_cutScene_71 rfl ?_
            refine PW.isub cx qX1_cutScene_72 ?_
            refine PW.iast cx qX1_cutScene_73 (AS.r10 hA) hf sne (fun h6 hf => ?_)
            refine PW.aload_n cx qX1_cutScene_74 rfl ?_
            refine PW.dup cx qX1_cutScene_75 rfl ?_
            refine PW.getf (t := (0, 0)) (v := .int (rd h6 a 4)) cx qX1_cutScene_76 (hA).1 rfl flX1_55 rfl ?_
            refine PW.iconst (v := 1) cx qX1_cutScene_79 rfl ?_
            refine PW.iadd cx qX1_cutScene_80 ?_
            refine PW.putiN cx qX1_cutScene_81 (hA).1 rfl fpX1_55 hf (fun h7 hf => ?_)
            refine PW.aload_n cx qX1_cutScene_84 rfl ?_
            refine PW.getf (t := (2, a + 6)) (v := .ref (gB g + (a + 6))) cx qX1_cutScene_85 (hA).1 rfl flX1_27 rfl ?_
            refine PW.iload cx qX1_cutScene_88 rfl ?_
            refine PW.iload_n cx qX1_cutScene_90 rfl ?_
            refine PW.iast cx qX1_cutScene_91 (AS.r6 hA) hf sne (fun h8 hf => ?_)
            refine PW.aload_n cx qX1_cutScene_92 rfl ?_
            refine PW.getf (t := (2, a + 4)) (v := .ref (gB g + (a + 4))) cx qX1_cutScene_93 (hA).1 rfl flX1_21 rfl ?_
            refine PW.iload cx qX1_cutScene_96 rfl ?_
            refine PW.iconst (v := 0) cx qX1_cutScene_98 rfl ?_
            refine PW.iast cx qX1_cutScene_99 (AS.r4 hA) hf sne (fun h9 hf => ?_)
            refine PW.aload_n cx qX1_cutScene_100 rfl ?_
            refine PW.iload cx qX1_cutScene_101 rfl ?_
            refine PW.iload cx qX1_cutScene_103 rfl ?_
            refine PW.bipush (v := (-2)) cx qX1_cutScene_105 rfl ?_
            refine PW.callVWV (As := [.int c4, .int v5, .int (-2)]) (st := []) cx hR qX1_cutScene_107 klX1_81 mvX1_setBed (hA).1 rfl rfl rfl rfl (Nat.le_of_ble_eq_true rfl) (Nat.le_of_ble_eq_true rfl) (Nat.le_of_ble_eq_true rfl) (Nat.zero_le _) (Nat.zero_le _) hf sne (fun t e => ctX1_setBed hA h9 c4 v5 (-2) t e) (fun h11 hf => ?_)
            refine PW.iload_n cx qX1_cutScene_110 rfl ?_
            refine PW.iconst (v := 1) cx qX1_cutScene_111 rfl ?_
            refine PW.iload cx qX1_cutScene_112 rfl ?_
            refine PW.ishl cx qX1_cutScene_114 ?_
            refine PW.ior cx qX1_cutScene_115 ?_
            refine PW.istore_n (L' := [some (.ref (gB g + a)), some (.int c1), some (.int c2), some (.int (v3 ||| (1 <<< (t2 &&& 31)))), some (.int c4), some (.int v5), some (.int t2)]) cx qX1_cutScene_116 hi3 rfl rfl ?_
            refine PW.iinc (v := 1) (L' := [some (.ref (gB g + a)), some (.int c1), some (.int c2), some (.int (v3 ||| (1 <<< (t2 &&& 31)))), some (.int c4), some (.int (v5 + 1)), some (.int t2)]) cx qX1_cutScene_117 rfl rfl hi5 rfl rfl ?_
            refine PW.goto cx qX1_cutScene_120 ?_
            exact PW.locs (Lsub.keep (Lsub.keep (Lsub.keep (Lsub.keep (Lsub.keep (Lsub.keep (Lsub.drop Lsub.nil))))))) (ih (v3 ||| (1 <<< (t2 &&& 31))) (v5 + 1) h11 _ hf kx)
set_option maxRecDepth 20000 in
theorem lX1_cutScene_5 {g : GT} {X : XT} {ex : Bool} {post : Option Value → List Shp → Hp → Prop} {sh : List Shp} (mx : Mx g X mX1_cutScene 3 0 0) {a : Nat} (hA : AS sh a) (c1 : Int32) (c2 : Int32) : ∀ (n : Nat) (v3 : Int32) (v4 : Int32) (h : Hp) (r : Int32 × Hp) (hf : A_cutScene_L5 a c1 c2 n v3 v4 h = some r) (kx : ∀ (x3 : Int32) (h1 : Hp), r = (x3, h1) → PW g X ex (QE g X ex post 0 0) 0 0 sh h1 129 [some (.ref (gB g + a)), some (.int c1), some (.int c2), some (.int x3), none, none, none] []), PW g X ex (QE g X ex post 0 0) 0 0 sh h 5 [some (.ref (gB g + a)), some (.int c1), some (.int c2), some (.int v3), some (.int v4), none, none] [] := by
  have mx0 := mx
  obtain ⟨cx, hR, hml, hrt, -⟩ := mx0
  have cx : Cx g X RX1 cX1_cutScene := cx
  have hrt : X.2.2.2.2.2.2.2.1.sig.returnType = (some .int) := hrt
  have hi3 : 3 < X.2.2.2.2.2.2.2.2.maxLocals := by rw [hml]; exact Nat.le_of_ble_eq_true rfl
  have hi4 : 4 < X.2.2.2.2.2.2.2.2.maxLocals := by rw [hml]; exact Nat.le_of_ble_eq_true rfl
  have hi5 : 5 < X.2.2.2.2.2.2.2.2.maxLocals := by rw [hml]; exact Nat.le_of_ble_eq_true rfl
  have hi6 : 6 < X.2.2.2.2.2.2.2.2.maxLocals := by rw [hml]; exact Nat.le_of_ble_eq_true rfl
  intro n
  induction n with
  | zero =>
    intro v3 v4 h r hf kx
    cases hf
  | succ n ih =>
    intro v3 v4 h r hf kx
    unfold A_cutScene_L5 at hf
    refine PW.iload cx qX1_cutScene_5 rfl ?_
    refine PW.aload_n cx qX1_cutScene_7 rfl ?_
    refine PW.getf (t := (0, 0)) (v := .int (rd h a 12)) cx qX1_cutScene_8 (hA).1 rfl flX1_67 rfl ?_
    refine PW.icmp_ge cx qX1_cutScene_11 hf (fun hf => ?_) (fun hf => ?_)
    · exact PW.locs (Lsub.keep (Lsub.keep (Lsub.keep (Lsub.keep (Lsub.drop (Lsub.drop (Lsub.drop Lsub.nil))))))) (kx v3 h (Option.some.inj hf).symm)
    · refine PW.iconst (v := 0) cx qX1_cutScene_14 rfl ?_
      refine PW.istore (L' := [some (.ref (gB g + a)), some (.int c1), some (.int c2), some (.int v3), some (.int v4), some (.int 0), none]) cx qX1_cutScene_15 hi5 rfl rfl ?_
      obtain ⟨r12, er12, hf⟩ := bndO hf sne
      refine PW.locs (Lsub.keep (Lsub.keep (Lsub.keep (Lsub.keep (Lsub.keep (Lsub.keep (Lsub.drop Lsub.nil))))))) (lX1_cutScene_17 mx hA c1 c2 v4 FU v3 0 h r12 er12 (fun x3_13 h14 e => ?_))
      subst e
      refine PW.iinc (v := 1) (L' := [some (.ref (gB g + a)), some (.int c1), some (.int c2), some (.int x3_13), some (.int (v4 + 1)), none, none]) cx qX1_cutScene_123 rfl rfl hi4 rfl rfl ?_
      refine PW.goto cx qX1_cutScene_126 ?_
      exact PW.locs (Lsub.keep (Lsub.keep (Lsub.keep (Lsub.keep (Lsub.keep (Lsub.drop (Lsub.drop Lsub.nil))))))) (ih x3_13 (v4 + 1) h14 _ hf kx)
set_option maxRecDepth 20000 in
theorem ctX1_cutScene {g : GT} {ex : Bool} {sh : List Shp} {a : Nat} (hA : AS sh a) (h : Hp) (p1 : Int32) (p2 : Int32) (r0 : Int32 × Hp) (hf : A_cutScene h a p1 p2 = some r0) : Ct g mX1_cutScene 3 0 0 ex [.ref (gB g + a), .int p1, .int p2] sh h (PE (some (.int r0.1)) sh r0.2) := by
  refine Ct.of (L := [some (.ref (gB g + a)), some (.int p1), some (.int p2), none, none, none, none]) (by decide) (by intro w hw; simp only [List.mem_cons, List.not_mem_nil, or_false] at hw; rcases hw with rfl | rfl | rfl <;> rfl) (Nat.le_of_ble_eq_true rfl) rfl (fun X mx => ?_)
  have mx0 := mx
  obtain ⟨cx, hR, hml, hrt, -⟩ := mx0
  have cx : Cx g X RX1 cX1_cutScene := cx
  have hrt : X.2.2.2.2.2.2.2.1.sig.returnType = (some .int) := hrt
  have hi3 : 3 < X.2.2.2.2.2.2.2.2.maxLocals := by rw [hml]; exact Nat.le_of_ble_eq_true rfl
  have hi4 : 4 < X.2.2.2.2.2.2.2.2.maxLocals := by rw [hml]; exact Nat.le_of_ble_eq_true rfl
  have hi5 : 5 < X.2.2.2.2.2.2.2.2.maxLocals := by rw [hml]; exact Nat.le_of_ble_eq_true rfl
  have hi6 : 6 < X.2.2.2.2.2.2.2.2.maxLocals := by rw [hml]; exact Nat.le_of_ble_eq_true rfl
  unfold A_cutScene at hf
  refine PW.iconst (v := 0) cx qX1_cutScene_0 rfl ?_
  refine PW.istore_n (L' := [some (.ref (gB g + a)), some (.int p1), some (.int p2), some (.int 0), none, none, none]) cx qX1_cutScene_1 hi3 rfl rfl ?_
  refine PW.iconst (v := 0) cx qX1_cutScene_2 rfl ?_
  refine PW.istore (L' := [some (.ref (gB g + a)), some (.int p1), some (.int p2), some (.int 0), some (.int 0), none, none]) cx qX1_cutScene_3 hi4 rfl rfl ?_
  obtain ⟨r15, er15, hf⟩ := bndO hf sne
  refine PW.locs (Lsub.keep (Lsub.keep (Lsub.keep (Lsub.keep (Lsub.keep (Lsub.drop (Lsub.drop Lsub.nil))))))) (lX1_cutScene_5 mx hA p1 p2 FU 0 0 h r15 er15 (fun x3_16 h17 e => ?_))
  subst e
  refine PW.iload_n cx qX1_cutScene_129 rfl ?_
  exact PW.iret cx hrt qX1_cutScene_130 (le_wi hf)
set_option maxRecDepth 20000 in
theorem lX1_placeOf_12 {g : GT} {X : XT} {ex : Bool} {post : Option Value → List Shp → Hp → Prop} {sh : List Shp} (mx : Mx g X mX1_placeOf 0 0 0) {a : Nat} (hA : AS sh a) (h : Hp) (c1 : Int32) (c2 : Int32) : ∀ (n : Nat) (v3 : Int32) (r : (Unit) ⊕ (Int32)) (hf : A_placeOf_L12 h a c1 c2 n v3 = some r) (kx : r = .inl () → PW g X ex (QE g X ex post 0 0) 0 0 sh h 50 [some (.ref (gB g + a)), some (.int c1), some (.int c2), none, none] []) (kr : ∀ y : Int32, r = .inr y → post (some (.int y)) sh h), PW g X ex (QE g X ex post 0 0) 0 0 sh h 12 [some (.ref (gB g + a)), some (.int c1), some (.int c2), some (.int v3), none] [] := by
  have mx0 := mx
  obtain ⟨cx, hR, hml, hrt, -⟩ := mx0
  have cx : Cx g X RX1 cX1_placeOf := cx
  have hrt : X.2.2.2.2.2.2.2.1.sig.returnType = (some .int) := hrt
  have hi2 : 2 < X.2.2.2.2.2.2.2.2.maxLocals := by rw [hml]; exact Nat.le_of_ble_eq_true rfl
  have hi3 : 3 < X.2.2.2.2.2.2.2.2.maxLocals := by rw [hml]; exact Nat.le_of_ble_eq_true rfl
  have hi4 : 4 < X.2.2.2.2.2.2.2.2.maxLocals := by rw [hml]; exact Nat.le_of_ble_eq_true rfl
  intro n
  induction n with
  | zero =>
    intro v3 r hf kx kr
    cases hf
  | succ n ih =>
    intro v3 r hf kx kr
    unfold A_placeOf_L12 at hf
    refine PW.iload_n cx qX1_placeOf_12 rfl ?_
    refine PW.aload_n cx qX1_placeOf_13 rfl ?_
    refine PW.getf (t := (2, a + 7)) (v := .ref (gB g + (a + 7))) cx qX1_placeOf_14 (hA).1 rfl flX1_30 rfl ?_
    refine PW.iload_n cx qX1_placeOf_17 rfl ?_
    refine PW.iald cx qX1_placeOf_18 (AS.r7 hA) hf sne (fun t1 hf => ?_)
    refine PW.icmp_ge cx qX1_placeOf_19 hf (fun hf => ?_) (fun hf => ?_)
    · exact PW.locs (Lsub.keep (Lsub.keep (Lsub.keep (Lsub.drop (Lsub.drop Lsub.nil))))) (kx (Option.some.inj hf).symm)
    · refine PW.iload_n cx qX1_placeOf_22 rfl ?_
      refine PW.bipush (v := 9) cx qX1_placeOf_23 rfl ?_
      refine PW.imul cx qX1_placeOf_25 ?_
      refine PW.iload_n cx qX1_placeOf_26 rfl ?_
      refine PW.iadd cx qX1_placeOf_27 ?_
      refine PW.istore (L' := [some (.ref (gB g + a)), some (.int c1), some (.int c2), some (.int v3), some (.int ((c2 * 9) + v3))]) cx qX1_placeOf_28 hi4 rfl rfl ?_
      refine PW.aload_n cx qX1_placeOf_30 rfl ?_
      refine PW.getf (t := (2, a + 8)) (v := .ref (gB g + (a + 8))) cx qX1_placeOf_31 (hA).1 rfl flX1_33 rfl ?_
      refine PW.iload cx qX1_placeOf_34 rfl ?_
      refine PW.iald cx qX1_placeOf_36 (AS.r8 hA) hf sne (fun t2 hf => ?_)
      refine PW.iload_n cx qX1_placeOf_37 rfl ?_
      refine PW.icmp_ne cx qX1_placeOf_38 hf (fun hf => ?_) (fun hf => ?_)
      · refine PW.iload cx qX1_placeOf_41 rfl ?_
        exact PW.iret cx hrt qX1_placeOf_43 (kr _ (Option.some.inj hf).symm)
      · refine PW.iinc (v := 1) (L' := [some (.ref (gB g + a)), some (.int c1), some (.int c2), some (.int (v3 + 1)), some (.int ((c2 * 9) + v3))]) cx qX1_placeOf_44 rfl rfl hi3 rfl rfl ?_
        refine PW.goto cx qX1_placeOf_47 ?_
        exact PW.locs (Lsub.keep (Lsub.keep (Lsub.keep (Lsub.keep (Lsub.drop Lsub.nil))))) (ih (v3 + 1) _ hf kx kr)
set_option maxRecDepth 20000 in
theorem lX1_placeOf_2 {g : GT} {X : XT} {ex : Bool} {post : Option Value → List Shp → Hp → Prop} {sh : List Shp} (mx : Mx g X mX1_placeOf 0 0 0) {a : Nat} (hA : AS sh a) (h : Hp) (c1 : Int32) : ∀ (n : Nat) (v2 : Int32) (r : (Unit) ⊕ (Int32)) (hf : A_placeOf_L2 h a c1 n v2 = some r) (kx : r = .inl () → PW g X ex (QE g X ex post 0 0) 0 0 sh h 56 [some (.ref (gB g + a)), some (.int c1), none, none, none] []) (kr : ∀ y : Int32, r = .inr y → post (some (.int y)) sh h), PW g X ex (QE g X ex post 0 0) 0 0 sh h 2 [some (.ref (gB g + a)), some (.int c1), some (.int v2), none, none] [] := by
  have mx0 := mx
  obtain ⟨cx, hR, hml, hrt, -⟩ := mx0
  have cx : Cx g X RX1 cX1_placeOf := cx
  have hrt : X.2.2.2.2.2.2.2.1.sig.returnType = (some .int) := hrt
  have hi2 : 2 < X.2.2.2.2.2.2.2.2.maxLocals := by rw [hml]; exact Nat.le_of_ble_eq_true rfl
  have hi3 : 3 < X.2.2.2.2.2.2.2.2.maxLocals := by rw [hml]; exact Nat.le_of_ble_eq_true rfl
  have hi4 : 4 < X.2.2.2.2.2.2.2.2.maxLocals := by rw [hml]; exact Nat.le_of_ble_eq_true rfl
  intro n
  induction n with
  | zero =>
    intro v2 r hf kx kr
    cases hf
  | succ n ih =>
    intro v2 r hf kx kr
    unfold A_placeOf_L2 at hf
    refine PW.iload_n cx qX1_placeOf_2 rfl ?_
    refine PW.aload_n cx qX1_placeOf_3 rfl ?_
    refine PW.getf (t := (0, 0)) (v := .int (rd h a 12)) cx qX1_placeOf_4 (hA).1 rfl flX1_67 rfl ?_
    refine PW.icmp_ge cx qX1_placeOf_7 hf (fun hf => ?_) (fun hf => ?_)
    · exact PW.locs (Lsub.keep (Lsub.keep (Lsub.drop (Lsub.drop (Lsub.drop Lsub.nil))))) (kx (Option.some.inj hf).symm)
    · refine PW.iconst (v := 0) cx qX1_placeOf_10 rfl ?_
      refine PW.istore_n (L' := [some (.ref (gB g + a)), some (.int c1), some (.int v2), some (.int 0), none]) cx qX1_placeOf_11 hi3 rfl rfl ?_
      obtain ⟨r3, er3, hf⟩ := bndO hf sne
      refine PW.locs (Lsub.keep (Lsub.keep (Lsub.keep (Lsub.keep (Lsub.drop Lsub.nil))))) (lX1_placeOf_12 mx hA h c1 v2 FU 0 r3 er3 (fun e => ?_) (fun y e => ?_))
      · subst e
        refine PW.iinc (v := 1) (L' := [some (.ref (gB g + a)), some (.int c1), some (.int (v2 + 1)), none, none]) cx qX1_placeOf_50 rfl rfl hi2 rfl rfl ?_
        refine PW.goto cx qX1_placeOf_53 ?_
        exact PW.locs (Lsub.keep (Lsub.keep (Lsub.keep (Lsub.drop (Lsub.drop Lsub.nil))))) (ih (v2 + 1) _ hf kx kr)
      · subst e
        exact (kr _ (Option.some.inj hf).symm)
set_option maxRecDepth 20000 in
theorem ctX1_placeOf {g : GT} {ex : Bool} {sh : List Shp} {a : Nat} (hA : AS sh a) (h : Hp) (p1 : Int32) (r0 : Int32) (hf : A_placeOf h a p1 = some r0) : Ct g mX1_placeOf 0 0 0 ex [.ref (gB g + a), .int p1] sh h (PE (some (.int r0)) sh h) := by
  refine Ct.of (L := [some (.ref (gB g + a)), some (.int p1), none, none, none]) (by decide) (by intro w hw; simp only [List.mem_cons, List.not_mem_nil, or_false] at hw; rcases hw with rfl | rfl <;> rfl) (Nat.le_of_ble_eq_true rfl) rfl (fun X mx => ?_)
  have mx0 := mx
  obtain ⟨cx, hR, hml, hrt, -⟩ := mx0
  have cx : Cx g X RX1 cX1_placeOf := cx
  have hrt : X.2.2.2.2.2.2.2.1.sig.returnType = (some .int) := hrt
  have hi2 : 2 < X.2.2.2.2.2.2.2.2.maxLocals := by rw [hml]; exact Nat.le_of_ble_eq_true rfl
  have hi3 : 3 < X.2.2.2.2.2.2.2.2.maxLocals := by rw [hml]; exact Nat.le_of_ble_eq_true rfl
  have hi4 : 4 < X.2.2.2.2.2.2.2.2.maxLocals := by rw [hml]; exact Nat.le_of_ble_eq_true rfl
  unfold A_placeOf at hf
  refine PW.iconst (v := 0) cx qX1_placeOf_0 rfl ?_
  refine PW.istore_n (L' := [some (.ref (gB g + a)), some (.int p1), some (.int 0), none, none]) cx qX1_placeOf_1 hi2 rfl rfl ?_
  obtain ⟨r4, er4, hf⟩ := bndO hf sne
  refine PW.locs (Lsub.keep (Lsub.keep (Lsub.keep (Lsub.drop (Lsub.drop Lsub.nil))))) (lX1_placeOf_2 mx hA h p1 FU 0 r4 er4 (fun e => ?_) (fun y e => ?_))
  · subst e
    refine PW.iconst (v := (-1)) cx qX1_placeOf_56 rfl ?_
    exact PW.iret cx hrt qX1_placeOf_57 (le_ri hf)
  · subst e
    exact (le_ri hf)
set_option maxRecDepth 20000 in
theorem lX1_sleepersIn_4 {g : GT} {X : XT} {ex : Bool} {post : Option Value → List Shp → Hp → Prop} {sh : List Shp} (mx : Mx g X mX1_sleepersIn 1 0 0) {a : Nat} (hA : AS sh a) (h : Hp) (c1 : Int32) : ∀ (n : Nat) (v2 : Int32) (v3 : Int32) (r : Int32) (hf : A_sleepersIn_L4 h a c1 n v2 v3 = some r) (kx : ∀ (x2 : Int32), r = x2 → PW g X ex (QE g X ex post 0 0) 0 0 sh h 40 [some (.ref (gB g + a)), some (.int c1), some (.int x2), none, none] []), PW g X ex (QE g X ex post 0 0) 0 0 sh h 4 [some (.ref (gB g + a)), some (.int c1), some (.int v2), some (.int v3), none] [] := by
  have mx0 := mx
  obtain ⟨cx, hR, hml, hrt, -⟩ := mx0
  have cx : Cx g X RX1 cX1_sleepersIn := cx
  have hrt : X.2.2.2.2.2.2.2.1.sig.returnType = (some .int) := hrt
  have hi2 : 2 < X.2.2.2.2.2.2.2.2.maxLocals := by rw [hml]; exact Nat.le_of_ble_eq_true rfl
  have hi3 : 3 < X.2.2.2.2.2.2.2.2.maxLocals := by rw [hml]; exact Nat.le_of_ble_eq_true rfl
  have hi4 : 4 < X.2.2.2.2.2.2.2.2.maxLocals := by rw [hml]; exact Nat.le_of_ble_eq_true rfl
  intro n
  induction n with
  | zero =>
    intro v2 v3 r hf kx
    cases hf
  | succ n ih =>
    intro v2 v3 r hf kx
    unfold A_sleepersIn_L4 at hf
    refine PW.iload_n cx qX1_sleepersIn_4 rfl ?_
    refine PW.aload_n cx qX1_sleepersIn_5 rfl ?_
    refine PW.getf (t := (2, a + 7)) (v := .ref (gB g + (a + 7))) cx qX1_sleepersIn_6 (hA).1 rfl flX1_30 rfl ?_
    refine PW.iload_n cx qX1_sleepersIn_9 rfl ?_
    refine PW.iald cx qX1_sleepersIn_10 (AS.r7 hA) hf sne (fun t1 hf => ?_)
    refine PW.icmp_ge cx qX1_sleepersIn_11 hf (fun hf => ?_) (fun hf => ?_)
    · exact PW.locs (Lsub.keep (Lsub.keep (Lsub.keep (Lsub.drop (Lsub.drop Lsub.nil))))) (kx v2 (Option.some.inj hf).symm)
    · refine PW.aload_n cx qX1_sleepersIn_14 rfl ?_
      refine PW.iload_n cx qX1_sleepersIn_15 rfl ?_
      refine PW.iload_n cx qX1_sleepersIn_16 rfl ?_
      refine PW.callVRI (As := [.int c1, .int v3]) (st := []) cx hR qX1_sleepersIn_17 klX1_115 mvX1_inBed (hA).1 rfl rfl rfl rfl (Nat.le_of_ble_eq_true rfl) (Nat.le_of_ble_eq_true rfl) (Nat.le_of_ble_eq_true rfl) (Nat.zero_le _) (Nat.zero_le _) hf sne (fun t e => ctX1_inBed hA h c1 v3 t e) (fun t2 hf => ?_)
      refine PW.istore (L' := [some (.ref (gB g + a)), some (.int c1), some (.int v2), some (.int v3), some (.int t2)]) cx qX1_sleepersIn_20 hi4 rfl rfl ?_
      refine PW.iload cx qX1_sleepersIn_22 rfl ?_
      refine PW.if_lt cx qX1_sleepersIn_24 hf (fun hf => ?_) (fun hf => ?_)
      · refine PW.iinc (v := 1) (L' := [some (.ref (gB g + a)), some (.int c1), some (.int v2), some (.int (v3 + 1)), some (.int t2)]) cx qX1_sleepersIn_34 rfl rfl hi3 rfl rfl ?_
        refine PW.goto cx qX1_sleepersIn_37 ?_
        exact PW.locs (Lsub.keep (Lsub.keep (Lsub.keep (Lsub.keep (Lsub.drop Lsub.nil))))) (ih v2 (v3 + 1) _ hf kx)
      · refine PW.iload_n cx qX1_sleepersIn_27 rfl ?_
        refine PW.iconst (v := 1) cx qX1_sleepersIn_28 rfl ?_
        refine PW.iload cx qX1_sleepersIn_29 rfl ?_
        refine PW.ishl cx qX1_sleepersIn_31 ?_
        refine PW.ior cx qX1_sleepersIn_32 ?_
        refine PW.istore_n (L' := [some (.ref (gB g + a)), some (.int c1), some (.int (v2 ||| (1 <<< (t2 &&& 31)))), some (.int v3), some (.int t2)]) cx qX1_sleepersIn_33 hi2 rfl rfl ?_
        refine PW.iinc (v := 1) (L' := [some (.ref (gB g + a)), some (.int c1), some (.int (v2 ||| (1 <<< (t2 &&& 31)))), some (.int (v3 + 1)), some (.int t2)]) cx qX1_sleepersIn_34 rfl rfl hi3 rfl rfl ?_
        refine PW.goto cx qX1_sleepersIn_37 ?_
        exact PW.locs (Lsub.keep (Lsub.keep (Lsub.keep (Lsub.keep (Lsub.drop Lsub.nil))))) (ih (v2 ||| (1 <<< (t2 &&& 31))) (v3 + 1) _ hf kx)
set_option maxRecDepth 20000 in
theorem ctX1_sleepersIn {g : GT} {ex : Bool} {sh : List Shp} {a : Nat} (hA : AS sh a) (h : Hp) (p1 : Int32) (r0 : Int32) (hf : A_sleepersIn h a p1 = some r0) : Ct g mX1_sleepersIn 1 0 0 ex [.ref (gB g + a), .int p1] sh h (PE (some (.int r0)) sh h) := by
  refine Ct.of (L := [some (.ref (gB g + a)), some (.int p1), none, none, none]) (by decide) (by intro w hw; simp only [List.mem_cons, List.not_mem_nil, or_false] at hw; rcases hw with rfl | rfl <;> rfl) (Nat.le_of_ble_eq_true rfl) rfl (fun X mx => ?_)
  have mx0 := mx
  obtain ⟨cx, hR, hml, hrt, -⟩ := mx0
  have cx : Cx g X RX1 cX1_sleepersIn := cx
  have hrt : X.2.2.2.2.2.2.2.1.sig.returnType = (some .int) := hrt
  have hi2 : 2 < X.2.2.2.2.2.2.2.2.maxLocals := by rw [hml]; exact Nat.le_of_ble_eq_true rfl
  have hi3 : 3 < X.2.2.2.2.2.2.2.2.maxLocals := by rw [hml]; exact Nat.le_of_ble_eq_true rfl
  have hi4 : 4 < X.2.2.2.2.2.2.2.2.maxLocals := by rw [hml]; exact Nat.le_of_ble_eq_true rfl
  unfold A_sleepersIn at hf
  refine PW.iconst (v := 0) cx qX1_sleepersIn_0 rfl ?_
  refine PW.istore_n (L' := [some (.ref (gB g + a)), some (.int p1), some (.int 0), none, none]) cx qX1_sleepersIn_1 hi2 rfl rfl ?_
  refine PW.iconst (v := 0) cx qX1_sleepersIn_2 rfl ?_
  refine PW.istore_n (L' := [some (.ref (gB g + a)), some (.int p1), some (.int 0), some (.int 0), none]) cx qX1_sleepersIn_3 hi3 rfl rfl ?_
  obtain ⟨r3, er3, hf⟩ := bndO hf sne
  refine PW.locs (Lsub.keep (Lsub.keep (Lsub.keep (Lsub.keep (Lsub.drop Lsub.nil))))) (lX1_sleepersIn_4 mx hA h p1 FU 0 0 r3 er3 (fun xx_ e => ?_))
  subst e
  refine PW.iload_n cx qX1_sleepersIn_40 rfl ?_
  exact PW.iret cx hrt qX1_sleepersIn_41 (le_ri hf)
set_option maxRecDepth 20000 in
theorem ctX1_wayBed {g : GT} {ex : Bool} {sh : List Shp} {a : Nat} (hA : AS sh a) (h : Hp) (p1 : Int32) (p2 : Int32) (p3 : Int32) (r0 : Int32) (hf : A_wayBed h a p1 p2 p3 = some r0) : Ct g mX1_wayBed 0 0 0 ex [.ref (gB g + a), .int p1, .int p2, .int p3] sh h (PE (some (.int r0)) sh h) := by
  refine Ct.of (L := [some (.ref (gB g + a)), some (.int p1), some (.int p2), some (.int p3), none]) (by decide) (by intro w hw; simp only [List.mem_cons, List.not_mem_nil, or_false] at hw; rcases hw with rfl | rfl | rfl | rfl <;> rfl) (Nat.le_of_ble_eq_true rfl) rfl (fun X mx => ?_)
  obtain ⟨cx, hR, hml, hrt, -⟩ := mx
  have cx : Cx g X RX1 cX1_wayBed := cx
  have hrt : X.2.2.2.2.2.2.2.1.sig.returnType = (some .int) := hrt
  have hi4 : 4 < X.2.2.2.2.2.2.2.2.maxLocals := by rw [hml]; exact Nat.le_of_ble_eq_true rfl
  unfold A_wayBed at hf
  refine PW.aload_n cx qX1_wayBed_0 rfl ?_
  refine PW.getf (t := (2, a + 7)) (v := .ref (gB g + (a + 7))) cx qX1_wayBed_1 (hA).1 rfl flX1_30 rfl ?_
  refine PW.iload_n cx qX1_wayBed_4 rfl ?_
  refine PW.iald cx qX1_wayBed_5 (AS.r7 hA) hf sne (fun t1 hf => ?_)
  refine PW.istore (L' := [some (.ref (gB g + a)), some (.int p1), some (.int p2), some (.int p3), some (.int t1)]) cx qX1_wayBed_6 hi4 rfl rfl ?_
  refine PW.iload cx qX1_wayBed_8 rfl ?_
  refine PW.iconst (v := 1) cx qX1_wayBed_10 rfl ?_
  refine PW.icmp_ge cx qX1_wayBed_11 hf (fun hf => ?_) (fun hf => ?_)
  · refine PW.aload_n cx qX1_wayBed_18 rfl ?_
    refine PW.getf (t := (2, a + 3)) (v := .ref (gB g + (a + 3))) cx qX1_wayBed_19 (hA).1 rfl flX1_18 rfl ?_
    refine PW.iload_n cx qX1_wayBed_22 rfl ?_
    refine PW.iald cx qX1_wayBed_23 (AS.r3 hA) hf sne (fun t2 hf => ?_)
    refine PW.iload_n cx qX1_wayBed_24 rfl ?_
    refine PW.iadd cx qX1_wayBed_25 ?_
    refine PW.iload cx qX1_wayBed_26 rfl ?_
    refine PW.irem cx qX1_wayBed_28 hf sne (fun t3 hf => ?_)
    exact PW.iret cx hrt qX1_wayBed_29 (le_ri hf)
  · refine PW.iconst (v := 0) cx qX1_wayBed_14 rfl ?_
    refine PW.goto cx qX1_wayBed_15 ?_
    exact PW.iret cx hrt qX1_wayBed_29 (le_ri hf)
set_option maxRecDepth 20000 in
theorem ctX1_homeOf {g : GT} {ex : Bool} {sh : List Shp} {a : Nat} (hA : AS sh a) (h : Hp) (p1 : Int32) (p2 : Int32) (r0 : Int32) (hf : A_homeOf h a p1 p2 = some r0) : Ct g mX1_homeOf 1 0 0 ex [.ref (gB g + a), .int p1, .int p2] sh h (PE (some (.int r0)) sh h) := by
  refine Ct.of (L := [some (.ref (gB g + a)), some (.int p1), some (.int p2)]) (by decide) (by intro w hw; simp only [List.mem_cons, List.not_mem_nil, or_false] at hw; rcases hw with rfl | rfl | rfl <;> rfl) (Nat.le_of_ble_eq_true rfl) rfl (fun X mx => ?_)
  obtain ⟨cx, hR, hml, hrt, -⟩ := mx
  have cx : Cx g X RX1 cX1_homeOf := cx
  have hrt : X.2.2.2.2.2.2.2.1.sig.returnType = (some .int) := hrt
  unfold A_homeOf at hf
  refine PW.aload_n cx qX1_homeOf_0 rfl ?_
  refine PW.iload_n cx qX1_homeOf_1 rfl ?_
  refine PW.iload_n cx qX1_homeOf_2 rfl ?_
  refine PW.iconst (v := 0) cx qX1_homeOf_3 rfl ?_
  refine PW.callVRI (As := [.int p1, .int p2, .int 0]) (st := []) cx hR qX1_homeOf_4 klX1_118 mvX1_wayBed (hA).1 rfl rfl rfl rfl (Nat.le_of_ble_eq_true rfl) (Nat.le_of_ble_eq_true rfl) (Nat.le_of_ble_eq_true rfl) (Nat.zero_le _) (Nat.zero_le _) hf sne (fun t e => ctX1_wayBed hA h p1 p2 0 t e) (fun t1 hf => ?_)
  exact PW.iret cx hrt qX1_homeOf_7 (le_ri hf)
set_option maxRecDepth 20000 in
theorem lX1_passedBeds_2 {g : GT} {X : XT} {ex : Bool} {post : Option Value → List Shp → Hp → Prop} {sh : List Shp} (mx : Mx g X mX1_passedBeds 1 0 0) {a : Nat} (hA : AS sh a) (h : Hp) (c1 : Int32) (c2 : Int32) : ∀ (n : Nat) (v3 : Int32) (r : (Unit) ⊕ (Int32)) (hf : A_passedBeds_L2 h a c1 c2 n v3 = some r) (kx : r = .inl () → PW g X ex (QE g X ex post 0 0) 0 0 sh h 35 [some (.ref (gB g + a)), some (.int c1), some (.int c2), none] []) (kr : ∀ y : Int32, r = .inr y → post (some (.int y)) sh h), PW g X ex (QE g X ex post 0 0) 0 0 sh h 2 [some (.ref (gB g + a)), some (.int c1), some (.int c2), some (.int v3)] [] := by
  have mx0 := mx
  obtain ⟨cx, hR, hml, hrt, -⟩ := mx0
  have cx : Cx g X RX1 cX1_passedBeds := cx
  have hrt : X.2.2.2.2.2.2.2.1.sig.returnType = (some .int) := hrt
  have hi3 : 3 < X.2.2.2.2.2.2.2.2.maxLocals := by rw [hml]; exact Nat.le_of_ble_eq_true rfl
  intro n
  induction n with
  | zero =>
    intro v3 r hf kx kr
    cases hf
  | succ n ih =>
    intro v3 r hf kx kr
    unfold A_passedBeds_L2 at hf
    refine PW.iload_n cx qX1_passedBeds_2 rfl ?_
    refine PW.aload_n cx qX1_passedBeds_3 rfl ?_
    refine PW.getf (t := (2, a + 7)) (v := .ref (gB g + (a + 7))) cx qX1_passedBeds_4 (hA).1 rfl flX1_30 rfl ?_
    refine PW.iload_n cx qX1_passedBeds_7 rfl ?_
    refine PW.iald cx qX1_passedBeds_8 (AS.r7 hA) hf sne (fun t1 hf => ?_)
    refine PW.icmp_ge cx qX1_passedBeds_9 hf (fun hf => ?_) (fun hf => ?_)
    · exact PW.locs (Lsub.keep (Lsub.keep (Lsub.keep (Lsub.drop Lsub.nil)))) (kx (Option.some.inj hf).symm)
    · refine PW.aload_n cx qX1_passedBeds_12 rfl ?_
      refine PW.iload_n cx qX1_passedBeds_13 rfl ?_
      refine PW.aload_n cx qX1_passedBeds_14 rfl ?_
      refine PW.iload_n cx qX1_passedBeds_15 rfl ?_
      refine PW.iload_n cx qX1_passedBeds_16 rfl ?_
      refine PW.iload_n cx qX1_passedBeds_17 rfl ?_
      refine PW.callVRI (As := [.int c1, .int c2, .int v3]) (st := [.int c2, .ref (gB g + a)]) cx hR qX1_passedBeds_18 klX1_118 mvX1_wayBed (hA).1 rfl rfl rfl rfl (Nat.le_of_ble_eq_true rfl) (Nat.le_of_ble_eq_true rfl) (Nat.le_of_ble_eq_true rfl) (Nat.zero_le _) (Nat.zero_le _) hf sne (fun t e => ctX1_wayBed hA h c1 c2 v3 t e) (fun t2 hf => ?_)
      refine PW.callVRI (As := [.int c2, .int t2]) (st := []) cx hR qX1_passedBeds_21 klX1_115 mvX1_inBed (hA).1 rfl rfl rfl rfl (Nat.le_of_ble_eq_true rfl) (Nat.le_of_ble_eq_true rfl) (Nat.le_of_ble_eq_true rfl) (Nat.zero_le _) (Nat.zero_le _) hf sne (fun t e => ctX1_inBed hA h c2 t2 t e) (fun t3 hf => ?_)
      refine PW.if_ge cx qX1_passedBeds_24 hf (fun hf => ?_) (fun hf => ?_)
      · refine PW.iinc (v := 1) (L' := [some (.ref (gB g + a)), some (.int c1), some (.int c2), some (.int (v3 + 1))]) cx qX1_passedBeds_29 rfl rfl hi3 rfl rfl ?_
        refine PW.goto cx qX1_passedBeds_32 ?_
        exact PW.locs (Lsub.keep (Lsub.keep (Lsub.keep (Lsub.keep Lsub.nil)))) (ih (v3 + 1) _ hf kx kr)
      · refine PW.iload_n cx qX1_passedBeds_27 rfl ?_
        exact PW.iret cx hrt qX1_passedBeds_28 (kr _ (Option.some.inj hf).symm)
set_option maxRecDepth 20000 in
theorem ctX1_passedBeds {g : GT} {ex : Bool} {sh : List Shp} {a : Nat} (hA : AS sh a) (h : Hp) (p1 : Int32) (p2 : Int32) (r0 : Int32) (hf : A_passedBeds h a p1 p2 = some r0) : Ct g mX1_passedBeds 1 0 0 ex [.ref (gB g + a), .int p1, .int p2] sh h (PE (some (.int r0)) sh h) := by
  refine Ct.of (L := [some (.ref (gB g + a)), some (.int p1), some (.int p2), none]) (by decide) (by intro w hw; simp only [List.mem_cons, List.not_mem_nil, or_false] at hw; rcases hw with rfl | rfl | rfl <;> rfl) (Nat.le_of_ble_eq_true rfl) rfl (fun X mx => ?_)
  have mx0 := mx
  obtain ⟨cx, hR, hml, hrt, -⟩ := mx0
  have cx : Cx g X RX1 cX1_passedBeds := cx
  have hrt : X.2.2.2.2.2.2.2.1.sig.returnType = (some .int) := hrt
  have hi3 : 3 < X.2.2.2.2.2.2.2.2.maxLocals := by rw [hml]; exact Nat.le_of_ble_eq_true rfl
  unfold A_passedBeds at hf
  refine PW.iconst (v := 0) cx qX1_passedBeds_0 rfl ?_
  refine PW.istore_n (L' := [some (.ref (gB g + a)), some (.int p1), some (.int p2), some (.int 0)]) cx qX1_passedBeds_1 hi3 rfl rfl ?_
  obtain ⟨r4, er4, hf⟩ := bndO hf sne
  refine PW.locs (Lsub.keep (Lsub.keep (Lsub.keep (Lsub.keep Lsub.nil)))) (lX1_passedBeds_2 mx hA h p1 p2 FU 0 r4 er4 (fun e => ?_) (fun y e => ?_))
  · subst e
    refine PW.iconst (v := (-1)) cx qX1_passedBeds_35 rfl ?_
    exact PW.iret cx hrt qX1_passedBeds_36 (le_ri hf)
  · subst e
    exact (le_ri hf)
set_option maxRecDepth 20000 in
theorem ctX1_refusal {g : GT} {ex : Bool} {sh : List Shp} {a : Nat} (hA : AS sh a) (h : Hp) (p1 : Int32) (p2 : Int32) (r0 : Int32) (hf : A_refusal h a p1 p2 = some r0) : Ct g mX1_refusal 2 0 0 ex [.ref (gB g + a), .int p1, .int p2] sh h (PE (some (.int r0)) sh h) := by
  refine Ct.of (L := [some (.ref (gB g + a)), some (.int p1), some (.int p2)]) (by decide) (by intro w hw; simp only [List.mem_cons, List.not_mem_nil, or_false] at hw; rcases hw with rfl | rfl | rfl <;> rfl) (Nat.le_of_ble_eq_true rfl) rfl (fun X mx => ?_)
  obtain ⟨cx, hR, hml, hrt, -⟩ := mx
  have cx : Cx g X RX1 cX1_refusal := cx
  have hrt : X.2.2.2.2.2.2.2.1.sig.returnType = (some .int) := hrt
  unfold A_refusal at hf
  refine PW.aload_n cx qX1_refusal_0 rfl ?_
  refine PW.getf (t := (2, a + 4)) (v := .ref (gB g + (a + 4))) cx qX1_refusal_1 (hA).1 rfl flX1_21 rfl ?_
  refine PW.iload_n cx qX1_refusal_4 rfl ?_
  refine PW.iald cx qX1_refusal_5 (AS.r4 hA) hf sne (fun t1 hf => ?_)
  refine PW.if_eq cx qX1_refusal_6 hf (fun hf => ?_) (fun hf => ?_)
  · refine PW.aload_n cx qX1_refusal_11 rfl ?_
    refine PW.getf (t := (2, a + 5)) (v := .ref (gB g + (a + 5))) cx qX1_refusal_12 (hA).1 rfl flX1_24 rfl ?_
    refine PW.iload_n cx qX1_refusal_15 rfl ?_
    refine PW.iald cx qX1_refusal_16 (AS.r5 hA) hf sne (fun t2 hf => ?_)
    refine PW.bipush (v := 10) cx qX1_refusal_17 rfl ?_
    refine PW.icmp_ge cx qX1_refusal_19 hf (fun hf => ?_) (fun hf => ?_)
    · refine PW.aload_n cx qX1_refusal_24 rfl ?_
      refine PW.iload_n cx qX1_refusal_25 rfl ?_
      refine PW.iload_n cx qX1_refusal_26 rfl ?_
      refine PW.callVRI (As := [.int p1, .int p2]) (st := []) cx hR qX1_refusal_27 klX1_122 mvX1_passedBeds (hA).1 rfl rfl rfl rfl (Nat.le_of_ble_eq_true rfl) (Nat.le_of_ble_eq_true rfl) (Nat.le_of_ble_eq_true rfl) (Nat.zero_le _) (Nat.zero_le _) hf sne (fun t e => ctX1_passedBeds hA h p1 p2 t e) (fun t3 hf => ?_)
      refine PW.iconst (v := (-1)) cx qX1_refusal_30 rfl ?_
      refine PW.icmp_ne cx qX1_refusal_31 hf (fun hf => ?_) (fun hf => ?_)
      · refine PW.iconst (v := 3) cx qX1_refusal_34 rfl ?_
        refine PW.goto cx qX1_refusal_35 ?_
        exact PW.iret cx hrt qX1_refusal_39 (le_ri hf)
      · refine PW.iconst (v := 0) cx qX1_refusal_38 rfl ?_
        exact PW.iret cx hrt qX1_refusal_39 (le_ri hf)
    · refine PW.iconst (v := 2) cx qX1_refusal_22 rfl ?_
      exact PW.iret cx hrt qX1_refusal_23 (le_ri hf)
  · refine PW.iconst (v := 1) cx qX1_refusal_9 rfl ?_
    exact PW.iret cx hrt qX1_refusal_10 (le_ri hf)
set_option maxRecDepth 20000 in
theorem ctX1_layDown {g : GT} {ex : Bool} {sh : List Shp} {a : Nat} (hA : AS sh a) (h : Hp) (p1 : Int32) (p2 : Int32) (r0 : Int32 × Hp) (hf : A_layDown h a p1 p2 = some r0) : Ct g mX1_layDown 2 0 0 ex [.ref (gB g + a), .int p1, .int p2] sh h (PE (some (.int r0.1)) sh r0.2) := by
  refine Ct.of (L := [some (.ref (gB g + a)), some (.int p1), some (.int p2), none, none]) (by decide) (by intro w hw; simp only [List.mem_cons, List.not_mem_nil, or_false] at hw; rcases hw with rfl | rfl | rfl <;> rfl) (Nat.le_of_ble_eq_true rfl) rfl (fun X mx => ?_)
  obtain ⟨cx, hR, hml, hrt, -⟩ := mx
  have cx : Cx g X RX1 cX1_layDown := cx
  have hrt : X.2.2.2.2.2.2.2.1.sig.returnType = (some .int) := hrt
  have hi3 : 3 < X.2.2.2.2.2.2.2.2.maxLocals := by rw [hml]; exact Nat.le_of_ble_eq_true rfl
  have hi4 : 4 < X.2.2.2.2.2.2.2.2.maxLocals := by rw [hml]; exact Nat.le_of_ble_eq_true rfl
  unfold A_layDown at hf
  refine PW.aload_n cx qX1_layDown_0 rfl ?_
  refine PW.iload_n cx qX1_layDown_1 rfl ?_
  refine PW.iload_n cx qX1_layDown_2 rfl ?_
  refine PW.callVRI (As := [.int p1, .int p2]) (st := []) cx hR qX1_layDown_3 klX1_122 mvX1_passedBeds (hA).1 rfl rfl rfl rfl (Nat.le_of_ble_eq_true rfl) (Nat.le_of_ble_eq_true rfl) (Nat.le_of_ble_eq_true rfl) (Nat.zero_le _) (Nat.zero_le _) hf sne (fun t e => ctX1_passedBeds hA h p1 p2 t e) (fun t1 hf => ?_)
  refine PW.istore_n (L' := [some (.ref (gB g + a)), some (.int p1), some (.int p2), some (.int t1), none]) cx qX1_layDown_6 hi3 rfl rfl ?_
  refine PW.iload_n cx qX1_layDown_7 rfl ?_
  refine PW.iconst (v := (-1)) cx qX1_layDown_8 rfl ?_
  refine PW.icmp_ne cx qX1_layDown_9 hf (fun hf => ?_) (fun hf => ?_)
  · refine PW.iconst (v := (-1)) cx qX1_layDown_12 rfl ?_
    exact PW.iret cx hrt qX1_layDown_13 (le_wi hf)
  · refine PW.aload_n cx qX1_layDown_14 rfl ?_
    refine PW.iload_n cx qX1_layDown_15 rfl ?_
    refine PW.iload_n cx qX1_layDown_16 rfl ?_
    refine PW.iload_n cx qX1_layDown_17 rfl ?_
    refine PW.callVRI (As := [.int p1, .int p2, .int t1]) (st := []) cx hR qX1_layDown_18 klX1_118 mvX1_wayBed (hA).1 rfl rfl rfl rfl (Nat.le_of_ble_eq_true rfl) (Nat.le_of_ble_eq_true rfl) (Nat.le_of_ble_eq_true rfl) (Nat.zero_le _) (Nat.zero_le _) hf sne (fun t e => ctX1_wayBed hA h p1 p2 t1 t e) (fun t2 hf => ?_)
    refine PW.istore (L' := [some (.ref (gB g + a)), some (.int p1), some (.int p2), some (.int t1), some (.int t2)]) cx qX1_layDown_21 hi4 rfl rfl ?_
    refine PW.aload_n cx qX1_layDown_23 rfl ?_
    refine PW.iload_n cx qX1_layDown_24 rfl ?_
    refine PW.iload cx qX1_layDown_25 rfl ?_
    refine PW.iload_n cx qX1_layDown_27 rfl ?_
    refine PW.callVWV (As := [.int p2, .int t2, .int p1]) (st := []) cx hR qX1_layDown_28 klX1_81 mvX1_setBed (hA).1 rfl rfl rfl rfl (Nat.le_of_ble_eq_true rfl) (Nat.le_of_ble_eq_true rfl) (Nat.le_of_ble_eq_true rfl) (Nat.zero_le _) (Nat.zero_le _) hf sne (fun t e => ctX1_setBed hA h p2 t2 p1 t e) (fun h4 hf => ?_)
    refine PW.aload_n cx qX1_layDown_31 rfl ?_
    refine PW.getf (t := (2, a + 4)) (v := .ref (gB g + (a + 4))) cx qX1_layDown_32 (hA).1 rfl flX1_21 rfl ?_
    refine PW.iload_n cx qX1_layDown_35 rfl ?_
    refine PW.iconst (v := 1) cx qX1_layDown_36 rfl ?_
    refine PW.iast cx qX1_layDown_37 (AS.r4 hA) hf sne (fun h5 hf => ?_)
    refine PW.iload cx qX1_layDown_38 rfl ?_
    exact PW.iret cx hrt qX1_layDown_40 (le_wi hf)
set_option maxRecDepth 20000 in
theorem ctX1_leaveBed {g : GT} {ex : Bool} {sh : List Shp} {a : Nat} (hA : AS sh a) (h : Hp) (p1 : Int32) (r0 : Int32 × Hp) (hf : A_leaveBed h a p1 = some r0) : Ct g mX1_leaveBed 1 0 0 ex [.ref (gB g + a), .int p1] sh h (PE (some (.int r0.1)) sh r0.2) := by
  refine Ct.of (L := [some (.ref (gB g + a)), some (.int p1), none]) (by decide) (by intro w hw; simp only [List.mem_cons, List.not_mem_nil, or_false] at hw; rcases hw with rfl | rfl <;> rfl) (Nat.le_of_ble_eq_true rfl) rfl (fun X mx => ?_)
  obtain ⟨cx, hR, hml, hrt, -⟩ := mx
  have cx : Cx g X RX1 cX1_leaveBed := cx
  have hrt : X.2.2.2.2.2.2.2.1.sig.returnType = (some .int) := hrt
  have hi2 : 2 < X.2.2.2.2.2.2.2.2.maxLocals := by rw [hml]; exact Nat.le_of_ble_eq_true rfl
  unfold A_leaveBed at hf
  refine PW.aload_n cx qX1_leaveBed_0 rfl ?_
  refine PW.iload_n cx qX1_leaveBed_1 rfl ?_
  refine PW.callVRI (As := [.int p1]) (st := []) cx hR qX1_leaveBed_2 klX1_128 mvX1_placeOf (hA).1 rfl rfl rfl rfl (Nat.le_of_ble_eq_true rfl) (Nat.le_of_ble_eq_true rfl) (Nat.le_of_ble_eq_true rfl) (Nat.zero_le _) (Nat.zero_le _) hf sne (fun t e => ctX1_placeOf hA h p1 t e) (fun t1 hf => ?_)
  refine PW.istore_n (L' := [some (.ref (gB g + a)), some (.int p1), some (.int t1)]) cx qX1_leaveBed_5 hi2 rfl rfl ?_
  refine PW.iload_n cx qX1_leaveBed_6 rfl ?_
  refine PW.iconst (v := (-1)) cx qX1_leaveBed_7 rfl ?_
  refine PW.icmp_ne cx qX1_leaveBed_8 hf (fun hf => ?_) (fun hf => ?_)
  · refine PW.iconst (v := (-1)) cx qX1_leaveBed_11 rfl ?_
    exact PW.iret cx hrt qX1_leaveBed_12 (le_wi hf)
  · refine PW.aload_n cx qX1_leaveBed_13 rfl ?_
    refine PW.getf (t := (2, a + 8)) (v := .ref (gB g + (a + 8))) cx qX1_leaveBed_14 (hA).1 rfl flX1_33 rfl ?_
    refine PW.iload_n cx qX1_leaveBed_17 rfl ?_
    refine PW.bipush (v := (-2)) cx qX1_leaveBed_18 rfl ?_
    refine PW.iast cx qX1_leaveBed_20 (AS.r8 hA) hf sne (fun h2 hf => ?_)
    refine PW.iload_n cx qX1_leaveBed_21 rfl ?_
    refine PW.bipush (v := 9) cx qX1_leaveBed_22 rfl ?_
    refine PW.idivK cx qX1_leaveBed_24 (by decide) ?_
    exact PW.iret cx hrt qX1_leaveBed_25 (le_wi hf)
set_option maxRecDepth 20000 in
theorem ctX1_rouse {g : GT} {ex : Bool} {sh : List Shp} {a : Nat} (hA : AS sh a) (h : Hp) (p1 : Int32) (r0 : Int32 × Hp) (hf : A_rouse h a p1 = some r0) : Ct g mX1_rouse 2 0 0 ex [.ref (gB g + a), .int p1] sh h (PE (some (.int r0.1)) sh r0.2) := by
  refine Ct.of (L := [some (.ref (gB g + a)), some (.int p1)]) (by decide) (by intro w hw; simp only [List.mem_cons, List.not_mem_nil, or_false] at hw; rcases hw with rfl | rfl <;> rfl) (Nat.le_of_ble_eq_true rfl) rfl (fun X mx => ?_)
  obtain ⟨cx, hR, hml, hrt, -⟩ := mx
  have cx : Cx g X RX1 cX1_rouse := cx
  have hrt : X.2.2.2.2.2.2.2.1.sig.returnType = (some .int) := hrt
  unfold A_rouse at hf
  refine PW.aload_n cx qX1_rouse_0 rfl ?_
  refine PW.getf (t := (2, a + 4)) (v := .ref (gB g + (a + 4))) cx qX1_rouse_1 (hA).1 rfl flX1_21 rfl ?_
  refine PW.iload_n cx qX1_rouse_4 rfl ?_
  refine PW.iconst (v := 0) cx qX1_rouse_5 rfl ?_
  refine PW.iast cx qX1_rouse_6 (AS.r4 hA) hf sne (fun h1 hf => ?_)
  refine PW.aload_n cx qX1_rouse_7 rfl ?_
  refine PW.iload_n cx qX1_rouse_8 rfl ?_
  refine PW.callVWIc (As := [.int p1]) (st := []) cx hR qX1_rouse_9 klX1_125 mvX1_leaveBed (hA).1 rfl rfl rfl rfl (Nat.le_of_ble_eq_true rfl) (Nat.le_of_ble_eq_true rfl) (Nat.le_of_ble_eq_true rfl) (Nat.zero_le _) (Nat.zero_le _) hf sne (fun t e => ctX1_leaveBed hA h1 p1 t e) (fun t2 h3 hf => ?_)
  exact PW.iret cx hrt qX1_rouse_12 (le_wi hf)
