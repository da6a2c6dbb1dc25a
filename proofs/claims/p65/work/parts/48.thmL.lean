set_option maxRecDepth 20000 in
theorem lL_colours_4 {g : GT} {X : XT} {ex : Bool} {post : Option Value → List Shp → Hp → Prop} {sh : List Shp} (mx : Mx g X mL_colours 0 0 0) (hx : XSh sh) (h : Hp) (c0 : Int32) (c1 : Int32) : ∀ (n : Nat) (v2 : Int32) (v3 : Int32) (r : Int32) (hf : L_colours_L4 c0 c1 n v2 v3 = some r) (kx : ∀ (x2 : Int32), r = x2 → PW g X ex (QE g X ex post 0 0) 0 0 sh h 30 [some (.int c0), some (.int c1), some (.int x2), none] []), PW g X ex (QE g X ex post 0 0) 0 0 sh h 4 [some (.int c0), some (.int c1), some (.int v2), some (.int v3)] [] := by
  have mx0 := mx
  obtain ⟨cx, hR, hml, hrt, -⟩ := mx0
  have cx : Cx g X RL cL_colours := cx
  have hrt : X.2.2.2.2.2.2.2.1.sig.returnType = (some .int) := hrt
  have hi2 : 2 < X.2.2.2.2.2.2.2.2.maxLocals := by rw [hml]; exact Nat.le_of_ble_eq_true rfl
  have hi3 : 3 < X.2.2.2.2.2.2.2.2.maxLocals := by rw [hml]; exact Nat.le_of_ble_eq_true rfl
  intro n
  induction n with
  | zero =>
    intro v2 v3 r hf kx
    cases hf
  | succ n ih =>
    intro v2 v3 r hf kx
    unfold L_colours_L4 at hf
    refine PW.iload_n cx qL_colours_4 rfl ?_
    refine PW.iload_n cx qL_colours_5 rfl ?_
    refine PW.icmp_ge cx qL_colours_6 hf (fun hf => ?_) (fun hf => ?_)
    · exact PW.locs (Lsub.keep (Lsub.keep (Lsub.keep (Lsub.drop Lsub.nil)))) (kx v2 (Option.some.inj hf).symm)
    · refine PW.bipush (v := 10) cx qL_colours_9 rfl ?_
      refine PW.iload_n cx qL_colours_11 rfl ?_
      refine PW.imul cx qL_colours_12 ?_
      refine PW.iconst (v := 1) cx qL_colours_13 rfl ?_
      refine PW.iadd cx qL_colours_14 ?_
      refine PW.iload_n cx qL_colours_15 rfl ?_
      refine PW.iconst (v := 2) cx qL_colours_16 rfl ?_
      refine PW.iload_n cx qL_colours_17 rfl ?_
      refine PW.imul cx qL_colours_18 ?_
      refine PW.ishr cx qL_colours_19 ?_
      refine PW.iconst (v := 3) cx qL_colours_20 rfl ?_
      refine PW.iand cx qL_colours_21 ?_
      refine PW.iadd cx qL_colours_22 ?_
      refine PW.istore_n (L' := [some (.int c0), some (.int c1), some (.int (((10 * v2) + 1) + ((c0 >>> ((2 * v3) &&& 31)) &&& 3))), some (.int v3)]) cx qL_colours_23 hi2 rfl rfl ?_
      refine PW.iinc (v := 1) (L' := [some (.int c0), some (.int c1), some (.int (((10 * v2) + 1) + ((c0 >>> ((2 * v3) &&& 31)) &&& 3))), some (.int (v3 + 1))]) cx qL_colours_24 rfl rfl hi3 rfl rfl ?_
      refine PW.goto cx qL_colours_27 ?_
      exact PW.locs (Lsub.keep (Lsub.keep (Lsub.keep (Lsub.keep Lsub.nil)))) (ih (((10 * v2) + 1) + ((c0 >>> ((2 * v3) &&& 31)) &&& 3)) (v3 + 1) _ hf kx)
set_option maxRecDepth 20000 in
theorem ctL_colours {g : GT} {ex : Bool} {sh : List Shp} (hx : XSh sh) (h : Hp) (p1 : Int32) (p2 : Int32) (r0 : Int32) (hf : L_colours p1 p2 = some r0) : Ct g mL_colours 0 0 0 ex [.int p1, .int p2] sh h (PE (some (.int r0)) sh h) := by
  refine Ct.of (L := [some (.int p1), some (.int p2), none, none]) (by decide) (by intro w hw; simp only [List.mem_cons, List.not_mem_nil, or_false] at hw; rcases hw with rfl | rfl <;> rfl) (Nat.le_of_ble_eq_true rfl) rfl (fun X mx => ?_)
  have mx0 := mx
  obtain ⟨cx, hR, hml, hrt, -⟩ := mx0
  have cx : Cx g X RL cL_colours := cx
  have hrt : X.2.2.2.2.2.2.2.1.sig.returnType = (some .int) := hrt
  have hi2 : 2 < X.2.2.2.2.2.2.2.2.maxLocals := by rw [hml]; exact Nat.le_of_ble_eq_true rfl
  have hi3 : 3 < X.2.2.2.2.2.2.2.2.maxLocals := by rw [hml]; exact Nat.le_of_ble_eq_true rfl
  unfold L_colours at hf
  refine PW.iconst (v := 0) cx qL_colours_0 rfl ?_
  refine PW.istore_n (L' := [some (.int p1), some (.int p2), some (.int 0), none]) cx qL_colours_1 hi2 rfl rfl ?_
  refine PW.iconst (v := 0) cx qL_colours_2 rfl ?_
  refine PW.istore_n (L' := [some (.int p1), some (.int p2), some (.int 0), some (.int 0)]) cx qL_colours_3 hi3 rfl rfl ?_
  obtain ⟨r1, er1, hf⟩ := bndO hf sne
  refine PW.locs (Lsub.keep (Lsub.keep (Lsub.keep (Lsub.keep Lsub.nil)))) (lL_colours_4 mx hx h p1 p2 FU 0 0 r1 er1 (fun xx_ e => ?_))
  subst e
  refine PW.iload_n cx qL_colours_30 rfl ?_
  exact PW.iret cx hrt qL_colours_31 (le_ri hf)
set_option maxRecDepth 20000 in
theorem ctL_deed {g : GT} {ex : Bool} {sh : List Shp} (hx : XSh sh) (h : Hp) (p2 : Int32) (r0 : Hp) (hf : L_deed h p2 = some r0) : Ct g mL_deed 5 0 0 ex [.ref (gB g + 0), .int p2] sh h (PE none sh r0) := by
  refine Ct.of (L := [some (.ref (gB g + 0)), some (.int p2), none, none, none, none]) (by decide) (by intro w hw; simp only [List.mem_cons, List.not_mem_nil, or_false] at hw; rcases hw with rfl | rfl <;> rfl) (Nat.le_of_ble_eq_true rfl) rfl (fun X mx => ?_)
  obtain ⟨cx, hR, hml, hrt, -⟩ := mx
  have cx : Cx g X RL cL_deed := cx
  have hrt : X.2.2.2.2.2.2.2.1.sig.returnType = none := hrt
  have hi2 : 2 < X.2.2.2.2.2.2.2.2.maxLocals := by rw [hml]; exact Nat.le_of_ble_eq_true rfl
  have hi3 : 3 < X.2.2.2.2.2.2.2.2.maxLocals := by rw [hml]; exact Nat.le_of_ble_eq_true rfl
  have hi4 : 4 < X.2.2.2.2.2.2.2.2.maxLocals := by rw [hml]; exact Nat.le_of_ble_eq_true rfl
  have hi5 : 5 < X.2.2.2.2.2.2.2.2.maxLocals := by rw [hml]; exact Nat.le_of_ble_eq_true rfl
  unfold L_deed at hf
  refine PW.iload_n cx qL_deed_0 rfl ?_
  refine PW.iconst (v := 4) cx qL_deed_1 rfl ?_
  refine PW.iushr cx qL_deed_2 ?_
  refine PW.bipush (v := 15) cx qL_deed_3 rfl ?_
  refine PW.iand cx qL_deed_5 ?_
  refine PW.aload_n cx qL_deed_6 rfl ?_
  refine PW.callVRI (As := []) (st := [.int ((iush p2 4) &&& 15)]) cx hR qL_deed_7 klL_7 mvX6_clipCount (sh_0 hx) rfl rfl rfl rfl (Nat.le_of_ble_eq_true rfl) (Nat.le_of_ble_eq_true rfl) (Nat.le_of_ble_eq_true rfl) (Nat.zero_le _) (Nat.zero_le _) hf sne (fun t e => ctX6_clipCount hx h t e) (fun t1 hf => ?_)
  refine PW.irem cx qL_deed_10 hf sne (fun t2 hf => ?_)
  refine PW.istore_n (L' := [some (.ref (gB g + 0)), some (.int p2), some (.int t2), none, none, none]) cx qL_deed_11 hi2 rfl rfl ?_
  refine PW.iload_n cx qL_deed_12 rfl ?_
  refine PW.bipush (v := 8) cx qL_deed_13 rfl ?_
  refine PW.iushr cx qL_deed_15 ?_
  refine PW.iconst (v := 3) cx qL_deed_16 rfl ?_
  refine PW.iand cx qL_deed_17 ?_
  refine PW.aload_n cx qL_deed_18 rfl ?_
  refine PW.callVRI (As := []) (st := [.int ((iush p2 8) &&& 3)]) cx hR qL_deed_19 klL_13 mvX6_reelCount (sh_0 hx) rfl rfl rfl rfl (Nat.le_of_ble_eq_true rfl) (Nat.le_of_ble_eq_true rfl) (Nat.le_of_ble_eq_true rfl) (Nat.zero_le _) (Nat.zero_le _) hf sne (fun t e => ctX6_reelCount hx h t e) (fun t3 hf => ?_)
  refine PW.irem cx qL_deed_22 hf sne (fun t4 hf => ?_)
  refine PW.istore_n (L' := [some (.ref (gB g + 0)), some (.int p2), some (.int t2), some (.int t4), none, none]) cx qL_deed_23 hi3 rfl rfl ?_
  refine PW.iload_n cx qL_deed_24 rfl ?_
  refine PW.bipush (v := 10) cx qL_deed_25 rfl ?_
  refine PW.iushr cx qL_deed_27 ?_
  refine PW.bipush (v := 7) cx qL_deed_28 rfl ?_
  refine PW.iand cx qL_deed_30 ?_
  refine PW.aload_n cx qL_deed_31 rfl ?_
  refine PW.callVRI (As := []) (st := [.int ((iush p2 10) &&& 7)]) cx hR qL_deed_32 klL_16 mvX6_sceneCount (sh_0 hx) rfl rfl rfl rfl (Nat.le_of_ble_eq_true rfl) (Nat.le_of_ble_eq_true rfl) (Nat.le_of_ble_eq_true rfl) (Nat.zero_le _) (Nat.zero_le _) hf sne (fun t e => ctX6_sceneCount hx h t e) (fun t5 hf => ?_)
  refine PW.irem cx qL_deed_35 hf sne (fun t6 hf => ?_)
  refine PW.istore (L' := [some (.ref (gB g + 0)), some (.int p2), some (.int t2), some (.int t4), some (.int t6), none]) cx qL_deed_36 hi4 rfl rfl ?_
  refine PW.iload_n cx qL_deed_38 rfl ?_
  refine PW.bipush (v := 13) cx qL_deed_39 rfl ?_
  refine PW.iushr cx qL_deed_41 ?_
  refine PW.ldc (v := 65535) cx qL_deed_42 kcL_19 ?_
  refine PW.iand cx qL_deed_44 ?_
  refine PW.istore (L' := [some (.ref (gB g + 0)), some (.int p2), some (.int t2), some (.int t4), some (.int t6), some (.int ((iush p2 13) &&& 65535))]) cx qL_deed_45 hi5 rfl rfl ?_
  refine PW.iload_n cx qL_deed_47 rfl ?_
  refine PW.bipush (v := 15) cx qL_deed_48 rfl ?_
  refine PW.iand cx qL_deed_50 ?_
  refine PW.tswC (v := 0) (off := 73) (tgt := 124) cx qL_deed_51 (by decide) (by decide) rfl rfl hf (fun hf => ?_) (fun hf n0 => ?_)
  · refine PW.aload_n cx qL_deed_124 rfl ?_
    refine PW.iload_n cx qL_deed_125 rfl ?_
    refine PW.iload_n cx qL_deed_126 rfl ?_
    refine PW.callVRI (As := [.int t2, .int t4]) (st := []) cx hR qL_deed_127 klL_20 mvX6_whyNoSleep (sh_0 hx) rfl rfl rfl rfl (Nat.le_of_ble_eq_true rfl) (Nat.le_of_ble_eq_true rfl) (Nat.le_of_ble_eq_true rfl) (Nat.zero_le _) (Nat.zero_le _) hf sne (fun t e => ctX6_whyNoSleep hx h t2 t4 t e) (fun t65 hf => ?_)
    refine PW.if_ne cx qL_deed_130 hf (fun hf => ?_) (fun hf => ?_)
    · refine PW.aload_n cx qL_deed_133 rfl ?_
      refine PW.iload_n cx qL_deed_134 rfl ?_
      refine PW.iload_n cx qL_deed_135 rfl ?_
      refine PW.callVWIc (As := [.int t2, .int t4]) (st := []) cx hR qL_deed_136 klL_24 mvX6_sleep (sh_0 hx) rfl rfl rfl rfl (Nat.le_of_ble_eq_true rfl) (Nat.le_of_ble_eq_true rfl) (Nat.le_of_ble_eq_true rfl) (Nat.zero_le _) (Nat.zero_le _) hf sne (fun t e => ctX6_sleep hx h t2 t4 t e) (fun t66 h67 hf => ?_)
      refine PW.pop cx qL_deed_139 rfl ?_
      refine PW.goto cx qL_deed_140 ?_
      exact PW.vret cx hrt qL_deed_465 (le_wv hf)
    · exact PW.vret cx hrt qL_deed_465 (le_wv hf)
  · refine PW.tswC (v := 1) (off := 73) (tgt := 124) cx qL_deed_51 (by decide) (by decide) rfl rfl hf (fun hf => ?_) (fun hf n1 => ?_)
    · refine PW.aload_n cx qL_deed_124 rfl ?_
      refine PW.iload_n cx qL_deed_125 rfl ?_
      refine PW.iload_n cx qL_deed_126 rfl ?_
      refine PW.callVRI (As := [.int t2, .int t4]) (st := []) cx hR qL_deed_127 klL_20 mvX6_whyNoSleep (sh_0 hx) rfl rfl rfl rfl (Nat.le_of_ble_eq_true rfl) (Nat.le_of_ble_eq_true rfl) (Nat.le_of_ble_eq_true rfl) (Nat.zero_le _) (Nat.zero_le _) hf sne (fun t e => ctX6_whyNoSleep hx h t2 t4 t e) (fun t62 hf => ?_)
      refine PW.if_ne cx qL_deed_130 hf (fun hf => ?_) (fun hf => ?_)
      · refine PW.aload_n cx qL_deed_133 rfl ?_
        refine PW.iload_n cx qL_deed_134 rfl ?_
        refine PW.iload_n cx qL_deed_135 rfl ?_
        refine PW.callVWIc (As := [.int t2, .int t4]) (st := []) cx hR qL_deed_136 klL_24 mvX6_sleep (sh_0 hx) rfl rfl rfl rfl (Nat.le_of_ble_eq_true rfl) (Nat.le_of_ble_eq_true rfl) (Nat.le_of_ble_eq_true rfl) (Nat.zero_le _) (Nat.zero_le _) hf sne (fun t e => ctX6_sleep hx h t2 t4 t e) (fun t63 h64 hf => ?_)
        refine PW.pop cx qL_deed_139 rfl ?_
        refine PW.goto cx qL_deed_140 ?_
        exact PW.vret cx hrt qL_deed_465 (le_wv hf)
      · exact PW.vret cx hrt qL_deed_465 (le_wv hf)
    · refine PW.tswC (v := 2) (off := 73) (tgt := 124) cx qL_deed_51 (by decide) (by decide) rfl rfl hf (fun hf => ?_) (fun hf n2 => ?_)
      · refine PW.aload_n cx qL_deed_124 rfl ?_
        refine PW.iload_n cx qL_deed_125 rfl ?_
        refine PW.iload_n cx qL_deed_126 rfl ?_
        refine PW.callVRI (As := [.int t2, .int t4]) (st := []) cx hR qL_deed_127 klL_20 mvX6_whyNoSleep (sh_0 hx) rfl rfl rfl rfl (Nat.le_of_ble_eq_true rfl) (Nat.le_of_ble_eq_true rfl) (Nat.le_of_ble_eq_true rfl) (Nat.zero_le _) (Nat.zero_le _) hf sne (fun t e => ctX6_whyNoSleep hx h t2 t4 t e) (fun t59 hf => ?_)
        refine PW.if_ne cx qL_deed_130 hf (fun hf => ?_) (fun hf => ?_)
        · refine PW.aload_n cx qL_deed_133 rfl ?_
          refine PW.iload_n cx qL_deed_134 rfl ?_
          refine PW.iload_n cx qL_deed_135 rfl ?_
          refine PW.callVWIc (As := [.int t2, .int t4]) (st := []) cx hR qL_deed_136 klL_24 mvX6_sleep (sh_0 hx) rfl rfl rfl rfl (Nat.le_of_ble_eq_true rfl) (Nat.le_of_ble_eq_true rfl) (Nat.le_of_ble_eq_true rfl) (Nat.zero_le _) (Nat.zero_le _) hf sne (fun t e => ctX6_sleep hx h t2 t4 t e) (fun t60 h61 hf => ?_)
          refine PW.pop cx qL_deed_139 rfl ?_
          refine PW.goto cx qL_deed_140 ?_
          exact PW.vret cx hrt qL_deed_465 (le_wv hf)
        · exact PW.vret cx hrt qL_deed_465 (le_wv hf)
      · refine PW.tswC (v := 3) (off := 92) (tgt := 143) cx qL_deed_51 (by decide) (by decide) rfl rfl hf (fun hf => ?_) (fun hf n3 => ?_)
        · refine PW.aload_n cx qL_deed_143 rfl ?_
          refine PW.iload_n cx qL_deed_144 rfl ?_
          refine PW.callVRI (As := [.int t2]) (st := []) cx hR qL_deed_145 klL_27 mvX6_bestReel (sh_0 hx) rfl rfl rfl rfl (Nat.le_of_ble_eq_true rfl) (Nat.le_of_ble_eq_true rfl) (Nat.le_of_ble_eq_true rfl) (Nat.zero_le _) (Nat.zero_le _) hf sne (fun t e => ctX6_bestReel hx h t2 t e) (fun t55 hf => ?_)
          refine PW.iconst (v := (-1)) cx qL_deed_148 rfl ?_
          refine PW.icmp_eq cx qL_deed_149 hf (fun hf => ?_) (fun hf => ?_)
          · exact PW.vret cx hrt qL_deed_465 (le_wv hf)
          · refine PW.aload_n cx qL_deed_152 rfl ?_
            refine PW.iload_n cx qL_deed_153 rfl ?_
            refine PW.aload_n cx qL_deed_154 rfl ?_
            refine PW.iload_n cx qL_deed_155 rfl ?_
            refine PW.callVRI (As := [.int t2]) (st := [.int t2, .ref (gB g + 0)]) cx hR qL_deed_156 klL_27 mvX6_bestReel (sh_0 hx) rfl rfl rfl rfl (Nat.le_of_ble_eq_true rfl) (Nat.le_of_ble_eq_true rfl) (Nat.le_of_ble_eq_true rfl) (Nat.zero_le _) (Nat.zero_le _) hf sne (fun t e => ctX6_bestReel hx h t2 t e) (fun t56 hf => ?_)
            refine PW.callVWIc (As := [.int t2, .int t56]) (st := []) cx hR qL_deed_159 klL_24 mvX6_sleep (sh_0 hx) rfl rfl rfl rfl (Nat.le_of_ble_eq_true rfl) (Nat.le_of_ble_eq_true rfl) (Nat.le_of_ble_eq_true rfl) (Nat.zero_le _) (Nat.zero_le _) hf sne (fun t e => ctX6_sleep hx h t2 t56 t e) (fun t57 h58 hf => ?_)
            refine PW.pop cx qL_deed_162 rfl ?_
            refine PW.goto cx qL_deed_163 ?_
            exact PW.vret cx hrt qL_deed_465 (le_wv hf)
        · refine PW.tswC (v := 4) (off := 115) (tgt := 166) cx qL_deed_51 (by decide) (by decide) rfl rfl hf (fun hf => ?_) (fun hf n4 => ?_)
          · refine PW.aload_n cx qL_deed_166 rfl ?_
            refine PW.iload_n cx qL_deed_167 rfl ?_
            refine PW.callVRI (As := [.int t2]) (st := []) cx hR qL_deed_168 klL_31 mvX6_state (sh_0 hx) rfl rfl rfl rfl (Nat.le_of_ble_eq_true rfl) (Nat.le_of_ble_eq_true rfl) (Nat.le_of_ble_eq_true rfl) (Nat.zero_le _) (Nat.zero_le _) hf sne (fun t e => ctX6_state hx h t2 t e) (fun t52 hf => ?_)
            refine PW.iconst (v := 1) cx qL_deed_171 rfl ?_
            refine PW.icmp_ne cx qL_deed_172 hf (fun hf => ?_) (fun hf => ?_)
            · refine PW.aload_n cx qL_deed_175 rfl ?_
              refine PW.iload_n cx qL_deed_176 rfl ?_
              refine PW.callVWIc (As := [.int t2]) (st := []) cx hR qL_deed_177 klL_34 mvX6_wake (sh_0 hx) rfl rfl rfl rfl (Nat.le_of_ble_eq_true rfl) (Nat.le_of_ble_eq_true rfl) (Nat.le_of_ble_eq_true rfl) (Nat.zero_le _) (Nat.zero_le _) hf sne (fun t e => ctX6_wake hx h t2 t e) (fun t53 h54 hf => ?_)
              refine PW.pop cx qL_deed_180 rfl ?_
              refine PW.goto cx qL_deed_181 ?_
              exact PW.vret cx hrt qL_deed_465 (le_wv hf)
            · exact PW.vret cx hrt qL_deed_465 (le_wv hf)
          · refine PW.tswC (v := 5) (off := 133) (tgt := 184) cx qL_deed_51 (by decide) (by decide) rfl rfl hf (fun hf => ?_) (fun hf n5 => ?_)
            · refine PW.aload_n cx qL_deed_184 rfl ?_
              refine PW.iload cx qL_deed_185 rfl ?_
              refine PW.iconst (v := 1) cx qL_deed_187 rfl ?_
              refine PW.iload cx qL_deed_188 rfl ?_
              refine PW.iload cx qL_deed_190 rfl ?_
              refine PW.iconst (v := 3) cx qL_deed_192 rfl ?_
              refine PW.iremK cx qL_deed_193 (by decide) ?_
              refine PW.if_ne cx qL_deed_194 hf (fun hf => ?_) (fun hf => ?_)
              · refine PW.bipush (v := 9) cx qL_deed_197 rfl ?_
                refine PW.goto cx qL_deed_199 ?_
                refine PW.iremK cx qL_deed_218 (by decide) ?_
                refine PW.iadd cx qL_deed_219 ?_
                refine PW.callVWIc (As := [.int t6, .int (1 + (((iush p2 13) &&& 65535) - ((iush p2 13) &&& 65535) / 9 * 9))]) (st := []) cx hR qL_deed_220 klL_37 mvX6_cut (sh_0 hx) rfl rfl rfl rfl (Nat.le_of_ble_eq_true rfl) (Nat.le_of_ble_eq_true rfl) (Nat.le_of_ble_eq_true rfl) (Nat.zero_le _) (Nat.zero_le _) hf sne (fun t e => ctX6_cut hx h t6 (1 + (((iush p2 13) &&& 65535) - ((iush p2 13) &&& 65535) / 9 * 9)) t e) (fun t46 h47 hf => ?_)
                refine PW.pop cx qL_deed_223 rfl ?_
                refine PW.goto cx qL_deed_224 ?_
                exact PW.vret cx hrt qL_deed_465 (le_wv hf)
              · refine PW.iload cx qL_deed_202 rfl ?_
                refine PW.iconst (v := 3) cx qL_deed_204 rfl ?_
                refine PW.iremK cx qL_deed_205 (by decide) ?_
                refine PW.iconst (v := 1) cx qL_deed_206 rfl ?_
                refine PW.icmp_ne cx qL_deed_207 hf (fun hf => ?_) (fun hf => ?_)
                · refine PW.bipush (v := 50) cx qL_deed_210 rfl ?_
                  refine PW.goto cx qL_deed_212 ?_
                  refine PW.iremK cx qL_deed_218 (by decide) ?_
                  refine PW.iadd cx qL_deed_219 ?_
                  refine PW.callVWIc (As := [.int t6, .int (1 + (((iush p2 13) &&& 65535) - ((iush p2 13) &&& 65535) / 50 * 50))]) (st := []) cx hR qL_deed_220 klL_37 mvX6_cut (sh_0 hx) rfl rfl rfl rfl (Nat.le_of_ble_eq_true rfl) (Nat.le_of_ble_eq_true rfl) (Nat.le_of_ble_eq_true rfl) (Nat.zero_le _) (Nat.zero_le _) hf sne (fun t e => ctX6_cut hx h t6 (1 + (((iush p2 13) &&& 65535) - ((iush p2 13) &&& 65535) / 50 * 50)) t e) (fun t48 h49 hf => ?_)
                  refine PW.pop cx qL_deed_223 rfl ?_
                  refine PW.goto cx qL_deed_224 ?_
                  exact PW.vret cx hrt qL_deed_465 (le_wv hf)
                · refine PW.sipush (v := 999) cx qL_deed_215 rfl ?_
                  refine PW.iremK cx qL_deed_218 (by decide) ?_
                  refine PW.iadd cx qL_deed_219 ?_
                  refine PW.callVWIc (As := [.int t6, .int (1 + (((iush p2 13) &&& 65535) - ((iush p2 13) &&& 65535) / 999 * 999))]) (st := []) cx hR qL_deed_220 klL_37 mvX6_cut (sh_0 hx) rfl rfl rfl rfl (Nat.le_of_ble_eq_true rfl) (Nat.le_of_ble_eq_true rfl) (Nat.le_of_ble_eq_true rfl) (Nat.zero_le _) (Nat.zero_le _) hf sne (fun t e => ctX6_cut hx h t6 (1 + (((iush p2 13) &&& 65535) - ((iush p2 13) &&& 65535) / 999 * 999)) t e) (fun t50 h51 hf => ?_)
                  refine PW.pop cx qL_deed_223 rfl ?_
                  refine PW.goto cx qL_deed_224 ?_
                  exact PW.vret cx hrt qL_deed_465 (le_wv hf)
            · refine PW.tswC (v := 6) (off := 133) (tgt := 184) cx qL_deed_51 (by decide) (by decide) rfl rfl hf (fun hf => ?_) (fun hf n6 => ?_)
              · refine PW.aload_n cx qL_deed_184 rfl ?_
                refine PW.iload cx qL_deed_185 rfl ?_
                refine PW.iconst (v := 1) cx qL_deed_187 rfl ?_
                refine PW.iload cx qL_deed_188 rfl ?_
                refine PW.iload cx qL_deed_190 rfl ?_
                refine PW.iconst (v := 3) cx qL_deed_192 rfl ?_
                refine PW.iremK cx qL_deed_193 (by decide) ?_
                refine PW.if_ne cx qL_deed_194 hf (fun hf => ?_) (fun hf => ?_)
                · refine PW.bipush (v := 9) cx qL_deed_197 rfl ?_
                  refine PW.goto cx qL_deed_199 ?_
                  refine PW.iremK cx qL_deed_218 (by decide) ?_
                  refine PW.iadd cx qL_deed_219 ?_
                  refine PW.callVWIc (As := [.int t6, .int (1 + (((iush p2 13) &&& 65535) - ((iush p2 13) &&& 65535) / 9 * 9))]) (st := []) cx hR qL_deed_220 klL_37 mvX6_cut (sh_0 hx) rfl rfl rfl rfl (Nat.le_of_ble_eq_true rfl) (Nat.le_of_ble_eq_true rfl) (Nat.le_of_ble_eq_true rfl) (Nat.zero_le _) (Nat.zero_le _) hf sne (fun t e => ctX6_cut hx h t6 (1 + (((iush p2 13) &&& 65535) - ((iush p2 13) &&& 65535) / 9 * 9)) t e) (fun t40 h41 hf => ?_)
                  refine PW.pop cx qL_deed_223 rfl ?_
                  refine PW.goto cx qL_deed_224 ?_
                  exact PW.vret cx hrt qL_deed_465 (le_wv hf)
                · refine PW.iload cx qL_deed_202 rfl ?_
                  refine PW.iconst (v := 3) cx qL_deed_204 rfl ?_
                  refine PW.iremK cx qL_deed_205 (by decide) ?_
                  refine PW.iconst (v := 1) cx qL_deed_206 rfl ?_
                  refine PW.icmp_ne cx qL_deed_207 hf (fun hf => ?_) (fun hf => ?_)
                  · refine PW.bipush (v := 50) cx qL_deed_210 rfl ?_
                    refine PW.goto cx qL_deed_212 ?_
                    refine PW.iremK cx qL_deed_218 (by decide) ?_
                    refine PW.iadd cx qL_deed_219 ?_
                    refine PW.callVWIc (As := [.int t6, .int (1 + (((iush p2 13) &&& 65535) - ((iush p2 13) &&& 65535) / 50 * 50))]) (st := []) cx hR qL_deed_220 klL_37 mvX6_cut (sh_0 hx) rfl rfl rfl rfl (Nat.le_of_ble_eq_true rfl) (Nat.le_of_ble_eq_true rfl) (Nat.le_of_ble_eq_true rfl) (Nat.zero_le _) (Nat.zero_le _) hf sne (fun t e => ctX6_cut hx h t6 (1 + (((iush p2 13) &&& 65535) - ((iush p2 13) &&& 65535) / 50 * 50)) t e) (fun t42 h43 hf => ?_)
                    refine PW.pop cx qL_deed_223 rfl ?_
                    refine PW.goto cx qL_deed_224 ?_
                    exact PW.vret cx hrt qL_deed_465 (le_wv hf)
                  · refine PW.sipush (v := 999) cx qL_deed_215 rfl ?_
                    refine PW.iremK cx qL_deed_218 (by decide) ?_
                    refine PW.iadd cx qL_deed_219 ?_
                    refine PW.callVWIc (As := [.int t6, .int (1 + (((iush p2 13) &&& 65535) - ((iush p2 13) &&& 65535) / 999 * 999))]) (st := []) cx hR qL_deed_220 klL_37 mvX6_cut (sh_0 hx) rfl rfl rfl rfl (Nat.le_of_ble_eq_true rfl) (Nat.le_of_ble_eq_true rfl) (Nat.le_of_ble_eq_true rfl) (Nat.zero_le _) (Nat.zero_le _) hf sne (fun t e => ctX6_cut hx h t6 (1 + (((iush p2 13) &&& 65535) - ((iush p2 13) &&& 65535) / 999 * 999)) t e) (fun t44 h45 hf => ?_)
                    refine PW.pop cx qL_deed_223 rfl ?_
                    refine PW.goto cx qL_deed_224 ?_
                    exact PW.vret cx hrt qL_deed_465 (le_wv hf)
              · refine PW.tswC (v := 7) (off := 176) (tgt := 227) cx qL_deed_51 (by decide) (by decide) rfl rfl hf (fun hf => ?_) (fun hf n7 => ?_)
                · refine PW.aload_n cx qL_deed_227 rfl ?_
                  refine PW.iload_n cx qL_deed_228 rfl ?_
                  refine PW.callVWIc (As := [.int t4]) (st := []) cx hR qL_deed_229 klL_40 mvX6_air (sh_0 hx) rfl rfl rfl rfl (Nat.le_of_ble_eq_true rfl) (Nat.le_of_ble_eq_true rfl) (Nat.le_of_ble_eq_true rfl) (Nat.zero_le _) (Nat.zero_le _) hf sne (fun t e => ctX6_air hx h t4 t e) (fun t38 h39 hf => ?_)
                  refine PW.pop cx qL_deed_232 rfl ?_
                  refine PW.goto cx qL_deed_233 ?_
                  exact PW.vret cx hrt qL_deed_465 (le_wv hf)
                · refine PW.tswC (v := 8) (off := 185) (tgt := 236) cx qL_deed_51 (by decide) (by decide) rfl rfl hf (fun hf => ?_) (fun hf n8 => ?_)
                  · refine PW.aload_n cx qL_deed_236 rfl ?_
                    refine PW.iload_n cx qL_deed_237 rfl ?_
                    refine PW.callVRI (As := [.int t2]) (st := []) cx hR qL_deed_238 klL_31 mvX6_state (sh_0 hx) rfl rfl rfl rfl (Nat.le_of_ble_eq_true rfl) (Nat.le_of_ble_eq_true rfl) (Nat.le_of_ble_eq_true rfl) (Nat.zero_le _) (Nat.zero_le _) hf sne (fun t e => ctX6_state hx h t2 t e) (fun t33 hf => ?_)
                    refine PW.if_ne cx qL_deed_241 hf (fun hf => ?_) (fun hf => ?_)
                    · refine PW.aload_n cx qL_deed_244 rfl ?_
                      refine PW.callVRI (As := []) (st := []) cx hR qL_deed_245 klL_43 mvX6_food (sh_0 hx) rfl rfl rfl rfl (Nat.le_of_ble_eq_true rfl) (Nat.le_of_ble_eq_true rfl) (Nat.le_of_ble_eq_true rfl) (Nat.zero_le _) (Nat.zero_le _) hf sne (fun t e => ctX6_food hx h t e) (fun t34 hf => ?_)
                      refine PW.iconst (v := 1) cx qL_deed_248 rfl ?_
                      refine PW.iload cx qL_deed_249 rfl ?_
                      refine PW.bipush (v := 20) cx qL_deed_251 rfl ?_
                      refine PW.iremK cx qL_deed_253 (by decide) ?_
                      refine PW.iadd cx qL_deed_254 ?_
                      refine PW.icmp_lt cx qL_deed_255 hf (fun hf => ?_) (fun hf => ?_)
                      · exact PW.vret cx hrt qL_deed_465 (le_wv hf)
                      · refine PW.aload_n cx qL_deed_258 rfl ?_
                        refine PW.iload_n cx qL_deed_259 rfl ?_
                        refine PW.callVRI (As := [.int t2]) (st := []) cx hR qL_deed_260 klL_46 mvX6_fat (sh_0 hx) rfl rfl rfl rfl (Nat.le_of_ble_eq_true rfl) (Nat.le_of_ble_eq_true rfl) (Nat.le_of_ble_eq_true rfl) (Nat.zero_le _) (Nat.zero_le _) hf sne (fun t e => ctX6_fat hx h t2 t e) (fun t35 hf => ?_)
                        refine PW.iconst (v := 1) cx qL_deed_263 rfl ?_
                        refine PW.iadd cx qL_deed_264 ?_
                        refine PW.iload cx qL_deed_265 rfl ?_
                        refine PW.bipush (v := 20) cx qL_deed_267 rfl ?_
                        refine PW.iremK cx qL_deed_269 (by decide) ?_
                        refine PW.iadd cx qL_deed_270 ?_
                        refine PW.bipush (v := 99) cx qL_deed_271 rfl ?_
                        refine PW.icmp_gt cx qL_deed_273 hf (fun hf => ?_) (fun hf => ?_)
                        · exact PW.vret cx hrt qL_deed_465 (le_wv hf)
                        · refine PW.aload_n cx qL_deed_276 rfl ?_
                          refine PW.iload_n cx qL_deed_277 rfl ?_
                          refine PW.iconst (v := 1) cx qL_deed_278 rfl ?_
                          refine PW.iload cx qL_deed_279 rfl ?_
                          refine PW.bipush (v := 20) cx qL_deed_281 rfl ?_
                          refine PW.iremK cx qL_deed_283 (by decide) ?_
                          refine PW.iadd cx qL_deed_284 ?_
                          refine PW.callVWIc (As := [.int t2, .int (1 + (((iush p2 13) &&& 65535) - ((iush p2 13) &&& 65535) / 20 * 20))]) (st := []) cx hR qL_deed_285 klL_49 mvX6_feed (sh_0 hx) rfl rfl rfl rfl (Nat.le_of_ble_eq_true rfl) (Nat.le_of_ble_eq_true rfl) (Nat.le_of_ble_eq_true rfl) (Nat.zero_le _) (Nat.zero_le _) hf sne (fun t e => ctX6_feed hx h t2 (1 + (((iush p2 13) &&& 65535) - ((iush p2 13) &&& 65535) / 20 * 20)) t e) (fun t36 h37 hf => ?_)
                          refine PW.pop cx qL_deed_288 rfl ?_
                          refine PW.goto cx qL_deed_289 ?_
                          exact PW.vret cx hrt qL_deed_465 (le_wv hf)
                    · exact PW.vret cx hrt qL_deed_465 (le_wv hf)
                  · refine PW.tswC (v := 9) (off := 241) (tgt := 292) cx qL_deed_51 (by decide) (by decide) rfl rfl hf (fun hf => ?_) (fun hf n9 => ?_)
                    · refine PW.aload_n cx qL_deed_292 rfl ?_
                      refine PW.callVRI (As := []) (st := []) cx hR qL_deed_293 klL_43 mvX6_food (sh_0 hx) rfl rfl rfl rfl (Nat.le_of_ble_eq_true rfl) (Nat.le_of_ble_eq_true rfl) (Nat.le_of_ble_eq_true rfl) (Nat.zero_le _) (Nat.zero_le _) hf sne (fun t e => ctX6_food hx h t e) (fun t30 hf => ?_)
                      refine PW.iconst (v := 1) cx qL_deed_296 rfl ?_
                      refine PW.iadd cx qL_deed_297 ?_
                      refine PW.iload cx qL_deed_298 rfl ?_
                      refine PW.bipush (v := 99) cx qL_deed_300 rfl ?_
                      refine PW.iremK cx qL_deed_302 (by decide) ?_
                      refine PW.iadd cx qL_deed_303 ?_
                      refine PW.sipush (v := 9999) cx qL_deed_304 rfl ?_
                      refine PW.icmp_gt cx qL_deed_307 hf (fun hf => ?_) (fun hf => ?_)
                      · exact PW.vret cx hrt qL_deed_465 (le_wv hf)
                      · refine PW.aload_n cx qL_deed_310 rfl ?_
                        refine PW.iconst (v := 1) cx qL_deed_311 rfl ?_
                        refine PW.iload cx qL_deed_312 rfl ?_
                        refine PW.bipush (v := 99) cx qL_deed_314 rfl ?_
                        refine PW.iremK cx qL_deed_316 (by decide) ?_
                        refine PW.iadd cx qL_deed_317 ?_
                        refine PW.callVWIc (As := [.int (1 + (((iush p2 13) &&& 65535) - ((iush p2 13) &&& 65535) / 99 * 99))]) (st := []) cx hR qL_deed_318 klL_52 mvX6_addFood (sh_0 hx) rfl rfl rfl rfl (Nat.le_of_ble_eq_true rfl) (Nat.le_of_ble_eq_true rfl) (Nat.le_of_ble_eq_true rfl) (Nat.zero_le _) (Nat.zero_le _) hf sne (fun t e => ctX6_addFood hx h (1 + (((iush p2 13) &&& 65535) - ((iush p2 13) &&& 65535) / 99 * 99)) t e) (fun t31 h32 hf => ?_)
                        refine PW.pop cx qL_deed_321 rfl ?_
                        refine PW.goto cx qL_deed_322 ?_
                        exact PW.vret cx hrt qL_deed_465 (le_wv hf)
                    · refine PW.tswC (v := 10) (off := 274) (tgt := 325) cx qL_deed_51 (by decide) (by decide) rfl rfl hf (fun hf => ?_) (fun hf n10 => ?_)
                      · refine PW.aload_n cx qL_deed_325 rfl ?_
                        refine PW.iload_n cx qL_deed_326 rfl ?_
                        refine PW.callVRI (As := [.int t2]) (st := []) cx hR qL_deed_327 klL_31 mvX6_state (sh_0 hx) rfl rfl rfl rfl (Nat.le_of_ble_eq_true rfl) (Nat.le_of_ble_eq_true rfl) (Nat.le_of_ble_eq_true rfl) (Nat.zero_le _) (Nat.zero_le _) hf sne (fun t e => ctX6_state hx h t2 t e) (fun t25 hf => ?_)
                        refine PW.if_ne cx qL_deed_330 hf (fun hf => ?_) (fun hf => ?_)
                        · refine PW.aload_n cx qL_deed_333 rfl ?_
                          refine PW.iload_n cx qL_deed_334 rfl ?_
                          refine PW.iload cx qL_deed_335 rfl ?_
                          refine PW.aload_n cx qL_deed_337 rfl ?_
                          refine PW.iload_n cx qL_deed_338 rfl ?_
                          refine PW.callVRI (As := [.int t2]) (st := [.int ((iush p2 13) &&& 65535), .int t2, .ref (gB g + 0)]) cx hR qL_deed_339 klL_55 mvX6_length (sh_0 hx) rfl rfl rfl rfl (Nat.le_of_ble_eq_true rfl) (Nat.le_of_ble_eq_true rfl) (Nat.le_of_ble_eq_true rfl) (Nat.zero_le _) (Nat.zero_le _) hf sne (fun t e => ctX6_length hx h t2 t e) (fun t26 hf => ?_)
                          refine PW.irem cx qL_deed_342 hf sne (fun t27 hf => ?_)
                          refine PW.iconst (v := 1) cx qL_deed_343 rfl ?_
                          refine PW.iload cx qL_deed_344 rfl ?_
                          refine PW.iconst (v := 4) cx qL_deed_346 rfl ?_
                          refine PW.ishr cx qL_deed_347 ?_
                          refine PW.bipush (v := 9) cx qL_deed_348 rfl ?_
                          refine PW.iremK cx qL_deed_350 (by decide) ?_
                          refine PW.iadd cx qL_deed_351 ?_
                          refine PW.callVWIc (As := [.int t2, .int t27, .int ((1 : Int32) + ((((iush p2 13) &&& 65535) >>> (4 &&& 31)) - (((iush p2 13) &&& 65535) >>> (4 &&& 31)) / 9 * 9))]) (st := []) cx hR qL_deed_352 klL_58 mvX6_paint (sh_0 hx) rfl rfl rfl rfl (Nat.le_of_ble_eq_true rfl) (Nat.le_of_ble_eq_true rfl) (Nat.le_of_ble_eq_true rfl) (Nat.zero_le _) (Nat.zero_le _) hf sne (fun t e => ctX6_paint hx h t2 t27 ((1 : Int32) + ((((iush p2 13) &&& 65535) >>> (4 &&& 31)) - (((iush p2 13) &&& 65535) >>> (4 &&& 31)) / 9 * 9)) t e) (fun t28 h29 hf => ?_)
                          refine PW.pop cx qL_deed_355 rfl ?_
                          refine PW.goto cx qL_deed_356 ?_
                          exact PW.vret cx hrt qL_deed_465 (le_wv hf)
                        · exact PW.vret cx hrt qL_deed_465 (le_wv hf)
                      · refine PW.tswC (v := 11) (off := 274) (tgt := 325) cx qL_deed_51 (by decide) (by decide) rfl rfl hf (fun hf => ?_) (fun hf n11 => ?_)
                        · refine PW.aload_n cx qL_deed_325 rfl ?_
                          refine PW.iload_n cx qL_deed_326 rfl ?_
                          refine PW.callVRI (As := [.int t2]) (st := []) cx hR qL_deed_327 klL_31 mvX6_state (sh_0 hx) rfl rfl rfl rfl (Nat.le_of_ble_eq_true rfl) (Nat.le_of_ble_eq_true rfl) (Nat.le_of_ble_eq_true rfl) (Nat.zero_le _) (Nat.zero_le _) hf sne (fun t e => ctX6_state hx h t2 t e) (fun t20 hf => ?_)
                          refine PW.if_ne cx qL_deed_330 hf (fun hf => ?_) (fun hf => ?_)
                          · refine PW.aload_n cx qL_deed_333 rfl ?_
                            refine PW.iload_n cx qL_deed_334 rfl ?_
                            refine PW.iload cx qL_deed_335 rfl ?_
                            refine PW.aload_n cx qL_deed_337 rfl ?_
                            refine PW.iload_n cx qL_deed_338 rfl ?_
                            refine PW.callVRI (As := [.int t2]) (st := [.int ((iush p2 13) &&& 65535), .int t2, .ref (gB g + 0)]) cx hR qL_deed_339 klL_55 mvX6_length (sh_0 hx) rfl rfl rfl rfl (Nat.le_of_ble_eq_true rfl) (Nat.le_of_ble_eq_true rfl) (Nat.le_of_ble_eq_true rfl) (Nat.zero_le _) (Nat.zero_le _) hf sne (fun t e => ctX6_length hx h t2 t e) (fun t21 hf => ?_)
                            refine PW.irem cx qL_deed_342 hf sne (fun t22 hf => ?_)
                            refine PW.iconst (v := 1) cx qL_deed_343 rfl ?_
                            refine PW.iload cx qL_deed_344 rfl ?_
                            refine PW.iconst (v := 4) cx qL_deed_346 rfl ?_
                            refine PW.ishr cx qL_deed_347 ?_
                            refine PW.bipush (v := 9) cx qL_deed_348 rfl ?_
                            refine PW.iremK cx qL_deed_350 (by decide) ?_
                            refine PW.iadd cx qL_deed_351 ?_
                            refine PW.callVWIc (As := [.int t2, .int t22, .int ((1 : Int32) + ((((iush p2 13) &&& 65535) >>> (4 &&& 31)) - (((iush p2 13) &&& 65535) >>> (4 &&& 31)) / 9 * 9))]) (st := []) cx hR qL_deed_352 klL_58 mvX6_paint (sh_0 hx) rfl rfl rfl rfl (Nat.le_of_ble_eq_true rfl) (Nat.le_of_ble_eq_true rfl) (Nat.le_of_ble_eq_true rfl) (Nat.zero_le _) (Nat.zero_le _) hf sne (fun t e => ctX6_paint hx h t2 t22 ((1 : Int32) + ((((iush p2 13) &&& 65535) >>> (4 &&& 31)) - (((iush p2 13) &&& 65535) >>> (4 &&& 31)) / 9 * 9)) t e) (fun t23 h24 hf => ?_)
                            refine PW.pop cx qL_deed_355 rfl ?_
                            refine PW.goto cx qL_deed_356 ?_
                            exact PW.vret cx hrt qL_deed_465 (le_wv hf)
                          · exact PW.vret cx hrt qL_deed_465 (le_wv hf)
                        · refine PW.tswC (v := 12) (off := 308) (tgt := 359) cx qL_deed_51 (by decide) (by decide) rfl rfl hf (fun hf => ?_) (fun hf n12 => ?_)
                          · refine PW.aload_n cx qL_deed_359 rfl ?_
                            refine PW.callVRI (As := []) (st := []) cx hR qL_deed_360 klL_7 mvX6_clipCount (sh_0 hx) rfl rfl rfl rfl (Nat.le_of_ble_eq_true rfl) (Nat.le_of_ble_eq_true rfl) (Nat.le_of_ble_eq_true rfl) (Nat.zero_le _) (Nat.zero_le _) hf sne (fun t e => ctX6_clipCount hx h t e) (fun t16 hf => ?_)
                            refine PW.bipush (v := 12) cx qL_deed_363 rfl ?_
                            refine PW.icmp_ge cx qL_deed_365 hf (fun hf => ?_) (fun hf => ?_)
                            · exact PW.vret cx hrt qL_deed_465 (le_wv hf)
                            · refine PW.aload_n cx qL_deed_368 rfl ?_
                              refine PW.iload cx qL_deed_369 rfl ?_
                              refine PW.iconst (v := 1) cx qL_deed_371 rfl ?_
                              refine PW.iload_n cx qL_deed_372 rfl ?_
                              refine PW.iconst (v := 4) cx qL_deed_373 rfl ?_
                              refine PW.iushr cx qL_deed_374 ?_
                              refine PW.bipush (v := 7) cx qL_deed_375 rfl ?_
                              refine PW.iand cx qL_deed_377 ?_
                              refine PW.iadd cx qL_deed_378 ?_
                              refine PW.callSRI (As := [.int ((iush p2 13) &&& 65535), .int (1 + ((iush p2 4) &&& 7))]) (st := [.ref (gB g + 0)]) cx hR qL_deed_379 klL_62 miL_colours rfl rfl (Nat.le_of_ble_eq_true rfl) (Nat.le_of_ble_eq_true rfl) (Nat.le_of_ble_eq_true rfl) (Nat.zero_le _) (Nat.zero_le _) hf sne (fun t e => ctL_colours hx h ((iush p2 13) &&& 65535) (1 + ((iush p2 4) &&& 7)) t e) (fun t17 hf => ?_)
                              refine PW.callVWIc (As := [.int t17]) (st := []) cx hR qL_deed_382 klL_67 mvX6_addClip (sh_0 hx) rfl rfl rfl rfl (Nat.le_of_ble_eq_true rfl) (Nat.le_of_ble_eq_true rfl) (Nat.le_of_ble_eq_true rfl) (Nat.zero_le _) (Nat.zero_le _) hf sne (fun t e => ctX6_addClip hx h t17 t e) (fun t18 h19 hf => ?_)
                              refine PW.pop cx qL_deed_385 rfl ?_
                              refine PW.goto cx qL_deed_386 ?_
                              exact PW.vret cx hrt qL_deed_465 (le_wv hf)
                          · refine PW.tswC (v := 13) (off := 338) (tgt := 389) cx qL_deed_51 (by decide) (by decide) rfl rfl hf (fun hf => ?_) (fun hf n13 => ?_)
                            · refine PW.aload_n cx qL_deed_389 rfl ?_
                              refine PW.callVRI (As := []) (st := []) cx hR qL_deed_390 klL_13 mvX6_reelCount (sh_0 hx) rfl rfl rfl rfl (Nat.le_of_ble_eq_true rfl) (Nat.le_of_ble_eq_true rfl) (Nat.le_of_ble_eq_true rfl) (Nat.zero_le _) (Nat.zero_le _) hf sne (fun t e => ctX6_reelCount hx h t e) (fun t13 hf => ?_)
                              refine PW.iconst (v := 4) cx qL_deed_393 rfl ?_
                              refine PW.icmp_ge cx qL_deed_394 hf (fun hf => ?_) (fun hf => ?_)
                              · exact PW.vret cx hrt qL_deed_465 (le_wv hf)
                              · refine PW.aload_n cx qL_deed_397 rfl ?_
                                refine PW.iconst (v := 1) cx qL_deed_398 rfl ?_
                                refine PW.iload cx qL_deed_399 rfl ?_
                                refine PW.bipush (v := 9) cx qL_deed_401 rfl ?_
                                refine PW.iremK cx qL_deed_403 (by decide) ?_
                                refine PW.iadd cx qL_deed_404 ?_
                                refine PW.callVWIc (As := [.int (1 + (((iush p2 13) &&& 65535) - ((iush p2 13) &&& 65535) / 9 * 9))]) (st := []) cx hR qL_deed_405 klL_70 mvX6_addReel (sh_0 hx) rfl rfl rfl rfl (Nat.le_of_ble_eq_true rfl) (Nat.le_of_ble_eq_true rfl) (Nat.le_of_ble_eq_true rfl) (Nat.zero_le _) (Nat.zero_le _) hf sne (fun t e => ctX6_addReel hx h (1 + (((iush p2 13) &&& 65535) - ((iush p2 13) &&& 65535) / 9 * 9)) t e) (fun t14 h15 hf => ?_)
                                refine PW.pop cx qL_deed_408 rfl ?_
                                refine PW.goto cx qL_deed_409 ?_
                                exact PW.vret cx hrt qL_deed_465 (le_wv hf)
                            · refine PW.tswC (v := 14) (off := 361) (tgt := 412) cx qL_deed_51 (by decide) (by decide) rfl rfl hf (fun hf => ?_) (fun hf n14 => ?_)
                              · refine PW.aload_n cx qL_deed_412 rfl ?_
                                refine PW.callVRI (As := []) (st := []) cx hR qL_deed_413 klL_16 mvX6_sceneCount (sh_0 hx) rfl rfl rfl rfl (Nat.le_of_ble_eq_true rfl) (Nat.le_of_ble_eq_true rfl) (Nat.le_of_ble_eq_true rfl) (Nat.zero_le _) (Nat.zero_le _) hf sne (fun t e => ctX6_sceneCount hx h t e) (fun t10 hf => ?_)
                                refine PW.iconst (v := 5) cx qL_deed_416 rfl ?_
                                refine PW.icmp_ge cx qL_deed_417 hf (fun hf => ?_) (fun hf => ?_)
                                · exact PW.vret cx hrt qL_deed_465 (le_wv hf)
                                · refine PW.aload_n cx qL_deed_420 rfl ?_
                                  refine PW.iconst (v := 1) cx qL_deed_421 rfl ?_
                                  refine PW.iload cx qL_deed_422 rfl ?_
                                  refine PW.bipush (v := 9) cx qL_deed_424 rfl ?_
                                  refine PW.iremK cx qL_deed_426 (by decide) ?_
                                  refine PW.iadd cx qL_deed_427 ?_
                                  refine PW.callVWIc (As := [.int (1 + (((iush p2 13) &&& 65535) - ((iush p2 13) &&& 65535) / 9 * 9))]) (st := []) cx hR qL_deed_428 klL_73 mvX6_addScene (sh_0 hx) rfl rfl rfl rfl (Nat.le_of_ble_eq_true rfl) (Nat.le_of_ble_eq_true rfl) (Nat.le_of_ble_eq_true rfl) (Nat.zero_le _) (Nat.zero_le _) hf sne (fun t e => ctX6_addScene hx h (1 + (((iush p2 13) &&& 65535) - ((iush p2 13) &&& 65535) / 9 * 9)) t e) (fun t11 h12 hf => ?_)
                                  refine PW.pop cx qL_deed_431 rfl ?_
                                  refine PW.goto cx qL_deed_432 ?_
                                  exact PW.vret cx hrt qL_deed_465 (le_wv hf)
                              · refine PW.tswD cx qL_deed_51 (tsw_out (lo := 0) (hi := 14) (N := 15) rfl (fun k hk => match k, hk with | 0, _ => n0 | 1, _ => n1 | 2, _ => n2 | 3, _ => n3 | 4, _ => n4 | 5, _ => n5 | 6, _ => n6 | 7, _ => n7 | 8, _ => n8 | 9, _ => n9 | 10, _ => n10 | 11, _ => n11 | 12, _ => n12 | 13, _ => n13 | 14, _ => n14 | k + 15, hk => absurd hk (by omega))) rfl ?_
                                refine PW.aload_n cx qL_deed_435 rfl ?_
                                refine PW.callVRI (As := []) (st := []) cx hR qL_deed_436 klL_76 mvX6_week (sh_0 hx) rfl rfl rfl rfl (Nat.le_of_ble_eq_true rfl) (Nat.le_of_ble_eq_true rfl) (Nat.le_of_ble_eq_true rfl) (Nat.zero_le _) (Nat.zero_le _) hf sne (fun t e => ctX6_week hx h t e) (fun t7 hf => ?_)
                                refine PW.iconst (v := 1) cx qL_deed_439 rfl ?_
                                refine PW.iadd cx qL_deed_440 ?_
                                refine PW.iload cx qL_deed_441 rfl ?_
                                refine PW.bipush (v := 9) cx qL_deed_443 rfl ?_
                                refine PW.iremK cx qL_deed_445 (by decide) ?_
                                refine PW.iadd cx qL_deed_446 ?_
                                refine PW.sipush (v := 999) cx qL_deed_447 rfl ?_
                                refine PW.icmp_gt cx qL_deed_450 hf (fun hf => ?_) (fun hf => ?_)
                                · exact PW.vret cx hrt qL_deed_465 (le_wv hf)
                                · refine PW.aload_n cx qL_deed_453 rfl ?_
                                  refine PW.iconst (v := 1) cx qL_deed_454 rfl ?_
                                  refine PW.iload cx qL_deed_455 rfl ?_
                                  refine PW.bipush (v := 9) cx qL_deed_457 rfl ?_
                                  refine PW.iremK cx qL_deed_459 (by decide) ?_
                                  refine PW.iadd cx qL_deed_460 ?_
                                  refine PW.callVWIc (As := [.int (1 + (((iush p2 13) &&& 65535) - ((iush p2 13) &&& 65535) / 9 * 9))]) (st := []) cx hR qL_deed_461 klL_79 mvX6_passWeeks (sh_0 hx) rfl rfl rfl rfl (Nat.le_of_ble_eq_true rfl) (Nat.le_of_ble_eq_true rfl) (Nat.le_of_ble_eq_true rfl) (Nat.zero_le _) (Nat.zero_le _) hf sne (fun t e => ctX6_passWeeks hx h (1 + (((iush p2 13) &&& 65535) - ((iush p2 13) &&& 65535) / 9 * 9)) t e) (fun t8 h9 hf => ?_)
                                  refine PW.pop cx qL_deed_464 rfl ?_
                                  exact PW.vret cx hrt qL_deed_465 (le_wv hf)
set_option maxRecDepth 20000 in
theorem lL_isFound_10 {g : GT} {X : XT} {ex : Bool} {post : Option Value → List Shp → Hp → Prop} {sh : List Shp} (mx : Mx g X mL_isFound 4 0 0) (hx : XSh sh) (h : Hp) (c1 : Int32) (c2 : Int32) (c3 : Int32) : ∀ (n : Nat) (v4 : Int32) (r : (Unit) ⊕ (Bool)) (hf : L_isFound_L10 h c1 c2 c3 n v4 = some r) (kx : r = .inl () → PW g X ex (QE g X ex post 0 0) 0 0 sh h 82 [some (.ref (gB g + 0)), some (.int c1), some (.int c2), some (.int c3), none, none] []) (kr : ∀ y : Bool, r = .inr y → post (some (.int (b2i y))) sh h), PW g X ex (QE g X ex post 0 0) 0 0 sh h 10 [some (.ref (gB g + 0)), some (.int c1), some (.int c2), some (.int c3), some (.int v4), none] [] := by
  have mx0 := mx
  obtain ⟨cx, hR, hml, hrt, -⟩ := mx0
  have cx : Cx g X RL cL_isFound := cx
  have hrt : X.2.2.2.2.2.2.2.1.sig.returnType = (some .boolean) := hrt
  have hi3 : 3 < X.2.2.2.2.2.2.2.2.maxLocals := by rw [hml]; exact Nat.le_of_ble_eq_true rfl
  have hi4 : 4 < X.2.2.2.2.2.2.2.2.maxLocals := by rw [hml]; exact Nat.le_of_ble_eq_true rfl
  have hi5 : 5 < X.2.2.2.2.2.2.2.2.maxLocals := by rw [hml]; exact Nat.le_of_ble_eq_true rfl
  intro n
  induction n with
  | zero =>
    intro v4 r hf kx kr
    cases hf
  | succ n ih =>
    intro v4 r hf kx kr
    unfold L_isFound_L10 at hf
    refine PW.iload cx qL_isFound_10 rfl ?_
    refine PW.iload_n cx qL_isFound_12 rfl ?_
    refine PW.icmp_ge cx qL_isFound_13 hf (fun hf => ?_) (fun hf => ?_)
    · exact PW.locs (Lsub.keep (Lsub.keep (Lsub.keep (Lsub.keep (Lsub.drop (Lsub.drop Lsub.nil)))))) (kx (Option.some.inj hf).symm)
    · refine PW.aload_n cx qL_isFound_16 rfl ?_
      refine PW.iload_n cx qL_isFound_17 rfl ?_
      refine PW.aload_n cx qL_isFound_18 rfl ?_
      refine PW.iload_n cx qL_isFound_19 rfl ?_
      refine PW.iload_n cx qL_isFound_20 rfl ?_
      refine PW.callVRI (As := [.int c1, .int c2]) (st := [.int c2, .ref (gB g + 0)]) cx hR qL_isFound_21 klL_113 mvX6_home (sh_0 hx) rfl rfl rfl rfl (Nat.le_of_ble_eq_true rfl) (Nat.le_of_ble_eq_true rfl) (Nat.le_of_ble_eq_true rfl) (Nat.zero_le _) (Nat.zero_le _) hf sne (fun t e => ctX6_home hx h c1 c2 t e) (fun t2 hf => ?_)
      refine PW.iload cx qL_isFound_24 rfl ?_
      refine PW.iadd cx qL_isFound_26 ?_
      refine PW.aload_n cx qL_isFound_27 rfl ?_
      refine PW.iload_n cx qL_isFound_28 rfl ?_
      refine PW.callVRI (As := [.int c2]) (st := [.int (t2 + v4), .int c2, .ref (gB g + 0)]) cx hR qL_isFound_29 klL_85 mvX6_bedCount (sh_0 hx) rfl rfl rfl rfl (Nat.le_of_ble_eq_true rfl) (Nat.le_of_ble_eq_true rfl) (Nat.le_of_ble_eq_true rfl) (Nat.zero_le _) (Nat.zero_le _) hf sne (fun t e => ctX6_bedCount hx h c2 t e) (fun t3 hf => ?_)
      refine PW.irem cx qL_isFound_32 hf sne (fun t4 hf => ?_)
      refine PW.callVRI (As := [.int c2, .int t4]) (st := []) cx hR qL_isFound_33 klL_88 mvX6_bed (sh_0 hx) rfl rfl rfl rfl (Nat.le_of_ble_eq_true rfl) (Nat.le_of_ble_eq_true rfl) (Nat.le_of_ble_eq_true rfl) (Nat.zero_le _) (Nat.zero_le _) hf sne (fun t e => ctX6_bed hx h c2 t4 t e) (fun t5 hf => ?_)
      refine PW.istore (L' := [some (.ref (gB g + 0)), some (.int c1), some (.int c2), some (.int c3), some (.int v4), some (.int t5)]) cx qL_isFound_36 hi5 rfl rfl ?_
      refine PW.iload cx qL_isFound_38 rfl ?_
      refine PW.iconst (v := (-1)) cx qL_isFound_40 rfl ?_
      refine PW.icmp_eq cx qL_isFound_41 hf (fun hf => ?_) (fun hf => ?_)
      · refine PW.iconst (v := 0) cx qL_isFound_58 rfl ?_
        exact PW.zret cx hrt nb0 qL_isFound_59 (kr _ (Option.some.inj hf).symm)
      · refine PW.iload cx qL_isFound_44 rfl ?_
        refine PW.iload_n cx qL_isFound_46 rfl ?_
        obtain ⟨j60, ej60, hf⟩ := lt_split hf
        have hj60 : ∀ (u_60 : Unit), j60 u_60 = some r → PW g X ex (QE g X ex post 0 0) 0 0 sh h 60 [some (.ref (gB g + 0)), some (.int c1), some (.int c2), some (.int c3), some (.int v4), some (.int t5)] [] := by
          intro u_60 hf
          rw [ej60] at hf
          refine PW.iload cx qL_isFound_60 rfl ?_
          refine PW.iload_n cx qL_isFound_62 rfl ?_
          refine PW.iconst (v := 1) cx qL_isFound_63 rfl ?_
          refine PW.isub cx qL_isFound_64 ?_
          refine PW.icmp_ne cx qL_isFound_65 hf (fun hf => ?_) (fun hf => ?_)
          · refine PW.iload cx qL_isFound_68 rfl ?_
            refine PW.iload_n cx qL_isFound_70 rfl ?_
            refine PW.icmp_eq cx qL_isFound_71 hf (fun hf => ?_) (fun hf => ?_)
            · refine PW.iinc (v := 1) (L' := [some (.ref (gB g + 0)), some (.int c1), some (.int c2), some (.int c3), some (.int (v4 + 1)), some (.int t5)]) cx qL_isFound_76 rfl rfl hi4 rfl rfl ?_
              refine PW.goto cx qL_isFound_79 ?_
              exact PW.locs (Lsub.keep (Lsub.keep (Lsub.keep (Lsub.keep (Lsub.keep (Lsub.drop Lsub.nil)))))) (ih (v4 + 1) _ hf kx kr)
            · refine PW.iconst (v := 0) cx qL_isFound_74 rfl ?_
              exact PW.zret cx hrt nb0 qL_isFound_75 (kr _ (Option.some.inj hf).symm)
          · refine PW.iinc (v := 1) (L' := [some (.ref (gB g + 0)), some (.int c1), some (.int c2), some (.int c3), some (.int (v4 + 1)), some (.int t5)]) cx qL_isFound_76 rfl rfl hi4 rfl rfl ?_
            refine PW.goto cx qL_isFound_79 ?_
            exact PW.locs (Lsub.keep (Lsub.keep (Lsub.keep (Lsub.keep (Lsub.keep (Lsub.drop Lsub.nil)))))) (ih (v4 + 1) _ hf kx kr)
        refine PW.icmp_ne cx qL_isFound_47 hf (fun hf => ?_) (fun hf => ?_)
        · refine PW.iload cx qL_isFound_50 rfl ?_
          refine PW.iload_n cx qL_isFound_52 rfl ?_
          refine PW.iconst (v := 1) cx qL_isFound_53 rfl ?_
          refine PW.isub cx qL_isFound_54 ?_
          refine PW.icmp_eq cx qL_isFound_55 hf (fun hf => ?_) (fun hf => ?_)
          · exact PW.locs (Lsub.keep (Lsub.keep (Lsub.keep (Lsub.keep (Lsub.keep (Lsub.keep Lsub.nil)))))) (hj60 () hf)
          · refine PW.iconst (v := 0) cx qL_isFound_58 rfl ?_
            exact PW.zret cx hrt nb0 qL_isFound_59 (kr _ (Option.some.inj hf).symm)
        · exact PW.locs (Lsub.keep (Lsub.keep (Lsub.keep (Lsub.keep (Lsub.keep (Lsub.keep Lsub.nil)))))) (hj60 () hf)
set_option maxRecDepth 20000 in
theorem ctL_isFound {g : GT} {ex : Bool} {sh : List Shp} (hx : XSh sh) (h : Hp) (p2 : Int32) (p3 : Int32) (r0 : Bool) (hf : L_isFound h p2 p3 = some r0) : Ct g mL_isFound 4 0 0 ex [.ref (gB g + 0), .int p2, .int p3] sh h (PE (some (.int (b2i r0))) sh h) := by
  refine Ct.of (L := [some (.ref (gB g + 0)), some (.int p2), some (.int p3), none, none, none]) (by decide) (by intro w hw; simp only [List.mem_cons, List.not_mem_nil, or_false] at hw; rcases hw with rfl | rfl | rfl <;> rfl) (Nat.le_of_ble_eq_true rfl) rfl (fun X mx => ?_)
  have mx0 := mx
  obtain ⟨cx, hR, hml, hrt, -⟩ := mx0
  have cx : Cx g X RL cL_isFound := cx
  have hrt : X.2.2.2.2.2.2.2.1.sig.returnType = (some .boolean) := hrt
  have hi3 : 3 < X.2.2.2.2.2.2.2.2.maxLocals := by rw [hml]; exact Nat.le_of_ble_eq_true rfl
  have hi4 : 4 < X.2.2.2.2.2.2.2.2.maxLocals := by rw [hml]; exact Nat.le_of_ble_eq_true rfl
  have hi5 : 5 < X.2.2.2.2.2.2.2.2.maxLocals := by rw [hml]; exact Nat.le_of_ble_eq_true rfl
  unfold L_isFound at hf
  refine PW.aload_n cx qL_isFound_0 rfl ?_
  refine PW.iload_n cx qL_isFound_1 rfl ?_
  refine PW.iload_n cx qL_isFound_2 rfl ?_
  refine PW.callVRI (As := [.int p2, .int p3]) (st := []) cx hR qL_isFound_3 klL_110 mvX6_looksFor (sh_0 hx) rfl rfl rfl rfl (Nat.le_of_ble_eq_true rfl) (Nat.le_of_ble_eq_true rfl) (Nat.le_of_ble_eq_true rfl) (Nat.zero_le _) (Nat.zero_le _) hf sne (fun t e => ctX6_looksFor hx h p2 p3 t e) (fun t1 hf => ?_)
  refine PW.istore_n (L' := [some (.ref (gB g + 0)), some (.int p2), some (.int p3), some (.int t1), none, none]) cx qL_isFound_6 hi3 rfl rfl ?_
  refine PW.iconst (v := 0) cx qL_isFound_7 rfl ?_
  refine PW.istore (L' := [some (.ref (gB g + 0)), some (.int p2), some (.int p3), some (.int t1), some (.int 0), none]) cx qL_isFound_8 hi4 rfl rfl ?_
  obtain ⟨r6, er6, hf⟩ := bndO hf sne
  refine PW.locs (Lsub.keep (Lsub.keep (Lsub.keep (Lsub.keep (Lsub.keep (Lsub.drop Lsub.nil)))))) (lL_isFound_10 mx hx h p2 p3 t1 FU 0 r6 er6 (fun e => ?_) (fun y e => ?_))
  · subst e
    refine PW.iload_n cx qL_isFound_82 rfl ?_
    refine PW.iconst (v := 1) cx qL_isFound_83 rfl ?_
    refine PW.icmp_lt cx qL_isFound_84 hf (fun hf => ?_) (fun hf => ?_)
    · refine PW.iconst (v := 0) cx qL_isFound_109 rfl ?_
      exact PW.zret cx hrt nb0 qL_isFound_110 (le_rz hf)
    · refine PW.iload_n cx qL_isFound_87 rfl ?_
      refine PW.aload_n cx qL_isFound_88 rfl ?_
      refine PW.iload_n cx qL_isFound_89 rfl ?_
      refine PW.callVRI (As := [.int p3]) (st := [.int t1]) cx hR qL_isFound_90 klL_85 mvX6_bedCount (sh_0 hx) rfl rfl rfl rfl (Nat.le_of_ble_eq_true rfl) (Nat.le_of_ble_eq_true rfl) (Nat.le_of_ble_eq_true rfl) (Nat.zero_le _) (Nat.zero_le _) hf sne (fun t e => ctX6_bedCount hx h p3 t e) (fun t7 hf => ?_)
      refine PW.icmp_gt cx qL_isFound_93 hf (fun hf => ?_) (fun hf => ?_)
      · refine PW.iconst (v := 0) cx qL_isFound_109 rfl ?_
        exact PW.zret cx hrt nb0 qL_isFound_110 (le_rz hf)
      · refine PW.iload_n cx qL_isFound_96 rfl ?_
        refine PW.aload_n cx qL_isFound_97 rfl ?_
        refine PW.iload_n cx qL_isFound_98 rfl ?_
        refine PW.callVRI (As := [.int p3]) (st := [.int t1]) cx hR qL_isFound_99 klL_116 mvX6_longestLook (sh_0 hx) rfl rfl rfl rfl (Nat.le_of_ble_eq_true rfl) (Nat.le_of_ble_eq_true rfl) (Nat.le_of_ble_eq_true rfl) (Nat.zero_le _) (Nat.zero_le _) hf sne (fun t e => ctX6_longestLook hx h p3 t e) (fun t8 hf => ?_)
        refine PW.icmp_gt cx qL_isFound_102 hf (fun hf => ?_) (fun hf => ?_)
        · refine PW.iconst (v := 0) cx qL_isFound_109 rfl ?_
          exact PW.zret cx hrt nb0 qL_isFound_110 (le_rz hf)
        · refine PW.iconst (v := 1) cx qL_isFound_105 rfl ?_
          refine PW.goto cx qL_isFound_106 ?_
          exact PW.zret cx hrt nb1 qL_isFound_110 (le_rz hf)
  · subst e
    exact (le_rz hf)
set_option maxRecDepth 20000 in
theorem lL_holds_79 {g : GT} {X : XT} {ex : Bool} {post : Option Value → List Shp → Hp → Prop} {sh : List Shp} (mx : Mx g X mL_holds 5 0 0) (hx : XSh sh) (h : Hp) (c4 : Int32) (c6 : Int32) (d1 : Int32) (d2 : Int32) (d3 : Int32) : ∀ (n : Nat) (v5 : Int32) (v7 : Int32) (r : (Int32) ⊕ (Bool)) (hf : L_holds_L79 h c4 c6 n v5 v7 = some r) (kx : ∀ (x5 : Int32), r = .inl x5 → PW g X ex (QE g X ex post 0 0) 0 0 sh h 136 [some (.ref (gB g + 0)), some (.int d1), some (.int d2), some (.int d3), some (.int c4), some (.int x5), some (.int c6), none] []) (kr : ∀ y : Bool, r = .inr y → post (some (.int (b2i y))) sh h), PW g X ex (QE g X ex post 0 0) 0 0 sh h 79 [some (.ref (gB g + 0)), some (.int d1), some (.int d2), some (.int d3), some (.int c4), some (.int v5), some (.int c6), some (.int v7)] [] := by
  have mx0 := mx
  obtain ⟨cx, hR, hml, hrt, -⟩ := mx0
  have cx : Cx g X RL cL_holds := cx
  have hrt : X.2.2.2.2.2.2.2.1.sig.returnType = (some .boolean) := hrt
  have hi1 : 1 < X.2.2.2.2.2.2.2.2.maxLocals := by rw [hml]; exact Nat.le_of_ble_eq_true rfl
  have hi2 : 2 < X.2.2.2.2.2.2.2.2.maxLocals := by rw [hml]; exact Nat.le_of_ble_eq_true rfl
  have hi3 : 3 < X.2.2.2.2.2.2.2.2.maxLocals := by rw [hml]; exact Nat.le_of_ble_eq_true rfl
  have hi4 : 4 < X.2.2.2.2.2.2.2.2.maxLocals := by rw [hml]; exact Nat.le_of_ble_eq_true rfl
  have hi5 : 5 < X.2.2.2.2.2.2.2.2.maxLocals := by rw [hml]; exact Nat.le_of_ble_eq_true rfl
  have hi6 : 6 < X.2.2.2.2.2.2.2.2.maxLocals := by rw [hml]; exact Nat.le_of_ble_eq_true rfl
  have hi7 : 7 < X.2.2.2.2.2.2.2.2.maxLocals := by rw [hml]; exact Nat.le_of_ble_eq_true rfl
  intro n
  induction n with
  | zero =>
    intro v5 v7 r hf kx kr
    cases hf
  | succ n ih =>
    intro v5 v7 r hf kx kr
    unfold L_holds_L79 at hf
    refine PW.iload cx qL_holds_79 rfl ?_
    refine PW.aload_n cx qL_holds_81 rfl ?_
    refine PW.iload cx qL_holds_82 rfl ?_
    refine PW.callVRI (As := [.int c6]) (st := [.int v7]) cx hR qL_holds_84 klL_85 mvX6_bedCount (sh_0 hx) rfl rfl rfl rfl (Nat.le_of_ble_eq_true rfl) (Nat.le_of_ble_eq_true rfl) (Nat.le_of_ble_eq_true rfl) (Nat.zero_le _) (Nat.zero_le _) hf sne (fun t e => ctX6_bedCount hx h c6 t e) (fun t8 hf => ?_)
    refine PW.icmp_ge cx qL_holds_87 hf (fun hf => ?_) (fun hf => ?_)
    · exact PW.locs (Lsub.keep (Lsub.keep (Lsub.keep (Lsub.keep (Lsub.keep (Lsub.keep (Lsub.keep (Lsub.drop Lsub.nil)))))))) (kx v5 (Option.some.inj hf).symm)
    · refine PW.aload_n cx qL_holds_90 rfl ?_
      refine PW.iload cx qL_holds_91 rfl ?_
      refine PW.iload cx qL_holds_93 rfl ?_
      refine PW.callVRI (As := [.int c6, .int v7]) (st := []) cx hR qL_holds_95 klL_88 mvX6_bed (sh_0 hx) rfl rfl rfl rfl (Nat.le_of_ble_eq_true rfl) (Nat.le_of_ble_eq_true rfl) (Nat.le_of_ble_eq_true rfl) (Nat.zero_le _) (Nat.zero_le _) hf sne (fun t e => ctX6_bed hx h c6 v7 t e) (fun t9 hf => ?_)
      refine PW.iload cx qL_holds_98 rfl ?_
      refine PW.icmp_ne cx qL_holds_100 hf (fun hf => ?_) (fun hf => ?_)
      · refine PW.iinc (v := 1) (L' := [some (.ref (gB g + 0)), some (.int d1), some (.int d2), some (.int d3), some (.int c4), some (.int (v5 + 1)), some (.int c6), some (.int v7)]) cx qL_holds_103 rfl rfl hi5 rfl rfl ?_
        refine PW.aload_n cx qL_holds_106 rfl ?_
        refine PW.iload cx qL_holds_107 rfl ?_
        refine PW.callVRI (As := [.int c4]) (st := []) cx hR qL_holds_109 klL_91 mvX6_reelOf (sh_0 hx) rfl rfl rfl rfl (Nat.le_of_ble_eq_true rfl) (Nat.le_of_ble_eq_true rfl) (Nat.le_of_ble_eq_true rfl) (Nat.zero_le _) (Nat.zero_le _) hf sne (fun t e => ctX6_reelOf hx h c4 t e) (fun t10 hf => ?_)
        refine PW.iload cx qL_holds_112 rfl ?_
        refine PW.icmp_ne cx qL_holds_114 hf (fun hf => ?_) (fun hf => ?_)
        · refine PW.aload_n cx qL_holds_117 rfl ?_
          refine PW.iload cx qL_holds_118 rfl ?_
          refine PW.callVRI (As := [.int c4]) (st := []) cx hR qL_holds_120 klL_94 mvX6_bedOf (sh_0 hx) rfl rfl rfl rfl (Nat.le_of_ble_eq_true rfl) (Nat.le_of_ble_eq_true rfl) (Nat.le_of_ble_eq_true rfl) (Nat.zero_le _) (Nat.zero_le _) hf sne (fun t e => ctX6_bedOf hx h c4 t e) (fun t11 hf => ?_)
          refine PW.iload cx qL_holds_123 rfl ?_
          refine PW.icmp_eq cx qL_holds_125 hf (fun hf => ?_) (fun hf => ?_)
          · refine PW.iinc (v := 1) (L' := [some (.ref (gB g + 0)), some (.int d1), some (.int d2), some (.int d3), some (.int c4), some (.int (v5 + 1)), some (.int c6), some (.int (v7 + 1))]) cx qL_holds_130 rfl rfl hi7 rfl rfl ?_
            refine PW.goto cx qL_holds_133 ?_
            exact PW.locs (Lsub.keep (Lsub.keep (Lsub.keep (Lsub.keep (Lsub.keep (Lsub.keep (Lsub.keep (Lsub.keep Lsub.nil)))))))) (ih (v5 + 1) (v7 + 1) _ hf kx kr)
          · refine PW.iconst (v := 0) cx qL_holds_128 rfl ?_
            exact PW.zret cx hrt nb0 qL_holds_129 (kr _ (Option.some.inj hf).symm)
        · refine PW.iconst (v := 0) cx qL_holds_128 rfl ?_
          exact PW.zret cx hrt nb0 qL_holds_129 (kr _ (Option.some.inj hf).symm)
      · refine PW.iinc (v := 1) (L' := [some (.ref (gB g + 0)), some (.int d1), some (.int d2), some (.int d3), some (.int c4), some (.int v5), some (.int c6), some (.int (v7 + 1))]) cx qL_holds_130 rfl rfl hi7 rfl rfl ?_
        refine PW.goto cx qL_holds_133 ?_
        exact PW.locs (Lsub.keep (Lsub.keep (Lsub.keep (Lsub.keep (Lsub.keep (Lsub.keep (Lsub.keep (Lsub.keep Lsub.nil)))))))) (ih v5 (v7 + 1) _ hf kx kr)
set_option maxRecDepth 20000 in
theorem lL_holds_67 {g : GT} {X : XT} {ex : Bool} {post : Option Value → List Shp → Hp → Prop} {sh : List Shp} (mx : Mx g X mL_holds 5 0 0) (hx : XSh sh) (h : Hp) (c4 : Int32) (d1 : Int32) (d2 : Int32) (d3 : Int32) : ∀ (n : Nat) (v5 : Int32) (v6 : Int32) (r : (Int32) ⊕ (Bool)) (hf : L_holds_L67 h c4 n v5 v6 = some r) (kx : ∀ (x5 : Int32), r = .inl x5 → PW g X ex (QE g X ex post 0 0) 0 0 sh h 142 [some (.ref (gB g + 0)), some (.int d1), some (.int d2), some (.int d3), some (.int c4), some (.int x5), none, none] []) (kr : ∀ y : Bool, r = .inr y → post (some (.int (b2i y))) sh h), PW g X ex (QE g X ex post 0 0) 0 0 sh h 67 [some (.ref (gB g + 0)), some (.int d1), some (.int d2), some (.int d3), some (.int c4), some (.int v5), some (.int v6), none] [] := by
  have mx0 := mx
  obtain ⟨cx, hR, hml, hrt, -⟩ := mx0
  have cx : Cx g X RL cL_holds := cx
  have hrt : X.2.2.2.2.2.2.2.1.sig.returnType = (some .boolean) := hrt
  have hi1 : 1 < X.2.2.2.2.2.2.2.2.maxLocals := by rw [hml]; exact Nat.le_of_ble_eq_true rfl
  have hi2 : 2 < X.2.2.2.2.2.2.2.2.maxLocals := by rw [hml]; exact Nat.le_of_ble_eq_true rfl
  have hi3 : 3 < X.2.2.2.2.2.2.2.2.maxLocals := by rw [hml]; exact Nat.le_of_ble_eq_true rfl
  have hi4 : 4 < X.2.2.2.2.2.2.2.2.maxLocals := by rw [hml]; exact Nat.le_of_ble_eq_true rfl
  have hi5 : 5 < X.2.2.2.2.2.2.2.2.maxLocals := by rw [hml]; exact Nat.le_of_ble_eq_true rfl
  have hi6 : 6 < X.2.2.2.2.2.2.2.2.maxLocals := by rw [hml]; exact Nat.le_of_ble_eq_true rfl
  have hi7 : 7 < X.2.2.2.2.2.2.2.2.maxLocals := by rw [hml]; exact Nat.le_of_ble_eq_true rfl
  intro n
  induction n with
  | zero =>
    intro v5 v6 r hf kx kr
    cases hf
  | succ n ih =>
    intro v5 v6 r hf kx kr
    unfold L_holds_L67 at hf
    refine PW.iload cx qL_holds_67 rfl ?_
    refine PW.aload_n cx qL_holds_69 rfl ?_
    refine PW.callVRI (As := []) (st := [.int v6]) cx hR qL_holds_70 klL_13 mvX6_reelCount (sh_0 hx) rfl rfl rfl rfl (Nat.le_of_ble_eq_true rfl) (Nat.le_of_ble_eq_true rfl) (Nat.le_of_ble_eq_true rfl) (Nat.zero_le _) (Nat.zero_le _) hf sne (fun t e => ctX6_reelCount hx h t e) (fun t7 hf => ?_)
    refine PW.icmp_ge cx qL_holds_73 hf (fun hf => ?_) (fun hf => ?_)
    · exact PW.locs (Lsub.keep (Lsub.keep (Lsub.keep (Lsub.keep (Lsub.keep (Lsub.keep (Lsub.drop (Lsub.drop Lsub.nil)))))))) (kx v5 (Option.some.inj hf).symm)
    · refine PW.iconst (v := 0) cx qL_holds_76 rfl ?_
      refine PW.istore (L' := [some (.ref (gB g + 0)), some (.int d1), some (.int d2), some (.int d3), some (.int c4), some (.int v5), some (.int v6), some (.int 0)]) cx qL_holds_77 hi7 rfl rfl ?_
      obtain ⟨r12, er12, hf⟩ := bndO hf sne
      refine PW.locs (Lsub.keep (Lsub.keep (Lsub.keep (Lsub.keep (Lsub.keep (Lsub.keep (Lsub.keep (Lsub.keep Lsub.nil)))))))) (lL_holds_79 mx hx h c4 v6 d1 d2 d3 FU v5 0 r12 er12 (fun x5_13 e => ?_) (fun y e => ?_))
      · subst e
        refine PW.iinc (v := 1) (L' := [some (.ref (gB g + 0)), some (.int d1), some (.int d2), some (.int d3), some (.int c4), some (.int x5_13), some (.int (v6 + 1)), none]) cx qL_holds_136 rfl rfl hi6 rfl rfl ?_
        refine PW.goto cx qL_holds_139 ?_
        exact PW.locs (Lsub.keep (Lsub.keep (Lsub.keep (Lsub.keep (Lsub.keep (Lsub.keep (Lsub.keep (Lsub.drop Lsub.nil)))))))) (ih x5_13 (v6 + 1) _ hf kx kr)
      · subst e
        exact (kr _ (Option.some.inj hf).symm)
set_option maxRecDepth 20000 in
theorem lL_holds_52 {g : GT} {X : XT} {ex : Bool} {post : Option Value → List Shp → Hp → Prop} {sh : List Shp} (mx : Mx g X mL_holds 5 0 0) (hx : XSh sh) (h : Hp) (d2 : Int32) : ∀ (n : Nat) (v1 : Int32) (v3 : Int32) (v4 : Int32) (r : (Int32 × Int32) ⊕ (Bool)) (hf : L_holds_L52 h n v1 v3 v4 = some r) (kx : ∀ (x1 : Int32) (x3 : Int32), r = .inl (x1, x3) → PW g X ex (QE g X ex post 0 0) 0 0 sh h 326 [some (.ref (gB g + 0)), some (.int x1), some (.int d2), some (.int x3), none, none, none, none] []) (kr : ∀ y : Bool, r = .inr y → post (some (.int (b2i y))) sh h), PW g X ex (QE g X ex post 0 0) 0 0 sh h 52 [some (.ref (gB g + 0)), some (.int v1), some (.int d2), some (.int v3), some (.int v4), none, none, none] [] := by
  have mx0 := mx
  obtain ⟨cx, hR, hml, hrt, -⟩ := mx0
  have cx : Cx g X RL cL_holds := cx
  have hrt : X.2.2.2.2.2.2.2.1.sig.returnType = (some .boolean) := hrt
  have hi1 : 1 < X.2.2.2.2.2.2.2.2.maxLocals := by rw [hml]; exact Nat.le_of_ble_eq_true rfl
  have hi2 : 2 < X.2.2.2.2.2.2.2.2.maxLocals := by rw [hml]; exact Nat.le_of_ble_eq_true rfl
  have hi3 : 3 < X.2.2.2.2.2.2.2.2.maxLocals := by rw [hml]; exact Nat.le_of_ble_eq_true rfl
  have hi4 : 4 < X.2.2.2.2.2.2.2.2.maxLocals := by rw [hml]; exact Nat.le_of_ble_eq_true rfl
  have hi5 : 5 < X.2.2.2.2.2.2.2.2.maxLocals := by rw [hml]; exact Nat.le_of_ble_eq_true rfl
  have hi6 : 6 < X.2.2.2.2.2.2.2.2.maxLocals := by rw [hml]; exact Nat.le_of_ble_eq_true rfl
  have hi7 : 7 < X.2.2.2.2.2.2.2.2.maxLocals := by rw [hml]; exact Nat.le_of_ble_eq_true rfl
  intro n
  induction n with
  | zero =>
    intro v1 v3 v4 r hf kx kr
    cases hf
  | succ n ih =>
    intro v1 v3 v4 r hf kx kr
    unfold L_holds_L52 at hf
    refine PW.iload cx qL_holds_52 rfl ?_
    refine PW.aload_n cx qL_holds_54 rfl ?_
    refine PW.callVRI (As := []) (st := [.int v4]) cx hR qL_holds_55 klL_7 mvX6_clipCount (sh_0 hx) rfl rfl rfl rfl (Nat.le_of_ble_eq_true rfl) (Nat.le_of_ble_eq_true rfl) (Nat.le_of_ble_eq_true rfl) (Nat.zero_le _) (Nat.zero_le _) hf sne (fun t e => ctX6_clipCount hx h t e) (fun t6 hf => ?_)
    refine PW.icmp_ge cx qL_holds_58 hf (fun hf => ?_) (fun hf => ?_)
    · exact PW.locs (Lsub.keep (Lsub.keep (Lsub.keep (Lsub.keep (Lsub.drop (Lsub.drop (Lsub.drop (Lsub.drop Lsub.nil)))))))) (kx v1 v3 (Option.some.inj hf).symm)
    · refine PW.iconst (v := 0) cx qL_holds_61 rfl ?_
      refine PW.istore (L' := [some (.ref (gB g + 0)), some (.int v1), some (.int d2), some (.int v3), some (.int v4), some (.int 0), none, none]) cx qL_holds_62 hi5 rfl rfl ?_
      refine PW.iconst (v := 0) cx qL_holds_64 rfl ?_
      refine PW.istore (L' := [some (.ref (gB g + 0)), some (.int v1), some (.int d2), some (.int v3), some (.int v4), some (.int 0), some (.int 0), none]) cx qL_holds_65 hi6 rfl rfl ?_
      obtain ⟨r14, er14, hf⟩ := bndO hf sne
      refine PW.locs (Lsub.keep (Lsub.keep (Lsub.keep (Lsub.keep (Lsub.keep (Lsub.keep (Lsub.keep (Lsub.drop Lsub.nil)))))))) (lL_holds_67 mx hx h v4 v1 d2 v3 FU 0 0 r14 er14 (fun x5_15 e => ?_) (fun y e => ?_))
      · subst e
        refine PW.iload cx qL_holds_142 rfl ?_
        refine PW.aload_n cx qL_holds_144 rfl ?_
        refine PW.iload cx qL_holds_145 rfl ?_
        refine PW.callVRI (As := [.int v4]) (st := [.int x5_15]) cx hR qL_holds_147 klL_31 mvX6_state (sh_0 hx) rfl rfl rfl rfl (Nat.le_of_ble_eq_true rfl) (Nat.le_of_ble_eq_true rfl) (Nat.le_of_ble_eq_true rfl) (Nat.zero_le _) (Nat.zero_le _) hf sne (fun t e => ctX6_state hx h v4 t e) (fun t16 hf => ?_)
        refine PW.iconst (v := 1) cx qL_holds_150 rfl ?_
        obtain ⟨j159, ej159, hf⟩ := lt_split hf
        have hj159 : ∀ (z0_159 : Bool), j159 z0_159 = some r → PW g X ex (QE g X ex post 0 0) 0 0 sh h 159 [some (.ref (gB g + 0)), some (.int v1), some (.int d2), some (.int v3), some (.int v4), some (.int x5_15), none, none] [.int (b2i z0_159), .int x5_15] := by
          intro z0_159 hf
          rw [ej159] at hf
          refine PW.icmp_ne cx qL_holds_159 hf (fun hf => ?_) (fun hf => ?_)
          · refine PW.aload_n cx qL_holds_162 rfl ?_
            refine PW.iload cx qL_holds_163 rfl ?_
            refine PW.callVRI (As := [.int v4]) (st := []) cx hR qL_holds_165 klL_31 mvX6_state (sh_0 hx) rfl rfl rfl rfl (Nat.le_of_ble_eq_true rfl) (Nat.le_of_ble_eq_true rfl) (Nat.le_of_ble_eq_true rfl) (Nat.zero_le _) (Nat.zero_le _) hf sne (fun t e => ctX6_state hx h v4 t e) (fun t17 hf => ?_)
            refine PW.iconst (v := 1) cx qL_holds_168 rfl ?_
            obtain ⟨j194, ej194, hf⟩ := lt_split hf
            have hj194 : ∀ (u_194 : Unit), j194 u_194 = some r → PW g X ex (QE g X ex post 0 0) 0 0 sh h 194 [some (.ref (gB g + 0)), some (.int v1), some (.int d2), some (.int v3), some (.int v4), some (.int x5_15), none, none] [] := by
              intro u_194 hf
              rw [ej194] at hf
              refine PW.aload_n cx qL_holds_194 rfl ?_
              refine PW.iload cx qL_holds_195 rfl ?_
              refine PW.callVRI (As := [.int v4]) (st := []) cx hR qL_holds_197 klL_46 mvX6_fat (sh_0 hx) rfl rfl rfl rfl (Nat.le_of_ble_eq_true rfl) (Nat.le_of_ble_eq_true rfl) (Nat.le_of_ble_eq_true rfl) (Nat.zero_le _) (Nat.zero_le _) hf sne (fun t e => ctX6_fat hx h v4 t e) (fun t18 hf => ?_)
              refine PW.if_lt cx qL_holds_200 hf (fun hf => ?_) (fun hf => ?_)
              · refine PW.iconst (v := 0) cx qL_holds_269 rfl ?_
                exact PW.zret cx hrt nb0 qL_holds_270 (kr _ (Option.some.inj hf).symm)
              · refine PW.aload_n cx qL_holds_203 rfl ?_
                refine PW.iload cx qL_holds_204 rfl ?_
                refine PW.callVRI (As := [.int v4]) (st := []) cx hR qL_holds_206 klL_46 mvX6_fat (sh_0 hx) rfl rfl rfl rfl (Nat.le_of_ble_eq_true rfl) (Nat.le_of_ble_eq_true rfl) (Nat.le_of_ble_eq_true rfl) (Nat.zero_le _) (Nat.zero_le _) hf sne (fun t e => ctX6_fat hx h v4 t e) (fun t19 hf => ?_)
                refine PW.bipush (v := 99) cx qL_holds_209 rfl ?_
                refine PW.icmp_gt cx qL_holds_211 hf (fun hf => ?_) (fun hf => ?_)
                · refine PW.iconst (v := 0) cx qL_holds_269 rfl ?_
                  exact PW.zret cx hrt nb0 qL_holds_270 (kr _ (Option.some.inj hf).symm)
                · refine PW.aload_n cx qL_holds_214 rfl ?_
                  refine PW.iload cx qL_holds_215 rfl ?_
                  refine PW.callVRI (As := [.int v4]) (st := []) cx hR qL_holds_217 klL_46 mvX6_fat (sh_0 hx) rfl rfl rfl rfl (Nat.le_of_ble_eq_true rfl) (Nat.le_of_ble_eq_true rfl) (Nat.le_of_ble_eq_true rfl) (Nat.zero_le _) (Nat.zero_le _) hf sne (fun t e => ctX6_fat hx h v4 t e) (fun t20 hf => ?_)
                  obtain ⟨j228, ej228, hf⟩ := lt_split hf
                  have hj228 : ∀ (z0_228 : Bool), j228 z0_228 = some r → PW g X ex (QE g X ex post 0 0) 0 0 sh h 228 [some (.ref (gB g + 0)), some (.int v1), some (.int d2), some (.int v3), some (.int v4), some (.int x5_15), none, none] [.int (b2i z0_228)] := by
                    intro z0_228 hf
                    rw [ej228] at hf
                    refine PW.aload_n cx qL_holds_228 rfl ?_
                    refine PW.iload cx qL_holds_229 rfl ?_
                    refine PW.callVRI (As := [.int v4]) (st := [.int (b2i z0_228)]) cx hR qL_holds_231 klL_31 mvX6_state (sh_0 hx) rfl rfl rfl rfl (Nat.le_of_ble_eq_true rfl) (Nat.le_of_ble_eq_true rfl) (Nat.le_of_ble_eq_true rfl) (Nat.zero_le _) (Nat.zero_le _) hf sne (fun t e => ctX6_state hx h v4 t e) (fun t21 hf => ?_)
                    refine PW.iconst (v := 2) cx qL_holds_234 rfl ?_
                    obtain ⟨j243, ej243, hf⟩ := lt_split hf
                    have hj243 : ∀ (z0_243 : Bool), j243 z0_243 = some r → PW g X ex (QE g X ex post 0 0) 0 0 sh h 243 [some (.ref (gB g + 0)), some (.int v1), some (.int d2), some (.int v3), some (.int v4), some (.int x5_15), none, none] [.int (b2i z0_243), .int (b2i z0_228)] := by
                      intro z0_243 hf
                      rw [ej243] at hf
                      refine PW.icmp_ne cx qL_holds_243 hf (fun hf => ?_) (fun hf => ?_)
                      · refine PW.aload_n cx qL_holds_246 rfl ?_
                        refine PW.iload cx qL_holds_247 rfl ?_
                        refine PW.callVRI (As := [.int v4]) (st := []) cx hR qL_holds_249 klL_97 mvX6_sceneOf (sh_0 hx) rfl rfl rfl rfl (Nat.le_of_ble_eq_true rfl) (Nat.le_of_ble_eq_true rfl) (Nat.le_of_ble_eq_true rfl) (Nat.zero_le _) (Nat.zero_le _) hf sne (fun t e => ctX6_sceneOf hx h v4 t e) (fun t22 hf => ?_)
                        refine PW.iconst (v := (-1)) cx qL_holds_252 rfl ?_
                        refine PW.icmp_lt cx qL_holds_253 hf (fun hf => ?_) (fun hf => ?_)
                        · refine PW.iconst (v := 0) cx qL_holds_269 rfl ?_
                          exact PW.zret cx hrt nb0 qL_holds_270 (kr _ (Option.some.inj hf).symm)
                        · refine PW.aload_n cx qL_holds_256 rfl ?_
                          refine PW.iload cx qL_holds_257 rfl ?_
                          refine PW.callVRI (As := [.int v4]) (st := []) cx hR qL_holds_259 klL_97 mvX6_sceneOf (sh_0 hx) rfl rfl rfl rfl (Nat.le_of_ble_eq_true rfl) (Nat.le_of_ble_eq_true rfl) (Nat.le_of_ble_eq_true rfl) (Nat.zero_le _) (Nat.zero_le _) hf sne (fun t e => ctX6_sceneOf hx h v4 t e) (fun t23 hf => ?_)
                          refine PW.aload_n cx qL_holds_262 rfl ?_
                          refine PW.callVRI (As := []) (st := [.int t23]) cx hR qL_holds_263 klL_16 mvX6_sceneCount (sh_0 hx) rfl rfl rfl rfl (Nat.le_of_ble_eq_true rfl) (Nat.le_of_ble_eq_true rfl) (Nat.le_of_ble_eq_true rfl) (Nat.zero_le _) (Nat.zero_le _) hf sne (fun t e => ctX6_sceneCount hx h t e) (fun t24 hf => ?_)
                          refine PW.icmp_lt cx qL_holds_266 hf (fun hf => ?_) (fun hf => ?_)
                          · refine PW.iload_n cx qL_holds_271 rfl ?_
                            refine PW.iload cx qL_holds_272 rfl ?_
                            refine PW.iadd cx qL_holds_274 ?_
                            refine PW.istore_n (L' := [some (.ref (gB g + 0)), some (.int (v1 + x5_15)), some (.int d2), some (.int v3), some (.int v4), some (.int x5_15), none, none]) cx qL_holds_275 hi1 rfl rfl ?_
                            refine PW.iload_n cx qL_holds_276 rfl ?_
                            refine PW.aload_n cx qL_holds_277 rfl ?_
                            refine PW.iload cx qL_holds_278 rfl ?_
                            refine PW.callVRI (As := [.int v4]) (st := [.int v3]) cx hR qL_holds_280 klL_31 mvX6_state (sh_0 hx) rfl rfl rfl rfl (Nat.le_of_ble_eq_true rfl) (Nat.le_of_ble_eq_true rfl) (Nat.le_of_ble_eq_true rfl) (Nat.zero_le _) (Nat.zero_le _) hf sne (fun t e => ctX6_state hx h v4 t e) (fun t25 hf => ?_)
                            refine PW.iconst (v := 2) cx qL_holds_283 rfl ?_
                            obtain ⟨j295, ej295, hf⟩ := lt_split hf
                            have hj295 : ∀ (z0_295 : Int32), j295 z0_295 = some r → PW g X ex (QE g X ex post 0 0) 0 0 sh h 295 [some (.ref (gB g + 0)), some (.int (v1 + x5_15)), some (.int d2), none, some (.int v4), some (.int x5_15), none, none] [.int z0_295, .int v3] := by
                              intro z0_295 hf
                              rw [ej295] at hf
                              refine PW.ior cx qL_holds_295 ?_
                              refine PW.istore_n (L' := [some (.ref (gB g + 0)), some (.int (v1 + x5_15)), some (.int d2), some (.int (v3 ||| z0_295)), some (.int v4), some (.int x5_15), none, none]) cx qL_holds_296 hi3 rfl rfl ?_
                              refine PW.iload cx qL_holds_297 rfl ?_
                              refine PW.iconst (v := 1) cx qL_holds_299 rfl ?_
                              refine PW.icmp_ne cx qL_holds_300 hf (fun hf => ?_) (fun hf => ?_)
                              · refine PW.aload_n cx qL_holds_303 rfl ?_
                                refine PW.iload cx qL_holds_304 rfl ?_
                                refine PW.aload_n cx qL_holds_306 rfl ?_
                                refine PW.iload cx qL_holds_307 rfl ?_
                                refine PW.callVRI (As := [.int v4]) (st := [.int v4, .ref (gB g + 0)]) cx hR qL_holds_309 klL_91 mvX6_reelOf (sh_0 hx) rfl rfl rfl rfl (Nat.le_of_ble_eq_true rfl) (Nat.le_of_ble_eq_true rfl) (Nat.le_of_ble_eq_true rfl) (Nat.zero_le _) (Nat.zero_le _) hf sne (fun t e => ctX6_reelOf hx h v4 t e) (fun t26 hf => ?_)
                                refine PW.callSRB (As := [.ref (gB g + 0), .int v4, .int t26]) (st := []) cx hR qL_holds_312 klL_100 miL_isFound rfl rfl (Nat.le_of_ble_eq_true rfl) (Nat.le_of_ble_eq_true rfl) (Nat.le_of_ble_eq_true rfl) (Nat.zero_le _) (Nat.zero_le _) hf sne (fun t e => ctL_isFound hx h v4 t26 t e) (fun t27 hf => ?_)
                                refine PW.if_ne cx qL_holds_315 hf (fun hf => ?_) (fun hf => ?_)
                                · refine PW.iconst (v := 0) cx qL_holds_318 rfl ?_
                                  exact PW.zret cx hrt nb0 qL_holds_319 (kr _ (Option.some.inj hf).symm)
                                · refine PW.iinc (v := 1) (L' := [some (.ref (gB g + 0)), some (.int (v1 + x5_15)), some (.int d2), some (.int (v3 ||| z0_295)), some (.int (v4 + 1)), some (.int x5_15), none, none]) cx qL_holds_320 rfl rfl hi4 rfl rfl ?_
                                  refine PW.goto cx qL_holds_323 ?_
                                  exact PW.locs (Lsub.keep (Lsub.keep (Lsub.keep (Lsub.keep (Lsub.keep (Lsub.drop (Lsub.drop (Lsub.drop Lsub.nil)))))))) (ih (v1 + x5_15) (v3 ||| z0_295) (v4 + 1) _ hf kx kr)
                              · refine PW.iinc (v := 1) (L' := [some (.ref (gB g + 0)), some (.int (v1 + x5_15)), some (.int d2), some (.int (v3 ||| z0_295)), some (.int (v4 + 1)), some (.int x5_15), none, none]) cx qL_holds_320 rfl rfl hi4 rfl rfl ?_
                                refine PW.goto cx qL_holds_323 ?_
                                exact PW.locs (Lsub.keep (Lsub.keep (Lsub.keep (Lsub.keep (Lsub.keep (Lsub.drop (Lsub.drop (Lsub.drop Lsub.nil)))))))) (ih (v1 + x5_15) (v3 ||| z0_295) (v4 + 1) _ hf kx kr)
                            refine PW.icmp_ne cx qL_holds_284 hf (fun hf => ?_) (fun hf => ?_)
                            · refine PW.iconst (v := 1) cx qL_holds_287 rfl ?_
                              refine PW.iload cx qL_holds_288 rfl ?_
                              refine PW.ishl cx qL_holds_290 ?_
                              refine PW.goto cx qL_holds_291 ?_
                              exact PW.locs (Lsub.keep (Lsub.keep (Lsub.keep (Lsub.drop (Lsub.keep (Lsub.keep (Lsub.drop (Lsub.drop Lsub.nil)))))))) (hj295 (1 <<< (v4 &&& 31)) hf)
                            · refine PW.iconst (v := 0) cx qL_holds_294 rfl ?_
                              exact PW.locs (Lsub.keep (Lsub.keep (Lsub.keep (Lsub.drop (Lsub.keep (Lsub.keep (Lsub.drop (Lsub.drop Lsub.nil)))))))) (hj295 0 hf)
                          · refine PW.iconst (v := 0) cx qL_holds_269 rfl ?_
                            exact PW.zret cx hrt nb0 qL_holds_270 (kr _ (Option.some.inj hf).symm)
                      · refine PW.iconst (v := 0) cx qL_holds_269 rfl ?_
                        exact PW.zret cx hrt nb0 qL_holds_270 (kr _ (Option.some.inj hf).symm)
                    refine PW.icmp_ne cx qL_holds_235 hf (fun hf => ?_) (fun hf => ?_)
                    · refine PW.iconst (v := 1) cx qL_holds_238 rfl ?_
                      refine PW.goto cx qL_holds_239 ?_
                      exact PW.locs (Lsub.keep (Lsub.keep (Lsub.keep (Lsub.keep (Lsub.keep (Lsub.keep (Lsub.drop (Lsub.drop Lsub.nil)))))))) (hj243 true hf)
                    · refine PW.iconst (v := 0) cx qL_holds_242 rfl ?_
                      exact PW.locs (Lsub.keep (Lsub.keep (Lsub.keep (Lsub.keep (Lsub.keep (Lsub.keep (Lsub.drop (Lsub.drop Lsub.nil)))))))) (hj243 false hf)
                  refine PW.if_ne cx qL_holds_220 hf (fun hf => ?_) (fun hf => ?_)
                  · refine PW.iconst (v := 1) cx qL_holds_223 rfl ?_
                    refine PW.goto cx qL_holds_224 ?_
                    exact PW.locs (Lsub.keep (Lsub.keep (Lsub.keep (Lsub.keep (Lsub.keep (Lsub.keep (Lsub.drop (Lsub.drop Lsub.nil)))))))) (hj228 true hf)
                  · refine PW.iconst (v := 0) cx qL_holds_227 rfl ?_
                    exact PW.locs (Lsub.keep (Lsub.keep (Lsub.keep (Lsub.keep (Lsub.keep (Lsub.keep (Lsub.drop (Lsub.drop Lsub.nil)))))))) (hj228 false hf)
            refine PW.icmp_eq cx qL_holds_169 hf (fun hf => ?_) (fun hf => ?_)
            · exact PW.locs (Lsub.keep (Lsub.keep (Lsub.keep (Lsub.keep (Lsub.keep (Lsub.keep (Lsub.drop (Lsub.drop Lsub.nil)))))))) (hj194 () hf)
            · refine PW.aload_n cx qL_holds_172 rfl ?_
              refine PW.iload cx qL_holds_173 rfl ?_
              refine PW.callVRI (As := [.int v4]) (st := []) cx hR qL_holds_175 klL_91 mvX6_reelOf (sh_0 hx) rfl rfl rfl rfl (Nat.le_of_ble_eq_true rfl) (Nat.le_of_ble_eq_true rfl) (Nat.le_of_ble_eq_true rfl) (Nat.zero_le _) (Nat.zero_le _) hf sne (fun t e => ctX6_reelOf hx h v4 t e) (fun t28 hf => ?_)
              refine PW.iconst (v := (-1)) cx qL_holds_178 rfl ?_
              refine PW.icmp_ne cx qL_holds_179 hf (fun hf => ?_) (fun hf => ?_)
              · refine PW.aload_n cx qL_holds_182 rfl ?_
                refine PW.iload cx qL_holds_183 rfl ?_
                refine PW.callVRI (As := [.int v4]) (st := []) cx hR qL_holds_185 klL_94 mvX6_bedOf (sh_0 hx) rfl rfl rfl rfl (Nat.le_of_ble_eq_true rfl) (Nat.le_of_ble_eq_true rfl) (Nat.le_of_ble_eq_true rfl) (Nat.zero_le _) (Nat.zero_le _) hf sne (fun t e => ctX6_bedOf hx h v4 t e) (fun t29 hf => ?_)
                refine PW.iconst (v := (-1)) cx qL_holds_188 rfl ?_
                refine PW.icmp_eq cx qL_holds_189 hf (fun hf => ?_) (fun hf => ?_)
                · exact PW.locs (Lsub.keep (Lsub.keep (Lsub.keep (Lsub.keep (Lsub.keep (Lsub.keep (Lsub.drop (Lsub.drop Lsub.nil)))))))) (hj194 () hf)
                · refine PW.iconst (v := 0) cx qL_holds_192 rfl ?_
                  exact PW.zret cx hrt nb0 qL_holds_193 (kr _ (Option.some.inj hf).symm)
              · refine PW.iconst (v := 0) cx qL_holds_192 rfl ?_
                exact PW.zret cx hrt nb0 qL_holds_193 (kr _ (Option.some.inj hf).symm)
          · refine PW.iconst (v := 0) cx qL_holds_192 rfl ?_
            exact PW.zret cx hrt nb0 qL_holds_193 (kr _ (Option.some.inj hf).symm)
        refine PW.icmp_ne cx qL_holds_151 hf (fun hf => ?_) (fun hf => ?_)
        · refine PW.iconst (v := 1) cx qL_holds_154 rfl ?_
          refine PW.goto cx qL_holds_155 ?_
          exact PW.locs (Lsub.keep (Lsub.keep (Lsub.keep (Lsub.keep (Lsub.keep (Lsub.keep (Lsub.drop (Lsub.drop Lsub.nil)))))))) (hj159 true hf)
        · refine PW.iconst (v := 0) cx qL_holds_158 rfl ?_
          exact PW.locs (Lsub.keep (Lsub.keep (Lsub.keep (Lsub.keep (Lsub.keep (Lsub.keep (Lsub.drop (Lsub.drop Lsub.nil)))))))) (hj159 false hf)
      · subst e
        exact (kr _ (Option.some.inj hf).symm)
set_option maxRecDepth 20000 in
theorem lL_holds_341 {g : GT} {X : XT} {ex : Bool} {post : Option Value → List Shp → Hp → Prop} {sh : List Shp} (mx : Mx g X mL_holds 5 0 0) (hx : XSh sh) (h : Hp) (c4 : Int32) (d1 : Int32) (d3 : Int32) : ∀ (n : Nat) (v2 : Int32) (v5 : Int32) (r : Int32) (hf : L_holds_L341 h c4 n v2 v5 = some r) (kx : ∀ (x2 : Int32), r = x2 → PW g X ex (QE g X ex post 0 0) 0 0 sh h 377 [some (.ref (gB g + 0)), some (.int d1), some (.int x2), some (.int d3), some (.int c4), none, none, none] []), PW g X ex (QE g X ex post 0 0) 0 0 sh h 341 [some (.ref (gB g + 0)), some (.int d1), some (.int v2), some (.int d3), some (.int c4), some (.int v5), none, none] [] := by
  have mx0 := mx
  obtain ⟨cx, hR, hml, hrt, -⟩ := mx0
  have cx : Cx g X RL cL_holds := cx
  have hrt : X.2.2.2.2.2.2.2.1.sig.returnType = (some .boolean) := hrt
  have hi1 : 1 < X.2.2.2.2.2.2.2.2.maxLocals := by rw [hml]; exact Nat.le_of_ble_eq_true rfl
  have hi2 : 2 < X.2.2.2.2.2.2.2.2.maxLocals := by rw [hml]; exact Nat.le_of_ble_eq_true rfl
  have hi3 : 3 < X.2.2.2.2.2.2.2.2.maxLocals := by rw [hml]; exact Nat.le_of_ble_eq_true rfl
  have hi4 : 4 < X.2.2.2.2.2.2.2.2.maxLocals := by rw [hml]; exact Nat.le_of_ble_eq_true rfl
  have hi5 : 5 < X.2.2.2.2.2.2.2.2.maxLocals := by rw [hml]; exact Nat.le_of_ble_eq_true rfl
  have hi6 : 6 < X.2.2.2.2.2.2.2.2.maxLocals := by rw [hml]; exact Nat.le_of_ble_eq_true rfl
  have hi7 : 7 < X.2.2.2.2.2.2.2.2.maxLocals := by rw [hml]; exact Nat.le_of_ble_eq_true rfl
  intro n
  induction n with
  | zero =>
    intro v2 v5 r hf kx
    cases hf
  | succ n ih =>
    intro v2 v5 r hf kx
    unfold L_holds_L341 at hf
    refine PW.iload cx qL_holds_341 rfl ?_
    refine PW.aload_n cx qL_holds_343 rfl ?_
    refine PW.iload cx qL_holds_344 rfl ?_
    refine PW.callVRI (As := [.int c4]) (st := [.int v5]) cx hR qL_holds_346 klL_85 mvX6_bedCount (sh_0 hx) rfl rfl rfl rfl (Nat.le_of_ble_eq_true rfl) (Nat.le_of_ble_eq_true rfl) (Nat.le_of_ble_eq_true rfl) (Nat.zero_le _) (Nat.zero_le _) hf sne (fun t e => ctX6_bedCount hx h c4 t e) (fun t34 hf => ?_)
    refine PW.icmp_ge cx qL_holds_349 hf (fun hf => ?_) (fun hf => ?_)
    · exact PW.locs (Lsub.keep (Lsub.keep (Lsub.keep (Lsub.keep (Lsub.keep (Lsub.drop (Lsub.drop (Lsub.drop Lsub.nil)))))))) (kx v2 (Option.some.inj hf).symm)
    · refine PW.iload_n cx qL_holds_352 rfl ?_
      refine PW.aload_n cx qL_holds_353 rfl ?_
      refine PW.iload cx qL_holds_354 rfl ?_
      refine PW.iload cx qL_holds_356 rfl ?_
      refine PW.callVRI (As := [.int c4, .int v5]) (st := [.int v2]) cx hR qL_holds_358 klL_88 mvX6_bed (sh_0 hx) rfl rfl rfl rfl (Nat.le_of_ble_eq_true rfl) (Nat.le_of_ble_eq_true rfl) (Nat.le_of_ble_eq_true rfl) (Nat.zero_le _) (Nat.zero_le _) hf sne (fun t e => ctX6_bed hx h c4 v5 t e) (fun t35 hf => ?_)
      refine PW.if_lt cx qL_holds_361 hf (fun hf => ?_) (fun hf => ?_)
      · refine PW.iconst (v := 0) cx qL_holds_368 rfl ?_
        refine PW.iadd cx qL_holds_369 ?_
        refine PW.istore_n (L' := [some (.ref (gB g + 0)), some (.int d1), some (.int (v2 + 0)), some (.int d3), some (.int c4), some (.int v5), none, none]) cx qL_holds_370 hi2 rfl rfl ?_
        refine PW.iinc (v := 1) (L' := [some (.ref (gB g + 0)), some (.int d1), some (.int (v2 + 0)), some (.int d3), some (.int c4), some (.int (v5 + 1)), none, none]) cx qL_holds_371 rfl rfl hi5 rfl rfl ?_
        refine PW.goto cx qL_holds_374 ?_
        exact PW.locs (Lsub.keep (Lsub.keep (Lsub.keep (Lsub.keep (Lsub.keep (Lsub.keep (Lsub.drop (Lsub.drop Lsub.nil)))))))) (ih (v2 + 0) (v5 + 1) _ hf kx)
      · refine PW.iconst (v := 1) cx qL_holds_364 rfl ?_
        refine PW.goto cx qL_holds_365 ?_
        refine PW.iadd cx qL_holds_369 ?_
        refine PW.istore_n (L' := [some (.ref (gB g + 0)), some (.int d1), some (.int (v2 + 1)), some (.int d3), some (.int c4), some (.int v5), none, none]) cx qL_holds_370 hi2 rfl rfl ?_
        refine PW.iinc (v := 1) (L' := [some (.ref (gB g + 0)), some (.int d1), some (.int (v2 + 1)), some (.int d3), some (.int c4), some (.int (v5 + 1)), none, none]) cx qL_holds_371 rfl rfl hi5 rfl rfl ?_
        refine PW.goto cx qL_holds_374 ?_
        exact PW.locs (Lsub.keep (Lsub.keep (Lsub.keep (Lsub.keep (Lsub.keep (Lsub.keep (Lsub.drop (Lsub.drop Lsub.nil)))))))) (ih (v2 + 1) (v5 + 1) _ hf kx)
set_option maxRecDepth 20000 in
theorem lL_holds_329 {g : GT} {X : XT} {ex : Bool} {post : Option Value → List Shp → Hp → Prop} {sh : List Shp} (mx : Mx g X mL_holds 5 0 0) (hx : XSh sh) (h : Hp) (d1 : Int32) (d3 : Int32) : ∀ (n : Nat) (v2 : Int32) (v4 : Int32) (r : Int32) (hf : L_holds_L329 h n v2 v4 = some r) (kx : ∀ (x2 : Int32), r = x2 → PW g X ex (QE g X ex post 0 0) 0 0 sh h 383 [some (.ref (gB g + 0)), some (.int d1), some (.int x2), some (.int d3), none, none, none, none] []), PW g X ex (QE g X ex post 0 0) 0 0 sh h 329 [some (.ref (gB g + 0)), some (.int d1), some (.int v2), some (.int d3), some (.int v4), none, none, none] [] := by
  have mx0 := mx
  obtain ⟨cx, hR, hml, hrt, -⟩ := mx0
  have cx : Cx g X RL cL_holds := cx
  have hrt : X.2.2.2.2.2.2.2.1.sig.returnType = (some .boolean) := hrt
  have hi1 : 1 < X.2.2.2.2.2.2.2.2.maxLocals := by rw [hml]; exact Nat.le_of_ble_eq_true rfl
  have hi2 : 2 < X.2.2.2.2.2.2.2.2.maxLocals := by rw [hml]; exact Nat.le_of_ble_eq_true rfl
  have hi3 : 3 < X.2.2.2.2.2.2.2.2.maxLocals := by rw [hml]; exact Nat.le_of_ble_eq_true rfl
  have hi4 : 4 < X.2.2.2.2.2.2.2.2.maxLocals := by rw [hml]; exact Nat.le_of_ble_eq_true rfl
  have hi5 : 5 < X.2.2.2.2.2.2.2.2.maxLocals := by rw [hml]; exact Nat.le_of_ble_eq_true rfl
  have hi6 : 6 < X.2.2.2.2.2.2.2.2.maxLocals := by rw [hml]; exact Nat.le_of_ble_eq_true rfl
  have hi7 : 7 < X.2.2.2.2.2.2.2.2.maxLocals := by rw [hml]; exact Nat.le_of_ble_eq_true rfl
  intro n
  induction n with
  | zero =>
    intro v2 v4 r hf kx
    cases hf
  | succ n ih =>
    intro v2 v4 r hf kx
    unfold L_holds_L329 at hf
    refine PW.iload cx qL_holds_329 rfl ?_
    refine PW.aload_n cx qL_holds_331 rfl ?_
    refine PW.callVRI (As := []) (st := [.int v4]) cx hR qL_holds_332 klL_13 mvX6_reelCount (sh_0 hx) rfl rfl rfl rfl (Nat.le_of_ble_eq_true rfl) (Nat.le_of_ble_eq_true rfl) (Nat.le_of_ble_eq_true rfl) (Nat.zero_le _) (Nat.zero_le _) hf sne (fun t e => ctX6_reelCount hx h t e) (fun t33 hf => ?_)
    refine PW.icmp_ge cx qL_holds_335 hf (fun hf => ?_) (fun hf => ?_)
    · exact PW.locs (Lsub.keep (Lsub.keep (Lsub.keep (Lsub.keep (Lsub.drop (Lsub.drop (Lsub.drop (Lsub.drop Lsub.nil)))))))) (kx v2 (Option.some.inj hf).symm)
    · refine PW.iconst (v := 0) cx qL_holds_338 rfl ?_
      refine PW.istore (L' := [some (.ref (gB g + 0)), some (.int d1), some (.int v2), some (.int d3), some (.int v4), some (.int 0), none, none]) cx qL_holds_339 hi5 rfl rfl ?_
      obtain ⟨r36, er36, hf⟩ := bndO hf sne
      refine PW.locs (Lsub.keep (Lsub.keep (Lsub.keep (Lsub.keep (Lsub.keep (Lsub.keep (Lsub.drop (Lsub.drop Lsub.nil)))))))) (lL_holds_341 mx hx h v4 d1 d3 FU v2 0 r36 er36 (fun xx_ e => ?_))
      subst e
      refine PW.iinc (v := 1) (L' := [some (.ref (gB g + 0)), some (.int d1), some (.int r36), some (.int d3), some (.int (v4 + 1)), none, none, none]) cx qL_holds_377 rfl rfl hi4 rfl rfl ?_
      refine PW.goto cx qL_holds_380 ?_
      exact PW.locs (Lsub.keep (Lsub.keep (Lsub.keep (Lsub.keep (Lsub.keep (Lsub.drop (Lsub.drop (Lsub.drop Lsub.nil)))))))) (ih r36 (v4 + 1) _ hf kx)
set_option maxRecDepth 20000 in
theorem lL_holds_386 {g : GT} {X : XT} {ex : Bool} {post : Option Value → List Shp → Hp → Prop} {sh : List Shp} (mx : Mx g X mL_holds 5 0 0) (hx : XSh sh) (h : Hp) (d1 : Int32) (d2 : Int32) (d3 : Int32) : ∀ (n : Nat) (v4 : Int32) (r : (Unit) ⊕ (Bool)) (hf : L_holds_L386 h n v4 = some r) (kx : r = .inl () → PW g X ex (QE g X ex post 0 0) 0 0 sh h 423 [some (.ref (gB g + 0)), some (.int d1), some (.int d2), some (.int d3), none, none, none, none] []) (kr : ∀ y : Bool, r = .inr y → post (some (.int (b2i y))) sh h), PW g X ex (QE g X ex post 0 0) 0 0 sh h 386 [some (.ref (gB g + 0)), some (.int d1), some (.int d2), some (.int d3), some (.int v4), none, none, none] [] := by
  have mx0 := mx
  obtain ⟨cx, hR, hml, hrt, -⟩ := mx0
  have cx : Cx g X RL cL_holds := cx
  have hrt : X.2.2.2.2.2.2.2.1.sig.returnType = (some .boolean) := hrt
  have hi1 : 1 < X.2.2.2.2.2.2.2.2.maxLocals := by rw [hml]; exact Nat.le_of_ble_eq_true rfl
  have hi2 : 2 < X.2.2.2.2.2.2.2.2.maxLocals := by rw [hml]; exact Nat.le_of_ble_eq_true rfl
  have hi3 : 3 < X.2.2.2.2.2.2.2.2.maxLocals := by rw [hml]; exact Nat.le_of_ble_eq_true rfl
  have hi4 : 4 < X.2.2.2.2.2.2.2.2.maxLocals := by rw [hml]; exact Nat.le_of_ble_eq_true rfl
  have hi5 : 5 < X.2.2.2.2.2.2.2.2.maxLocals := by rw [hml]; exact Nat.le_of_ble_eq_true rfl
  have hi6 : 6 < X.2.2.2.2.2.2.2.2.maxLocals := by rw [hml]; exact Nat.le_of_ble_eq_true rfl
  have hi7 : 7 < X.2.2.2.2.2.2.2.2.maxLocals := by rw [hml]; exact Nat.le_of_ble_eq_true rfl
  intro n
  induction n with
  | zero =>
    intro v4 r hf kx kr
    cases hf
  | succ n ih =>
    intro v4 r hf kx kr
    unfold L_holds_L386 at hf
    refine PW.iload cx qL_holds_386 rfl ?_
    refine PW.aload_n cx qL_holds_388 rfl ?_
    refine PW.callVRI (As := []) (st := [.int v4]) cx hR qL_holds_389 klL_16 mvX6_sceneCount (sh_0 hx) rfl rfl rfl rfl (Nat.le_of_ble_eq_true rfl) (Nat.le_of_ble_eq_true rfl) (Nat.le_of_ble_eq_true rfl) (Nat.zero_le _) (Nat.zero_le _) hf sne (fun t e => ctX6_sceneCount hx h t e) (fun t38 hf => ?_)
    refine PW.icmp_ge cx qL_holds_392 hf (fun hf => ?_) (fun hf => ?_)
    · exact PW.locs (Lsub.keep (Lsub.keep (Lsub.keep (Lsub.keep (Lsub.drop (Lsub.drop (Lsub.drop (Lsub.drop Lsub.nil)))))))) (kx (Option.some.inj hf).symm)
    · refine PW.aload_n cx qL_holds_395 rfl ?_
      refine PW.iload cx qL_holds_396 rfl ?_
      refine PW.callVRI (As := [.int v4]) (st := []) cx hR qL_holds_398 klL_104 mvX6_springs (sh_0 hx) rfl rfl rfl rfl (Nat.le_of_ble_eq_true rfl) (Nat.le_of_ble_eq_true rfl) (Nat.le_of_ble_eq_true rfl) (Nat.zero_le _) (Nat.zero_le _) hf sne (fun t e => ctX6_springs hx h v4 t e) (fun t39 hf => ?_)
      refine PW.if_lt cx qL_holds_401 hf (fun hf => ?_) (fun hf => ?_)
      · refine PW.iconst (v := 0) cx qL_holds_415 rfl ?_
        exact PW.zret cx hrt nb0 qL_holds_416 (kr _ (Option.some.inj hf).symm)
      · refine PW.aload_n cx qL_holds_404 rfl ?_
        refine PW.iload cx qL_holds_405 rfl ?_
        refine PW.callVRI (As := [.int v4]) (st := []) cx hR qL_holds_407 klL_104 mvX6_springs (sh_0 hx) rfl rfl rfl rfl (Nat.le_of_ble_eq_true rfl) (Nat.le_of_ble_eq_true rfl) (Nat.le_of_ble_eq_true rfl) (Nat.zero_le _) (Nat.zero_le _) hf sne (fun t e => ctX6_springs hx h v4 t e) (fun t40 hf => ?_)
        refine PW.bipush (v := 9) cx qL_holds_410 rfl ?_
        refine PW.icmp_le cx qL_holds_412 hf (fun hf => ?_) (fun hf => ?_)
        · refine PW.iinc (v := 1) (L' := [some (.ref (gB g + 0)), some (.int d1), some (.int d2), some (.int d3), some (.int (v4 + 1)), none, none, none]) cx qL_holds_417 rfl rfl hi4 rfl rfl ?_
          refine PW.goto cx qL_holds_420 ?_
          exact PW.locs (Lsub.keep (Lsub.keep (Lsub.keep (Lsub.keep (Lsub.keep (Lsub.drop (Lsub.drop (Lsub.drop Lsub.nil)))))))) (ih (v4 + 1) _ hf kx kr)
        · refine PW.iconst (v := 0) cx qL_holds_415 rfl ?_
          exact PW.zret cx hrt nb0 qL_holds_416 (kr _ (Option.some.inj hf).symm)
set_option maxRecDepth 20000 in
theorem ctL_holds {g : GT} {ex : Bool} {sh : List Shp} (hx : XSh sh) (h : Hp) (r0 : Bool) (hf : L_holds h = some r0) : Ct g mL_holds 5 0 0 ex [.ref (gB g + 0)] sh h (PE (some (.int (b2i r0))) sh h) := by
  refine Ct.of (L := [some (.ref (gB g + 0)), none, none, none, none, none, none, none]) (by decide) (by intro w hw; simp only [List.mem_cons, List.not_mem_nil, or_false] at hw; rcases hw with rfl <;> rfl) (Nat.le_of_ble_eq_true rfl) rfl (fun X mx => ?_)
  have mx0 := mx
  obtain ⟨cx, hR, hml, hrt, -⟩ := mx0
  have cx : Cx g X RL cL_holds := cx
  have hrt : X.2.2.2.2.2.2.2.1.sig.returnType = (some .boolean) := hrt
  have hi1 : 1 < X.2.2.2.2.2.2.2.2.maxLocals := by rw [hml]; exact Nat.le_of_ble_eq_true rfl
  have hi2 : 2 < X.2.2.2.2.2.2.2.2.maxLocals := by rw [hml]; exact Nat.le_of_ble_eq_true rfl
  have hi3 : 3 < X.2.2.2.2.2.2.2.2.maxLocals := by rw [hml]; exact Nat.le_of_ble_eq_true rfl
  have hi4 : 4 < X.2.2.2.2.2.2.2.2.maxLocals := by rw [hml]; exact Nat.le_of_ble_eq_true rfl
  have hi5 : 5 < X.2.2.2.2.2.2.2.2.maxLocals := by rw [hml]; exact Nat.le_of_ble_eq_true rfl
  have hi6 : 6 < X.2.2.2.2.2.2.2.2.maxLocals := by rw [hml]; exact Nat.le_of_ble_eq_true rfl
  have hi7 : 7 < X.2.2.2.2.2.2.2.2.maxLocals := by rw [hml]; exact Nat.le_of_ble_eq_true rfl
  unfold L_holds at hf
  refine PW.aload_n cx qL_holds_0 rfl ?_
  refine PW.callVRI (As := []) (st := []) cx hR qL_holds_1 klL_82 mvX6_violations (sh_0 hx) rfl rfl rfl rfl (Nat.le_of_ble_eq_true rfl) (Nat.le_of_ble_eq_true rfl) (Nat.le_of_ble_eq_true rfl) (Nat.zero_le _) (Nat.zero_le _) hf sne (fun t e => ctX6_violations hx h t e) (fun t1 hf => ?_)
  refine PW.if_ne cx qL_holds_4 hf (fun hf => ?_) (fun hf => ?_)
  · refine PW.aload_n cx qL_holds_7 rfl ?_
    refine PW.callVRI (As := []) (st := []) cx hR qL_holds_8 klL_76 mvX6_week (sh_0 hx) rfl rfl rfl rfl (Nat.le_of_ble_eq_true rfl) (Nat.le_of_ble_eq_true rfl) (Nat.le_of_ble_eq_true rfl) (Nat.zero_le _) (Nat.zero_le _) hf sne (fun t e => ctX6_week hx h t e) (fun t2 hf => ?_)
    refine PW.if_lt cx qL_holds_11 hf (fun hf => ?_) (fun hf => ?_)
    · refine PW.iconst (v := 0) cx qL_holds_41 rfl ?_
      exact PW.zret cx hrt nb0 qL_holds_42 (le_rz hf)
    · refine PW.aload_n cx qL_holds_14 rfl ?_
      refine PW.callVRI (As := []) (st := []) cx hR qL_holds_15 klL_76 mvX6_week (sh_0 hx) rfl rfl rfl rfl (Nat.le_of_ble_eq_true rfl) (Nat.le_of_ble_eq_true rfl) (Nat.le_of_ble_eq_true rfl) (Nat.zero_le _) (Nat.zero_le _) hf sne (fun t e => ctX6_week hx h t e) (fun t3 hf => ?_)
      refine PW.sipush (v := 999) cx qL_holds_18 rfl ?_
      refine PW.icmp_gt cx qL_holds_21 hf (fun hf => ?_) (fun hf => ?_)
      · refine PW.iconst (v := 0) cx qL_holds_41 rfl ?_
        exact PW.zret cx hrt nb0 qL_holds_42 (le_rz hf)
      · refine PW.aload_n cx qL_holds_24 rfl ?_
        refine PW.callVRI (As := []) (st := []) cx hR qL_holds_25 klL_43 mvX6_food (sh_0 hx) rfl rfl rfl rfl (Nat.le_of_ble_eq_true rfl) (Nat.le_of_ble_eq_true rfl) (Nat.le_of_ble_eq_true rfl) (Nat.zero_le _) (Nat.zero_le _) hf sne (fun t e => ctX6_food hx h t e) (fun t4 hf => ?_)
        refine PW.if_lt cx qL_holds_28 hf (fun hf => ?_) (fun hf => ?_)
        · refine PW.iconst (v := 0) cx qL_holds_41 rfl ?_
          exact PW.zret cx hrt nb0 qL_holds_42 (le_rz hf)
        · refine PW.aload_n cx qL_holds_31 rfl ?_
          refine PW.callVRI (As := []) (st := []) cx hR qL_holds_32 klL_43 mvX6_food (sh_0 hx) rfl rfl rfl rfl (Nat.le_of_ble_eq_true rfl) (Nat.le_of_ble_eq_true rfl) (Nat.le_of_ble_eq_true rfl) (Nat.zero_le _) (Nat.zero_le _) hf sne (fun t e => ctX6_food hx h t e) (fun t5 hf => ?_)
          refine PW.sipush (v := 9999) cx qL_holds_35 rfl ?_
          refine PW.icmp_le cx qL_holds_38 hf (fun hf => ?_) (fun hf => ?_)
          · refine PW.iconst (v := 0) cx qL_holds_43 rfl ?_
            refine PW.istore_n (L' := [some (.ref (gB g + 0)), some (.int 0), none, none, none, none, none, none]) cx qL_holds_44 hi1 rfl rfl ?_
            refine PW.iconst (v := 0) cx qL_holds_45 rfl ?_
            refine PW.istore_n (L' := [some (.ref (gB g + 0)), some (.int 0), some (.int 0), none, none, none, none, none]) cx qL_holds_46 hi2 rfl rfl ?_
            refine PW.iconst (v := 0) cx qL_holds_47 rfl ?_
            refine PW.istore_n (L' := [some (.ref (gB g + 0)), some (.int 0), some (.int 0), some (.int 0), none, none, none, none]) cx qL_holds_48 hi3 rfl rfl ?_
            refine PW.iconst (v := 0) cx qL_holds_49 rfl ?_
            refine PW.istore (L' := [some (.ref (gB g + 0)), some (.int 0), some (.int 0), some (.int 0), some (.int 0), none, none, none]) cx qL_holds_50 hi4 rfl rfl ?_
            obtain ⟨r30, er30, hf⟩ := bndO hf sne
            refine PW.locs (Lsub.keep (Lsub.keep (Lsub.keep (Lsub.keep (Lsub.keep (Lsub.drop (Lsub.drop (Lsub.drop Lsub.nil)))))))) (lL_holds_52 mx hx h 0 FU 0 0 0 r30 er30 (fun x1_31 x3_32 e => ?_) (fun y e => ?_))
            · subst e
              refine PW.iconst (v := 0) cx qL_holds_326 rfl ?_
              refine PW.istore (L' := [some (.ref (gB g + 0)), some (.int x1_31), some (.int 0), some (.int x3_32), some (.int 0), none, none, none]) cx qL_holds_327 hi4 rfl rfl ?_
              obtain ⟨r37, er37, hf⟩ := bndO hf sne
              refine PW.locs (Lsub.keep (Lsub.keep (Lsub.keep (Lsub.keep (Lsub.keep (Lsub.drop (Lsub.drop (Lsub.drop Lsub.nil)))))))) (lL_holds_329 mx hx h x1_31 x3_32 FU 0 0 r37 er37 (fun xx_ e => ?_))
              subst e
              refine PW.iconst (v := 0) cx qL_holds_383 rfl ?_
              refine PW.istore (L' := [some (.ref (gB g + 0)), some (.int x1_31), some (.int r37), some (.int x3_32), some (.int 0), none, none, none]) cx qL_holds_384 hi4 rfl rfl ?_
              obtain ⟨r41, er41, hf⟩ := bndO hf sne
              refine PW.locs (Lsub.keep (Lsub.keep (Lsub.keep (Lsub.keep (Lsub.keep (Lsub.drop (Lsub.drop (Lsub.drop Lsub.nil)))))))) (lL_holds_386 mx hx h x1_31 r37 x3_32 FU 0 r41 er41 (fun e => ?_) (fun y e => ?_))
              · subst e
                refine PW.iload_n cx qL_holds_423 rfl ?_
                refine PW.iload_n cx qL_holds_424 rfl ?_
                refine PW.icmp_ne cx qL_holds_425 hf (fun hf => ?_) (fun hf => ?_)
                · refine PW.aload_n cx qL_holds_428 rfl ?_
                  refine PW.callVRI (As := []) (st := []) cx hR qL_holds_429 klL_107 mvX6_fadedClips (sh_0 hx) rfl rfl rfl rfl (Nat.le_of_ble_eq_true rfl) (Nat.le_of_ble_eq_true rfl) (Nat.le_of_ble_eq_true rfl) (Nat.zero_le _) (Nat.zero_le _) hf sne (fun t e => ctX6_fadedClips hx h t e) (fun t42 hf => ?_)
                  refine PW.iload_n cx qL_holds_432 rfl ?_
                  refine PW.icmp_ne cx qL_holds_433 hf (fun hf => ?_) (fun hf => ?_)
                  · refine PW.iconst (v := 1) cx qL_holds_436 rfl ?_
                    refine PW.goto cx qL_holds_437 ?_
                    exact PW.zret cx hrt nb1 qL_holds_441 (le_rz hf)
                  · refine PW.iconst (v := 0) cx qL_holds_440 rfl ?_
                    exact PW.zret cx hrt nb0 qL_holds_441 (le_rz hf)
                · refine PW.iconst (v := 0) cx qL_holds_440 rfl ?_
                  exact PW.zret cx hrt nb0 qL_holds_441 (le_rz hf)
              · subst e
                exact (le_rz hf)
            · subst e
              exact (le_rz hf)
          · refine PW.iconst (v := 0) cx qL_holds_41 rfl ?_
            exact PW.zret cx hrt nb0 qL_holds_42 (le_rz hf)
  · refine PW.iconst (v := 0) cx qL_holds_41 rfl ?_
    exact PW.zret cx hrt nb0 qL_holds_42 (le_rz hf)
set_option maxRecDepth 20000 in
theorem lL_sum_39 {g : GT} {X : XT} {ex : Bool} {post : Option Value → List Shp → Hp → Prop} {sh : List Shp} (mx : Mx g X mL_sum 3 0 0) (hx : XSh sh) (h : Hp) (d1 : Bool) : ∀ (n : Nat) (v2 : Int64) (v4 : Int32) (r : Int64) (hf : L_sum_L39 h n v2 v4 = some r) (kx : ∀ (x2 : Int64), r = x2 → PW g X ex (QE g X ex post 0 0) 0 0 sh h 118 [some (.ref (gB g + 0)), some (.int (b2i d1)), some (.long x2), none, none, none] []), PW g X ex (QE g X ex post 0 0) 0 0 sh h 39 [some (.ref (gB g + 0)), some (.int (b2i d1)), some (.long v2), none, some (.int v4), none] [] := by
  have mx0 := mx
  obtain ⟨cx, hR, hml, hrt, -⟩ := mx0
  have cx : Cx g X RL cL_sum := cx
  have hrt : X.2.2.2.2.2.2.2.1.sig.returnType = (some .long) := hrt
  have hi2 : 2 < X.2.2.2.2.2.2.2.2.maxLocals := by rw [hml]; exact Nat.le_of_ble_eq_true rfl
  have hi3 : 3 < X.2.2.2.2.2.2.2.2.maxLocals := by rw [hml]; exact Nat.le_of_ble_eq_true rfl
  have hi4 : 4 < X.2.2.2.2.2.2.2.2.maxLocals := by rw [hml]; exact Nat.le_of_ble_eq_true rfl
  have hi5 : 5 < X.2.2.2.2.2.2.2.2.maxLocals := by rw [hml]; exact Nat.le_of_ble_eq_true rfl
  intro n
  induction n with
  | zero =>
    intro v2 v4 r hf kx
    cases hf
  | succ n ih =>
    intro v2 v4 r hf kx
    unfold L_sum_L39 at hf
    refine PW.iload cx qL_sum_39 rfl ?_
    refine PW.aload_n cx qL_sum_41 rfl ?_
    refine PW.callVRI (As := []) (st := [.int v4]) cx hR qL_sum_42 klL_7 mvX6_clipCount (sh_0 hx) rfl rfl rfl rfl (Nat.le_of_ble_eq_true rfl) (Nat.le_of_ble_eq_true rfl) (Nat.le_of_ble_eq_true rfl) (Nat.zero_le _) (Nat.zero_le _) hf sne (fun t e => ctX6_clipCount hx h t e) (fun t6 hf => ?_)
    refine PW.icmp_ge cx qL_sum_45 hf (fun hf => ?_) (fun hf => ?_)
    · exact PW.locs (Lsub.keep (Lsub.keep (Lsub.keep (Lsub.drop (Lsub.drop (Lsub.drop Lsub.nil)))))) (kx v2 (Option.some.inj hf).symm)
    · refine PW.ldc2 (v := 31) cx qL_sum_48 kLL_131 ?_
      refine PW.lload_n cx qL_sum_51 rfl ?_
      refine PW.lmul cx qL_sum_52 ?_
      refine PW.aload_n cx qL_sum_53 rfl ?_
      refine PW.iload cx qL_sum_54 rfl ?_
      refine PW.callVRI (As := [.int v4]) (st := [.long ((31 : Int64) * v2)]) cx hR qL_sum_56 klL_133 mvX6_colours (sh_0 hx) rfl rfl rfl rfl (Nat.le_of_ble_eq_true rfl) (Nat.le_of_ble_eq_true rfl) (Nat.le_of_ble_eq_true rfl) (Nat.zero_le _) (Nat.zero_le _) hf sne (fun t e => ctX6_colours hx h v4 t e) (fun t7 hf => ?_)
      refine PW.i2l cx qL_sum_59 ?_
      refine PW.ladd cx qL_sum_60 ?_
      refine PW.ldc2 (v := 3) cx qL_sum_61 kLL_135 ?_
      refine PW.aload_n cx qL_sum_64 rfl ?_
      refine PW.iload cx qL_sum_65 rfl ?_
      refine PW.callVRI (As := [.int v4]) (st := [.long (3 : Int64), .long (((31 : Int64) * v2) + t7.toInt64)]) cx hR qL_sum_67 klL_31 mvX6_state (sh_0 hx) rfl rfl rfl rfl (Nat.le_of_ble_eq_true rfl) (Nat.le_of_ble_eq_true rfl) (Nat.le_of_ble_eq_true rfl) (Nat.zero_le _) (Nat.zero_le _) hf sne (fun t e => ctX6_state hx h v4 t e) (fun t8 hf => ?_)
      refine PW.i2l cx qL_sum_70 ?_
      refine PW.lmul cx qL_sum_71 ?_
      refine PW.ladd cx qL_sum_72 ?_
      obtain ⟨w9, e_w9, hf⟩ := nm_split hf
      refine PW.lstore_n (L' := [some (.ref (gB g + 0)), some (.int (b2i d1)), some (.long w9), none, some (.int v4), none]) cx qL_sum_73 hi3 rfl (by rw [e_w9]; rfl) ?_
      refine PW.ldc2 (v := 31) cx qL_sum_74 kLL_131 ?_
      refine PW.lload_n cx qL_sum_77 rfl ?_
      refine PW.lmul cx qL_sum_78 ?_
      refine PW.aload_n cx qL_sum_79 rfl ?_
      refine PW.iload cx qL_sum_80 rfl ?_
      refine PW.callVRI (As := [.int v4]) (st := [.long ((31 : Int64) * w9)]) cx hR qL_sum_82 klL_46 mvX6_fat (sh_0 hx) rfl rfl rfl rfl (Nat.le_of_ble_eq_true rfl) (Nat.le_of_ble_eq_true rfl) (Nat.le_of_ble_eq_true rfl) (Nat.zero_le _) (Nat.zero_le _) hf sne (fun t e => ctX6_fat hx h v4 t e) (fun t10 hf => ?_)
      refine PW.i2l cx qL_sum_85 ?_
      refine PW.ladd cx qL_sum_86 ?_
      refine PW.ldc2 (v := 100) cx qL_sum_87 kLL_137 ?_
      refine PW.aload_n cx qL_sum_90 rfl ?_
      refine PW.iload cx qL_sum_91 rfl ?_
      refine PW.callVRI (As := [.int v4]) (st := [.long (100 : Int64), .long (((31 : Int64) * w9) + t10.toInt64)]) cx hR qL_sum_93 klL_97 mvX6_sceneOf (sh_0 hx) rfl rfl rfl rfl (Nat.le_of_ble_eq_true rfl) (Nat.le_of_ble_eq_true rfl) (Nat.le_of_ble_eq_true rfl) (Nat.zero_le _) (Nat.zero_le _) hf sne (fun t e => ctX6_sceneOf hx h v4 t e) (fun t11 hf => ?_)
      refine PW.i2l cx qL_sum_96 ?_
      refine PW.lmul cx qL_sum_97 ?_
      refine PW.ladd cx qL_sum_98 ?_
      refine PW.ldc2 (v := 1000) cx qL_sum_99 kLL_119 ?_
      refine PW.aload_n cx qL_sum_102 rfl ?_
      refine PW.iload cx qL_sum_103 rfl ?_
      refine PW.callVRI (As := [.int v4]) (st := [.long (1000 : Int64), .long ((((31 : Int64) * w9) + t10.toInt64) + ((100 : Int64) * t11.toInt64))]) cx hR qL_sum_105 klL_91 mvX6_reelOf (sh_0 hx) rfl rfl rfl rfl (Nat.le_of_ble_eq_true rfl) (Nat.le_of_ble_eq_true rfl) (Nat.le_of_ble_eq_true rfl) (Nat.zero_le _) (Nat.zero_le _) hf sne (fun t e => ctX6_reelOf hx h v4 t e) (fun t12 hf => ?_)
      refine PW.i2l cx qL_sum_108 ?_
      refine PW.lmul cx qL_sum_109 ?_
      refine PW.ladd cx qL_sum_110 ?_
      obtain ⟨w13, e_w13, hf⟩ := nm_split hf
      refine PW.lstore_n (L' := [some (.ref (gB g + 0)), some (.int (b2i d1)), some (.long w13), none, some (.int v4), none]) cx qL_sum_111 hi3 rfl (by rw [e_w13]; rfl) ?_
      refine PW.iinc (v := 1) (L' := [some (.ref (gB g + 0)), some (.int (b2i d1)), some (.long w13), none, some (.int (v4 + 1)), none]) cx qL_sum_112 rfl rfl hi4 rfl rfl ?_
      refine PW.goto cx qL_sum_115 ?_
      exact PW.locs (Lsub.keep (Lsub.keep (Lsub.keep (Lsub.drop (Lsub.keep (Lsub.drop Lsub.nil)))))) (ih w13 (v4 + 1) _ hf kx)
set_option maxRecDepth 20000 in
theorem lL_sum_121 {g : GT} {X : XT} {ex : Bool} {post : Option Value → List Shp → Hp → Prop} {sh : List Shp} (mx : Mx g X mL_sum 3 0 0) (hx : XSh sh) (h : Hp) (d1 : Bool) : ∀ (n : Nat) (v2 : Int64) (v4 : Int32) (r : Int64) (hf : L_sum_L121 h n v2 v4 = some r) (kx : ∀ (x2 : Int64), r = x2 → PW g X ex (QE g X ex post 0 0) 0 0 sh h 150 [some (.ref (gB g + 0)), some (.int (b2i d1)), some (.long x2), none, none, none] []), PW g X ex (QE g X ex post 0 0) 0 0 sh h 121 [some (.ref (gB g + 0)), some (.int (b2i d1)), some (.long v2), none, some (.int v4), none] [] := by
  have mx0 := mx
  obtain ⟨cx, hR, hml, hrt, -⟩ := mx0
  have cx : Cx g X RL cL_sum := cx
  have hrt : X.2.2.2.2.2.2.2.1.sig.returnType = (some .long) := hrt
  have hi2 : 2 < X.2.2.2.2.2.2.2.2.maxLocals := by rw [hml]; exact Nat.le_of_ble_eq_true rfl
  have hi3 : 3 < X.2.2.2.2.2.2.2.2.maxLocals := by rw [hml]; exact Nat.le_of_ble_eq_true rfl
  have hi4 : 4 < X.2.2.2.2.2.2.2.2.maxLocals := by rw [hml]; exact Nat.le_of_ble_eq_true rfl
  have hi5 : 5 < X.2.2.2.2.2.2.2.2.maxLocals := by rw [hml]; exact Nat.le_of_ble_eq_true rfl
  intro n
  induction n with
  | zero =>
    intro v2 v4 r hf kx
    cases hf
  | succ n ih =>
    intro v2 v4 r hf kx
    unfold L_sum_L121 at hf
    refine PW.iload cx qL_sum_121 rfl ?_
    refine PW.aload_n cx qL_sum_123 rfl ?_
    refine PW.callVRI (As := []) (st := [.int v4]) cx hR qL_sum_124 klL_16 mvX6_sceneCount (sh_0 hx) rfl rfl rfl rfl (Nat.le_of_ble_eq_true rfl) (Nat.le_of_ble_eq_true rfl) (Nat.le_of_ble_eq_true rfl) (Nat.zero_le _) (Nat.zero_le _) hf sne (fun t e => ctX6_sceneCount hx h t e) (fun t15 hf => ?_)
    refine PW.icmp_ge cx qL_sum_127 hf (fun hf => ?_) (fun hf => ?_)
    · exact PW.locs (Lsub.keep (Lsub.keep (Lsub.keep (Lsub.drop (Lsub.drop (Lsub.drop Lsub.nil)))))) (kx v2 (Option.some.inj hf).symm)
    · refine PW.ldc2 (v := 31) cx qL_sum_130 kLL_131 ?_
      refine PW.lload_n cx qL_sum_133 rfl ?_
      refine PW.lmul cx qL_sum_134 ?_
      refine PW.aload_n cx qL_sum_135 rfl ?_
      refine PW.iload cx qL_sum_136 rfl ?_
      refine PW.callVRI (As := [.int v4]) (st := [.long ((31 : Int64) * v2)]) cx hR qL_sum_138 klL_104 mvX6_springs (sh_0 hx) rfl rfl rfl rfl (Nat.le_of_ble_eq_true rfl) (Nat.le_of_ble_eq_true rfl) (Nat.le_of_ble_eq_true rfl) (Nat.zero_le _) (Nat.zero_le _) hf sne (fun t e => ctX6_springs hx h v4 t e) (fun t16 hf => ?_)
      refine PW.i2l cx qL_sum_141 ?_
      refine PW.ladd cx qL_sum_142 ?_
      refine PW.lstore_n (L' := [some (.ref (gB g + 0)), some (.int (b2i d1)), some (.long (((31 : Int64) * v2) + t16.toInt64)), none, some (.int v4), none]) cx qL_sum_143 hi3 rfl rfl ?_
      refine PW.iinc (v := 1) (L' := [some (.ref (gB g + 0)), some (.int (b2i d1)), some (.long (((31 : Int64) * v2) + t16.toInt64)), none, some (.int (v4 + 1)), none]) cx qL_sum_144 rfl rfl hi4 rfl rfl ?_
      refine PW.goto cx qL_sum_147 ?_
      exact PW.locs (Lsub.keep (Lsub.keep (Lsub.keep (Lsub.drop (Lsub.keep (Lsub.drop Lsub.nil)))))) (ih (((31 : Int64) * v2) + t16.toInt64) (v4 + 1) _ hf kx)
set_option maxRecDepth 20000 in
theorem lL_sum_191 {g : GT} {X : XT} {ex : Bool} {post : Option Value → List Shp → Hp → Prop} {sh : List Shp} (mx : Mx g X mL_sum 3 0 0) (hx : XSh sh) (h : Hp) (c1 : Bool) (c4 : Int32) : ∀ (n : Nat) (v2 : Int64) (v5 : Int32) (r : Int64) (hf : L_sum_L191 h c1 c4 n v2 v5 = some r) (kx : ∀ (x2 : Int64), r = x2 → PW g X ex (QE g X ex post 0 0) 0 0 sh h 228 [some (.ref (gB g + 0)), some (.int (b2i c1)), some (.long x2), none, some (.int c4), none] []), PW g X ex (QE g X ex post 0 0) 0 0 sh h 191 [some (.ref (gB g + 0)), some (.int (b2i c1)), some (.long v2), none, some (.int c4), some (.int v5)] [] := by
  have mx0 := mx
  obtain ⟨cx, hR, hml, hrt, -⟩ := mx0
  have cx : Cx g X RL cL_sum := cx
  have hrt : X.2.2.2.2.2.2.2.1.sig.returnType = (some .long) := hrt
  have hi2 : 2 < X.2.2.2.2.2.2.2.2.maxLocals := by rw [hml]; exact Nat.le_of_ble_eq_true rfl
  have hi3 : 3 < X.2.2.2.2.2.2.2.2.maxLocals := by rw [hml]; exact Nat.le_of_ble_eq_true rfl
  have hi4 : 4 < X.2.2.2.2.2.2.2.2.maxLocals := by rw [hml]; exact Nat.le_of_ble_eq_true rfl
  have hi5 : 5 < X.2.2.2.2.2.2.2.2.maxLocals := by rw [hml]; exact Nat.le_of_ble_eq_true rfl
  intro n
  induction n with
  | zero =>
    intro v2 v5 r hf kx
    cases hf
  | succ n ih =>
    intro v2 v5 r hf kx
    unfold L_sum_L191 at hf
    refine PW.iload_n cx qL_sum_191 rfl ?_
    refine PW.if_eq cx qL_sum_192 hf (fun hf => ?_) (fun hf => ?_)
    · exact PW.locs (Lsub.keep (Lsub.keep (Lsub.keep (Lsub.drop (Lsub.keep (Lsub.drop Lsub.nil)))))) (kx v2 (Option.some.inj hf).symm)
    · refine PW.iload cx qL_sum_195 rfl ?_
      refine PW.aload_n cx qL_sum_197 rfl ?_
      refine PW.iload cx qL_sum_198 rfl ?_
      refine PW.callVRI (As := [.int c4]) (st := [.int v5]) cx hR qL_sum_200 klL_85 mvX6_bedCount (sh_0 hx) rfl rfl rfl rfl (Nat.le_of_ble_eq_true rfl) (Nat.le_of_ble_eq_true rfl) (Nat.le_of_ble_eq_true rfl) (Nat.zero_le _) (Nat.zero_le _) hf sne (fun t e => ctX6_bedCount hx h c4 t e) (fun t22 hf => ?_)
      refine PW.icmp_ge cx qL_sum_203 hf (fun hf => ?_) (fun hf => ?_)
      · exact PW.locs (Lsub.keep (Lsub.keep (Lsub.keep (Lsub.drop (Lsub.keep (Lsub.drop Lsub.nil)))))) (kx v2 (Option.some.inj hf).symm)
      · refine PW.ldc2 (v := 31) cx qL_sum_206 kLL_131 ?_
        refine PW.lload_n cx qL_sum_209 rfl ?_
        refine PW.lmul cx qL_sum_210 ?_
        refine PW.aload_n cx qL_sum_211 rfl ?_
        refine PW.iload cx qL_sum_212 rfl ?_
        refine PW.iload cx qL_sum_214 rfl ?_
        refine PW.callVRI (As := [.int c4, .int v5]) (st := [.long ((31 : Int64) * v2)]) cx hR qL_sum_216 klL_88 mvX6_bed (sh_0 hx) rfl rfl rfl rfl (Nat.le_of_ble_eq_true rfl) (Nat.le_of_ble_eq_true rfl) (Nat.le_of_ble_eq_true rfl) (Nat.zero_le _) (Nat.zero_le _) hf sne (fun t e => ctX6_bed hx h c4 v5 t e) (fun t23 hf => ?_)
        refine PW.i2l cx qL_sum_219 ?_
        refine PW.ladd cx qL_sum_220 ?_
        refine PW.lstore_n (L' := [some (.ref (gB g + 0)), some (.int (b2i c1)), some (.long (((31 : Int64) * v2) + t23.toInt64)), none, some (.int c4), some (.int v5)]) cx qL_sum_221 hi3 rfl rfl ?_
        refine PW.iinc (v := 1) (L' := [some (.ref (gB g + 0)), some (.int (b2i c1)), some (.long (((31 : Int64) * v2) + t23.toInt64)), none, some (.int c4), some (.int (v5 + 1))]) cx qL_sum_222 rfl rfl hi5 rfl rfl ?_
        refine PW.goto cx qL_sum_225 ?_
        exact PW.locs (Lsub.keep (Lsub.keep (Lsub.keep (Lsub.drop (Lsub.keep (Lsub.keep Lsub.nil)))))) (ih (((31 : Int64) * v2) + t23.toInt64) (v5 + 1) _ hf kx)
set_option maxRecDepth 20000 in
theorem lL_sum_153 {g : GT} {X : XT} {ex : Bool} {post : Option Value → List Shp → Hp → Prop} {sh : List Shp} (mx : Mx g X mL_sum 3 0 0) (hx : XSh sh) (h : Hp) (c1 : Bool) : ∀ (n : Nat) (v2 : Int64) (v4 : Int32) (r : Int64) (hf : L_sum_L153 h c1 n v2 v4 = some r) (kx : ∀ (x2 : Int64), r = x2 → PW g X ex (QE g X ex post 0 0) 0 0 sh h 234 [some (.ref (gB g + 0)), some (.int (b2i c1)), some (.long x2), none, none, none] []), PW g X ex (QE g X ex post 0 0) 0 0 sh h 153 [some (.ref (gB g + 0)), some (.int (b2i c1)), some (.long v2), none, some (.int v4), none] [] := by
  have mx0 := mx
  obtain ⟨cx, hR, hml, hrt, -⟩ := mx0
  have cx : Cx g X RL cL_sum := cx
  have hrt : X.2.2.2.2.2.2.2.1.sig.returnType = (some .long) := hrt
  have hi2 : 2 < X.2.2.2.2.2.2.2.2.maxLocals := by rw [hml]; exact Nat.le_of_ble_eq_true rfl
  have hi3 : 3 < X.2.2.2.2.2.2.2.2.maxLocals := by rw [hml]; exact Nat.le_of_ble_eq_true rfl
  have hi4 : 4 < X.2.2.2.2.2.2.2.2.maxLocals := by rw [hml]; exact Nat.le_of_ble_eq_true rfl
  have hi5 : 5 < X.2.2.2.2.2.2.2.2.maxLocals := by rw [hml]; exact Nat.le_of_ble_eq_true rfl
  intro n
  induction n with
  | zero =>
    intro v2 v4 r hf kx
    cases hf
  | succ n ih =>
    intro v2 v4 r hf kx
    unfold L_sum_L153 at hf
    refine PW.iload cx qL_sum_153 rfl ?_
    refine PW.aload_n cx qL_sum_155 rfl ?_
    refine PW.callVRI (As := []) (st := [.int v4]) cx hR qL_sum_156 klL_13 mvX6_reelCount (sh_0 hx) rfl rfl rfl rfl (Nat.le_of_ble_eq_true rfl) (Nat.le_of_ble_eq_true rfl) (Nat.le_of_ble_eq_true rfl) (Nat.zero_le _) (Nat.zero_le _) hf sne (fun t e => ctX6_reelCount hx h t e) (fun t18 hf => ?_)
    refine PW.icmp_ge cx qL_sum_159 hf (fun hf => ?_) (fun hf => ?_)
    · exact PW.locs (Lsub.keep (Lsub.keep (Lsub.keep (Lsub.drop (Lsub.drop (Lsub.drop Lsub.nil)))))) (kx v2 (Option.some.inj hf).symm)
    · refine PW.ldc2 (v := 31) cx qL_sum_162 kLL_131 ?_
      refine PW.lload_n cx qL_sum_165 rfl ?_
      refine PW.lmul cx qL_sum_166 ?_
      refine PW.aload_n cx qL_sum_167 rfl ?_
      refine PW.iload cx qL_sum_168 rfl ?_
      refine PW.callVRI (As := [.int v4]) (st := [.long ((31 : Int64) * v2)]) cx hR qL_sum_170 klL_85 mvX6_bedCount (sh_0 hx) rfl rfl rfl rfl (Nat.le_of_ble_eq_true rfl) (Nat.le_of_ble_eq_true rfl) (Nat.le_of_ble_eq_true rfl) (Nat.zero_le _) (Nat.zero_le _) hf sne (fun t e => ctX6_bedCount hx h v4 t e) (fun t19 hf => ?_)
      refine PW.i2l cx qL_sum_173 ?_
      refine PW.ladd cx qL_sum_174 ?_
      refine PW.ldc2 (v := 100) cx qL_sum_175 kLL_137 ?_
      refine PW.aload_n cx qL_sum_178 rfl ?_
      refine PW.iload cx qL_sum_179 rfl ?_
      refine PW.callVRI (As := [.int v4]) (st := [.long (100 : Int64), .long (((31 : Int64) * v2) + t19.toInt64)]) cx hR qL_sum_181 klL_139 mvX6_sleepers (sh_0 hx) rfl rfl rfl rfl (Nat.le_of_ble_eq_true rfl) (Nat.le_of_ble_eq_true rfl) (Nat.le_of_ble_eq_true rfl) (Nat.zero_le _) (Nat.zero_le _) hf sne (fun t e => ctX6_sleepers hx h v4 t e) (fun t20 hf => ?_)
      refine PW.i2l cx qL_sum_184 ?_
      refine PW.lmul cx qL_sum_185 ?_
      refine PW.ladd cx qL_sum_186 ?_
      obtain ⟨w21, e_w21, hf⟩ := nm_split hf
      refine PW.lstore_n (L' := [some (.ref (gB g + 0)), some (.int (b2i c1)), some (.long w21), none, some (.int v4), none]) cx qL_sum_187 hi3 rfl (by rw [e_w21]; rfl) ?_
      refine PW.iconst (v := 0) cx qL_sum_188 rfl ?_
      refine PW.istore (L' := [some (.ref (gB g + 0)), some (.int (b2i c1)), some (.long w21), none, some (.int v4), some (.int 0)]) cx qL_sum_189 hi5 rfl rfl ?_
      obtain ⟨r24, er24, hf⟩ := bndO hf sne
      refine PW.locs (Lsub.keep (Lsub.keep (Lsub.keep (Lsub.drop (Lsub.keep (Lsub.keep Lsub.nil)))))) (lL_sum_191 mx hx h c1 v4 FU w21 0 r24 er24 (fun xx_ e => ?_))
      subst e
      refine PW.iinc (v := 1) (L' := [some (.ref (gB g + 0)), some (.int (b2i c1)), some (.long r24), none, some (.int (v4 + 1)), none]) cx qL_sum_228 rfl rfl hi4 rfl rfl ?_
      refine PW.goto cx qL_sum_231 ?_
      exact PW.locs (Lsub.keep (Lsub.keep (Lsub.keep (Lsub.drop (Lsub.keep (Lsub.drop Lsub.nil)))))) (ih r24 (v4 + 1) _ hf kx)
set_option maxRecDepth 20000 in
theorem ctL_sum {g : GT} {ex : Bool} {sh : List Shp} (hx : XSh sh) (h : Hp) (p2 : Bool) (r0 : Int64) (hf : L_sum h p2 = some r0) : Ct g mL_sum 3 0 0 ex [.ref (gB g + 0), .int (b2i p2)] sh h (PE (some (.long r0)) sh h) := by
  refine Ct.of (L := [some (.ref (gB g + 0)), some (.int (b2i p2)), none, none, none, none]) (by decide) (by intro w hw; simp only [List.mem_cons, List.not_mem_nil, or_false] at hw; rcases hw with rfl | rfl <;> rfl) (Nat.le_of_ble_eq_true rfl) rfl (fun X mx => ?_)
  have mx0 := mx
  obtain ⟨cx, hR, hml, hrt, -⟩ := mx0
  have cx : Cx g X RL cL_sum := cx
  have hrt : X.2.2.2.2.2.2.2.1.sig.returnType = (some .long) := hrt
  have hi2 : 2 < X.2.2.2.2.2.2.2.2.maxLocals := by rw [hml]; exact Nat.le_of_ble_eq_true rfl
  have hi3 : 3 < X.2.2.2.2.2.2.2.2.maxLocals := by rw [hml]; exact Nat.le_of_ble_eq_true rfl
  have hi4 : 4 < X.2.2.2.2.2.2.2.2.maxLocals := by rw [hml]; exact Nat.le_of_ble_eq_true rfl
  have hi5 : 5 < X.2.2.2.2.2.2.2.2.maxLocals := by rw [hml]; exact Nat.le_of_ble_eq_true rfl
  unfold L_sum at hf
  refine PW.aload_n cx qL_sum_0 rfl ?_
  refine PW.callVRI (As := []) (st := []) cx hR qL_sum_1 klL_76 mvX6_week (sh_0 hx) rfl rfl rfl rfl (Nat.le_of_ble_eq_true rfl) (Nat.le_of_ble_eq_true rfl) (Nat.le_of_ble_eq_true rfl) (Nat.zero_le _) (Nat.zero_le _) hf sne (fun t e => ctX6_week hx h t e) (fun t1 hf => ?_)
  refine PW.i2l cx qL_sum_4 ?_
  refine PW.ldc2 (v := 1000) cx qL_sum_5 kLL_119 ?_
  refine PW.aload_n cx qL_sum_8 rfl ?_
  refine PW.callVRI (As := []) (st := [.long (1000 : Int64), .long t1.toInt64]) cx hR qL_sum_9 klL_43 mvX6_food (sh_0 hx) rfl rfl rfl rfl (Nat.le_of_ble_eq_true rfl) (Nat.le_of_ble_eq_true rfl) (Nat.le_of_ble_eq_true rfl) (Nat.zero_le _) (Nat.zero_le _) hf sne (fun t e => ctX6_food hx h t e) (fun t2 hf => ?_)
  refine PW.i2l cx qL_sum_12 ?_
  refine PW.lmul cx qL_sum_13 ?_
  refine PW.ladd cx qL_sum_14 ?_
  refine PW.ldc2 (v := 7) cx qL_sum_15 kLL_121 ?_
  refine PW.aload_n cx qL_sum_18 rfl ?_
  refine PW.callVRI (As := []) (st := [.long (7 : Int64), .long (t1.toInt64 + ((1000 : Int64) * t2.toInt64))]) cx hR qL_sum_19 klL_123 mvX6_burnedFat (sh_0 hx) rfl rfl rfl rfl (Nat.le_of_ble_eq_true rfl) (Nat.le_of_ble_eq_true rfl) (Nat.le_of_ble_eq_true rfl) (Nat.zero_le _) (Nat.zero_le _) hf sne (fun t e => ctX6_burnedFat hx h t e) (fun t3 hf => ?_)
  refine PW.i2l cx qL_sum_22 ?_
  refine PW.lmul cx qL_sum_23 ?_
  refine PW.ladd cx qL_sum_24 ?_
  refine PW.ldc2 (v := 11) cx qL_sum_25 kLL_126 ?_
  refine PW.aload_n cx qL_sum_28 rfl ?_
  refine PW.callVRI (As := []) (st := [.long (11 : Int64), .long ((t1.toInt64 + ((1000 : Int64) * t2.toInt64)) + ((7 : Int64) * t3.toInt64))]) cx hR qL_sum_29 klL_128 mvX6_wakings (sh_0 hx) rfl rfl rfl rfl (Nat.le_of_ble_eq_true rfl) (Nat.le_of_ble_eq_true rfl) (Nat.le_of_ble_eq_true rfl) (Nat.zero_le _) (Nat.zero_le _) hf sne (fun t e => ctX6_wakings hx h t e) (fun t4 hf => ?_)
  refine PW.i2l cx qL_sum_32 ?_
  refine PW.lmul cx qL_sum_33 ?_
  refine PW.ladd cx qL_sum_34 ?_
  obtain ⟨w5, e_w5, hf⟩ := nm_split hf
  refine PW.lstore_n (L' := [some (.ref (gB g + 0)), some (.int (b2i p2)), some (.long w5), none, none, none]) cx qL_sum_35 hi3 rfl (by rw [e_w5]; rfl) ?_
  refine PW.iconst (v := 0) cx qL_sum_36 rfl ?_
  refine PW.istore (L' := [some (.ref (gB g + 0)), some (.int (b2i p2)), some (.long w5), none, some (.int 0), none]) cx qL_sum_37 hi4 rfl rfl ?_
  obtain ⟨r14, er14, hf⟩ := bndO hf sne
  refine PW.locs (Lsub.keep (Lsub.keep (Lsub.keep (Lsub.drop (Lsub.keep (Lsub.drop Lsub.nil)))))) (lL_sum_39 mx hx h p2 FU w5 0 r14 er14 (fun xx_ e => ?_))
  subst e
  refine PW.iconst (v := 0) cx qL_sum_118 rfl ?_
  refine PW.istore (L' := [some (.ref (gB g + 0)), some (.int (b2i p2)), some (.long r14), none, some (.int 0), none]) cx qL_sum_119 hi4 rfl rfl ?_
  obtain ⟨r17, er17, hf⟩ := bndO hf sne
  refine PW.locs (Lsub.keep (Lsub.keep (Lsub.keep (Lsub.drop (Lsub.keep (Lsub.drop Lsub.nil)))))) (lL_sum_121 mx hx h p2 FU r14 0 r17 er17 (fun xx_ e => ?_))
  subst e
  refine PW.iconst (v := 0) cx qL_sum_150 rfl ?_
  refine PW.istore (L' := [some (.ref (gB g + 0)), some (.int (b2i p2)), some (.long r17), none, some (.int 0), none]) cx qL_sum_151 hi4 rfl rfl ?_
  obtain ⟨r25, er25, hf⟩ := bndO hf sne
  refine PW.locs (Lsub.keep (Lsub.keep (Lsub.keep (Lsub.drop (Lsub.keep (Lsub.drop Lsub.nil)))))) (lL_sum_153 mx hx h p2 FU r17 0 r25 er25 (fun xx_ e => ?_))
  subst e
  refine PW.lload_n cx qL_sum_234 rfl ?_
  exact PW.lret cx hrt qL_sum_235 (le_rj hf)
set_option maxRecDepth 20000 in
theorem lL_isAired_26 {g : GT} {X : XT} {ex : Bool} {post : Option Value → List Shp → Hp → Prop} {sh : List Shp} (mx : Mx g X mL_isAired 6 0 0) (hx : XSh sh) (h : Hp) (c1 : Int32) (d2 : Int64) (d4 : Int64) (d7 : Int32) : ∀ (n : Nat) (v6 : Int32) (v8 : Int32) (r : Int32) (hf : L_isAired_L26 h c1 n v6 v8 = some r) (kx : ∀ (x6 : Int32), r = x6 → PW g X ex (QE g X ex post 0 0) 0 0 sh h 64 [some (.ref (gB g + 0)), some (.int c1), some (.long d2), none, some (.long d4), none, some (.int x6), some (.int d7), none, none, none] []), PW g X ex (QE g X ex post 0 0) 0 0 sh h 26 [some (.ref (gB g + 0)), some (.int c1), some (.long d2), none, some (.long d4), none, some (.int v6), some (.int d7), some (.int v8), none, none] [] := by
  have mx0 := mx
  obtain ⟨cx, hR, hml, hrt, -⟩ := mx0
  have cx : Cx g X RL cL_isAired := cx
  have hrt : X.2.2.2.2.2.2.2.1.sig.returnType = (some .boolean) := hrt
  have hi2 : 2 < X.2.2.2.2.2.2.2.2.maxLocals := by rw [hml]; exact Nat.le_of_ble_eq_true rfl
  have hi3 : 3 < X.2.2.2.2.2.2.2.2.maxLocals := by rw [hml]; exact Nat.le_of_ble_eq_true rfl
  have hi4 : 4 < X.2.2.2.2.2.2.2.2.maxLocals := by rw [hml]; exact Nat.le_of_ble_eq_true rfl
  have hi5 : 5 < X.2.2.2.2.2.2.2.2.maxLocals := by rw [hml]; exact Nat.le_of_ble_eq_true rfl
  have hi6 : 6 < X.2.2.2.2.2.2.2.2.maxLocals := by rw [hml]; exact Nat.le_of_ble_eq_true rfl
  have hi7 : 7 < X.2.2.2.2.2.2.2.2.maxLocals := by rw [hml]; exact Nat.le_of_ble_eq_true rfl
  have hi8 : 8 < X.2.2.2.2.2.2.2.2.maxLocals := by rw [hml]; exact Nat.le_of_ble_eq_true rfl
  have hi9 : 9 < X.2.2.2.2.2.2.2.2.maxLocals := by rw [hml]; exact Nat.le_of_ble_eq_true rfl
  have hi10 : 10 < X.2.2.2.2.2.2.2.2.maxLocals := by rw [hml]; exact Nat.le_of_ble_eq_true rfl
  intro n
  induction n with
  | zero =>
    intro v6 v8 r hf kx
    cases hf
  | succ n ih =>
    intro v6 v8 r hf kx
    unfold L_isAired_L26 at hf
    refine PW.iload cx qL_isAired_26 rfl ?_
    refine PW.aload_n cx qL_isAired_28 rfl ?_
    refine PW.iload_n cx qL_isAired_29 rfl ?_
    refine PW.callVRI (As := [.int c1]) (st := [.int v8]) cx hR qL_isAired_30 klL_85 mvX6_bedCount (sh_0 hx) rfl rfl rfl rfl (Nat.le_of_ble_eq_true rfl) (Nat.le_of_ble_eq_true rfl) (Nat.le_of_ble_eq_true rfl) (Nat.zero_le _) (Nat.zero_le _) hf sne (fun t e => ctX6_bedCount hx h c1 t e) (fun t5 hf => ?_)
    refine PW.icmp_ge cx qL_isAired_33 hf (fun hf => ?_) (fun hf => ?_)
    · exact PW.locs (Lsub.keep (Lsub.keep (Lsub.keep (Lsub.drop (Lsub.keep (Lsub.drop (Lsub.keep (Lsub.keep (Lsub.drop (Lsub.drop (Lsub.drop Lsub.nil))))))))))) (kx v6 (Option.some.inj hf).symm)
    · refine PW.iload cx qL_isAired_36 rfl ?_
      refine PW.aload_n cx qL_isAired_38 rfl ?_
      refine PW.iload_n cx qL_isAired_39 rfl ?_
      refine PW.iload cx qL_isAired_40 rfl ?_
      refine PW.callVRI (As := [.int c1, .int v8]) (st := [.int v6]) cx hR qL_isAired_42 klL_88 mvX6_bed (sh_0 hx) rfl rfl rfl rfl (Nat.le_of_ble_eq_true rfl) (Nat.le_of_ble_eq_true rfl) (Nat.le_of_ble_eq_true rfl) (Nat.zero_le _) (Nat.zero_le _) hf sne (fun t e => ctX6_bed hx h c1 v8 t e) (fun t6 hf => ?_)
      refine PW.bipush (v := (-2)) cx qL_isAired_45 rfl ?_
      refine PW.icmp_ne cx qL_isAired_47 hf (fun hf => ?_) (fun hf => ?_)
      · refine PW.iconst (v := 1) cx qL_isAired_50 rfl ?_
        refine PW.goto cx qL_isAired_51 ?_
        refine PW.iadd cx qL_isAired_55 ?_
        refine PW.istore (L' := [some (.ref (gB g + 0)), some (.int c1), some (.long d2), none, some (.long d4), none, some (.int (v6 + 1)), some (.int d7), some (.int v8), none, none]) cx qL_isAired_56 hi6 rfl rfl ?_
        refine PW.iinc (v := 1) (L' := [some (.ref (gB g + 0)), some (.int c1), some (.long d2), none, some (.long d4), none, some (.int (v6 + 1)), some (.int d7), some (.int (v8 + 1)), none, none]) cx qL_isAired_58 rfl rfl hi8 rfl rfl ?_
        refine PW.goto cx qL_isAired_61 ?_
        exact PW.locs (Lsub.keep (Lsub.keep (Lsub.keep (Lsub.drop (Lsub.keep (Lsub.drop (Lsub.keep (Lsub.keep (Lsub.keep (Lsub.drop (Lsub.drop Lsub.nil))))))))))) (ih (v6 + 1) (v8 + 1) _ hf kx)
      · refine PW.iconst (v := 0) cx qL_isAired_54 rfl ?_
        refine PW.iadd cx qL_isAired_55 ?_
        refine PW.istore (L' := [some (.ref (gB g + 0)), some (.int c1), some (.long d2), none, some (.long d4), none, some (.int (v6 + 0)), some (.int d7), some (.int v8), none, none]) cx qL_isAired_56 hi6 rfl rfl ?_
        refine PW.iinc (v := 1) (L' := [some (.ref (gB g + 0)), some (.int c1), some (.long d2), none, some (.long d4), none, some (.int (v6 + 0)), some (.int d7), some (.int (v8 + 1)), none, none]) cx qL_isAired_58 rfl rfl hi8 rfl rfl ?_
        refine PW.goto cx qL_isAired_61 ?_
        exact PW.locs (Lsub.keep (Lsub.keep (Lsub.keep (Lsub.drop (Lsub.keep (Lsub.drop (Lsub.keep (Lsub.keep (Lsub.keep (Lsub.drop (Lsub.drop Lsub.nil))))))))))) (ih (v6 + 0) (v8 + 1) _ hf kx)
set_option maxRecDepth 20000 in
theorem lL_isAired_105 {g : GT} {X : XT} {ex : Bool} {post : Option Value → List Shp → Hp → Prop} {sh : List Shp} (mx : Mx g X mL_isAired 6 0 0) (hx : XSh sh) (h : Hp) (c1 : Int32) (d2 : Int64) (d7 : Int32) (d8 : Bool) : ∀ (n : Nat) (v9 : Int32) (v10 : Int32) (r : (Int32) ⊕ (Bool × Hp)) (hf : L_isAired_L105 h c1 n v9 v10 = some r) (kx : ∀ (x9 : Int32), r = .inl x9 → PW g X ex (QE g X ex post 0 0) 0 0 sh h 162 [some (.ref (gB g + 0)), some (.int c1), some (.long d2), none, none, none, none, some (.int d7), some (.int (b2i d8)), some (.int x9), none] []) (kr : ∀ y : Bool × Hp, r = .inr y → post (some (.int (b2i y.1))) sh y.2), PW g X ex (QE g X ex post 0 0) 0 0 sh h 105 [some (.ref (gB g + 0)), some (.int c1), some (.long d2), none, none, none, none, some (.int d7), some (.int (b2i d8)), some (.int v9), some (.int v10)] [] := by
  have mx0 := mx
  obtain ⟨cx, hR, hml, hrt, -⟩ := mx0
  have cx : Cx g X RL cL_isAired := cx
  have hrt : X.2.2.2.2.2.2.2.1.sig.returnType = (some .boolean) := hrt
  have hi2 : 2 < X.2.2.2.2.2.2.2.2.maxLocals := by rw [hml]; exact Nat.le_of_ble_eq_true rfl
  have hi3 : 3 < X.2.2.2.2.2.2.2.2.maxLocals := by rw [hml]; exact Nat.le_of_ble_eq_true rfl
  have hi4 : 4 < X.2.2.2.2.2.2.2.2.maxLocals := by rw [hml]; exact Nat.le_of_ble_eq_true rfl
  have hi5 : 5 < X.2.2.2.2.2.2.2.2.maxLocals := by rw [hml]; exact Nat.le_of_ble_eq_true rfl
  have hi6 : 6 < X.2.2.2.2.2.2.2.2.maxLocals := by rw [hml]; exact Nat.le_of_ble_eq_true rfl
  have hi7 : 7 < X.2.2.2.2.2.2.2.2.maxLocals := by rw [hml]; exact Nat.le_of_ble_eq_true rfl
  have hi8 : 8 < X.2.2.2.2.2.2.2.2.maxLocals := by rw [hml]; exact Nat.le_of_ble_eq_true rfl
  have hi9 : 9 < X.2.2.2.2.2.2.2.2.maxLocals := by rw [hml]; exact Nat.le_of_ble_eq_true rfl
  have hi10 : 10 < X.2.2.2.2.2.2.2.2.maxLocals := by rw [hml]; exact Nat.le_of_ble_eq_true rfl
  intro n
  induction n with
  | zero =>
    intro v9 v10 r hf kx kr
    cases hf
  | succ n ih =>
    intro v9 v10 r hf kx kr
    unfold L_isAired_L105 at hf
    refine PW.iload cx qL_isAired_105 rfl ?_
    refine PW.aload_n cx qL_isAired_107 rfl ?_
    refine PW.iload_n cx qL_isAired_108 rfl ?_
    refine PW.callVRI (As := [.int c1]) (st := [.int v10]) cx hR qL_isAired_109 klL_85 mvX6_bedCount (sh_0 hx) rfl rfl rfl rfl (Nat.le_of_ble_eq_true rfl) (Nat.le_of_ble_eq_true rfl) (Nat.le_of_ble_eq_true rfl) (Nat.zero_le _) (Nat.zero_le _) hf sne (fun t e => ctX6_bedCount hx h c1 t e) (fun t10 hf => ?_)
    refine PW.icmp_ge cx qL_isAired_112 hf (fun hf => ?_) (fun hf => ?_)
    · exact PW.locs (Lsub.keep (Lsub.keep (Lsub.keep (Lsub.drop (Lsub.drop (Lsub.drop (Lsub.drop (Lsub.keep (Lsub.keep (Lsub.keep (Lsub.drop Lsub.nil))))))))))) (kx v9 (Option.some.inj hf).symm)
    · refine PW.aload_n cx qL_isAired_115 rfl ?_
      refine PW.iload_n cx qL_isAired_116 rfl ?_
      refine PW.iload cx qL_isAired_117 rfl ?_
      refine PW.callVRI (As := [.int c1, .int v10]) (st := []) cx hR qL_isAired_119 klL_88 mvX6_bed (sh_0 hx) rfl rfl rfl rfl (Nat.le_of_ble_eq_true rfl) (Nat.le_of_ble_eq_true rfl) (Nat.le_of_ble_eq_true rfl) (Nat.zero_le _) (Nat.zero_le _) hf sne (fun t e => ctX6_bed hx h c1 v10 t e) (fun t11 hf => ?_)
      refine PW.bipush (v := (-2)) cx qL_isAired_122 rfl ?_
      refine PW.icmp_ne cx qL_isAired_124 hf (fun hf => ?_) (fun hf => ?_)
      · refine PW.iconst (v := 0) cx qL_isAired_127 rfl ?_
        exact PW.zret cx hrt nb0 qL_isAired_128 (kr _ (Option.some.inj hf).symm)
      · refine PW.aload_n cx qL_isAired_129 rfl ?_
        refine PW.iload_n cx qL_isAired_130 rfl ?_
        refine PW.iload cx qL_isAired_131 rfl ?_
        refine PW.callVRI (As := [.int c1, .int v10]) (st := []) cx hR qL_isAired_133 klL_88 mvX6_bed (sh_0 hx) rfl rfl rfl rfl (Nat.le_of_ble_eq_true rfl) (Nat.le_of_ble_eq_true rfl) (Nat.le_of_ble_eq_true rfl) (Nat.zero_le _) (Nat.zero_le _) hf sne (fun t e => ctX6_bed hx h c1 v10 t e) (fun t12 hf => ?_)
        refine PW.if_lt cx qL_isAired_136 hf (fun hf => ?_) (fun hf => ?_)
        · refine PW.iinc (v := 1) (L' := [some (.ref (gB g + 0)), some (.int c1), some (.long d2), none, none, none, none, some (.int d7), some (.int (b2i d8)), some (.int v9), some (.int (v10 + 1))]) cx qL_isAired_156 rfl rfl hi10 rfl rfl ?_
          refine PW.goto cx qL_isAired_159 ?_
          exact PW.locs (Lsub.keep (Lsub.keep (Lsub.keep (Lsub.drop (Lsub.drop (Lsub.drop (Lsub.drop (Lsub.keep (Lsub.keep (Lsub.keep (Lsub.keep Lsub.nil))))))))))) (ih v9 (v10 + 1) _ hf kx kr)
        · refine PW.iload cx qL_isAired_139 rfl ?_
          refine PW.aload_n cx qL_isAired_141 rfl ?_
          refine PW.aload_n cx qL_isAired_142 rfl ?_
          refine PW.iload_n cx qL_isAired_143 rfl ?_
          refine PW.iload cx qL_isAired_144 rfl ?_
          refine PW.callVRI (As := [.int c1, .int v10]) (st := [.ref (gB g + 0), .int v9]) cx hR qL_isAired_146 klL_88 mvX6_bed (sh_0 hx) rfl rfl rfl rfl (Nat.le_of_ble_eq_true rfl) (Nat.le_of_ble_eq_true rfl) (Nat.le_of_ble_eq_true rfl) (Nat.zero_le _) (Nat.zero_le _) hf sne (fun t e => ctX6_bed hx h c1 v10 t e) (fun t13 hf => ?_)
          refine PW.iload_n cx qL_isAired_149 rfl ?_
          refine PW.callVRI (As := [.int t13, .int c1]) (st := [.int v9]) cx hR qL_isAired_150 klL_110 mvX6_looksFor (sh_0 hx) rfl rfl rfl rfl (Nat.le_of_ble_eq_true rfl) (Nat.le_of_ble_eq_true rfl) (Nat.le_of_ble_eq_true rfl) (Nat.zero_le _) (Nat.zero_le _) hf sne (fun t e => ctX6_looksFor hx h t13 c1 t e) (fun t14 hf => ?_)
          refine PW.iadd cx qL_isAired_153 ?_
          refine PW.istore (L' := [some (.ref (gB g + 0)), some (.int c1), some (.long d2), none, none, none, none, some (.int d7), some (.int (b2i d8)), some (.int (v9 + t14)), some (.int v10)]) cx qL_isAired_154 hi9 rfl rfl ?_
          refine PW.iinc (v := 1) (L' := [some (.ref (gB g + 0)), some (.int c1), some (.long d2), none, none, none, none, some (.int d7), some (.int (b2i d8)), some (.int (v9 + t14)), some (.int (v10 + 1))]) cx qL_isAired_156 rfl rfl hi10 rfl rfl ?_
          refine PW.goto cx qL_isAired_159 ?_
          exact PW.locs (Lsub.keep (Lsub.keep (Lsub.keep (Lsub.drop (Lsub.drop (Lsub.drop (Lsub.drop (Lsub.keep (Lsub.keep (Lsub.keep (Lsub.keep Lsub.nil))))))))))) (ih (v9 + t14) (v10 + 1) _ hf kx kr)
set_option maxRecDepth 20000 in
theorem ctL_isAired {g : GT} {ex : Bool} {sh : List Shp} (hx : XSh sh) (h : Hp) (p2 : Int32) (r0 : Bool × Hp) (hf : L_isAired h p2 = some r0) : Ct g mL_isAired 6 0 0 ex [.ref (gB g + 0), .int p2] sh h (PE (some (.int (b2i r0.1))) sh r0.2) := by
  refine Ct.of (L := [some (.ref (gB g + 0)), some (.int p2), none, none, none, none, none, none, none, none, none]) (by decide) (by intro w hw; simp only [List.mem_cons, List.not_mem_nil, or_false] at hw; rcases hw with rfl | rfl <;> rfl) (Nat.le_of_ble_eq_true rfl) rfl (fun X mx => ?_)
  have mx0 := mx
  obtain ⟨cx, hR, hml, hrt, -⟩ := mx0
  have cx : Cx g X RL cL_isAired := cx
  have hrt : X.2.2.2.2.2.2.2.1.sig.returnType = (some .boolean) := hrt
  have hi2 : 2 < X.2.2.2.2.2.2.2.2.maxLocals := by rw [hml]; exact Nat.le_of_ble_eq_true rfl
  have hi3 : 3 < X.2.2.2.2.2.2.2.2.maxLocals := by rw [hml]; exact Nat.le_of_ble_eq_true rfl
  have hi4 : 4 < X.2.2.2.2.2.2.2.2.maxLocals := by rw [hml]; exact Nat.le_of_ble_eq_true rfl
  have hi5 : 5 < X.2.2.2.2.2.2.2.2.maxLocals := by rw [hml]; exact Nat.le_of_ble_eq_true rfl
  have hi6 : 6 < X.2.2.2.2.2.2.2.2.maxLocals := by rw [hml]; exact Nat.le_of_ble_eq_true rfl
  have hi7 : 7 < X.2.2.2.2.2.2.2.2.maxLocals := by rw [hml]; exact Nat.le_of_ble_eq_true rfl
  have hi8 : 8 < X.2.2.2.2.2.2.2.2.maxLocals := by rw [hml]; exact Nat.le_of_ble_eq_true rfl
  have hi9 : 9 < X.2.2.2.2.2.2.2.2.maxLocals := by rw [hml]; exact Nat.le_of_ble_eq_true rfl
  have hi10 : 10 < X.2.2.2.2.2.2.2.2.maxLocals := by rw [hml]; exact Nat.le_of_ble_eq_true rfl
  unfold L_isAired at hf
  refine PW.aload_n cx qL_isAired_0 rfl ?_
  refine PW.iconst (v := 1) cx qL_isAired_1 rfl ?_
  refine PW.callSRJ (As := [.ref (gB g + 0), .int 1]) (st := []) cx hR qL_isAired_2 klL_142 miL_sum rfl rfl (Nat.le_of_ble_eq_true rfl) (Nat.le_of_ble_eq_true rfl) (Nat.le_of_ble_eq_true rfl) (Nat.zero_le _) (Nat.zero_le _) hf sne (fun t e => ctL_sum hx h true t e) (fun t1 hf => ?_)
  refine PW.lstore_n (L' := [some (.ref (gB g + 0)), some (.int p2), some (.long t1), none, none, none, none, none, none, none, none]) cx qL_isAired_5 hi3 rfl rfl ?_
  refine PW.aload_n cx qL_isAired_6 rfl ?_
  refine PW.iconst (v := 0) cx qL_isAired_7 rfl ?_
  refine PW.callSRJ (As := [.ref (gB g + 0), .int 0]) (st := []) cx hR qL_isAired_8 klL_142 miL_sum rfl rfl (Nat.le_of_ble_eq_true rfl) (Nat.le_of_ble_eq_true rfl) (Nat.le_of_ble_eq_true rfl) (Nat.zero_le _) (Nat.zero_le _) hf sne (fun t e => ctL_sum hx h false t e) (fun t2 hf => ?_)
  refine PW.lstore (L' := [some (.ref (gB g + 0)), some (.int p2), some (.long t1), none, some (.long t2), none, none, none, none, none, none]) cx qL_isAired_11 hi5 rfl rfl ?_
  refine PW.iconst (v := 0) cx qL_isAired_13 rfl ?_
  refine PW.istore (L' := [some (.ref (gB g + 0)), some (.int p2), some (.long t1), none, some (.long t2), none, some (.int 0), none, none, none, none]) cx qL_isAired_14 hi6 rfl rfl ?_
  refine PW.aload_n cx qL_isAired_16 rfl ?_
  refine PW.iload_n cx qL_isAired_17 rfl ?_
  refine PW.callVWIc (As := [.int p2]) (st := []) cx hR qL_isAired_18 klL_146 mvX6_looksIfAired (sh_0 hx) rfl rfl rfl rfl (Nat.le_of_ble_eq_true rfl) (Nat.le_of_ble_eq_true rfl) (Nat.le_of_ble_eq_true rfl) (Nat.zero_le _) (Nat.zero_le _) hf sne (fun t e => ctX6_looksIfAired hx h p2 t e) (fun t3 h4 hf => ?_)
  refine PW.istore (L' := [some (.ref (gB g + 0)), some (.int p2), some (.long t1), none, some (.long t2), none, some (.int 0), some (.int t3), none, none, none]) cx qL_isAired_21 hi7 rfl rfl ?_
  refine PW.iconst (v := 0) cx qL_isAired_23 rfl ?_
  refine PW.istore (L' := [some (.ref (gB g + 0)), some (.int p2), some (.long t1), none, some (.long t2), none, some (.int 0), some (.int t3), some (.int 0), none, none]) cx qL_isAired_24 hi8 rfl rfl ?_
  obtain ⟨r7, er7, hf⟩ := bndO hf sne
  refine PW.locs (Lsub.keep (Lsub.keep (Lsub.keep (Lsub.drop (Lsub.keep (Lsub.drop (Lsub.keep (Lsub.keep (Lsub.keep (Lsub.drop (Lsub.drop Lsub.nil))))))))))) (lL_isAired_26 mx hx h4 p2 t1 t2 t3 FU 0 0 r7 er7 (fun xx_ e => ?_))
  subst e
  refine PW.aload_n cx qL_isAired_64 rfl ?_
  refine PW.iload_n cx qL_isAired_65 rfl ?_
  refine PW.callVWIc (As := [.int p2]) (st := []) cx hR qL_isAired_66 klL_40 mvX6_air (sh_0 hx) rfl rfl rfl rfl (Nat.le_of_ble_eq_true rfl) (Nat.le_of_ble_eq_true rfl) (Nat.le_of_ble_eq_true rfl) (Nat.zero_le _) (Nat.zero_le _) hf sne (fun t e => ctX6_air hx h4 p2 t e) (fun t8 h9 hf => ?_)
  refine PW.iload cx qL_isAired_69 rfl ?_
  obtain ⟨j97, ej97, hf⟩ := lt_split hf
  have hj97 : ∀ (z0_97 : Bool), j97 z0_97 = some r0 → PW g X ex (QE g X ex (PE (some (.int (b2i r0.1))) sh r0.2) 0 0) 0 0 sh h9 97 [some (.ref (gB g + 0)), some (.int p2), some (.long t1), none, none, none, none, some (.int t3), none, none, none] [.int (b2i z0_97)] := by
    intro z0_97 hf
    rw [ej97] at hf
    refine PW.istore (L' := [some (.ref (gB g + 0)), some (.int p2), some (.long t1), none, none, none, none, some (.int t3), some (.int (b2i z0_97)), none, none]) cx qL_isAired_97 hi8 rfl rfl ?_
    refine PW.iconst (v := 0) cx qL_isAired_99 rfl ?_
    refine PW.istore (L' := [some (.ref (gB g + 0)), some (.int p2), some (.long t1), none, none, none, none, some (.int t3), some (.int (b2i z0_97)), some (.int 0), none]) cx qL_isAired_100 hi9 rfl rfl ?_
    refine PW.iconst (v := 0) cx qL_isAired_102 rfl ?_
    refine PW.istore (L' := [some (.ref (gB g + 0)), some (.int p2), some (.long t1), none, none, none, none, some (.int t3), some (.int (b2i z0_97)), some (.int 0), some (.int 0)]) cx qL_isAired_103 hi10 rfl rfl ?_
    obtain ⟨r15, er15, hf⟩ := bndO hf sne
    refine PW.locs (Lsub.keep (Lsub.keep (Lsub.keep (Lsub.drop (Lsub.drop (Lsub.drop (Lsub.drop (Lsub.keep (Lsub.keep (Lsub.keep (Lsub.keep Lsub.nil))))))))))) (lL_isAired_105 mx hx h9 p2 t1 t3 z0_97 FU 0 0 r15 er15 (fun x9_16 e => ?_) (fun y e => ?_))
    · subst e
      refine PW.iload cx qL_isAired_162 rfl ?_
      obtain ⟨j197, ej197, hf⟩ := lt_split hf
      have hj197 : ∀ (z0_197 : Bool) (h_197 : Hp), j197 z0_197 h_197 = some r0 → PW g X ex (QE g X ex (PE (some (.int (b2i r0.1))) sh r0.2) 0 0) 0 0 sh h_197 197 [some (.ref (gB g + 0)), none, some (.long t1), none, none, none, none, none, none, none, none] [.int (b2i z0_197)] := by
        intro z0_197 h_197 hf
        rw [ej197] at hf
        refine PW.istore (L' := [some (.ref (gB g + 0)), none, some (.long t1), none, none, none, none, none, some (.int (b2i z0_197)), none, none]) cx qL_isAired_197 hi8 rfl rfl ?_
        refine PW.aload_n cx qL_isAired_199 rfl ?_
        refine PW.callVWIc (As := []) (st := []) cx hR qL_isAired_200 klL_153 mvX6_undo (sh_0 hx) rfl rfl rfl rfl (Nat.le_of_ble_eq_true rfl) (Nat.le_of_ble_eq_true rfl) (Nat.le_of_ble_eq_true rfl) (Nat.zero_le _) (Nat.zero_le _) hf sne (fun t e => ctX6_undo hx h_197 t e) (fun t17 h18 hf => ?_)
        refine PW.pop cx qL_isAired_203 rfl ?_
        refine PW.aload_n cx qL_isAired_204 rfl ?_
        refine PW.callVWIc (As := []) (st := []) cx hR qL_isAired_205 klL_153 mvX6_undo (sh_0 hx) rfl rfl rfl rfl (Nat.le_of_ble_eq_true rfl) (Nat.le_of_ble_eq_true rfl) (Nat.le_of_ble_eq_true rfl) (Nat.zero_le _) (Nat.zero_le _) hf sne (fun t e => ctX6_undo hx h18 t e) (fun t19 h20 hf => ?_)
        refine PW.pop cx qL_isAired_208 rfl ?_
        refine PW.iload cx qL_isAired_209 rfl ?_
        refine PW.if_eq cx qL_isAired_211 hf (fun hf => ?_) (fun hf => ?_)
        · refine PW.iconst (v := 0) cx qL_isAired_228 rfl ?_
          exact PW.zret cx hrt nb0 qL_isAired_229 (le_wz hf)
        · refine PW.aload_n cx qL_isAired_214 rfl ?_
          refine PW.iconst (v := 1) cx qL_isAired_215 rfl ?_
          refine PW.callSRJ (As := [.ref (gB g + 0), .int 1]) (st := []) cx hR qL_isAired_216 klL_142 miL_sum rfl rfl (Nat.le_of_ble_eq_true rfl) (Nat.le_of_ble_eq_true rfl) (Nat.le_of_ble_eq_true rfl) (Nat.zero_le _) (Nat.zero_le _) hf sne (fun t e => ctL_sum hx h20 true t e) (fun t21 hf => ?_)
          refine PW.lload_n cx qL_isAired_219 rfl ?_
          refine PW.lcmp cx qL_isAired_220 ?_
          refine PW.if_ne cx qL_isAired_221 hf (fun hf => ?_) (fun hf => ?_)
          · refine PW.iconst (v := 1) cx qL_isAired_224 rfl ?_
            refine PW.goto cx qL_isAired_225 ?_
            exact PW.zret cx hrt nb1 qL_isAired_229 (le_wz hf)
          · refine PW.iconst (v := 0) cx qL_isAired_228 rfl ?_
            exact PW.zret cx hrt nb0 qL_isAired_229 (le_wz hf)
      obtain ⟨j196, ej196, hf⟩ := lt_split hf
      have hj196 : ∀ (h_196 : Hp), j196 h_196 = some r0 → PW g X ex (QE g X ex (PE (some (.int (b2i r0.1))) sh r0.2) 0 0) 0 0 sh h_196 196 [some (.ref (gB g + 0)), none, some (.long t1), none, none, none, none, none, none, none, none] [] := by
        intro h_196 hf
        rw [ej196] at hf
        refine PW.iconst (v := 0) cx qL_isAired_196 rfl ?_
        exact PW.locs (Lsub.keep (Lsub.drop (Lsub.keep (Lsub.drop (Lsub.drop (Lsub.drop (Lsub.drop (Lsub.drop (Lsub.drop (Lsub.drop (Lsub.drop Lsub.nil))))))))))) (hj197 false h_196 hf)
      refine PW.if_eq cx qL_isAired_164 hf (fun hf => ?_) (fun hf => ?_)
      · exact PW.locs (Lsub.keep (Lsub.drop (Lsub.keep (Lsub.drop (Lsub.drop (Lsub.drop (Lsub.drop (Lsub.drop (Lsub.drop (Lsub.drop (Lsub.drop Lsub.nil))))))))))) (hj196 h9 hf)
      · refine PW.iload cx qL_isAired_167 rfl ?_
        refine PW.iload cx qL_isAired_169 rfl ?_
        refine PW.icmp_ne cx qL_isAired_171 hf (fun hf => ?_) (fun hf => ?_)
        · refine PW.aload_n cx qL_isAired_174 rfl ?_
          refine PW.iload_n cx qL_isAired_175 rfl ?_
          refine PW.callVWIc (As := [.int p2]) (st := []) cx hR qL_isAired_176 klL_146 mvX6_looksIfAired (sh_0 hx) rfl rfl rfl rfl (Nat.le_of_ble_eq_true rfl) (Nat.le_of_ble_eq_true rfl) (Nat.le_of_ble_eq_true rfl) (Nat.zero_le _) (Nat.zero_le _) hf sne (fun t e => ctX6_looksIfAired hx h9 p2 t e) (fun t22 h23 hf => ?_)
          refine PW.iload cx qL_isAired_179 rfl ?_
          refine PW.icmp_ne cx qL_isAired_181 hf (fun hf => ?_) (fun hf => ?_)
          · refine PW.aload_n cx qL_isAired_184 rfl ?_
            refine PW.iload_n cx qL_isAired_185 rfl ?_
            refine PW.callVWIc (As := [.int p2]) (st := []) cx hR qL_isAired_186 klL_40 mvX6_air (sh_0 hx) rfl rfl rfl rfl (Nat.le_of_ble_eq_true rfl) (Nat.le_of_ble_eq_true rfl) (Nat.le_of_ble_eq_true rfl) (Nat.zero_le _) (Nat.zero_le _) hf sne (fun t e => ctX6_air hx h23 p2 t e) (fun t24 h25 hf => ?_)
            refine PW.if_ne cx qL_isAired_189 hf (fun hf => ?_) (fun hf => ?_)
            · refine PW.iconst (v := 1) cx qL_isAired_192 rfl ?_
              refine PW.goto cx qL_isAired_193 ?_
              exact PW.locs (Lsub.keep (Lsub.drop (Lsub.keep (Lsub.drop (Lsub.drop (Lsub.drop (Lsub.drop (Lsub.drop (Lsub.drop (Lsub.drop (Lsub.drop Lsub.nil))))))))))) (hj197 true h25 hf)
            · exact PW.locs (Lsub.keep (Lsub.drop (Lsub.keep (Lsub.drop (Lsub.drop (Lsub.drop (Lsub.drop (Lsub.drop (Lsub.drop (Lsub.drop (Lsub.drop Lsub.nil))))))))))) (hj196 h25 hf)
          · exact PW.locs (Lsub.keep (Lsub.drop (Lsub.keep (Lsub.drop (Lsub.drop (Lsub.drop (Lsub.drop (Lsub.drop (Lsub.drop (Lsub.drop (Lsub.drop Lsub.nil))))))))))) (hj196 h23 hf)
        · exact PW.locs (Lsub.keep (Lsub.drop (Lsub.keep (Lsub.drop (Lsub.drop (Lsub.drop (Lsub.drop (Lsub.drop (Lsub.drop (Lsub.drop (Lsub.drop Lsub.nil))))))))))) (hj196 h9 hf)
    · subst e
      exact (le_wz hf)
  obtain ⟨j96, ej96, hf⟩ := lt_split hf
  have hj96 : ∀ (u_96 : Unit), j96 u_96 = some r0 → PW g X ex (QE g X ex (PE (some (.int (b2i r0.1))) sh r0.2) 0 0) 0 0 sh h9 96 [some (.ref (gB g + 0)), some (.int p2), some (.long t1), none, none, none, none, some (.int t3), none, none, none] [] := by
    intro u_96 hf
    rw [ej96] at hf
    refine PW.iconst (v := 0) cx qL_isAired_96 rfl ?_
    exact PW.locs (Lsub.keep (Lsub.keep (Lsub.keep (Lsub.drop (Lsub.drop (Lsub.drop (Lsub.drop (Lsub.keep (Lsub.drop (Lsub.drop (Lsub.drop Lsub.nil))))))))))) (hj97 false hf)
  refine PW.icmp_ne cx qL_isAired_71 hf (fun hf => ?_) (fun hf => ?_)
  · refine PW.aload_n cx qL_isAired_74 rfl ?_
    refine PW.iconst (v := 0) cx qL_isAired_75 rfl ?_
    refine PW.callSRJ (As := [.ref (gB g + 0), .int 0]) (st := []) cx hR qL_isAired_76 klL_142 miL_sum rfl rfl (Nat.le_of_ble_eq_true rfl) (Nat.le_of_ble_eq_true rfl) (Nat.le_of_ble_eq_true rfl) (Nat.zero_le _) (Nat.zero_le _) hf sne (fun t e => ctL_sum hx h9 false t e) (fun t26 hf => ?_)
    refine PW.lload cx qL_isAired_79 rfl ?_
    refine PW.lcmp cx qL_isAired_81 ?_
    refine PW.if_ne cx qL_isAired_82 hf (fun hf => ?_) (fun hf => ?_)
    · refine PW.aload_n cx qL_isAired_85 rfl ?_
      refine PW.callSRB (As := [.ref (gB g + 0)]) (st := []) cx hR qL_isAired_86 klL_149 miL_holds rfl rfl (Nat.le_of_ble_eq_true rfl) (Nat.le_of_ble_eq_true rfl) (Nat.le_of_ble_eq_true rfl) (Nat.zero_le _) (Nat.zero_le _) hf sne (fun t e => ctL_holds hx h9 t e) (fun t27 hf => ?_)
      refine PW.if_eq cx qL_isAired_89 hf (fun hf => ?_) (fun hf => ?_)
      · exact PW.locs (Lsub.keep (Lsub.keep (Lsub.keep (Lsub.drop (Lsub.drop (Lsub.drop (Lsub.drop (Lsub.keep (Lsub.drop (Lsub.drop (Lsub.drop Lsub.nil))))))))))) (hj96 () hf)
      · refine PW.iconst (v := 1) cx qL_isAired_92 rfl ?_
        refine PW.goto cx qL_isAired_93 ?_
        exact PW.locs (Lsub.keep (Lsub.keep (Lsub.keep (Lsub.drop (Lsub.drop (Lsub.drop (Lsub.drop (Lsub.keep (Lsub.drop (Lsub.drop (Lsub.drop Lsub.nil))))))))))) (hj97 true hf)
    · exact PW.locs (Lsub.keep (Lsub.keep (Lsub.keep (Lsub.drop (Lsub.drop (Lsub.drop (Lsub.drop (Lsub.keep (Lsub.drop (Lsub.drop (Lsub.drop Lsub.nil))))))))))) (hj96 () hf)
  · exact PW.locs (Lsub.keep (Lsub.keep (Lsub.keep (Lsub.drop (Lsub.drop (Lsub.drop (Lsub.drop (Lsub.keep (Lsub.drop (Lsub.drop (Lsub.drop Lsub.nil))))))))))) (hj96 () hf)
set_option maxRecDepth 20000 in
theorem ctL_isSame {g : GT} {ex : Bool} {sh : List Shp} (hx : XSh sh) (h : Hp) (p2 : Int32) (p3 : Int32) (r0 : Bool × Hp) (hf : L_isSame h p2 p3 = some r0) : Ct g mL_isSame 5 0 0 ex [.ref (gB g + 0), .int p2, .int p3] sh h (PE (some (.int (b2i r0.1))) sh r0.2) := by
  refine Ct.of (L := [some (.ref (gB g + 0)), some (.int p2), some (.int p3), none, none, none, none, none, none]) (by decide) (by intro w hw; simp only [List.mem_cons, List.not_mem_nil, or_false] at hw; rcases hw with rfl | rfl | rfl <;> rfl) (Nat.le_of_ble_eq_true rfl) rfl (fun X mx => ?_)
  obtain ⟨cx, hR, hml, hrt, -⟩ := mx
  have cx : Cx g X RL cL_isSame := cx
  have hrt : X.2.2.2.2.2.2.2.1.sig.returnType = (some .boolean) := hrt
  have hi3 : 3 < X.2.2.2.2.2.2.2.2.maxLocals := by rw [hml]; exact Nat.le_of_ble_eq_true rfl
  have hi4 : 4 < X.2.2.2.2.2.2.2.2.maxLocals := by rw [hml]; exact Nat.le_of_ble_eq_true rfl
  have hi5 : 5 < X.2.2.2.2.2.2.2.2.maxLocals := by rw [hml]; exact Nat.le_of_ble_eq_true rfl
  have hi6 : 6 < X.2.2.2.2.2.2.2.2.maxLocals := by rw [hml]; exact Nat.le_of_ble_eq_true rfl
  have hi7 : 7 < X.2.2.2.2.2.2.2.2.maxLocals := by rw [hml]; exact Nat.le_of_ble_eq_true rfl
  have hi8 : 8 < X.2.2.2.2.2.2.2.2.maxLocals := by rw [hml]; exact Nat.le_of_ble_eq_true rfl
  unfold L_isSame at hf
  refine PW.aload_n cx qL_isSame_0 rfl ?_
  refine PW.callVRI (As := []) (st := []) cx hR qL_isSame_1 klL_76 mvX6_week (sh_0 hx) rfl rfl rfl rfl (Nat.le_of_ble_eq_true rfl) (Nat.le_of_ble_eq_true rfl) (Nat.le_of_ble_eq_true rfl) (Nat.zero_le _) (Nat.zero_le _) hf sne (fun t e => ctX6_week hx h t e) (fun t1 hf => ?_)
  refine PW.iload_n cx qL_isSame_4 rfl ?_
  refine PW.iadd cx qL_isSame_5 ?_
  refine PW.iload_n cx qL_isSame_6 rfl ?_
  refine PW.iadd cx qL_isSame_7 ?_
  refine PW.sipush (v := 999) cx qL_isSame_8 rfl ?_
  refine PW.icmp_le cx qL_isSame_11 hf (fun hf => ?_) (fun hf => ?_)
  · refine PW.aload_n cx qL_isSame_16 rfl ?_
    refine PW.iconst (v := 1) cx qL_isSame_17 rfl ?_
    refine PW.callSRJ (As := [.ref (gB g + 0), .int 1]) (st := []) cx hR qL_isSame_18 klL_142 miL_sum rfl rfl (Nat.le_of_ble_eq_true rfl) (Nat.le_of_ble_eq_true rfl) (Nat.le_of_ble_eq_true rfl) (Nat.zero_le _) (Nat.zero_le _) hf sne (fun t e => ctL_sum hx h true t e) (fun t2 hf => ?_)
    refine PW.lstore_n (L' := [some (.ref (gB g + 0)), some (.int p2), some (.int p3), some (.long t2), none, none, none, none, none]) cx qL_isSame_21 hi4 rfl rfl ?_
    refine PW.aload_n cx qL_isSame_22 rfl ?_
    refine PW.callVWIc (As := []) (st := []) cx hR qL_isSame_23 klL_156 mvX6_saveSnapshot (sh_0 hx) rfl rfl rfl rfl (Nat.le_of_ble_eq_true rfl) (Nat.le_of_ble_eq_true rfl) (Nat.le_of_ble_eq_true rfl) (Nat.zero_le _) (Nat.zero_le _) hf sne (fun t e => ctX6_saveSnapshot hx h t e) (fun t3 h4 hf => ?_)
    refine PW.pop cx qL_isSame_26 rfl ?_
    refine PW.aload_n cx qL_isSame_27 rfl ?_
    refine PW.iload_n cx qL_isSame_28 rfl ?_
    refine PW.iload_n cx qL_isSame_29 rfl ?_
    refine PW.iadd cx qL_isSame_30 ?_
    refine PW.callVWIc (As := [.int (p2 + p3)]) (st := []) cx hR qL_isSame_31 klL_79 mvX6_passWeeks (sh_0 hx) rfl rfl rfl rfl (Nat.le_of_ble_eq_true rfl) (Nat.le_of_ble_eq_true rfl) (Nat.le_of_ble_eq_true rfl) (Nat.zero_le _) (Nat.zero_le _) hf sne (fun t e => ctX6_passWeeks hx h4 (p2 + p3) t e) (fun t5 h6 hf => ?_)
    refine PW.istore (L' := [some (.ref (gB g + 0)), some (.int p2), some (.int p3), some (.long t2), none, some (.int t5), none, none, none]) cx qL_isSame_34 hi5 rfl rfl ?_
    refine PW.aload_n cx qL_isSame_36 rfl ?_
    refine PW.iconst (v := 1) cx qL_isSame_37 rfl ?_
    refine PW.callSRJ (As := [.ref (gB g + 0), .int 1]) (st := []) cx hR qL_isSame_38 klL_142 miL_sum rfl rfl (Nat.le_of_ble_eq_true rfl) (Nat.le_of_ble_eq_true rfl) (Nat.le_of_ble_eq_true rfl) (Nat.zero_le _) (Nat.zero_le _) hf sne (fun t e => ctL_sum hx h6 true t e) (fun t7 hf => ?_)
    refine PW.lstore (L' := [some (.ref (gB g + 0)), some (.int p2), some (.int p3), some (.long t2), none, some (.int t5), some (.long t7), none, none]) cx qL_isSame_41 hi7 rfl rfl ?_
    refine PW.aload_n cx qL_isSame_43 rfl ?_
    refine PW.callVWIc (As := []) (st := []) cx hR qL_isSame_44 klL_159 mvX6_restoreSnapshot (sh_0 hx) rfl rfl rfl rfl (Nat.le_of_ble_eq_true rfl) (Nat.le_of_ble_eq_true rfl) (Nat.le_of_ble_eq_true rfl) (Nat.zero_le _) (Nat.zero_le _) hf sne (fun t e => ctX6_restoreSnapshot hx h6 t e) (fun t8 h9 hf => ?_)
    refine PW.pop cx qL_isSame_47 rfl ?_
    refine PW.aload_n cx qL_isSame_48 rfl ?_
    refine PW.iload_n cx qL_isSame_49 rfl ?_
    refine PW.callVWIc (As := [.int p2]) (st := []) cx hR qL_isSame_50 klL_79 mvX6_passWeeks (sh_0 hx) rfl rfl rfl rfl (Nat.le_of_ble_eq_true rfl) (Nat.le_of_ble_eq_true rfl) (Nat.le_of_ble_eq_true rfl) (Nat.zero_le _) (Nat.zero_le _) hf sne (fun t e => ctX6_passWeeks hx h9 p2 t e) (fun t10 h11 hf => ?_)
    refine PW.aload_n cx qL_isSame_53 rfl ?_
    refine PW.iload_n cx qL_isSame_54 rfl ?_
    refine PW.callVWIc (As := [.int p3]) (st := [.int t10]) cx hR qL_isSame_55 klL_79 mvX6_passWeeks (sh_0 hx) rfl rfl rfl rfl (Nat.le_of_ble_eq_true rfl) (Nat.le_of_ble_eq_true rfl) (Nat.le_of_ble_eq_true rfl) (Nat.zero_le _) (Nat.zero_le _) hf sne (fun t e => ctX6_passWeeks hx h11 p3 t e) (fun t12 h13 hf => ?_)
    refine PW.iadd cx qL_isSame_58 ?_
    refine PW.iload cx qL_isSame_59 rfl ?_
    obtain ⟨j80, ej80, hf⟩ := lt_split hf
    have hj80 : ∀ (z0_80 : Bool), j80 z0_80 = some r0 → PW g X ex (QE g X ex (PE (some (.int (b2i r0.1))) sh r0.2) 0 0) 0 0 sh h13 80 [some (.ref (gB g + 0)), none, none, some (.long t2), none, none, none, none, none] [.int (b2i z0_80)] := by
      intro z0_80 hf
      rw [ej80] at hf
      refine PW.istore (L' := [some (.ref (gB g + 0)), none, none, some (.long t2), none, none, none, none, some (.int (b2i z0_80))]) cx qL_isSame_80 hi8 rfl rfl ?_
      refine PW.aload_n cx qL_isSame_82 rfl ?_
      refine PW.callVWIc (As := []) (st := []) cx hR qL_isSame_83 klL_159 mvX6_restoreSnapshot (sh_0 hx) rfl rfl rfl rfl (Nat.le_of_ble_eq_true rfl) (Nat.le_of_ble_eq_true rfl) (Nat.le_of_ble_eq_true rfl) (Nat.zero_le _) (Nat.zero_le _) hf sne (fun t e => ctX6_restoreSnapshot hx h13 t e) (fun t14 h15 hf => ?_)
      refine PW.pop cx qL_isSame_86 rfl ?_
      refine PW.iload cx qL_isSame_87 rfl ?_
      refine PW.if_eq cx qL_isSame_89 hf (fun hf => ?_) (fun hf => ?_)
      · refine PW.iconst (v := 0) cx qL_isSame_106 rfl ?_
        exact PW.zret cx hrt nb0 qL_isSame_107 (le_wz hf)
      · refine PW.aload_n cx qL_isSame_92 rfl ?_
        refine PW.iconst (v := 1) cx qL_isSame_93 rfl ?_
        refine PW.callSRJ (As := [.ref (gB g + 0), .int 1]) (st := []) cx hR qL_isSame_94 klL_142 miL_sum rfl rfl (Nat.le_of_ble_eq_true rfl) (Nat.le_of_ble_eq_true rfl) (Nat.le_of_ble_eq_true rfl) (Nat.zero_le _) (Nat.zero_le _) hf sne (fun t e => ctL_sum hx h15 true t e) (fun t16 hf => ?_)
        refine PW.lload_n cx qL_isSame_97 rfl ?_
        refine PW.lcmp cx qL_isSame_98 ?_
        refine PW.if_ne cx qL_isSame_99 hf (fun hf => ?_) (fun hf => ?_)
        · refine PW.iconst (v := 1) cx qL_isSame_102 rfl ?_
          refine PW.goto cx qL_isSame_103 ?_
          exact PW.zret cx hrt nb1 qL_isSame_107 (le_wz hf)
        · refine PW.iconst (v := 0) cx qL_isSame_106 rfl ?_
          exact PW.zret cx hrt nb0 qL_isSame_107 (le_wz hf)
    obtain ⟨j79, ej79, hf⟩ := lt_split hf
    have hj79 : ∀ (u_79 : Unit), j79 u_79 = some r0 → PW g X ex (QE g X ex (PE (some (.int (b2i r0.1))) sh r0.2) 0 0) 0 0 sh h13 79 [some (.ref (gB g + 0)), none, none, some (.long t2), none, none, none, none, none] [] := by
      intro u_79 hf
      rw [ej79] at hf
      refine PW.iconst (v := 0) cx qL_isSame_79 rfl ?_
      exact PW.locs (Lsub.keep (Lsub.drop (Lsub.drop (Lsub.keep (Lsub.drop (Lsub.drop (Lsub.drop (Lsub.drop (Lsub.drop Lsub.nil))))))))) (hj80 false hf)
    refine PW.icmp_ne cx qL_isSame_61 hf (fun hf => ?_) (fun hf => ?_)
    · refine PW.aload_n cx qL_isSame_64 rfl ?_
      refine PW.iconst (v := 1) cx qL_isSame_65 rfl ?_
      refine PW.callSRJ (As := [.ref (gB g + 0), .int 1]) (st := []) cx hR qL_isSame_66 klL_142 miL_sum rfl rfl (Nat.le_of_ble_eq_true rfl) (Nat.le_of_ble_eq_true rfl) (Nat.le_of_ble_eq_true rfl) (Nat.zero_le _) (Nat.zero_le _) hf sne (fun t e => ctL_sum hx h13 true t e) (fun t17 hf => ?_)
      refine PW.lload cx qL_isSame_69 rfl ?_
      refine PW.lcmp cx qL_isSame_71 ?_
      refine PW.if_ne cx qL_isSame_72 hf (fun hf => ?_) (fun hf => ?_)
      · refine PW.iconst (v := 1) cx qL_isSame_75 rfl ?_
        refine PW.goto cx qL_isSame_76 ?_
        exact PW.locs (Lsub.keep (Lsub.drop (Lsub.drop (Lsub.keep (Lsub.drop (Lsub.drop (Lsub.drop (Lsub.drop (Lsub.drop Lsub.nil))))))))) (hj80 true hf)
      · exact PW.locs (Lsub.keep (Lsub.drop (Lsub.drop (Lsub.keep (Lsub.drop (Lsub.drop (Lsub.drop (Lsub.drop (Lsub.drop Lsub.nil))))))))) (hj79 () hf)
    · exact PW.locs (Lsub.keep (Lsub.drop (Lsub.drop (Lsub.keep (Lsub.drop (Lsub.drop (Lsub.drop (Lsub.drop (Lsub.drop Lsub.nil))))))))) (hj79 () hf)
  · refine PW.iconst (v := 1) cx qL_isSame_14 rfl ?_
    exact PW.zret cx hrt nb1 qL_isSame_15 (le_wz hf)
