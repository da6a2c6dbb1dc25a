set_option maxRecDepth 20000 in
set_option maxHeartbeats 4000000 in
theorem ctStep {g : GT} {X : XT} {Q : State → Prop} {cells slots : Nat} {sh : List Shp} {i c : Int32} (hx : XSh sh) (cx : Cx g X RL code) (hR : RmG X.2.2.1 12 600086 7301442) (hml : X.2.2.2.2.2.2.2.2.maxLocals = 8) (hc : cells ≤ 600086) (hs : slots ≤ 7301442) (h r : Hp) (hf : L_step h i c = some r) (kk : PW g X false Q cells slots sh r 161 [some (.ref (ga g 60)), some (.ref (gB g + 0)), some (.int i), none, none, none, none, none] []) : PW g X false Q cells slots sh h 30 [some (.ref (ga g 60)), some (.ref (gB g + 0)), some (.int i), none, none, none, none, none] [.int c] := by
  have hi2 : 2 < X.2.2.2.2.2.2.2.2.maxLocals := by rw [hml]; exact Nat.le_of_ble_eq_true rfl
  have hi3 : 3 < X.2.2.2.2.2.2.2.2.maxLocals := by rw [hml]; exact Nat.le_of_ble_eq_true rfl
  have hi4 : 4 < X.2.2.2.2.2.2.2.2.maxLocals := by rw [hml]; exact Nat.le_of_ble_eq_true rfl
  have hi5 : 5 < X.2.2.2.2.2.2.2.2.maxLocals := by rw [hml]; exact Nat.le_of_ble_eq_true rfl
  have hi6 : 6 < X.2.2.2.2.2.2.2.2.maxLocals := by rw [hml]; exact Nat.le_of_ble_eq_true rfl
  have hi7 : 7 < X.2.2.2.2.2.2.2.2.maxLocals := by rw [hml]; exact Nat.le_of_ble_eq_true rfl
  unfold L_step at hf
  refine PW.istore_n (L' := [some (.ref (ga g 60)), some (.ref (gB g + 0)), some (.int i), some (.int c), none, none, none, none]) cx qL_law_30 hi3 rfl rfl ?_
  refine PW.aload_n cx qL_law_31 rfl ?_
  refine PW.callVRI (As := []) (st := []) cx hR qL_law_32 klL_167 mvX6_undoCount (sh_0 hx) rfl rfl rfl rfl (Nat.le_of_ble_eq_true rfl) (Nat.le_of_ble_eq_true rfl) (Nat.le_of_ble_eq_true rfl) hc hs hf sne (fun t e => ctX6_undoCount hx h t e) (fun t1 hf => ?_)
  refine PW.istore (L' := [some (.ref (ga g 60)), some (.ref (gB g + 0)), some (.int i), some (.int c), some (.int t1), none, none, none]) cx qL_law_35 hi4 rfl rfl ?_
  refine PW.aload_n cx qL_law_37 rfl ?_
  refine PW.iconst (v := 1) cx qL_law_38 rfl ?_
  refine PW.callSRJ (As := [.ref (gB g + 0), .int 1]) (st := []) cx hR qL_law_39 klL_142 miL_sum rfl rfl (Nat.le_of_ble_eq_true rfl) (Nat.le_of_ble_eq_true rfl) (Nat.le_of_ble_eq_true rfl) hc hs hf sne (fun t e => ctL_sum hx h true t e) (fun t2 hf => ?_)
  refine PW.lstore (L' := [some (.ref (ga g 60)), some (.ref (gB g + 0)), some (.int i), some (.int c), some (.int t1), some (.long t2), none, none]) cx qL_law_42 hi6 rfl rfl ?_
  refine PW.aload_n cx qL_law_44 rfl ?_
  refine PW.iload_n cx qL_law_45 rfl ?_
  refine PW.callSWV (As := [.ref (gB g + 0), .int c]) (st := []) cx hR qL_law_46 klL_170 miL_deed rfl rfl (Nat.le_of_ble_eq_true rfl) (Nat.le_of_ble_eq_true rfl) (Nat.le_of_ble_eq_true rfl) hc hs hf sne (fun t e => ctL_deed hx h c t e) (fun h4 hf => ?_)
  refine PW.aload_n cx qL_law_49 rfl ?_
  refine PW.callVRI (As := []) (st := []) cx hR qL_law_50 klL_167 mvX6_undoCount (sh_0 hx) rfl rfl rfl rfl (Nat.le_of_ble_eq_true rfl) (Nat.le_of_ble_eq_true rfl) (Nat.le_of_ble_eq_true rfl) hc hs hf sne (fun t e => ctX6_undoCount hx h4 t e) (fun t5 hf => ?_)
  refine PW.iload cx qL_law_53 rfl ?_
  obtain ⟨j63, ej63, hf⟩ := lt_split hf
  have hj63 : ∀ (z0_63 : Bool), j63 z0_63 = some r → PW g X false Q cells slots sh h4 63 [some (.ref (ga g 60)), some (.ref (gB g + 0)), some (.int i), some (.int c), some (.int t1), some (.long t2), none, none] [.int (b2i z0_63)] := by
    intro z0_63 hf
    rw [ej63] at hf
    refine PW.istore (L' := [some (.ref (ga g 60)), some (.ref (gB g + 0)), some (.int i), some (.int c), some (.int t1), some (.long t2), none, some (.int (b2i z0_63))]) cx qL_law_63 hi7 rfl rfl ?_
    refine PW.aload_n cx qL_law_65 rfl ?_
    refine PW.callSRB (As := [.ref (gB g + 0)]) (st := []) cx hR qL_law_66 klL_149 miL_holds rfl rfl (Nat.le_of_ble_eq_true rfl) (Nat.le_of_ble_eq_true rfl) (Nat.le_of_ble_eq_true rfl) hc hs hf sne (fun t e => ctL_holds hx h4 t e) (fun t6 hf => ?_)
    refine PW.if_eq cx qL_law_69 hf (fun hf => ?_) (fun hf => ?_)
    · cases hf
    · refine PW.iload cx qL_law_72 rfl ?_
      obtain ⟨j97, ej97, hf⟩ := lt_split hf
      have hj97 : ∀ (u_97 : Unit), j97 u_97 = some r → PW g X false Q cells slots sh h4 97 [some (.ref (ga g 60)), some (.ref (gB g + 0)), some (.int i), some (.int c), some (.int t1), some (.long t2), none, some (.int (b2i z0_63))] [] := by
        intro u_97 hf
        rw [ej97] at hf
        refine PW.iload cx qL_law_97 rfl ?_
        obtain ⟨j134, ej134, hf⟩ := lt_split hf
        have hj134 : ∀ (h_134 : Hp), j134 h_134 = some r → PW g X false Q cells slots sh h_134 134 [some (.ref (ga g 60)), some (.ref (gB g + 0)), some (.int i), some (.int c), none, none, none, none] [] := by
          intro h_134 hf
          rw [ej134] at hf
          refine PW.iload_n cx qL_law_134 rfl ?_
          refine PW.iconst (v := 4) cx qL_law_135 rfl ?_
          refine PW.iremK cx qL_law_136 (by decide) ?_
          refine PW.iconst (v := 3) cx qL_law_137 rfl ?_
          refine PW.icmp_ne cx qL_law_138 hf (fun hf => ?_) (fun hf => ?_)
          · refine PW.aload_n cx qL_law_141 rfl ?_
            refine PW.iload_n cx qL_law_142 rfl ?_
            refine PW.bipush (v := 6) cx qL_law_143 rfl ?_
            refine PW.iushr cx qL_law_145 ?_
            refine PW.iconst (v := 3) cx qL_law_146 rfl ?_
            refine PW.iand cx qL_law_147 ?_
            refine PW.aload_n cx qL_law_148 rfl ?_
            refine PW.callVRI (As := []) (st := [.int ((iush c 6) &&& 3), .ref (gB g + 0)]) cx hR qL_law_149 klL_13 mvX6_reelCount (sh_0 hx) rfl rfl rfl rfl (Nat.le_of_ble_eq_true rfl) (Nat.le_of_ble_eq_true rfl) (Nat.le_of_ble_eq_true rfl) hc hs hf sne (fun t e => ctX6_reelCount hx h_134 t e) (fun t7 hf => ?_)
            refine PW.irem cx qL_law_152 hf sne (fun t8 hf => ?_)
            refine PW.callSWBc (As := [.ref (gB g + 0), .int t8]) (st := []) cx hR qL_law_153 klL_174 miL_isAired rfl rfl (Nat.le_of_ble_eq_true rfl) (Nat.le_of_ble_eq_true rfl) (Nat.le_of_ble_eq_true rfl) hc hs hf sne (fun t e => ctL_isAired hx h_134 t8 t e) (fun t9 h10 hf => ?_)
            refine PW.if_ne cx qL_law_156 hf (fun hf => ?_) (fun hf => ?_)
            · cases hf
            · cases hf
              exact PW.locs (Lsub.keep (Lsub.keep (Lsub.keep (Lsub.drop (Lsub.drop (Lsub.drop (Lsub.drop (Lsub.drop Lsub.nil)))))))) kk
          · cases hf
            exact PW.locs (Lsub.keep (Lsub.keep (Lsub.keep (Lsub.drop (Lsub.drop (Lsub.drop (Lsub.drop (Lsub.drop Lsub.nil)))))))) kk
        refine PW.if_eq cx qL_law_99 hf (fun hf => ?_) (fun hf => ?_)
        · exact PW.locs (Lsub.keep (Lsub.keep (Lsub.keep (Lsub.keep (Lsub.drop (Lsub.drop (Lsub.drop (Lsub.drop Lsub.nil)))))))) (hj134 h4 hf)
        · refine PW.iload_n cx qL_law_102 rfl ?_
          refine PW.bipush (v := 29) cx qL_law_103 rfl ?_
          refine PW.iushr cx qL_law_105 ?_
          refine PW.iconst (v := 3) cx qL_law_106 rfl ?_
          refine PW.iand cx qL_law_107 ?_
          refine PW.iconst (v := 1) cx qL_law_108 rfl ?_
          refine PW.icmp_ne cx qL_law_109 hf (fun hf => ?_) (fun hf => ?_)
          · refine PW.aload_n cx qL_law_112 rfl ?_
            refine PW.callVWIc (As := []) (st := []) cx hR qL_law_113 klL_153 mvX6_undo (sh_0 hx) rfl rfl rfl rfl (Nat.le_of_ble_eq_true rfl) (Nat.le_of_ble_eq_true rfl) (Nat.le_of_ble_eq_true rfl) hc hs hf sne (fun t e => ctX6_undo hx h4 t e) (fun t11 h12 hf => ?_)
            refine PW.iload cx qL_law_116 rfl ?_
            refine PW.icmp_ne cx qL_law_118 hf (fun hf => ?_) (fun hf => ?_)
            · refine PW.aload_n cx qL_law_121 rfl ?_
              refine PW.iconst (v := 1) cx qL_law_122 rfl ?_
              refine PW.callSRJ (As := [.ref (gB g + 0), .int 1]) (st := []) cx hR qL_law_123 klL_142 miL_sum rfl rfl (Nat.le_of_ble_eq_true rfl) (Nat.le_of_ble_eq_true rfl) (Nat.le_of_ble_eq_true rfl) hc hs hf sne (fun t e => ctL_sum hx h12 true t e) (fun t13 hf => ?_)
              refine PW.lload cx qL_law_126 rfl ?_
              refine PW.lcmp cx qL_law_128 ?_
              refine PW.if_eq cx qL_law_129 hf (fun hf => ?_) (fun hf => ?_)
              · exact PW.locs (Lsub.keep (Lsub.keep (Lsub.keep (Lsub.keep (Lsub.drop (Lsub.drop (Lsub.drop (Lsub.drop Lsub.nil)))))))) (hj134 h12 hf)
              · cases hf
            · cases hf
          · exact PW.locs (Lsub.keep (Lsub.keep (Lsub.keep (Lsub.keep (Lsub.drop (Lsub.drop (Lsub.drop (Lsub.drop Lsub.nil)))))))) (hj134 h4 hf)
      refine PW.if_ne cx qL_law_74 hf (fun hf => ?_) (fun hf => ?_)
      · refine PW.iload cx qL_law_77 rfl ?_
        refine PW.bipush (v := 8) cx qL_law_79 rfl ?_
        refine PW.icmp_ge cx qL_law_81 hf (fun hf => ?_) (fun hf => ?_)
        · exact PW.locs (Lsub.keep (Lsub.keep (Lsub.keep (Lsub.keep (Lsub.keep (Lsub.keep (Lsub.drop (Lsub.keep Lsub.nil)))))))) (hj97 () hf)
        · refine PW.aload_n cx qL_law_84 rfl ?_
          refine PW.iconst (v := 1) cx qL_law_85 rfl ?_
          refine PW.callSRJ (As := [.ref (gB g + 0), .int 1]) (st := []) cx hR qL_law_86 klL_142 miL_sum rfl rfl (Nat.le_of_ble_eq_true rfl) (Nat.le_of_ble_eq_true rfl) (Nat.le_of_ble_eq_true rfl) hc hs hf sne (fun t e => ctL_sum hx h4 true t e) (fun t14 hf => ?_)
          refine PW.lload cx qL_law_89 rfl ?_
          refine PW.lcmp cx qL_law_91 ?_
          refine PW.if_eq cx qL_law_92 hf (fun hf => ?_) (fun hf => ?_)
          · exact PW.locs (Lsub.keep (Lsub.keep (Lsub.keep (Lsub.keep (Lsub.keep (Lsub.keep (Lsub.drop (Lsub.keep Lsub.nil)))))))) (hj97 () hf)
          · cases hf
      · exact PW.locs (Lsub.keep (Lsub.keep (Lsub.keep (Lsub.keep (Lsub.keep (Lsub.keep (Lsub.drop (Lsub.keep Lsub.nil)))))))) (hj97 () hf)
  refine PW.icmp_le cx qL_law_55 hf (fun hf => ?_) (fun hf => ?_)
  · refine PW.iconst (v := 0) cx qL_law_62 rfl ?_
    exact PW.locs (Lsub.keep (Lsub.keep (Lsub.keep (Lsub.keep (Lsub.keep (Lsub.keep (Lsub.drop (Lsub.drop Lsub.nil)))))))) (hj63 false hf)
  · refine PW.iconst (v := 1) cx qL_law_58 rfl ?_
    refine PW.goto cx qL_law_59 ?_
    exact PW.locs (Lsub.keep (Lsub.keep (Lsub.keep (Lsub.keep (Lsub.keep (Lsub.keep (Lsub.drop (Lsub.drop Lsub.nil)))))))) (hj63 true hf)
