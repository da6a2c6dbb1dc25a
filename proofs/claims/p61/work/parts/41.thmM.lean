set_option maxRecDepth 20000 in
theorem ctX7_readsReel {g : GT} {ex : Bool} {sh : List Shp} (hx : MSh sh) (h : Hp) (r0 : Bool × Hp) (hf : M_readsReel h = some r0) : Ct g mX7_readsReel 3 0 0 ex [.ref (gB g + 140)] sh h (PE (some (.int (b2i r0.1))) sh r0.2) := by
  refine Ct.of (L := [some (.ref (gB g + 140))]) (by decide) (by intro w hw; simp only [List.mem_cons, List.not_mem_nil, or_false] at hw; rcases hw with rfl <;> rfl) (Nat.le_of_ble_eq_true rfl) rfl (fun X mx => ?_)
  obtain ⟨cx, hR, hml, hrt, -⟩ := mx
  have cx : Cx g X RX7 cX7_readsReel := cx
  have hrt : X.2.2.2.2.2.2.2.1.sig.returnType = (some .boolean) := hrt
  unfold M_readsReel at hf
  refine PW.aload_n cx qX7_readsReel_0 rfl ?_
  refine PW.iconst (v := 0) cx qX7_readsReel_1 rfl ?_
  refine PW.iconst (v := 1) cx qX7_readsReel_2 rfl ?_
  refine PW.bipush (v := 9) cx qX7_readsReel_3 rfl ?_
  refine PW.callVWBc (As := [.int 0, .int 1, .int 9]) (st := []) cx hR qX7_readsReel_5 klX7_185 mvX7_number (sh_140 hx) rfl rfl rfl rfl (Nat.le_of_ble_eq_true rfl) (Nat.le_of_ble_eq_true rfl) (Nat.le_of_ble_eq_true rfl) (Nat.zero_le _) (Nat.zero_le _) hf sne (fun t e => ctX7_number hx h 0 1 9 t e) (fun t1 h2 hf => ?_)
  refine PW.if_eq cx qX7_readsReel_8 hf (fun hf => ?_) (fun hf => ?_)
  · refine PW.iconst (v := 0) cx qX7_readsReel_33 rfl ?_
    exact PW.zret cx hrt nb0 qX7_readsReel_34 (le_wz hf)
  · refine PW.aload_n cx qX7_readsReel_11 rfl ?_
    refine PW.aload_n cx qX7_readsReel_12 rfl ?_
    refine PW.getf (t := (2, 141)) (v := .ref (gB g + 141)) cx qX7_readsReel_13 (sh_140 hx) rfl flX7_7 rfl ?_
    refine PW.iconst (v := 3) cx qX7_readsReel_16 rfl ?_
    refine PW.iald cx qX7_readsReel_17 (sh_141 hx) hf sne (fun t3 hf => ?_)
    refine PW.iconst (v := 4) cx qX7_readsReel_18 rfl ?_
    obtain ⟨j27, ej27, hf⟩ := lt_split hf
    have hj27 : ∀ (z0_27 : Bool), j27 z0_27 = some r0 → PW g X ex (QE g X ex (PE (some (.int (b2i r0.1))) sh r0.2) 0 0) 0 0 sh h2 27 [some (.ref (gB g + 140))] [.int (b2i z0_27), .ref (gB g + 140)] := by
      intro z0_27 hf
      rw [ej27] at hf
      refine PW.callVWBc (As := [.int (b2i z0_27)]) (st := []) cx hR qX7_readsReel_27 klX7_191 mvX7_stops (sh_140 hx) rfl rfl rfl rfl (Nat.le_of_ble_eq_true rfl) (Nat.le_of_ble_eq_true rfl) (Nat.le_of_ble_eq_true rfl) (Nat.zero_le _) (Nat.zero_le _) hf sne (fun t e => ctX7_stops hx h2 z0_27 t e) (fun t4 h5 hf => ?_)
      refine PW.if_ne cx qX7_readsReel_30 hf (fun hf => ?_) (fun hf => ?_)
      · refine PW.iconst (v := 0) cx qX7_readsReel_33 rfl ?_
        exact PW.zret cx hrt nb0 qX7_readsReel_34 (le_wz hf)
      · refine PW.aload_n cx qX7_readsReel_35 rfl ?_
        refine PW.aload_n cx qX7_readsReel_36 rfl ?_
        refine PW.getf (t := (2, 149)) (v := .ref (gB g + 149)) cx qX7_readsReel_37 (sh_140 hx) rfl flX7_39 rfl ?_
        refine PW.iconst (v := 0) cx qX7_readsReel_40 rfl ?_
        refine PW.iald cx qX7_readsReel_41 (sh_149 hx) hf sne (fun t6 hf => ?_)
        refine PW.callVWIc (As := [.int t6]) (st := []) cx hR qX7_readsReel_42 klX7_198 mvX7_hangs (sh_140 hx) rfl rfl rfl rfl (Nat.le_of_ble_eq_true rfl) (Nat.le_of_ble_eq_true rfl) (Nat.le_of_ble_eq_true rfl) (Nat.zero_le _) (Nat.zero_le _) hf sne (fun t e => ctX7_hangs hx h5 t6 t e) (fun t7 h8 hf => ?_)
        refine PW.pop cx qX7_readsReel_45 rfl ?_
        refine PW.iconst (v := 1) cx qX7_readsReel_46 rfl ?_
        exact PW.zret cx hrt nb1 qX7_readsReel_47 (le_wz hf)
    refine PW.icmp_ge cx qX7_readsReel_19 hf (fun hf => ?_) (fun hf => ?_)
    · refine PW.iconst (v := 0) cx qX7_readsReel_26 rfl ?_
      exact PW.locs (Lsub.keep Lsub.nil) (hj27 false hf)
    · refine PW.iconst (v := 1) cx qX7_readsReel_22 rfl ?_
      refine PW.goto cx qX7_readsReel_23 ?_
      exact PW.locs (Lsub.keep Lsub.nil) (hj27 true hf)
set_option maxRecDepth 20000 in
theorem ctX7_readsScene {g : GT} {ex : Bool} {sh : List Shp} (hx : MSh sh) (h : Hp) (r0 : Bool × Hp) (hf : M_readsScene h = some r0) : Ct g mX7_readsScene 3 0 0 ex [.ref (gB g + 140)] sh h (PE (some (.int (b2i r0.1))) sh r0.2) := by
  refine Ct.of (L := [some (.ref (gB g + 140))]) (by decide) (by intro w hw; simp only [List.mem_cons, List.not_mem_nil, or_false] at hw; rcases hw with rfl <;> rfl) (Nat.le_of_ble_eq_true rfl) rfl (fun X mx => ?_)
  obtain ⟨cx, hR, hml, hrt, -⟩ := mx
  have cx : Cx g X RX7 cX7_readsScene := cx
  have hrt : X.2.2.2.2.2.2.2.1.sig.returnType = (some .boolean) := hrt
  unfold M_readsScene at hf
  refine PW.aload_n cx qX7_readsScene_0 rfl ?_
  refine PW.iconst (v := 0) cx qX7_readsScene_1 rfl ?_
  refine PW.iconst (v := 1) cx qX7_readsScene_2 rfl ?_
  refine PW.bipush (v := 9) cx qX7_readsScene_3 rfl ?_
  refine PW.callVWBc (As := [.int 0, .int 1, .int 9]) (st := []) cx hR qX7_readsScene_5 klX7_185 mvX7_number (sh_140 hx) rfl rfl rfl rfl (Nat.le_of_ble_eq_true rfl) (Nat.le_of_ble_eq_true rfl) (Nat.le_of_ble_eq_true rfl) (Nat.zero_le _) (Nat.zero_le _) hf sne (fun t e => ctX7_number hx h 0 1 9 t e) (fun t1 h2 hf => ?_)
  refine PW.if_eq cx qX7_readsScene_8 hf (fun hf => ?_) (fun hf => ?_)
  · refine PW.iconst (v := 0) cx qX7_readsScene_33 rfl ?_
    exact PW.zret cx hrt nb0 qX7_readsScene_34 (le_wz hf)
  · refine PW.aload_n cx qX7_readsScene_11 rfl ?_
    refine PW.aload_n cx qX7_readsScene_12 rfl ?_
    refine PW.getf (t := (2, 141)) (v := .ref (gB g + 141)) cx qX7_readsScene_13 (sh_140 hx) rfl flX7_7 rfl ?_
    refine PW.iconst (v := 4) cx qX7_readsScene_16 rfl ?_
    refine PW.iald cx qX7_readsScene_17 (sh_141 hx) hf sne (fun t3 hf => ?_)
    refine PW.iconst (v := 5) cx qX7_readsScene_18 rfl ?_
    obtain ⟨j27, ej27, hf⟩ := lt_split hf
    have hj27 : ∀ (z0_27 : Bool), j27 z0_27 = some r0 → PW g X ex (QE g X ex (PE (some (.int (b2i r0.1))) sh r0.2) 0 0) 0 0 sh h2 27 [some (.ref (gB g + 140))] [.int (b2i z0_27), .ref (gB g + 140)] := by
      intro z0_27 hf
      rw [ej27] at hf
      refine PW.callVWBc (As := [.int (b2i z0_27)]) (st := []) cx hR qX7_readsScene_27 klX7_191 mvX7_stops (sh_140 hx) rfl rfl rfl rfl (Nat.le_of_ble_eq_true rfl) (Nat.le_of_ble_eq_true rfl) (Nat.le_of_ble_eq_true rfl) (Nat.zero_le _) (Nat.zero_le _) hf sne (fun t e => ctX7_stops hx h2 z0_27 t e) (fun t4 h5 hf => ?_)
      refine PW.if_ne cx qX7_readsScene_30 hf (fun hf => ?_) (fun hf => ?_)
      · refine PW.iconst (v := 0) cx qX7_readsScene_33 rfl ?_
        exact PW.zret cx hrt nb0 qX7_readsScene_34 (le_wz hf)
      · refine PW.aload_n cx qX7_readsScene_35 rfl ?_
        refine PW.aload_n cx qX7_readsScene_36 rfl ?_
        refine PW.getf (t := (2, 149)) (v := .ref (gB g + 149)) cx qX7_readsScene_37 (sh_140 hx) rfl flX7_39 rfl ?_
        refine PW.iconst (v := 0) cx qX7_readsScene_40 rfl ?_
        refine PW.iald cx qX7_readsScene_41 (sh_149 hx) hf sne (fun t6 hf => ?_)
        refine PW.callVWIc (As := [.int t6]) (st := []) cx hR qX7_readsScene_42 klX7_201 mvX7_opens (sh_140 hx) rfl rfl rfl rfl (Nat.le_of_ble_eq_true rfl) (Nat.le_of_ble_eq_true rfl) (Nat.le_of_ble_eq_true rfl) (Nat.zero_le _) (Nat.zero_le _) hf sne (fun t e => ctX7_opens hx h5 t6 t e) (fun t7 h8 hf => ?_)
        refine PW.pop cx qX7_readsScene_45 rfl ?_
        refine PW.iconst (v := 1) cx qX7_readsScene_46 rfl ?_
        exact PW.zret cx hrt nb1 qX7_readsScene_47 (le_wz hf)
    refine PW.icmp_ge cx qX7_readsScene_19 hf (fun hf => ?_) (fun hf => ?_)
    · refine PW.iconst (v := 0) cx qX7_readsScene_26 rfl ?_
      exact PW.locs (Lsub.keep Lsub.nil) (hj27 false hf)
    · refine PW.iconst (v := 1) cx qX7_readsScene_22 rfl ?_
      refine PW.goto cx qX7_readsScene_23 ?_
      exact PW.locs (Lsub.keep Lsub.nil) (hj27 true hf)
set_option maxRecDepth 20000 in
theorem ctX7_readsSleep {g : GT} {ex : Bool} {sh : List Shp} (hx : MSh sh) (h : Hp) (r0 : Bool × Hp) (hf : M_readsSleep h = some r0) : Ct g mX7_readsSleep 7 0 0 ex [.ref (gB g + 140)] sh h (PE (some (.int (b2i r0.1))) sh r0.2) := by
  refine Ct.of (L := [some (.ref (gB g + 140))]) (by decide) (by intro w hw; simp only [List.mem_cons, List.not_mem_nil, or_false] at hw; rcases hw with rfl <;> rfl) (Nat.le_of_ble_eq_true rfl) rfl (fun X mx => ?_)
  obtain ⟨cx, hR, hml, hrt, -⟩ := mx
  have cx : Cx g X RX7 cX7_readsSleep := cx
  have hrt : X.2.2.2.2.2.2.2.1.sig.returnType = (some .boolean) := hrt
  unfold M_readsSleep at hf
  refine PW.aload_n cx qX7_readsSleep_0 rfl ?_
  refine PW.iconst (v := 0) cx qX7_readsSleep_1 rfl ?_
  refine PW.callVWBc (As := [.int 0]) (st := []) cx hR qX7_readsSleep_2 klX7_204 mvX7_clipAt (sh_140 hx) rfl rfl rfl rfl (Nat.le_of_ble_eq_true rfl) (Nat.le_of_ble_eq_true rfl) (Nat.le_of_ble_eq_true rfl) (Nat.zero_le _) (Nat.zero_le _) hf sne (fun t e => ctX7_clipAt hx h 0 t e) (fun t1 h2 hf => ?_)
  refine PW.if_eq cx qX7_readsSleep_5 hf (fun hf => ?_) (fun hf => ?_)
  · refine PW.iconst (v := 0) cx qX7_readsSleep_56 rfl ?_
    exact PW.zret cx hrt nb0 qX7_readsSleep_57 (le_wz hf)
  · refine PW.aload_n cx qX7_readsSleep_8 rfl ?_
    refine PW.iconst (v := 1) cx qX7_readsSleep_9 rfl ?_
    refine PW.iconst (v := 0) cx qX7_readsSleep_10 rfl ?_
    refine PW.aload_n cx qX7_readsSleep_11 rfl ?_
    refine PW.getf (t := (2, 141)) (v := .ref (gB g + 141)) cx qX7_readsSleep_12 (sh_140 hx) rfl flX7_7 rfl ?_
    refine PW.iconst (v := 3) cx qX7_readsSleep_15 rfl ?_
    refine PW.iald cx qX7_readsSleep_16 (sh_141 hx) hf sne (fun t3 hf => ?_)
    refine PW.iconst (v := 1) cx qX7_readsSleep_17 rfl ?_
    refine PW.isub cx qX7_readsSleep_18 ?_
    refine PW.callVWBc (As := [.int 1, .int 0, .int (t3 - 1)]) (st := []) cx hR qX7_readsSleep_19 klX7_185 mvX7_number (sh_140 hx) rfl rfl rfl rfl (Nat.le_of_ble_eq_true rfl) (Nat.le_of_ble_eq_true rfl) (Nat.le_of_ble_eq_true rfl) (Nat.zero_le _) (Nat.zero_le _) hf sne (fun t e => ctX7_number hx h2 1 0 (t3 - 1) t e) (fun t4 h5 hf => ?_)
    refine PW.if_eq cx qX7_readsSleep_22 hf (fun hf => ?_) (fun hf => ?_)
    · refine PW.iconst (v := 0) cx qX7_readsSleep_56 rfl ?_
      exact PW.zret cx hrt nb0 qX7_readsSleep_57 (le_wz hf)
    · refine PW.aload_n cx qX7_readsSleep_25 rfl ?_
      refine PW.aload_n cx qX7_readsSleep_26 rfl ?_
      refine PW.aload_n cx qX7_readsSleep_27 rfl ?_
      refine PW.getf (t := (2, 149)) (v := .ref (gB g + 149)) cx qX7_readsSleep_28 (sh_140 hx) rfl flX7_39 rfl ?_
      refine PW.iconst (v := 0) cx qX7_readsSleep_31 rfl ?_
      refine PW.iald cx qX7_readsSleep_32 (sh_149 hx) hf sne (fun t6 hf => ?_)
      refine PW.aload_n cx qX7_readsSleep_33 rfl ?_
      refine PW.getf (t := (2, 149)) (v := .ref (gB g + 149)) cx qX7_readsSleep_34 (sh_140 hx) rfl flX7_39 rfl ?_
      refine PW.iconst (v := 1) cx qX7_readsSleep_37 rfl ?_
      refine PW.iald cx qX7_readsSleep_38 (sh_149 hx) hf sne (fun t7 hf => ?_)
      refine PW.callVRI (As := [.int t6, .int t7]) (st := [.ref (gB g + 140)]) cx hR qX7_readsSleep_39 klX7_207 mvX7_whyStaysUp (sh_140 hx) rfl rfl rfl rfl (Nat.le_of_ble_eq_true rfl) (Nat.le_of_ble_eq_true rfl) (Nat.le_of_ble_eq_true rfl) (Nat.zero_le _) (Nat.zero_le _) hf sne (fun t e => ctX7_whyStaysUp hx h5 t6 t7 t e) (fun t8 hf => ?_)
      obtain ⟨j50, ej50, hf⟩ := lt_split hf
      have hj50 : ∀ (z0_50 : Bool), j50 z0_50 = some r0 → PW g X ex (QE g X ex (PE (some (.int (b2i r0.1))) sh r0.2) 0 0) 0 0 sh h5 50 [some (.ref (gB g + 140))] [.int (b2i z0_50), .ref (gB g + 140)] := by
        intro z0_50 hf
        rw [ej50] at hf
        refine PW.callVWBc (As := [.int (b2i z0_50)]) (st := []) cx hR qX7_readsSleep_50 klX7_191 mvX7_stops (sh_140 hx) rfl rfl rfl rfl (Nat.le_of_ble_eq_true rfl) (Nat.le_of_ble_eq_true rfl) (Nat.le_of_ble_eq_true rfl) (Nat.zero_le _) (Nat.zero_le _) hf sne (fun t e => ctX7_stops hx h5 z0_50 t e) (fun t9 h10 hf => ?_)
        refine PW.if_ne cx qX7_readsSleep_53 hf (fun hf => ?_) (fun hf => ?_)
        · refine PW.iconst (v := 0) cx qX7_readsSleep_56 rfl ?_
          exact PW.zret cx hrt nb0 qX7_readsSleep_57 (le_wz hf)
        · refine PW.aload_n cx qX7_readsSleep_58 rfl ?_
          refine PW.aload_n cx qX7_readsSleep_59 rfl ?_
          refine PW.getf (t := (2, 149)) (v := .ref (gB g + 149)) cx qX7_readsSleep_60 (sh_140 hx) rfl flX7_39 rfl ?_
          refine PW.iconst (v := 0) cx qX7_readsSleep_63 rfl ?_
          refine PW.iald cx qX7_readsSleep_64 (sh_149 hx) hf sne (fun t11 hf => ?_)
          refine PW.aload_n cx qX7_readsSleep_65 rfl ?_
          refine PW.getf (t := (2, 149)) (v := .ref (gB g + 149)) cx qX7_readsSleep_66 (sh_140 hx) rfl flX7_39 rfl ?_
          refine PW.iconst (v := 1) cx qX7_readsSleep_69 rfl ?_
          refine PW.iald cx qX7_readsSleep_70 (sh_149 hx) hf sne (fun t12 hf => ?_)
          refine PW.callVWIc (As := [.int t11, .int t12]) (st := []) cx hR qX7_readsSleep_71 klX7_136 mvX7_liesDown (sh_140 hx) rfl rfl rfl rfl (Nat.le_of_ble_eq_true rfl) (Nat.le_of_ble_eq_true rfl) (Nat.le_of_ble_eq_true rfl) (Nat.zero_le _) (Nat.zero_le _) hf sne (fun t e => ctX7_liesDown hx h10 t11 t12 t e) (fun t13 h14 hf => ?_)
          refine PW.pop cx qX7_readsSleep_74 rfl ?_
          refine PW.iconst (v := 1) cx qX7_readsSleep_75 rfl ?_
          exact PW.zret cx hrt nb1 qX7_readsSleep_76 (le_wz hf)
      refine PW.if_ne cx qX7_readsSleep_42 hf (fun hf => ?_) (fun hf => ?_)
      · refine PW.iconst (v := 1) cx qX7_readsSleep_45 rfl ?_
        refine PW.goto cx qX7_readsSleep_46 ?_
        exact PW.locs (Lsub.keep Lsub.nil) (hj50 true hf)
      · refine PW.iconst (v := 0) cx qX7_readsSleep_49 rfl ?_
        exact PW.locs (Lsub.keep Lsub.nil) (hj50 false hf)
set_option maxRecDepth 20000 in
theorem ctX7_readsWake {g : GT} {ex : Bool} {sh : List Shp} (hx : MSh sh) (h : Hp) (r0 : Bool × Hp) (hf : M_readsWake h = some r0) : Ct g mX7_readsWake 4 0 0 ex [.ref (gB g + 140)] sh h (PE (some (.int (b2i r0.1))) sh r0.2) := by
  refine Ct.of (L := [some (.ref (gB g + 140))]) (by decide) (by intro w hw; simp only [List.mem_cons, List.not_mem_nil, or_false] at hw; rcases hw with rfl <;> rfl) (Nat.le_of_ble_eq_true rfl) rfl (fun X mx => ?_)
  obtain ⟨cx, hR, hml, hrt, -⟩ := mx
  have cx : Cx g X RX7 cX7_readsWake := cx
  have hrt : X.2.2.2.2.2.2.2.1.sig.returnType = (some .boolean) := hrt
  unfold M_readsWake at hf
  refine PW.aload_n cx qX7_readsWake_0 rfl ?_
  refine PW.iconst (v := 0) cx qX7_readsWake_1 rfl ?_
  refine PW.callVWBc (As := [.int 0]) (st := []) cx hR qX7_readsWake_2 klX7_204 mvX7_clipAt (sh_140 hx) rfl rfl rfl rfl (Nat.le_of_ble_eq_true rfl) (Nat.le_of_ble_eq_true rfl) (Nat.le_of_ble_eq_true rfl) (Nat.zero_le _) (Nat.zero_le _) hf sne (fun t e => ctX7_clipAt hx h 0 t e) (fun t1 h2 hf => ?_)
  refine PW.if_eq cx qX7_readsWake_5 hf (fun hf => ?_) (fun hf => ?_)
  · refine PW.iconst (v := 0) cx qX7_readsWake_35 rfl ?_
    exact PW.zret cx hrt nb0 qX7_readsWake_36 (le_wz hf)
  · refine PW.aload_n cx qX7_readsWake_8 rfl ?_
    refine PW.aload_n cx qX7_readsWake_9 rfl ?_
    refine PW.aload_n cx qX7_readsWake_10 rfl ?_
    refine PW.getf (t := (2, 149)) (v := .ref (gB g + 149)) cx qX7_readsWake_11 (sh_140 hx) rfl flX7_39 rfl ?_
    refine PW.iconst (v := 0) cx qX7_readsWake_14 rfl ?_
    refine PW.iald cx qX7_readsWake_15 (sh_149 hx) hf sne (fun t3 hf => ?_)
    refine PW.iconst (v := 1) cx qX7_readsWake_16 rfl ?_
    refine PW.callVRI (As := [.int t3, .int 1]) (st := [.ref (gB g + 140)]) cx hR qX7_readsWake_17 klX7_70 mvX7_of (sh_140 hx) rfl rfl rfl rfl (Nat.le_of_ble_eq_true rfl) (Nat.le_of_ble_eq_true rfl) (Nat.le_of_ble_eq_true rfl) (Nat.zero_le _) (Nat.zero_le _) hf sne (fun t e => ctX7_of hx h2 t3 1 t e) (fun t4 hf => ?_)
    refine PW.iconst (v := 1) cx qX7_readsWake_20 rfl ?_
    obtain ⟨j29, ej29, hf⟩ := lt_split hf
    have hj29 : ∀ (z0_29 : Bool), j29 z0_29 = some r0 → PW g X ex (QE g X ex (PE (some (.int (b2i r0.1))) sh r0.2) 0 0) 0 0 sh h2 29 [some (.ref (gB g + 140))] [.int (b2i z0_29), .ref (gB g + 140)] := by
      intro z0_29 hf
      rw [ej29] at hf
      refine PW.callVWBc (As := [.int (b2i z0_29)]) (st := []) cx hR qX7_readsWake_29 klX7_191 mvX7_stops (sh_140 hx) rfl rfl rfl rfl (Nat.le_of_ble_eq_true rfl) (Nat.le_of_ble_eq_true rfl) (Nat.le_of_ble_eq_true rfl) (Nat.zero_le _) (Nat.zero_le _) hf sne (fun t e => ctX7_stops hx h2 z0_29 t e) (fun t5 h6 hf => ?_)
      refine PW.if_ne cx qX7_readsWake_32 hf (fun hf => ?_) (fun hf => ?_)
      · refine PW.iconst (v := 0) cx qX7_readsWake_35 rfl ?_
        exact PW.zret cx hrt nb0 qX7_readsWake_36 (le_wz hf)
      · refine PW.aload_n cx qX7_readsWake_37 rfl ?_
        refine PW.aload_n cx qX7_readsWake_38 rfl ?_
        refine PW.getf (t := (2, 149)) (v := .ref (gB g + 149)) cx qX7_readsWake_39 (sh_140 hx) rfl flX7_39 rfl ?_
        refine PW.iconst (v := 0) cx qX7_readsWake_42 rfl ?_
        refine PW.iald cx qX7_readsWake_43 (sh_149 hx) hf sne (fun t7 hf => ?_)
        refine PW.iconst (v := 0) cx qX7_readsWake_44 rfl ?_
        refine PW.callVWIc (As := [.int t7, .int 0]) (st := []) cx hR qX7_readsWake_45 klX7_133 mvX7_leaves (sh_140 hx) rfl rfl rfl rfl (Nat.le_of_ble_eq_true rfl) (Nat.le_of_ble_eq_true rfl) (Nat.le_of_ble_eq_true rfl) (Nat.zero_le _) (Nat.zero_le _) hf sne (fun t e => ctX7_leaves hx h6 t7 0 t e) (fun t8 h9 hf => ?_)
        refine PW.pop cx qX7_readsWake_48 rfl ?_
        refine PW.iconst (v := 1) cx qX7_readsWake_49 rfl ?_
        exact PW.zret cx hrt nb1 qX7_readsWake_50 (le_wz hf)
    refine PW.icmp_ne cx qX7_readsWake_21 hf (fun hf => ?_) (fun hf => ?_)
    · refine PW.iconst (v := 1) cx qX7_readsWake_24 rfl ?_
      refine PW.goto cx qX7_readsWake_25 ?_
      exact PW.locs (Lsub.keep Lsub.nil) (hj29 true hf)
    · refine PW.iconst (v := 0) cx qX7_readsWake_28 rfl ?_
      exact PW.locs (Lsub.keep Lsub.nil) (hj29 false hf)
set_option maxRecDepth 20000 in
theorem ctX7_readsCut {g : GT} {ex : Bool} {sh : List Shp} (hx : MSh sh) (h : Hp) (r0 : Bool × Hp) (hf : M_readsCut h = some r0) : Ct g mX7_readsCut 5 0 0 ex [.ref (gB g + 140)] sh h (PE (some (.int (b2i r0.1))) sh r0.2) := by
  refine Ct.of (L := [some (.ref (gB g + 140))]) (by decide) (by intro w hw; simp only [List.mem_cons, List.not_mem_nil, or_false] at hw; rcases hw with rfl <;> rfl) (Nat.le_of_ble_eq_true rfl) rfl (fun X mx => ?_)
  obtain ⟨cx, hR, hml, hrt, -⟩ := mx
  have cx : Cx g X RX7 cX7_readsCut := cx
  have hrt : X.2.2.2.2.2.2.2.1.sig.returnType = (some .boolean) := hrt
  unfold M_readsCut at hf
  refine PW.aload_n cx qX7_readsCut_0 rfl ?_
  refine PW.iconst (v := 0) cx qX7_readsCut_1 rfl ?_
  refine PW.iconst (v := 0) cx qX7_readsCut_2 rfl ?_
  refine PW.aload_n cx qX7_readsCut_3 rfl ?_
  refine PW.getf (t := (2, 141)) (v := .ref (gB g + 141)) cx qX7_readsCut_4 (sh_140 hx) rfl flX7_7 rfl ?_
  refine PW.iconst (v := 4) cx qX7_readsCut_7 rfl ?_
  refine PW.iald cx qX7_readsCut_8 (sh_141 hx) hf sne (fun t1 hf => ?_)
  refine PW.iconst (v := 1) cx qX7_readsCut_9 rfl ?_
  refine PW.isub cx qX7_readsCut_10 ?_
  refine PW.callVWBc (As := [.int 0, .int 0, .int (t1 - 1)]) (st := []) cx hR qX7_readsCut_11 klX7_185 mvX7_number (sh_140 hx) rfl rfl rfl rfl (Nat.le_of_ble_eq_true rfl) (Nat.le_of_ble_eq_true rfl) (Nat.le_of_ble_eq_true rfl) (Nat.zero_le _) (Nat.zero_le _) hf sne (fun t e => ctX7_number hx h 0 0 (t1 - 1) t e) (fun t2 h3 hf => ?_)
  refine PW.if_eq cx qX7_readsCut_14 hf (fun hf => ?_) (fun hf => ?_)
  · refine PW.iconst (v := 0) cx qX7_readsCut_37 rfl ?_
    exact PW.zret cx hrt nb0 qX7_readsCut_38 (le_wz hf)
  · refine PW.aload_n cx qX7_readsCut_17 rfl ?_
    refine PW.iconst (v := 1) cx qX7_readsCut_18 rfl ?_
    refine PW.iconst (v := 1) cx qX7_readsCut_19 rfl ?_
    refine PW.sipush (v := 9999) cx qX7_readsCut_20 rfl ?_
    refine PW.callVWBc (As := [.int 1, .int 1, .int 9999]) (st := []) cx hR qX7_readsCut_23 klX7_185 mvX7_number (sh_140 hx) rfl rfl rfl rfl (Nat.le_of_ble_eq_true rfl) (Nat.le_of_ble_eq_true rfl) (Nat.le_of_ble_eq_true rfl) (Nat.zero_le _) (Nat.zero_le _) hf sne (fun t e => ctX7_number hx h3 1 1 9999 t e) (fun t4 h5 hf => ?_)
    refine PW.if_eq cx qX7_readsCut_26 hf (fun hf => ?_) (fun hf => ?_)
    · refine PW.iconst (v := 0) cx qX7_readsCut_37 rfl ?_
      exact PW.zret cx hrt nb0 qX7_readsCut_38 (le_wz hf)
    · refine PW.aload_n cx qX7_readsCut_29 rfl ?_
      refine PW.iconst (v := 1) cx qX7_readsCut_30 rfl ?_
      refine PW.callVWBc (As := [.int 1]) (st := []) cx hR qX7_readsCut_31 klX7_191 mvX7_stops (sh_140 hx) rfl rfl rfl rfl (Nat.le_of_ble_eq_true rfl) (Nat.le_of_ble_eq_true rfl) (Nat.le_of_ble_eq_true rfl) (Nat.zero_le _) (Nat.zero_le _) hf sne (fun t e => ctX7_stops hx h5 true t e) (fun t6 h7 hf => ?_)
      refine PW.if_ne cx qX7_readsCut_34 hf (fun hf => ?_) (fun hf => ?_)
      · refine PW.iconst (v := 0) cx qX7_readsCut_37 rfl ?_
        exact PW.zret cx hrt nb0 qX7_readsCut_38 (le_wz hf)
      · refine PW.aload_n cx qX7_readsCut_39 rfl ?_
        refine PW.aload_n cx qX7_readsCut_40 rfl ?_
        refine PW.getf (t := (2, 149)) (v := .ref (gB g + 149)) cx qX7_readsCut_41 (sh_140 hx) rfl flX7_39 rfl ?_
        refine PW.iconst (v := 0) cx qX7_readsCut_44 rfl ?_
        refine PW.iald cx qX7_readsCut_45 (sh_149 hx) hf sne (fun t8 hf => ?_)
        refine PW.aload_n cx qX7_readsCut_46 rfl ?_
        refine PW.getf (t := (2, 149)) (v := .ref (gB g + 149)) cx qX7_readsCut_47 (sh_140 hx) rfl flX7_39 rfl ?_
        refine PW.iconst (v := 1) cx qX7_readsCut_50 rfl ?_
        refine PW.iald cx qX7_readsCut_51 (sh_149 hx) hf sne (fun t9 hf => ?_)
        refine PW.callVWIc (As := [.int t8, .int t9]) (st := []) cx hR qX7_readsCut_52 klX7_210 mvX7_cuts (sh_140 hx) rfl rfl rfl rfl (Nat.le_of_ble_eq_true rfl) (Nat.le_of_ble_eq_true rfl) (Nat.le_of_ble_eq_true rfl) (Nat.zero_le _) (Nat.zero_le _) hf sne (fun t e => ctX7_cuts hx h7 t8 t9 t e) (fun t10 h11 hf => ?_)
        refine PW.pop cx qX7_readsCut_55 rfl ?_
        refine PW.iconst (v := 1) cx qX7_readsCut_56 rfl ?_
        exact PW.zret cx hrt nb1 qX7_readsCut_57 (le_wz hf)
set_option maxRecDepth 20000 in
theorem ctX7_readsAir {g : GT} {ex : Bool} {sh : List Shp} (hx : MSh sh) (h : Hp) (r0 : Bool × Hp) (hf : M_readsAir h = some r0) : Ct g mX7_readsAir 8 0 0 ex [.ref (gB g + 140)] sh h (PE (some (.int (b2i r0.1))) sh r0.2) := by
  refine Ct.of (L := [some (.ref (gB g + 140))]) (by decide) (by intro w hw; simp only [List.mem_cons, List.not_mem_nil, or_false] at hw; rcases hw with rfl <;> rfl) (Nat.le_of_ble_eq_true rfl) rfl (fun X mx => ?_)
  obtain ⟨cx, hR, hml, hrt, -⟩ := mx
  have cx : Cx g X RX7 cX7_readsAir := cx
  have hrt : X.2.2.2.2.2.2.2.1.sig.returnType = (some .boolean) := hrt
  unfold M_readsAir at hf
  refine PW.aload_n cx qX7_readsAir_0 rfl ?_
  refine PW.iconst (v := 0) cx qX7_readsAir_1 rfl ?_
  refine PW.iconst (v := 0) cx qX7_readsAir_2 rfl ?_
  refine PW.aload_n cx qX7_readsAir_3 rfl ?_
  refine PW.getf (t := (2, 141)) (v := .ref (gB g + 141)) cx qX7_readsAir_4 (sh_140 hx) rfl flX7_7 rfl ?_
  refine PW.iconst (v := 3) cx qX7_readsAir_7 rfl ?_
  refine PW.iald cx qX7_readsAir_8 (sh_141 hx) hf sne (fun t1 hf => ?_)
  refine PW.iconst (v := 1) cx qX7_readsAir_9 rfl ?_
  refine PW.isub cx qX7_readsAir_10 ?_
  refine PW.callVWBc (As := [.int 0, .int 0, .int (t1 - 1)]) (st := []) cx hR qX7_readsAir_11 klX7_185 mvX7_number (sh_140 hx) rfl rfl rfl rfl (Nat.le_of_ble_eq_true rfl) (Nat.le_of_ble_eq_true rfl) (Nat.le_of_ble_eq_true rfl) (Nat.zero_le _) (Nat.zero_le _) hf sne (fun t e => ctX7_number hx h 0 0 (t1 - 1) t e) (fun t2 h3 hf => ?_)
  refine PW.if_eq cx qX7_readsAir_14 hf (fun hf => ?_) (fun hf => ?_)
  · refine PW.iconst (v := 0) cx qX7_readsAir_25 rfl ?_
    exact PW.zret cx hrt nb0 qX7_readsAir_26 (le_wz hf)
  · refine PW.aload_n cx qX7_readsAir_17 rfl ?_
    refine PW.iconst (v := 1) cx qX7_readsAir_18 rfl ?_
    refine PW.callVWBc (As := [.int 1]) (st := []) cx hR qX7_readsAir_19 klX7_191 mvX7_stops (sh_140 hx) rfl rfl rfl rfl (Nat.le_of_ble_eq_true rfl) (Nat.le_of_ble_eq_true rfl) (Nat.le_of_ble_eq_true rfl) (Nat.zero_le _) (Nat.zero_le _) hf sne (fun t e => ctX7_stops hx h3 true t e) (fun t4 h5 hf => ?_)
    refine PW.if_ne cx qX7_readsAir_22 hf (fun hf => ?_) (fun hf => ?_)
    · refine PW.iconst (v := 0) cx qX7_readsAir_25 rfl ?_
      exact PW.zret cx hrt nb0 qX7_readsAir_26 (le_wz hf)
    · refine PW.aload_n cx qX7_readsAir_27 rfl ?_
      refine PW.aload_n cx qX7_readsAir_28 rfl ?_
      refine PW.getf (t := (2, 149)) (v := .ref (gB g + 149)) cx qX7_readsAir_29 (sh_140 hx) rfl flX7_39 rfl ?_
      refine PW.iconst (v := 0) cx qX7_readsAir_32 rfl ?_
      refine PW.iald cx qX7_readsAir_33 (sh_149 hx) hf sne (fun t6 hf => ?_)
      refine PW.callVWIc (As := [.int t6]) (st := []) cx hR qX7_readsAir_34 klX7_213 mvX7_airs (sh_140 hx) rfl rfl rfl rfl (Nat.le_of_ble_eq_true rfl) (Nat.le_of_ble_eq_true rfl) (Nat.le_of_ble_eq_true rfl) (Nat.zero_le _) (Nat.zero_le _) hf sne (fun t e => ctX7_airs hx h5 t6 t e) (fun t7 h8 hf => ?_)
      refine PW.pop cx qX7_readsAir_37 rfl ?_
      refine PW.iconst (v := 1) cx qX7_readsAir_38 rfl ?_
      exact PW.zret cx hrt nb1 qX7_readsAir_39 (le_wz hf)
set_option maxRecDepth 20000 in
theorem ctX7_readsFeed {g : GT} {ex : Bool} {sh : List Shp} (hx : MSh sh) (h : Hp) (r0 : Bool × Hp) (hf : M_readsFeed h = some r0) : Ct g mX7_readsFeed 4 0 0 ex [.ref (gB g + 140)] sh h (PE (some (.int (b2i r0.1))) sh r0.2) := by
  refine Ct.of (L := [some (.ref (gB g + 140))]) (by decide) (by intro w hw; simp only [List.mem_cons, List.not_mem_nil, or_false] at hw; rcases hw with rfl <;> rfl) (Nat.le_of_ble_eq_true rfl) rfl (fun X mx => ?_)
  obtain ⟨cx, hR, hml, hrt, -⟩ := mx
  have cx : Cx g X RX7 cX7_readsFeed := cx
  have hrt : X.2.2.2.2.2.2.2.1.sig.returnType = (some .boolean) := hrt
  unfold M_readsFeed at hf
  refine PW.aload_n cx qX7_readsFeed_0 rfl ?_
  refine PW.iconst (v := 0) cx qX7_readsFeed_1 rfl ?_
  refine PW.callVWBc (As := [.int 0]) (st := []) cx hR qX7_readsFeed_2 klX7_204 mvX7_clipAt (sh_140 hx) rfl rfl rfl rfl (Nat.le_of_ble_eq_true rfl) (Nat.le_of_ble_eq_true rfl) (Nat.le_of_ble_eq_true rfl) (Nat.zero_le _) (Nat.zero_le _) hf sne (fun t e => ctX7_clipAt hx h 0 t e) (fun t1 h2 hf => ?_)
  refine PW.if_eq cx qX7_readsFeed_5 hf (fun hf => ?_) (fun hf => ?_)
  · refine PW.iconst (v := 0) cx qX7_readsFeed_42 rfl ?_
    exact PW.zret cx hrt nb0 qX7_readsFeed_43 (le_wz hf)
  · refine PW.aload_n cx qX7_readsFeed_8 rfl ?_
    refine PW.iconst (v := 1) cx qX7_readsFeed_9 rfl ?_
    refine PW.iconst (v := 1) cx qX7_readsFeed_10 rfl ?_
    refine PW.bipush (v := 50) cx qX7_readsFeed_11 rfl ?_
    refine PW.callVWBc (As := [.int 1, .int 1, .int 50]) (st := []) cx hR qX7_readsFeed_13 klX7_185 mvX7_number (sh_140 hx) rfl rfl rfl rfl (Nat.le_of_ble_eq_true rfl) (Nat.le_of_ble_eq_true rfl) (Nat.le_of_ble_eq_true rfl) (Nat.zero_le _) (Nat.zero_le _) hf sne (fun t e => ctX7_number hx h2 1 1 50 t e) (fun t3 h4 hf => ?_)
    refine PW.if_eq cx qX7_readsFeed_16 hf (fun hf => ?_) (fun hf => ?_)
    · refine PW.iconst (v := 0) cx qX7_readsFeed_42 rfl ?_
      exact PW.zret cx hrt nb0 qX7_readsFeed_43 (le_wz hf)
    · refine PW.aload_n cx qX7_readsFeed_19 rfl ?_
      refine PW.aload_n cx qX7_readsFeed_20 rfl ?_
      refine PW.aload_n cx qX7_readsFeed_21 rfl ?_
      refine PW.getf (t := (2, 149)) (v := .ref (gB g + 149)) cx qX7_readsFeed_22 (sh_140 hx) rfl flX7_39 rfl ?_
      refine PW.iconst (v := 0) cx qX7_readsFeed_25 rfl ?_
      refine PW.iald cx qX7_readsFeed_26 (sh_149 hx) hf sne (fun t5 hf => ?_)
      refine PW.aload_n cx qX7_readsFeed_27 rfl ?_
      refine PW.getf (t := (2, 149)) (v := .ref (gB g + 149)) cx qX7_readsFeed_28 (sh_140 hx) rfl flX7_39 rfl ?_
      refine PW.iconst (v := 1) cx qX7_readsFeed_31 rfl ?_
      refine PW.iald cx qX7_readsFeed_32 (sh_149 hx) hf sne (fun t6 hf => ?_)
      refine PW.callVRB (As := [.int t5, .int t6]) (st := [.ref (gB g + 140)]) cx hR qX7_readsFeed_33 klX7_216 mvX7_canFeed (sh_140 hx) rfl rfl rfl rfl (Nat.le_of_ble_eq_true rfl) (Nat.le_of_ble_eq_true rfl) (Nat.le_of_ble_eq_true rfl) (Nat.zero_le _) (Nat.zero_le _) hf sne (fun t e => ctX7_canFeed hx h4 t5 t6 t e) (fun t7 hf => ?_)
      refine PW.callVWBc (As := [.int (b2i t7)]) (st := []) cx hR qX7_readsFeed_36 klX7_191 mvX7_stops (sh_140 hx) rfl rfl rfl rfl (Nat.le_of_ble_eq_true rfl) (Nat.le_of_ble_eq_true rfl) (Nat.le_of_ble_eq_true rfl) (Nat.zero_le _) (Nat.zero_le _) hf sne (fun t e => ctX7_stops hx h4 t7 t e) (fun t8 h9 hf => ?_)
      refine PW.if_ne cx qX7_readsFeed_39 hf (fun hf => ?_) (fun hf => ?_)
      · refine PW.iconst (v := 0) cx qX7_readsFeed_42 rfl ?_
        exact PW.zret cx hrt nb0 qX7_readsFeed_43 (le_wz hf)
      · refine PW.aload_n cx qX7_readsFeed_44 rfl ?_
        refine PW.aload_n cx qX7_readsFeed_45 rfl ?_
        refine PW.getf (t := (2, 149)) (v := .ref (gB g + 149)) cx qX7_readsFeed_46 (sh_140 hx) rfl flX7_39 rfl ?_
        refine PW.iconst (v := 0) cx qX7_readsFeed_49 rfl ?_
        refine PW.iald cx qX7_readsFeed_50 (sh_149 hx) hf sne (fun t10 hf => ?_)
        refine PW.aload_n cx qX7_readsFeed_51 rfl ?_
        refine PW.getf (t := (2, 149)) (v := .ref (gB g + 149)) cx qX7_readsFeed_52 (sh_140 hx) rfl flX7_39 rfl ?_
        refine PW.iconst (v := 1) cx qX7_readsFeed_55 rfl ?_
        refine PW.iald cx qX7_readsFeed_56 (sh_149 hx) hf sne (fun t11 hf => ?_)
        refine PW.callVWIc (As := [.int t10, .int t11]) (st := []) cx hR qX7_readsFeed_57 klX7_220 mvX7_feeds (sh_140 hx) rfl rfl rfl rfl (Nat.le_of_ble_eq_true rfl) (Nat.le_of_ble_eq_true rfl) (Nat.le_of_ble_eq_true rfl) (Nat.zero_le _) (Nat.zero_le _) hf sne (fun t e => ctX7_feeds hx h9 t10 t11 t e) (fun t12 h13 hf => ?_)
        refine PW.pop cx qX7_readsFeed_60 rfl ?_
        refine PW.iconst (v := 1) cx qX7_readsFeed_61 rfl ?_
        exact PW.zret cx hrt nb1 qX7_readsFeed_62 (le_wz hf)
set_option maxRecDepth 20000 in
theorem ctX7_readsFood {g : GT} {ex : Bool} {sh : List Shp} (hx : MSh sh) (h : Hp) (r0 : Bool × Hp) (hf : M_readsFood h = some r0) : Ct g mX7_readsFood 3 0 0 ex [.ref (gB g + 140)] sh h (PE (some (.int (b2i r0.1))) sh r0.2) := by
  refine Ct.of (L := [some (.ref (gB g + 140))]) (by decide) (by intro w hw; simp only [List.mem_cons, List.not_mem_nil, or_false] at hw; rcases hw with rfl <;> rfl) (Nat.le_of_ble_eq_true rfl) rfl (fun X mx => ?_)
  obtain ⟨cx, hR, hml, hrt, -⟩ := mx
  have cx : Cx g X RX7 cX7_readsFood := cx
  have hrt : X.2.2.2.2.2.2.2.1.sig.returnType = (some .boolean) := hrt
  unfold M_readsFood at hf
  refine PW.aload_n cx qX7_readsFood_0 rfl ?_
  refine PW.iconst (v := 0) cx qX7_readsFood_1 rfl ?_
  refine PW.iconst (v := 1) cx qX7_readsFood_2 rfl ?_
  refine PW.sipush (v := 999) cx qX7_readsFood_3 rfl ?_
  refine PW.callVWBc (As := [.int 0, .int 1, .int 999]) (st := []) cx hR qX7_readsFood_6 klX7_185 mvX7_number (sh_140 hx) rfl rfl rfl rfl (Nat.le_of_ble_eq_true rfl) (Nat.le_of_ble_eq_true rfl) (Nat.le_of_ble_eq_true rfl) (Nat.zero_le _) (Nat.zero_le _) hf sne (fun t e => ctX7_number hx h 0 1 999 t e) (fun t1 h2 hf => ?_)
  refine PW.if_eq cx qX7_readsFood_9 hf (fun hf => ?_) (fun hf => ?_)
  · refine PW.iconst (v := 0) cx qX7_readsFood_43 rfl ?_
    exact PW.zret cx hrt nb0 qX7_readsFood_44 (le_wz hf)
  · refine PW.aload_n cx qX7_readsFood_12 rfl ?_
    refine PW.aload_n cx qX7_readsFood_13 rfl ?_
    refine PW.getf (t := (2, 141)) (v := .ref (gB g + 141)) cx qX7_readsFood_14 (sh_140 hx) rfl flX7_7 rfl ?_
    refine PW.iconst (v := 1) cx qX7_readsFood_17 rfl ?_
    refine PW.iald cx qX7_readsFood_18 (sh_141 hx) hf sne (fun t3 hf => ?_)
    refine PW.aload_n cx qX7_readsFood_19 rfl ?_
    refine PW.getf (t := (2, 149)) (v := .ref (gB g + 149)) cx qX7_readsFood_20 (sh_140 hx) rfl flX7_39 rfl ?_
    refine PW.iconst (v := 0) cx qX7_readsFood_23 rfl ?_
    refine PW.iald cx qX7_readsFood_24 (sh_149 hx) hf sne (fun t4 hf => ?_)
    refine PW.iadd cx qX7_readsFood_25 ?_
    refine PW.sipush (v := 9999) cx qX7_readsFood_26 rfl ?_
    obtain ⟨j37, ej37, hf⟩ := lt_split hf
    have hj37 : ∀ (z0_37 : Bool), j37 z0_37 = some r0 → PW g X ex (QE g X ex (PE (some (.int (b2i r0.1))) sh r0.2) 0 0) 0 0 sh h2 37 [some (.ref (gB g + 140))] [.int (b2i z0_37), .ref (gB g + 140)] := by
      intro z0_37 hf
      rw [ej37] at hf
      refine PW.callVWBc (As := [.int (b2i z0_37)]) (st := []) cx hR qX7_readsFood_37 klX7_191 mvX7_stops (sh_140 hx) rfl rfl rfl rfl (Nat.le_of_ble_eq_true rfl) (Nat.le_of_ble_eq_true rfl) (Nat.le_of_ble_eq_true rfl) (Nat.zero_le _) (Nat.zero_le _) hf sne (fun t e => ctX7_stops hx h2 z0_37 t e) (fun t5 h6 hf => ?_)
      refine PW.if_ne cx qX7_readsFood_40 hf (fun hf => ?_) (fun hf => ?_)
      · refine PW.iconst (v := 0) cx qX7_readsFood_43 rfl ?_
        exact PW.zret cx hrt nb0 qX7_readsFood_44 (le_wz hf)
      · refine PW.aload_n cx qX7_readsFood_45 rfl ?_
        refine PW.getf (t := (2, 141)) (v := .ref (gB g + 141)) cx qX7_readsFood_46 (sh_140 hx) rfl flX7_7 rfl ?_
        refine PW.iconst (v := 1) cx qX7_readsFood_49 rfl ?_
        refine PW.dup2 cx qX7_readsFood_50 rfl rfl ?_
        refine PW.iald cx qX7_readsFood_51 (sh_141 hx) hf sne (fun t7 hf => ?_)
        refine PW.aload_n cx qX7_readsFood_52 rfl ?_
        refine PW.getf (t := (2, 149)) (v := .ref (gB g + 149)) cx qX7_readsFood_53 (sh_140 hx) rfl flX7_39 rfl ?_
        refine PW.iconst (v := 0) cx qX7_readsFood_56 rfl ?_
        refine PW.iald cx qX7_readsFood_57 (sh_149 hx) hf sne (fun t8 hf => ?_)
        refine PW.iadd cx qX7_readsFood_58 ?_
        refine PW.iast cx qX7_readsFood_59 (sh_141 hx) hf sne (fun h9 hf => ?_)
        refine PW.iconst (v := 1) cx qX7_readsFood_60 rfl ?_
        exact PW.zret cx hrt nb1 qX7_readsFood_61 (le_wz hf)
    refine PW.icmp_gt cx qX7_readsFood_29 hf (fun hf => ?_) (fun hf => ?_)
    · refine PW.iconst (v := 0) cx qX7_readsFood_36 rfl ?_
      exact PW.locs (Lsub.keep Lsub.nil) (hj37 false hf)
    · refine PW.iconst (v := 1) cx qX7_readsFood_32 rfl ?_
      refine PW.goto cx qX7_readsFood_33 ?_
      exact PW.locs (Lsub.keep Lsub.nil) (hj37 true hf)
set_option maxRecDepth 20000 in
theorem ctX7_readsPaint {g : GT} {ex : Bool} {sh : List Shp} (hx : MSh sh) (h : Hp) (r0 : Bool × Hp) (hf : M_readsPaint h = some r0) : Ct g mX7_readsPaint 4 0 0 ex [.ref (gB g + 140)] sh h (PE (some (.int (b2i r0.1))) sh r0.2) := by
  refine Ct.of (L := [some (.ref (gB g + 140))]) (by decide) (by intro w hw; simp only [List.mem_cons, List.not_mem_nil, or_false] at hw; rcases hw with rfl <;> rfl) (Nat.le_of_ble_eq_true rfl) rfl (fun X mx => ?_)
  obtain ⟨cx, hR, hml, hrt, -⟩ := mx
  have cx : Cx g X RX7 cX7_readsPaint := cx
  have hrt : X.2.2.2.2.2.2.2.1.sig.returnType = (some .boolean) := hrt
  unfold M_readsPaint at hf
  refine PW.aload_n cx qX7_readsPaint_0 rfl ?_
  refine PW.iconst (v := 0) cx qX7_readsPaint_1 rfl ?_
  refine PW.callVWBc (As := [.int 0]) (st := []) cx hR qX7_readsPaint_2 klX7_204 mvX7_clipAt (sh_140 hx) rfl rfl rfl rfl (Nat.le_of_ble_eq_true rfl) (Nat.le_of_ble_eq_true rfl) (Nat.le_of_ble_eq_true rfl) (Nat.zero_le _) (Nat.zero_le _) hf sne (fun t e => ctX7_clipAt hx h 0 t e) (fun t1 h2 hf => ?_)
  refine PW.if_eq cx qX7_readsPaint_5 hf (fun hf => ?_) (fun hf => ?_)
  · refine PW.iconst (v := 0) cx qX7_readsPaint_70 rfl ?_
    exact PW.zret cx hrt nb0 qX7_readsPaint_71 (le_wz hf)
  · refine PW.aload_n cx qX7_readsPaint_8 rfl ?_
    refine PW.iconst (v := 1) cx qX7_readsPaint_9 rfl ?_
    refine PW.iconst (v := 0) cx qX7_readsPaint_10 rfl ?_
    refine PW.aload_n cx qX7_readsPaint_11 rfl ?_
    refine PW.aload_n cx qX7_readsPaint_12 rfl ?_
    refine PW.getf (t := (2, 149)) (v := .ref (gB g + 149)) cx qX7_readsPaint_13 (sh_140 hx) rfl flX7_39 rfl ?_
    refine PW.iconst (v := 0) cx qX7_readsPaint_16 rfl ?_
    refine PW.iald cx qX7_readsPaint_17 (sh_149 hx) hf sne (fun t3 hf => ?_)
    refine PW.iconst (v := 0) cx qX7_readsPaint_18 rfl ?_
    refine PW.callVRI (As := [.int t3, .int 0]) (st := [.int 0, .int 1, .ref (gB g + 140)]) cx hR qX7_readsPaint_19 klX7_70 mvX7_of (sh_140 hx) rfl rfl rfl rfl (Nat.le_of_ble_eq_true rfl) (Nat.le_of_ble_eq_true rfl) (Nat.le_of_ble_eq_true rfl) (Nat.zero_le _) (Nat.zero_le _) hf sne (fun t e => ctX7_of hx h2 t3 0 t e) (fun t4 hf => ?_)
    refine PW.callSRI (As := [.int t4]) (st := [.int 0, .int 1, .ref (gB g + 140)]) cx hR qX7_readsPaint_22 klX7_61 miX7_digits rfl rfl (Nat.le_of_ble_eq_true rfl) (Nat.le_of_ble_eq_true rfl) (Nat.le_of_ble_eq_true rfl) (Nat.zero_le _) (Nat.zero_le _) hf sne (fun t e => ctX7_digits h2 t4 t e) (fun t5 hf => ?_)
    refine PW.iconst (v := 1) cx qX7_readsPaint_25 rfl ?_
    refine PW.isub cx qX7_readsPaint_26 ?_
    refine PW.callVWBc (As := [.int 1, .int 0, .int (t5 - 1)]) (st := []) cx hR qX7_readsPaint_27 klX7_185 mvX7_number (sh_140 hx) rfl rfl rfl rfl (Nat.le_of_ble_eq_true rfl) (Nat.le_of_ble_eq_true rfl) (Nat.le_of_ble_eq_true rfl) (Nat.zero_le _) (Nat.zero_le _) hf sne (fun t e => ctX7_number hx h2 1 0 (t5 - 1) t e) (fun t6 h7 hf => ?_)
    refine PW.if_eq cx qX7_readsPaint_30 hf (fun hf => ?_) (fun hf => ?_)
    · refine PW.iconst (v := 0) cx qX7_readsPaint_70 rfl ?_
      exact PW.zret cx hrt nb0 qX7_readsPaint_71 (le_wz hf)
    · refine PW.aload_n cx qX7_readsPaint_33 rfl ?_
      refine PW.iconst (v := 2) cx qX7_readsPaint_34 rfl ?_
      refine PW.iconst (v := 1) cx qX7_readsPaint_35 rfl ?_
      refine PW.bipush (v := 9) cx qX7_readsPaint_36 rfl ?_
      refine PW.callVWBc (As := [.int 2, .int 1, .int 9]) (st := []) cx hR qX7_readsPaint_38 klX7_185 mvX7_number (sh_140 hx) rfl rfl rfl rfl (Nat.le_of_ble_eq_true rfl) (Nat.le_of_ble_eq_true rfl) (Nat.le_of_ble_eq_true rfl) (Nat.zero_le _) (Nat.zero_le _) hf sne (fun t e => ctX7_number hx h7 2 1 9 t e) (fun t8 h9 hf => ?_)
      refine PW.if_eq cx qX7_readsPaint_41 hf (fun hf => ?_) (fun hf => ?_)
      · refine PW.iconst (v := 0) cx qX7_readsPaint_70 rfl ?_
        exact PW.zret cx hrt nb0 qX7_readsPaint_71 (le_wz hf)
      · refine PW.aload_n cx qX7_readsPaint_44 rfl ?_
        refine PW.aload_n cx qX7_readsPaint_45 rfl ?_
        refine PW.aload_n cx qX7_readsPaint_46 rfl ?_
        refine PW.getf (t := (2, 149)) (v := .ref (gB g + 149)) cx qX7_readsPaint_47 (sh_140 hx) rfl flX7_39 rfl ?_
        refine PW.iconst (v := 0) cx qX7_readsPaint_50 rfl ?_
        refine PW.iald cx qX7_readsPaint_51 (sh_149 hx) hf sne (fun t10 hf => ?_)
        refine PW.iconst (v := 1) cx qX7_readsPaint_52 rfl ?_
        refine PW.callVRI (As := [.int t10, .int 1]) (st := [.ref (gB g + 140)]) cx hR qX7_readsPaint_53 klX7_70 mvX7_of (sh_140 hx) rfl rfl rfl rfl (Nat.le_of_ble_eq_true rfl) (Nat.le_of_ble_eq_true rfl) (Nat.le_of_ble_eq_true rfl) (Nat.zero_le _) (Nat.zero_le _) hf sne (fun t e => ctX7_of hx h9 t10 1 t e) (fun t11 hf => ?_)
        obtain ⟨j64, ej64, hf⟩ := lt_split hf
        have hj64 : ∀ (z0_64 : Bool), j64 z0_64 = some r0 → PW g X ex (QE g X ex (PE (some (.int (b2i r0.1))) sh r0.2) 0 0) 0 0 sh h9 64 [some (.ref (gB g + 140))] [.int (b2i z0_64), .ref (gB g + 140)] := by
          intro z0_64 hf
          rw [ej64] at hf
          refine PW.callVWBc (As := [.int (b2i z0_64)]) (st := []) cx hR qX7_readsPaint_64 klX7_191 mvX7_stops (sh_140 hx) rfl rfl rfl rfl (Nat.le_of_ble_eq_true rfl) (Nat.le_of_ble_eq_true rfl) (Nat.le_of_ble_eq_true rfl) (Nat.zero_le _) (Nat.zero_le _) hf sne (fun t e => ctX7_stops hx h9 z0_64 t e) (fun t12 h13 hf => ?_)
          refine PW.if_ne cx qX7_readsPaint_67 hf (fun hf => ?_) (fun hf => ?_)
          · refine PW.iconst (v := 0) cx qX7_readsPaint_70 rfl ?_
            exact PW.zret cx hrt nb0 qX7_readsPaint_71 (le_wz hf)
          · refine PW.aload_n cx qX7_readsPaint_72 rfl ?_
            refine PW.aload_n cx qX7_readsPaint_73 rfl ?_
            refine PW.getf (t := (2, 149)) (v := .ref (gB g + 149)) cx qX7_readsPaint_74 (sh_140 hx) rfl flX7_39 rfl ?_
            refine PW.iconst (v := 0) cx qX7_readsPaint_77 rfl ?_
            refine PW.iald cx qX7_readsPaint_78 (sh_149 hx) hf sne (fun t14 hf => ?_)
            refine PW.aload_n cx qX7_readsPaint_79 rfl ?_
            refine PW.getf (t := (2, 149)) (v := .ref (gB g + 149)) cx qX7_readsPaint_80 (sh_140 hx) rfl flX7_39 rfl ?_
            refine PW.iconst (v := 1) cx qX7_readsPaint_83 rfl ?_
            refine PW.iald cx qX7_readsPaint_84 (sh_149 hx) hf sne (fun t15 hf => ?_)
            refine PW.aload_n cx qX7_readsPaint_85 rfl ?_
            refine PW.getf (t := (2, 149)) (v := .ref (gB g + 149)) cx qX7_readsPaint_86 (sh_140 hx) rfl flX7_39 rfl ?_
            refine PW.iconst (v := 2) cx qX7_readsPaint_89 rfl ?_
            refine PW.iald cx qX7_readsPaint_90 (sh_149 hx) hf sne (fun t16 hf => ?_)
            refine PW.callVWIc (As := [.int t14, .int t15, .int t16]) (st := []) cx hR qX7_readsPaint_91 klX7_223 mvX7_paints (sh_140 hx) rfl rfl rfl rfl (Nat.le_of_ble_eq_true rfl) (Nat.le_of_ble_eq_true rfl) (Nat.le_of_ble_eq_true rfl) (Nat.zero_le _) (Nat.zero_le _) hf sne (fun t e => ctX7_paints hx h13 t14 t15 t16 t e) (fun t17 h18 hf => ?_)
            refine PW.pop cx qX7_readsPaint_94 rfl ?_
            refine PW.iconst (v := 1) cx qX7_readsPaint_95 rfl ?_
            exact PW.zret cx hrt nb1 qX7_readsPaint_96 (le_wz hf)
        refine PW.if_ne cx qX7_readsPaint_56 hf (fun hf => ?_) (fun hf => ?_)
        · refine PW.iconst (v := 1) cx qX7_readsPaint_59 rfl ?_
          refine PW.goto cx qX7_readsPaint_60 ?_
          exact PW.locs (Lsub.keep Lsub.nil) (hj64 true hf)
        · refine PW.iconst (v := 0) cx qX7_readsPaint_63 rfl ?_
          exact PW.locs (Lsub.keep Lsub.nil) (hj64 false hf)
set_option maxRecDepth 20000 in
theorem ctX7_readsWeeks {g : GT} {ex : Bool} {sh : List Shp} (hx : MSh sh) (h : Hp) (r0 : Bool × Hp) (hf : M_readsWeeks h = some r0) : Ct g mX7_readsWeeks 6 0 0 ex [.ref (gB g + 140)] sh h (PE (some (.int (b2i r0.1))) sh r0.2) := by
  refine Ct.of (L := [some (.ref (gB g + 140))]) (by decide) (by intro w hw; simp only [List.mem_cons, List.not_mem_nil, or_false] at hw; rcases hw with rfl <;> rfl) (Nat.le_of_ble_eq_true rfl) rfl (fun X mx => ?_)
  obtain ⟨cx, hR, hml, hrt, -⟩ := mx
  have cx : Cx g X RX7 cX7_readsWeeks := cx
  have hrt : X.2.2.2.2.2.2.2.1.sig.returnType = (some .boolean) := hrt
  unfold M_readsWeeks at hf
  refine PW.aload_n cx qX7_readsWeeks_0 rfl ?_
  refine PW.iconst (v := 0) cx qX7_readsWeeks_1 rfl ?_
  refine PW.iconst (v := 1) cx qX7_readsWeeks_2 rfl ?_
  refine PW.bipush (v := 50) cx qX7_readsWeeks_3 rfl ?_
  refine PW.callVWBc (As := [.int 0, .int 1, .int 50]) (st := []) cx hR qX7_readsWeeks_5 klX7_185 mvX7_number (sh_140 hx) rfl rfl rfl rfl (Nat.le_of_ble_eq_true rfl) (Nat.le_of_ble_eq_true rfl) (Nat.le_of_ble_eq_true rfl) (Nat.zero_le _) (Nat.zero_le _) hf sne (fun t e => ctX7_number hx h 0 1 50 t e) (fun t1 h2 hf => ?_)
  refine PW.if_eq cx qX7_readsWeeks_8 hf (fun hf => ?_) (fun hf => ?_)
  · refine PW.iconst (v := 0) cx qX7_readsWeeks_42 rfl ?_
    exact PW.zret cx hrt nb0 qX7_readsWeeks_43 (le_wz hf)
  · refine PW.aload_n cx qX7_readsWeeks_11 rfl ?_
    refine PW.aload_n cx qX7_readsWeeks_12 rfl ?_
    refine PW.getf (t := (2, 141)) (v := .ref (gB g + 141)) cx qX7_readsWeeks_13 (sh_140 hx) rfl flX7_7 rfl ?_
    refine PW.iconst (v := 0) cx qX7_readsWeeks_16 rfl ?_
    refine PW.iald cx qX7_readsWeeks_17 (sh_141 hx) hf sne (fun t3 hf => ?_)
    refine PW.aload_n cx qX7_readsWeeks_18 rfl ?_
    refine PW.getf (t := (2, 149)) (v := .ref (gB g + 149)) cx qX7_readsWeeks_19 (sh_140 hx) rfl flX7_39 rfl ?_
    refine PW.iconst (v := 0) cx qX7_readsWeeks_22 rfl ?_
    refine PW.iald cx qX7_readsWeeks_23 (sh_149 hx) hf sne (fun t4 hf => ?_)
    refine PW.iadd cx qX7_readsWeeks_24 ?_
    refine PW.sipush (v := 999) cx qX7_readsWeeks_25 rfl ?_
    obtain ⟨j36, ej36, hf⟩ := lt_split hf
    have hj36 : ∀ (z0_36 : Bool), j36 z0_36 = some r0 → PW g X ex (QE g X ex (PE (some (.int (b2i r0.1))) sh r0.2) 0 0) 0 0 sh h2 36 [some (.ref (gB g + 140))] [.int (b2i z0_36), .ref (gB g + 140)] := by
      intro z0_36 hf
      rw [ej36] at hf
      refine PW.callVWBc (As := [.int (b2i z0_36)]) (st := []) cx hR qX7_readsWeeks_36 klX7_191 mvX7_stops (sh_140 hx) rfl rfl rfl rfl (Nat.le_of_ble_eq_true rfl) (Nat.le_of_ble_eq_true rfl) (Nat.le_of_ble_eq_true rfl) (Nat.zero_le _) (Nat.zero_le _) hf sne (fun t e => ctX7_stops hx h2 z0_36 t e) (fun t5 h6 hf => ?_)
      refine PW.if_ne cx qX7_readsWeeks_39 hf (fun hf => ?_) (fun hf => ?_)
      · refine PW.iconst (v := 0) cx qX7_readsWeeks_42 rfl ?_
        exact PW.zret cx hrt nb0 qX7_readsWeeks_43 (le_wz hf)
      · refine PW.aload_n cx qX7_readsWeeks_44 rfl ?_
        refine PW.aload_n cx qX7_readsWeeks_45 rfl ?_
        refine PW.getf (t := (2, 149)) (v := .ref (gB g + 149)) cx qX7_readsWeeks_46 (sh_140 hx) rfl flX7_39 rfl ?_
        refine PW.iconst (v := 0) cx qX7_readsWeeks_49 rfl ?_
        refine PW.iald cx qX7_readsWeeks_50 (sh_149 hx) hf sne (fun t7 hf => ?_)
        refine PW.callVWIc (As := [.int t7]) (st := []) cx hR qX7_readsWeeks_51 klX7_226 mvX7_passes (sh_140 hx) rfl rfl rfl rfl (Nat.le_of_ble_eq_true rfl) (Nat.le_of_ble_eq_true rfl) (Nat.le_of_ble_eq_true rfl) (Nat.zero_le _) (Nat.zero_le _) hf sne (fun t e => ctX7_passes hx h6 t7 t e) (fun t8 h9 hf => ?_)
        refine PW.pop cx qX7_readsWeeks_54 rfl ?_
        refine PW.iconst (v := 1) cx qX7_readsWeeks_55 rfl ?_
        exact PW.zret cx hrt nb1 qX7_readsWeeks_56 (le_wz hf)
    refine PW.icmp_gt cx qX7_readsWeeks_28 hf (fun hf => ?_) (fun hf => ?_)
    · refine PW.iconst (v := 0) cx qX7_readsWeeks_35 rfl ?_
      exact PW.locs (Lsub.keep Lsub.nil) (hj36 false hf)
    · refine PW.iconst (v := 1) cx qX7_readsWeeks_31 rfl ?_
      refine PW.goto cx qX7_readsWeeks_32 ?_
      exact PW.locs (Lsub.keep Lsub.nil) (hj36 true hf)
set_option maxRecDepth 20000 in
theorem ctX7_laterWord {g : GT} {ex : Bool} {sh : List Shp} (hx : MSh sh) (h : Hp) (r0 : Int32) (hf : M_laterWord h = some r0) : Ct g mX7_laterWord 6 0 0 ex [.ref (gB g + 140)] sh h (PE (some (.int r0)) sh h) := by
  refine Ct.of (L := [some (.ref (gB g + 140))]) (by decide) (by intro w hw; simp only [List.mem_cons, List.not_mem_nil, or_false] at hw; rcases hw with rfl <;> rfl) (Nat.le_of_ble_eq_true rfl) rfl (fun X mx => ?_)
  obtain ⟨cx, hR, hml, hrt, -⟩ := mx
  have cx : Cx g X RX7 cX7_laterWord := cx
  have hrt : X.2.2.2.2.2.2.2.1.sig.returnType = (some .int) := hrt
  unfold M_laterWord at hf
  refine PW.aload_n cx qX7_laterWord_0 rfl ?_
  refine PW.ldcS (v := 106) cx qX7_laterWord_1 ksX7_250 ?_
  refine PW.callVRB (As := [.ref (ga g (106 : Int32).toNatClampNeg)]) (st := []) cx hR qX7_laterWord_3 klX7_234 mvX7_says (sh_140 hx) rfl rfl rfl rfl (Nat.le_of_ble_eq_true rfl) (Nat.le_of_ble_eq_true rfl) (Nat.le_of_ble_eq_true rfl) (Nat.zero_le _) (Nat.zero_le _) hf sne (fun t e => ctX7_says hx h 106 t e) (fun t1 hf => ?_)
  refine PW.if_eq cx qX7_laterWord_6 hf (fun hf => ?_) (fun hf => ?_)
  · refine PW.aload_n cx qX7_laterWord_14 rfl ?_
    refine PW.ldcS (v := 107) cx qX7_laterWord_15 ksX7_252 ?_
    refine PW.callVRB (As := [.ref (ga g (107 : Int32).toNatClampNeg)]) (st := []) cx hR qX7_laterWord_17 klX7_234 mvX7_says (sh_140 hx) rfl rfl rfl rfl (Nat.le_of_ble_eq_true rfl) (Nat.le_of_ble_eq_true rfl) (Nat.le_of_ble_eq_true rfl) (Nat.zero_le _) (Nat.zero_le _) hf sne (fun t e => ctX7_says hx h 107 t e) (fun t2 hf => ?_)
    refine PW.if_eq cx qX7_laterWord_20 hf (fun hf => ?_) (fun hf => ?_)
    · refine PW.aload_n cx qX7_laterWord_28 rfl ?_
      refine PW.ldcS (v := 108) cx qX7_laterWord_29 ksX7_254 ?_
      refine PW.callVRB (As := [.ref (ga g (108 : Int32).toNatClampNeg)]) (st := []) cx hR qX7_laterWord_31 klX7_234 mvX7_says (sh_140 hx) rfl rfl rfl rfl (Nat.le_of_ble_eq_true rfl) (Nat.le_of_ble_eq_true rfl) (Nat.le_of_ble_eq_true rfl) (Nat.zero_le _) (Nat.zero_le _) hf sne (fun t e => ctX7_says hx h 108 t e) (fun t3 hf => ?_)
      refine PW.if_eq cx qX7_laterWord_34 hf (fun hf => ?_) (fun hf => ?_)
      · refine PW.aload_n cx qX7_laterWord_42 rfl ?_
        refine PW.ldcSW (v := 109) cx qX7_laterWord_43 ksX7_256 ?_
        refine PW.callVRB (As := [.ref (ga g (109 : Int32).toNatClampNeg)]) (st := []) cx hR qX7_laterWord_46 klX7_234 mvX7_says (sh_140 hx) rfl rfl rfl rfl (Nat.le_of_ble_eq_true rfl) (Nat.le_of_ble_eq_true rfl) (Nat.le_of_ble_eq_true rfl) (Nat.zero_le _) (Nat.zero_le _) hf sne (fun t e => ctX7_says hx h 109 t e) (fun t4 hf => ?_)
        refine PW.if_eq cx qX7_laterWord_49 hf (fun hf => ?_) (fun hf => ?_)
        · refine PW.aload_n cx qX7_laterWord_57 rfl ?_
          refine PW.ldcSW (v := 110) cx qX7_laterWord_58 ksX7_258 ?_
          refine PW.callVRB (As := [.ref (ga g (110 : Int32).toNatClampNeg)]) (st := []) cx hR qX7_laterWord_61 klX7_234 mvX7_says (sh_140 hx) rfl rfl rfl rfl (Nat.le_of_ble_eq_true rfl) (Nat.le_of_ble_eq_true rfl) (Nat.le_of_ble_eq_true rfl) (Nat.zero_le _) (Nat.zero_le _) hf sne (fun t e => ctX7_says hx h 110 t e) (fun t5 hf => ?_)
          refine PW.if_eq cx qX7_laterWord_64 hf (fun hf => ?_) (fun hf => ?_)
          · refine PW.aload_n cx qX7_laterWord_72 rfl ?_
            refine PW.ldcSW (v := 111) cx qX7_laterWord_73 ksX7_260 ?_
            refine PW.callVRB (As := [.ref (ga g (111 : Int32).toNatClampNeg)]) (st := []) cx hR qX7_laterWord_76 klX7_234 mvX7_says (sh_140 hx) rfl rfl rfl rfl (Nat.le_of_ble_eq_true rfl) (Nat.le_of_ble_eq_true rfl) (Nat.le_of_ble_eq_true rfl) (Nat.zero_le _) (Nat.zero_le _) hf sne (fun t e => ctX7_says hx h 111 t e) (fun t6 hf => ?_)
            refine PW.if_eq cx qX7_laterWord_79 hf (fun hf => ?_) (fun hf => ?_)
            · refine PW.iconst (v := (-1)) cx qX7_laterWord_87 rfl ?_
              exact PW.iret cx hrt qX7_laterWord_88 (le_ri hf)
            · refine PW.bipush (v := 11) cx qX7_laterWord_82 rfl ?_
              refine PW.goto cx qX7_laterWord_84 ?_
              exact PW.iret cx hrt qX7_laterWord_88 (le_ri hf)
          · refine PW.bipush (v := 10) cx qX7_laterWord_67 rfl ?_
            refine PW.goto cx qX7_laterWord_69 ?_
            exact PW.iret cx hrt qX7_laterWord_88 (le_ri hf)
        · refine PW.bipush (v := 9) cx qX7_laterWord_52 rfl ?_
          refine PW.goto cx qX7_laterWord_54 ?_
          exact PW.iret cx hrt qX7_laterWord_88 (le_ri hf)
      · refine PW.bipush (v := 8) cx qX7_laterWord_37 rfl ?_
        refine PW.goto cx qX7_laterWord_39 ?_
        exact PW.iret cx hrt qX7_laterWord_88 (le_ri hf)
    · refine PW.bipush (v := 7) cx qX7_laterWord_23 rfl ?_
      refine PW.goto cx qX7_laterWord_25 ?_
      exact PW.iret cx hrt qX7_laterWord_88 (le_ri hf)
  · refine PW.bipush (v := 6) cx qX7_laterWord_9 rfl ?_
    refine PW.goto cx qX7_laterWord_11 ?_
    exact PW.iret cx hrt qX7_laterWord_88 (le_ri hf)
set_option maxRecDepth 20000 in
theorem ctX7_wordAhead {g : GT} {ex : Bool} {sh : List Shp} (hx : MSh sh) (h : Hp) (r0 : Int32) (hf : M_wordAhead h = some r0) : Ct g mX7_wordAhead 7 0 0 ex [.ref (gB g + 140)] sh h (PE (some (.int r0)) sh h) := by
  refine Ct.of (L := [some (.ref (gB g + 140))]) (by decide) (by intro w hw; simp only [List.mem_cons, List.not_mem_nil, or_false] at hw; rcases hw with rfl <;> rfl) (Nat.le_of_ble_eq_true rfl) rfl (fun X mx => ?_)
  obtain ⟨cx, hR, hml, hrt, -⟩ := mx
  have cx : Cx g X RX7 cX7_wordAhead := cx
  have hrt : X.2.2.2.2.2.2.2.1.sig.returnType = (some .int) := hrt
  unfold M_wordAhead at hf
  refine PW.aload_n cx qX7_wordAhead_0 rfl ?_
  refine PW.ldcS (v := 100) cx qX7_wordAhead_1 ksX7_232 ?_
  refine PW.callVRB (As := [.ref (ga g (100 : Int32).toNatClampNeg)]) (st := []) cx hR qX7_wordAhead_3 klX7_234 mvX7_says (sh_140 hx) rfl rfl rfl rfl (Nat.le_of_ble_eq_true rfl) (Nat.le_of_ble_eq_true rfl) (Nat.le_of_ble_eq_true rfl) (Nat.zero_le _) (Nat.zero_le _) hf sne (fun t e => ctX7_says hx h 100 t e) (fun t1 hf => ?_)
  refine PW.if_eq cx qX7_wordAhead_6 hf (fun hf => ?_) (fun hf => ?_)
  · refine PW.aload_n cx qX7_wordAhead_13 rfl ?_
    refine PW.ldcS (v := 101) cx qX7_wordAhead_14 ksX7_238 ?_
    refine PW.callVRB (As := [.ref (ga g (101 : Int32).toNatClampNeg)]) (st := []) cx hR qX7_wordAhead_16 klX7_234 mvX7_says (sh_140 hx) rfl rfl rfl rfl (Nat.le_of_ble_eq_true rfl) (Nat.le_of_ble_eq_true rfl) (Nat.le_of_ble_eq_true rfl) (Nat.zero_le _) (Nat.zero_le _) hf sne (fun t e => ctX7_says hx h 101 t e) (fun t2 hf => ?_)
    refine PW.if_eq cx qX7_wordAhead_19 hf (fun hf => ?_) (fun hf => ?_)
    · refine PW.aload_n cx qX7_wordAhead_26 rfl ?_
      refine PW.ldcS (v := 102) cx qX7_wordAhead_27 ksX7_240 ?_
      refine PW.callVRB (As := [.ref (ga g (102 : Int32).toNatClampNeg)]) (st := []) cx hR qX7_wordAhead_29 klX7_234 mvX7_says (sh_140 hx) rfl rfl rfl rfl (Nat.le_of_ble_eq_true rfl) (Nat.le_of_ble_eq_true rfl) (Nat.le_of_ble_eq_true rfl) (Nat.zero_le _) (Nat.zero_le _) hf sne (fun t e => ctX7_says hx h 102 t e) (fun t3 hf => ?_)
      refine PW.if_eq cx qX7_wordAhead_32 hf (fun hf => ?_) (fun hf => ?_)
      · refine PW.aload_n cx qX7_wordAhead_39 rfl ?_
        refine PW.ldcS (v := 103) cx qX7_wordAhead_40 ksX7_241 ?_
        refine PW.callVRB (As := [.ref (ga g (103 : Int32).toNatClampNeg)]) (st := []) cx hR qX7_wordAhead_42 klX7_234 mvX7_says (sh_140 hx) rfl rfl rfl rfl (Nat.le_of_ble_eq_true rfl) (Nat.le_of_ble_eq_true rfl) (Nat.le_of_ble_eq_true rfl) (Nat.zero_le _) (Nat.zero_le _) hf sne (fun t e => ctX7_says hx h 103 t e) (fun t4 hf => ?_)
        refine PW.if_eq cx qX7_wordAhead_45 hf (fun hf => ?_) (fun hf => ?_)
        · refine PW.aload_n cx qX7_wordAhead_52 rfl ?_
          refine PW.ldcS (v := 104) cx qX7_wordAhead_53 ksX7_243 ?_
          refine PW.callVRB (As := [.ref (ga g (104 : Int32).toNatClampNeg)]) (st := []) cx hR qX7_wordAhead_55 klX7_234 mvX7_says (sh_140 hx) rfl rfl rfl rfl (Nat.le_of_ble_eq_true rfl) (Nat.le_of_ble_eq_true rfl) (Nat.le_of_ble_eq_true rfl) (Nat.zero_le _) (Nat.zero_le _) hf sne (fun t e => ctX7_says hx h 104 t e) (fun t5 hf => ?_)
          refine PW.if_eq cx qX7_wordAhead_58 hf (fun hf => ?_) (fun hf => ?_)
          · refine PW.aload_n cx qX7_wordAhead_65 rfl ?_
            refine PW.ldcS (v := 105) cx qX7_wordAhead_66 ksX7_245 ?_
            refine PW.callVRB (As := [.ref (ga g (105 : Int32).toNatClampNeg)]) (st := []) cx hR qX7_wordAhead_68 klX7_234 mvX7_says (sh_140 hx) rfl rfl rfl rfl (Nat.le_of_ble_eq_true rfl) (Nat.le_of_ble_eq_true rfl) (Nat.le_of_ble_eq_true rfl) (Nat.zero_le _) (Nat.zero_le _) hf sne (fun t e => ctX7_says hx h 105 t e) (fun t6 hf => ?_)
            refine PW.if_eq cx qX7_wordAhead_71 hf (fun hf => ?_) (fun hf => ?_)
            · refine PW.aload_n cx qX7_wordAhead_78 rfl ?_
              refine PW.callVRI (As := []) (st := []) cx hR qX7_wordAhead_79 klX7_247 mvX7_laterWord (sh_140 hx) rfl rfl rfl rfl (Nat.le_of_ble_eq_true rfl) (Nat.le_of_ble_eq_true rfl) (Nat.le_of_ble_eq_true rfl) (Nat.zero_le _) (Nat.zero_le _) hf sne (fun t e => ctX7_laterWord hx h t e) (fun t7 hf => ?_)
              exact PW.iret cx hrt qX7_wordAhead_82 (le_ri hf)
            · refine PW.iconst (v := 5) cx qX7_wordAhead_74 rfl ?_
              refine PW.goto cx qX7_wordAhead_75 ?_
              exact PW.iret cx hrt qX7_wordAhead_82 (le_ri hf)
          · refine PW.iconst (v := 4) cx qX7_wordAhead_61 rfl ?_
            refine PW.goto cx qX7_wordAhead_62 ?_
            exact PW.iret cx hrt qX7_wordAhead_82 (le_ri hf)
        · refine PW.iconst (v := 3) cx qX7_wordAhead_48 rfl ?_
          refine PW.goto cx qX7_wordAhead_49 ?_
          exact PW.iret cx hrt qX7_wordAhead_82 (le_ri hf)
      · refine PW.iconst (v := 2) cx qX7_wordAhead_35 rfl ?_
        refine PW.goto cx qX7_wordAhead_36 ?_
        exact PW.iret cx hrt qX7_wordAhead_82 (le_ri hf)
    · refine PW.iconst (v := 1) cx qX7_wordAhead_22 rfl ?_
      refine PW.goto cx qX7_wordAhead_23 ?_
      exact PW.iret cx hrt qX7_wordAhead_82 (le_ri hf)
  · refine PW.iconst (v := 0) cx qX7_wordAhead_9 rfl ?_
    refine PW.goto cx qX7_wordAhead_10 ?_
    exact PW.iret cx hrt qX7_wordAhead_82 (le_ri hf)
set_option maxRecDepth 20000 in
theorem ctX7_readsWord {g : GT} {ex : Bool} {sh : List Shp} (hx : MSh sh) (h : Hp) (p1 : Int32) (r0 : Bool × Hp) (hf : M_readsWord h p1 = some r0) : Ct g mX7_readsWord 9 0 0 ex [.ref (gB g + 140), .int p1] sh h (PE (some (.int (b2i r0.1))) sh r0.2) := by
  refine Ct.of (L := [some (.ref (gB g + 140)), some (.int p1)]) (by decide) (by intro w hw; simp only [List.mem_cons, List.not_mem_nil, or_false] at hw; rcases hw with rfl | rfl <;> rfl) (Nat.le_of_ble_eq_true rfl) rfl (fun X mx => ?_)
  obtain ⟨cx, hR, hml, hrt, -⟩ := mx
  have cx : Cx g X RX7 cX7_readsWord := cx
  have hrt : X.2.2.2.2.2.2.2.1.sig.returnType = (some .boolean) := hrt
  unfold M_readsWord at hf
  refine PW.iload_n cx qX7_readsWord_0 rfl ?_
  refine PW.tswC (v := 0) (off := 55) (tgt := 56) cx qX7_readsWord_1 (by decide) (by decide) rfl rfl hf (fun hf => ?_) (fun hf n0 => ?_)
  · refine PW.aload_n cx qX7_readsWord_56 rfl ?_
    refine PW.callVWBc (As := []) (st := []) cx hR qX7_readsWord_57 klX7_274 mvX7_readsClip (sh_140 hx) rfl rfl rfl rfl (Nat.le_of_ble_eq_true rfl) (Nat.le_of_ble_eq_true rfl) (Nat.le_of_ble_eq_true rfl) (Nat.zero_le _) (Nat.zero_le _) hf sne (fun t e => ctX7_readsClip hx h t e) (fun t21 h22 hf => ?_)
    exact PW.zret cx hrt (nbb _) qX7_readsWord_60 (le_wz hf)
  · refine PW.tswC (v := 1) (off := 60) (tgt := 61) cx qX7_readsWord_1 (by decide) (by decide) rfl rfl hf (fun hf => ?_) (fun hf n1 => ?_)
    · refine PW.aload_n cx qX7_readsWord_61 rfl ?_
      refine PW.callVWBc (As := []) (st := []) cx hR qX7_readsWord_62 klX7_277 mvX7_readsReel (sh_140 hx) rfl rfl rfl rfl (Nat.le_of_ble_eq_true rfl) (Nat.le_of_ble_eq_true rfl) (Nat.le_of_ble_eq_true rfl) (Nat.zero_le _) (Nat.zero_le _) hf sne (fun t e => ctX7_readsReel hx h t e) (fun t19 h20 hf => ?_)
      exact PW.zret cx hrt (nbb _) qX7_readsWord_65 (le_wz hf)
    · refine PW.tswC (v := 2) (off := 65) (tgt := 66) cx qX7_readsWord_1 (by decide) (by decide) rfl rfl hf (fun hf => ?_) (fun hf n2 => ?_)
      · refine PW.aload_n cx qX7_readsWord_66 rfl ?_
        refine PW.callVWBc (As := []) (st := []) cx hR qX7_readsWord_67 klX7_280 mvX7_readsScene (sh_140 hx) rfl rfl rfl rfl (Nat.le_of_ble_eq_true rfl) (Nat.le_of_ble_eq_true rfl) (Nat.le_of_ble_eq_true rfl) (Nat.zero_le _) (Nat.zero_le _) hf sne (fun t e => ctX7_readsScene hx h t e) (fun t17 h18 hf => ?_)
        exact PW.zret cx hrt (nbb _) qX7_readsWord_70 (le_wz hf)
      · refine PW.tswC (v := 3) (off := 70) (tgt := 71) cx qX7_readsWord_1 (by decide) (by decide) rfl rfl hf (fun hf => ?_) (fun hf n3 => ?_)
        · refine PW.aload_n cx qX7_readsWord_71 rfl ?_
          refine PW.callVWBc (As := []) (st := []) cx hR qX7_readsWord_72 klX7_283 mvX7_readsSleep (sh_140 hx) rfl rfl rfl rfl (Nat.le_of_ble_eq_true rfl) (Nat.le_of_ble_eq_true rfl) (Nat.le_of_ble_eq_true rfl) (Nat.zero_le _) (Nat.zero_le _) hf sne (fun t e => ctX7_readsSleep hx h t e) (fun t15 h16 hf => ?_)
          exact PW.zret cx hrt (nbb _) qX7_readsWord_75 (le_wz hf)
        · refine PW.tswC (v := 4) (off := 75) (tgt := 76) cx qX7_readsWord_1 (by decide) (by decide) rfl rfl hf (fun hf => ?_) (fun hf n4 => ?_)
          · refine PW.aload_n cx qX7_readsWord_76 rfl ?_
            refine PW.callVWBc (As := []) (st := []) cx hR qX7_readsWord_77 klX7_286 mvX7_readsWake (sh_140 hx) rfl rfl rfl rfl (Nat.le_of_ble_eq_true rfl) (Nat.le_of_ble_eq_true rfl) (Nat.le_of_ble_eq_true rfl) (Nat.zero_le _) (Nat.zero_le _) hf sne (fun t e => ctX7_readsWake hx h t e) (fun t13 h14 hf => ?_)
            exact PW.zret cx hrt (nbb _) qX7_readsWord_80 (le_wz hf)
          · refine PW.tswC (v := 5) (off := 80) (tgt := 81) cx qX7_readsWord_1 (by decide) (by decide) rfl rfl hf (fun hf => ?_) (fun hf n5 => ?_)
            · refine PW.aload_n cx qX7_readsWord_81 rfl ?_
              refine PW.callVWBc (As := []) (st := []) cx hR qX7_readsWord_82 klX7_289 mvX7_readsCut (sh_140 hx) rfl rfl rfl rfl (Nat.le_of_ble_eq_true rfl) (Nat.le_of_ble_eq_true rfl) (Nat.le_of_ble_eq_true rfl) (Nat.zero_le _) (Nat.zero_le _) hf sne (fun t e => ctX7_readsCut hx h t e) (fun t11 h12 hf => ?_)
              exact PW.zret cx hrt (nbb _) qX7_readsWord_85 (le_wz hf)
            · refine PW.tswC (v := 6) (off := 85) (tgt := 86) cx qX7_readsWord_1 (by decide) (by decide) rfl rfl hf (fun hf => ?_) (fun hf n6 => ?_)
              · refine PW.aload_n cx qX7_readsWord_86 rfl ?_
                refine PW.callVWBc (As := []) (st := []) cx hR qX7_readsWord_87 klX7_292 mvX7_readsAir (sh_140 hx) rfl rfl rfl rfl (Nat.le_of_ble_eq_true rfl) (Nat.le_of_ble_eq_true rfl) (Nat.le_of_ble_eq_true rfl) (Nat.zero_le _) (Nat.zero_le _) hf sne (fun t e => ctX7_readsAir hx h t e) (fun t9 h10 hf => ?_)
                exact PW.zret cx hrt (nbb _) qX7_readsWord_90 (le_wz hf)
              · refine PW.tswC (v := 7) (off := 90) (tgt := 91) cx qX7_readsWord_1 (by decide) (by decide) rfl rfl hf (fun hf => ?_) (fun hf n7 => ?_)
                · refine PW.aload_n cx qX7_readsWord_91 rfl ?_
                  refine PW.callVWBc (As := []) (st := []) cx hR qX7_readsWord_92 klX7_295 mvX7_readsFeed (sh_140 hx) rfl rfl rfl rfl (Nat.le_of_ble_eq_true rfl) (Nat.le_of_ble_eq_true rfl) (Nat.le_of_ble_eq_true rfl) (Nat.zero_le _) (Nat.zero_le _) hf sne (fun t e => ctX7_readsFeed hx h t e) (fun t7 h8 hf => ?_)
                  exact PW.zret cx hrt (nbb _) qX7_readsWord_95 (le_wz hf)
                · refine PW.tswC (v := 8) (off := 95) (tgt := 96) cx qX7_readsWord_1 (by decide) (by decide) rfl rfl hf (fun hf => ?_) (fun hf n8 => ?_)
                  · refine PW.aload_n cx qX7_readsWord_96 rfl ?_
                    refine PW.callVWBc (As := []) (st := []) cx hR qX7_readsWord_97 klX7_298 mvX7_readsFood (sh_140 hx) rfl rfl rfl rfl (Nat.le_of_ble_eq_true rfl) (Nat.le_of_ble_eq_true rfl) (Nat.le_of_ble_eq_true rfl) (Nat.zero_le _) (Nat.zero_le _) hf sne (fun t e => ctX7_readsFood hx h t e) (fun t5 h6 hf => ?_)
                    exact PW.zret cx hrt (nbb _) qX7_readsWord_100 (le_wz hf)
                  · refine PW.tswC (v := 9) (off := 100) (tgt := 101) cx qX7_readsWord_1 (by decide) (by decide) rfl rfl hf (fun hf => ?_) (fun hf n9 => ?_)
                    · refine PW.aload_n cx qX7_readsWord_101 rfl ?_
                      refine PW.callVWBc (As := []) (st := []) cx hR qX7_readsWord_102 klX7_301 mvX7_readsPaint (sh_140 hx) rfl rfl rfl rfl (Nat.le_of_ble_eq_true rfl) (Nat.le_of_ble_eq_true rfl) (Nat.le_of_ble_eq_true rfl) (Nat.zero_le _) (Nat.zero_le _) hf sne (fun t e => ctX7_readsPaint hx h t e) (fun t3 h4 hf => ?_)
                      exact PW.zret cx hrt (nbb _) qX7_readsWord_105 (le_wz hf)
                    · refine PW.tswD cx qX7_readsWord_1 (tsw_out (lo := 0) (hi := 9) (N := 10) rfl (fun k hk => match k, hk with | 0, _ => n0 | 1, _ => n1 | 2, _ => n2 | 3, _ => n3 | 4, _ => n4 | 5, _ => n5 | 6, _ => n6 | 7, _ => n7 | 8, _ => n8 | 9, _ => n9 | k + 10, hk => absurd hk (by omega))) rfl ?_
                      refine PW.aload_n cx qX7_readsWord_106 rfl ?_
                      refine PW.callVWBc (As := []) (st := []) cx hR qX7_readsWord_107 klX7_304 mvX7_readsWeeks (sh_140 hx) rfl rfl rfl rfl (Nat.le_of_ble_eq_true rfl) (Nat.le_of_ble_eq_true rfl) (Nat.le_of_ble_eq_true rfl) (Nat.zero_le _) (Nat.zero_le _) hf sne (fun t e => ctX7_readsWeeks hx h t e) (fun t1 h2 hf => ?_)
                      exact PW.zret cx hrt (nbb _) qX7_readsWord_110 (le_wz hf)
set_option maxRecDepth 20000 in
theorem ctX7_readsCommand_0 {g : GT} {ex : Bool} {sh : List Shp} (hx : MSh sh) (h : Hp) (p1 : Int32) (r0 : Bool × Hp) (hf : M_readsCommand_0 h p1 = some r0) : Ct g mX7_readsCommand 10 0 0 ex [.ref (gB g + 140), .int p1] sh h (PE (some (.int (b2i r0.1))) sh r0.2) := by
  refine Ct.of (L := [some (.ref (gB g + 140)), some (.int p1), none]) (by decide) (by intro w hw; simp only [List.mem_cons, List.not_mem_nil, or_false] at hw; rcases hw with rfl | rfl <;> rfl) (Nat.le_of_ble_eq_true rfl) rfl (fun X mx => ?_)
  obtain ⟨cx, hR, hml, hrt, -⟩ := mx
  have cx : Cx g X RX7 cX7_readsCommand := cx
  have hrt : X.2.2.2.2.2.2.2.1.sig.returnType = (some .boolean) := hrt
  have hi2 : 2 < X.2.2.2.2.2.2.2.2.maxLocals := by rw [hml]; exact Nat.le_of_ble_eq_true rfl
  unfold M_readsCommand_0 at hf
  refine PW.aload_n cx qX7_readsCommand_0 rfl ?_
  refine PW.callVRI (As := []) (st := []) cx hR qX7_readsCommand_1 klX7_262 mvX7_wordAhead (sh_140 hx) rfl rfl rfl rfl (Nat.le_of_ble_eq_true rfl) (Nat.le_of_ble_eq_true rfl) (Nat.le_of_ble_eq_true rfl) (Nat.zero_le _) (Nat.zero_le _) hf sne (fun t e => ctX7_wordAhead hx h t e) (fun t1 hf => ?_)
  refine PW.istore_n (L' := [some (.ref (gB g + 140)), some (.int p1), some (.int t1)]) cx qX7_readsCommand_4 hi2 rfl rfl ?_
  refine PW.iload_n cx qX7_readsCommand_5 rfl ?_
  refine PW.iconst (v := (-1)) cx qX7_readsCommand_6 rfl ?_
  refine PW.icmp_ne cx qX7_readsCommand_7 hf (fun hf => ?_) (fun hf => ?_)
  · refine PW.aload_n cx qX7_readsCommand_10 rfl ?_
    refine PW.iconst (v := 1) cx qX7_readsCommand_11 rfl ?_
    refine PW.callVWBc (As := [.int 1]) (st := []) cx hR qX7_readsCommand_12 klX7_176 mvX7_fail (sh_140 hx) rfl rfl rfl rfl (Nat.le_of_ble_eq_true rfl) (Nat.le_of_ble_eq_true rfl) (Nat.le_of_ble_eq_true rfl) (Nat.zero_le _) (Nat.zero_le _) hf sne (fun t e => ctX7_fail hx h 1 t e) (fun t2 h3 hf => ?_)
    exact PW.zret cx hrt (nbb _) qX7_readsCommand_15 (le_wz hf)
  · refine PW.iload_n cx qX7_readsCommand_16 rfl ?_
    refine PW.bipush (v := 11) cx qX7_readsCommand_17 rfl ?_
    refine PW.icmp_ne cx qX7_readsCommand_19 hf (fun hf => ?_) (fun hf => ?_)
    · refine PW.iload_n cx qX7_readsCommand_22 rfl ?_
      refine PW.iconst (v := 2) cx qX7_readsCommand_23 rfl ?_
      refine PW.icmp_ne cx qX7_readsCommand_24 hf (fun hf => ?_) (fun hf => ?_)
      · refine PW.aload_n cx qX7_readsCommand_27 rfl ?_
        refine PW.iconst (v := 4) cx qX7_readsCommand_28 rfl ?_
        refine PW.callVWBc (As := [.int 4]) (st := []) cx hR qX7_readsCommand_29 klX7_176 mvX7_fail (sh_140 hx) rfl rfl rfl rfl (Nat.le_of_ble_eq_true rfl) (Nat.le_of_ble_eq_true rfl) (Nat.le_of_ble_eq_true rfl) (Nat.zero_le _) (Nat.zero_le _) hf sne (fun t e => ctX7_fail hx h 4 t e) (fun t4 h5 hf => ?_)
        exact PW.zret cx hrt (nbb _) qX7_readsCommand_32 (le_wz hf)
      · refine PW.aload_n cx qX7_readsCommand_33 rfl ?_
        refine PW.callVWV (As := []) (st := []) cx hR qX7_readsCommand_34 klX7_182 mvX7_next (sh_140 hx) rfl rfl rfl rfl (Nat.le_of_ble_eq_true rfl) (Nat.le_of_ble_eq_true rfl) (Nat.le_of_ble_eq_true rfl) (Nat.zero_le _) (Nat.zero_le _) hf sne (fun t e => ctX7_next hx h t e) (fun h7 hf => ?_)
        refine PW.aload_n cx qX7_readsCommand_37 rfl ?_
        refine PW.iload_n cx qX7_readsCommand_38 rfl ?_
        cases hf
    · refine PW.aload_n cx qX7_readsCommand_43 rfl ?_
      refine PW.getf (t := (0, 0)) (v := .int (rd h 140 20)) cx qX7_readsCommand_44 (sh_140 hx) rfl flX7_268 rfl ?_
      refine PW.sipush (v := 200) cx qX7_readsCommand_47 rfl ?_
      refine PW.icmp_ne cx qX7_readsCommand_50 hf (fun hf => ?_) (fun hf => ?_)
      · refine PW.aload_n cx qX7_readsCommand_53 rfl ?_
        refine PW.iconst (v := 5) cx qX7_readsCommand_54 rfl ?_
        refine PW.callVWBc (As := [.int 5]) (st := []) cx hR qX7_readsCommand_55 klX7_176 mvX7_fail (sh_140 hx) rfl rfl rfl rfl (Nat.le_of_ble_eq_true rfl) (Nat.le_of_ble_eq_true rfl) (Nat.le_of_ble_eq_true rfl) (Nat.zero_le _) (Nat.zero_le _) hf sne (fun t e => ctX7_fail hx h 5 t e) (fun t8 h9 hf => ?_)
        exact PW.zret cx hrt (nbb _) qX7_readsCommand_58 (le_wz hf)
      · refine PW.aload_n cx qX7_readsCommand_59 rfl ?_
        refine PW.dup cx qX7_readsCommand_60 rfl ?_
        refine PW.getf (t := (0, 0)) (v := .int (rd h 140 20)) cx qX7_readsCommand_61 (sh_140 hx) rfl flX7_268 rfl ?_
        refine PW.iconst (v := 1) cx qX7_readsCommand_64 rfl ?_
        refine PW.iadd cx qX7_readsCommand_65 ?_
        refine PW.putiN cx qX7_readsCommand_66 (sh_140 hx) rfl fpX7_268 hf (fun h10 hf => ?_)
        refine PW.aload_n cx qX7_readsCommand_69 rfl ?_
        refine PW.callVWV (As := []) (st := []) cx hR qX7_readsCommand_70 klX7_182 mvX7_next (sh_140 hx) rfl rfl rfl rfl (Nat.le_of_ble_eq_true rfl) (Nat.le_of_ble_eq_true rfl) (Nat.le_of_ble_eq_true rfl) (Nat.zero_le _) (Nat.zero_le _) hf sne (fun t e => ctX7_next hx h10 t e) (fun h12 hf => ?_)
        refine PW.aload_n cx qX7_readsCommand_73 rfl ?_
        refine PW.iload_n cx qX7_readsCommand_74 rfl ?_
        refine PW.callVWBc (As := [.int t1]) (st := []) cx hR qX7_readsCommand_75 klX7_271 mvX7_readsWord (sh_140 hx) rfl rfl rfl rfl (Nat.le_of_ble_eq_true rfl) (Nat.le_of_ble_eq_true rfl) (Nat.le_of_ble_eq_true rfl) (Nat.zero_le _) (Nat.zero_le _) hf sne (fun t e => ctX7_readsWord hx h12 t1 t e) (fun t13 h14 hf => ?_)
        exact PW.zret cx hrt (nbb _) qX7_readsCommand_78 (le_wz hf)
set_option maxRecDepth 20000 in
theorem lX7_readsRepeat_1_51 {g : GT} {X : XT} {ex : Bool} {post : Option Value → List Shp → Hp → Prop} {sh : List Shp} (mx : Mx g X mX7_readsRepeat 11 0 0) (hx : MSh sh) (c1 : Int32) (d2 : Int32) (d3 : Int32) (d4 : Int32) : ∀ (n : Nat) (h : Hp) (r : (Hp) ⊕ (Bool × Hp)) (hf : M_readsRepeat_1_L51 c1 n h = some r) (kx : ∀ (h1 : Hp), r = .inl h1 → PW g X ex (QE g X ex post 0 0) 0 0 sh h1 78 [some (.ref (gB g + 140)), some (.int c1), some (.int d2), some (.int d3), some (.int d4)] []) (kr : ∀ y : Bool × Hp, r = .inr y → post (some (.int (b2i y.1))) sh y.2), PW g X ex (QE g X ex post 0 0) 0 0 sh h 51 [some (.ref (gB g + 140)), some (.int c1), some (.int d2), some (.int d3), some (.int d4)] [] := by
  have mx0 := mx
  obtain ⟨cx, hR, hml, hrt, -⟩ := mx0
  have cx : Cx g X RX7 cX7_readsRepeat := cx
  have hrt : X.2.2.2.2.2.2.2.1.sig.returnType = (some .boolean) := hrt
  have hi2 : 2 < X.2.2.2.2.2.2.2.2.maxLocals := by rw [hml]; exact Nat.le_of_ble_eq_true rfl
  have hi3 : 3 < X.2.2.2.2.2.2.2.2.maxLocals := by rw [hml]; exact Nat.le_of_ble_eq_true rfl
  have hi4 : 4 < X.2.2.2.2.2.2.2.2.maxLocals := by rw [hml]; exact Nat.le_of_ble_eq_true rfl
  intro n
  induction n with
  | zero =>
    intro h r hf kx kr
    cases hf
  | succ n ih =>
    intro h r hf kx kr
    unfold M_readsRepeat_1_L51 at hf
    refine PW.aload_n cx qX7_readsRepeat_51 rfl ?_
    refine PW.getf (t := (0, 0)) (v := .int (rd h 140 16)) cx qX7_readsRepeat_52 (sh_140 hx) rfl flX7_164 rfl ?_
    refine PW.iconst (v := 5) cx qX7_readsRepeat_55 rfl ?_
    refine PW.icmp_eq cx qX7_readsRepeat_56 hf (fun hf => ?_) (fun hf => ?_)
    · exact PW.locs (Lsub.keep (Lsub.keep (Lsub.keep (Lsub.keep (Lsub.keep Lsub.nil))))) (kx h (Option.some.inj hf).symm)
    · refine PW.aload_n cx qX7_readsRepeat_59 rfl ?_
      refine PW.iload_n cx qX7_readsRepeat_60 rfl ?_
      refine PW.iconst (v := 1) cx qX7_readsRepeat_61 rfl ?_
      refine PW.iadd cx qX7_readsRepeat_62 ?_
      refine PW.callVWBc (As := [.int (c1 + 1)]) (st := []) cx hR qX7_readsRepeat_63 klX7_229 mvX7_readsCommand (sh_140 hx) rfl rfl rfl rfl (Nat.le_of_ble_eq_true rfl) (Nat.le_of_ble_eq_true rfl) (Nat.le_of_ble_eq_true rfl) (Nat.zero_le _) (Nat.zero_le _) hf sne (fun t e => ctX7_readsCommand_0 hx h (c1 + 1) t e) (fun t9 h10 hf => ?_)
      refine PW.if_ne cx qX7_readsRepeat_66 hf (fun hf => ?_) (fun hf => ?_)
      · refine PW.iconst (v := 0) cx qX7_readsRepeat_69 rfl ?_
        exact PW.zret cx hrt nb0 qX7_readsRepeat_70 (kr _ (Option.some.inj hf).symm)
      · refine PW.aload_n cx qX7_readsRepeat_71 rfl ?_
        refine PW.callVWV (As := []) (st := []) cx hR qX7_readsRepeat_72 klX7_182 mvX7_next (sh_140 hx) rfl rfl rfl rfl (Nat.le_of_ble_eq_true rfl) (Nat.le_of_ble_eq_true rfl) (Nat.le_of_ble_eq_true rfl) (Nat.zero_le _) (Nat.zero_le _) hf sne (fun t e => ctX7_next hx h10 t e) (fun h12 hf => ?_)
        refine PW.goto cx qX7_readsRepeat_75 ?_
        exact PW.locs (Lsub.keep (Lsub.keep (Lsub.keep (Lsub.keep (Lsub.keep Lsub.nil))))) (ih h12 _ hf kx kr)
set_option maxRecDepth 20000 in
theorem lX7_readsRepeat_1_36 {g : GT} {X : XT} {ex : Bool} {post : Option Value → List Shp → Hp → Prop} {sh : List Shp} (mx : Mx g X mX7_readsRepeat 11 0 0) (hx : MSh sh) (c1 : Int32) (c2 : Int32) (c3 : Int32) : ∀ (n : Nat) (v4 : Int32) (h : Hp) (r : (Hp) ⊕ (Bool × Hp)) (hf : M_readsRepeat_1_L36 c1 c2 c3 n v4 h = some r) (kx : ∀ (h1 : Hp), r = .inl h1 → PW g X ex (QE g X ex post 0 0) 0 0 sh h1 84 [some (.ref (gB g + 140)), some (.int c1), some (.int c2), some (.int c3), none] []) (kr : ∀ y : Bool × Hp, r = .inr y → post (some (.int (b2i y.1))) sh y.2), PW g X ex (QE g X ex post 0 0) 0 0 sh h 36 [some (.ref (gB g + 140)), some (.int c1), some (.int c2), some (.int c3), some (.int v4)] [] := by
  have mx0 := mx
  obtain ⟨cx, hR, hml, hrt, -⟩ := mx0
  have cx : Cx g X RX7 cX7_readsRepeat := cx
  have hrt : X.2.2.2.2.2.2.2.1.sig.returnType = (some .boolean) := hrt
  have hi2 : 2 < X.2.2.2.2.2.2.2.2.maxLocals := by rw [hml]; exact Nat.le_of_ble_eq_true rfl
  have hi3 : 3 < X.2.2.2.2.2.2.2.2.maxLocals := by rw [hml]; exact Nat.le_of_ble_eq_true rfl
  have hi4 : 4 < X.2.2.2.2.2.2.2.2.maxLocals := by rw [hml]; exact Nat.le_of_ble_eq_true rfl
  intro n
  induction n with
  | zero =>
    intro v4 h r hf kx kr
    cases hf
  | succ n ih =>
    intro v4 h r hf kx kr
    unfold M_readsRepeat_1_L36 at hf
    refine PW.iload cx qX7_readsRepeat_36 rfl ?_
    refine PW.iload_n cx qX7_readsRepeat_38 rfl ?_
    refine PW.icmp_ge cx qX7_readsRepeat_39 hf (fun hf => ?_) (fun hf => ?_)
    · exact PW.locs (Lsub.keep (Lsub.keep (Lsub.keep (Lsub.keep (Lsub.drop Lsub.nil))))) (kx h (Option.some.inj hf).symm)
    · refine PW.aload_n cx qX7_readsRepeat_42 rfl ?_
      refine PW.iload_n cx qX7_readsRepeat_43 rfl ?_
      refine PW.putiN cx qX7_readsRepeat_44 (sh_140 hx) rfl fpX7_158 hf (fun h6 hf => ?_)
      refine PW.aload_n cx qX7_readsRepeat_47 rfl ?_
      refine PW.callVWV (As := []) (st := []) cx hR qX7_readsRepeat_48 klX7_182 mvX7_next (sh_140 hx) rfl rfl rfl rfl (Nat.le_of_ble_eq_true rfl) (Nat.le_of_ble_eq_true rfl) (Nat.le_of_ble_eq_true rfl) (Nat.zero_le _) (Nat.zero_le _) hf sne (fun t e => ctX7_next hx h6 t e) (fun h8 hf => ?_)
      obtain ⟨r13, er13, hf⟩ := bndO hf sne
      refine PW.locs (Lsub.keep (Lsub.keep (Lsub.keep (Lsub.keep (Lsub.keep Lsub.nil))))) (lX7_readsRepeat_1_51 mx hx c1 c2 c3 v4 FU h8 r13 er13 (fun h14 e => ?_) (fun y e => ?_))
      · subst e
        refine PW.iinc (v := 1) (L' := [some (.ref (gB g + 140)), some (.int c1), some (.int c2), some (.int c3), some (.int (v4 + 1))]) cx qX7_readsRepeat_78 rfl rfl hi4 rfl rfl ?_
        refine PW.goto cx qX7_readsRepeat_81 ?_
        exact PW.locs (Lsub.keep (Lsub.keep (Lsub.keep (Lsub.keep (Lsub.keep Lsub.nil))))) (ih (v4 + 1) h14 _ hf kx kr)
      · subst e
        exact (kr _ (Option.some.inj hf).symm)
set_option maxRecDepth 20000 in
theorem ctX7_readsRepeat_1 {g : GT} {ex : Bool} {sh : List Shp} (hx : MSh sh) (h : Hp) (p1 : Int32) (r0 : Bool × Hp) (hf : M_readsRepeat_1 h p1 = some r0) : Ct g mX7_readsRepeat 11 0 0 ex [.ref (gB g + 140), .int p1] sh h (PE (some (.int (b2i r0.1))) sh r0.2) := by
  refine Ct.of (L := [some (.ref (gB g + 140)), some (.int p1), none, none, none]) (by decide) (by intro w hw; simp only [List.mem_cons, List.not_mem_nil, or_false] at hw; rcases hw with rfl | rfl <;> rfl) (Nat.le_of_ble_eq_true rfl) rfl (fun X mx => ?_)
  have mx0 := mx
  obtain ⟨cx, hR, hml, hrt, -⟩ := mx0
  have cx : Cx g X RX7 cX7_readsRepeat := cx
  have hrt : X.2.2.2.2.2.2.2.1.sig.returnType = (some .boolean) := hrt
  have hi2 : 2 < X.2.2.2.2.2.2.2.2.maxLocals := by rw [hml]; exact Nat.le_of_ble_eq_true rfl
  have hi3 : 3 < X.2.2.2.2.2.2.2.2.maxLocals := by rw [hml]; exact Nat.le_of_ble_eq_true rfl
  have hi4 : 4 < X.2.2.2.2.2.2.2.2.maxLocals := by rw [hml]; exact Nat.le_of_ble_eq_true rfl
  unfold M_readsRepeat_1 at hf
  refine PW.aload_n cx qX7_readsRepeat_0 rfl ?_
  refine PW.iconst (v := 0) cx qX7_readsRepeat_1 rfl ?_
  refine PW.iconst (v := 1) cx qX7_readsRepeat_2 rfl ?_
  refine PW.bipush (v := 20) cx qX7_readsRepeat_3 rfl ?_
  refine PW.callVWBc (As := [.int 0, .int 1, .int 20]) (st := []) cx hR qX7_readsRepeat_5 klX7_185 mvX7_number (sh_140 hx) rfl rfl rfl rfl (Nat.le_of_ble_eq_true rfl) (Nat.le_of_ble_eq_true rfl) (Nat.le_of_ble_eq_true rfl) (Nat.zero_le _) (Nat.zero_le _) hf sne (fun t e => ctX7_number hx h 0 1 20 t e) (fun t1 h2 hf => ?_)
  refine PW.if_eq cx qX7_readsRepeat_8 hf (fun hf => ?_) (fun hf => ?_)
  · refine PW.iconst (v := 0) cx qX7_readsRepeat_19 rfl ?_
    exact PW.zret cx hrt nb0 qX7_readsRepeat_20 (le_wz hf)
  · refine PW.aload_n cx qX7_readsRepeat_11 rfl ?_
    refine PW.iconst (v := 4) cx qX7_readsRepeat_12 rfl ?_
    refine PW.callVWBc (As := [.int 4]) (st := []) cx hR qX7_readsRepeat_13 klX7_179 mvX7_is (sh_140 hx) rfl rfl rfl rfl (Nat.le_of_ble_eq_true rfl) (Nat.le_of_ble_eq_true rfl) (Nat.le_of_ble_eq_true rfl) (Nat.zero_le _) (Nat.zero_le _) hf sne (fun t e => ctX7_is hx h2 4 t e) (fun t3 h4 hf => ?_)
    refine PW.if_ne cx qX7_readsRepeat_16 hf (fun hf => ?_) (fun hf => ?_)
    · refine PW.iconst (v := 0) cx qX7_readsRepeat_19 rfl ?_
      exact PW.zret cx hrt nb0 qX7_readsRepeat_20 (le_wz hf)
    · refine PW.aload_n cx qX7_readsRepeat_21 rfl ?_
      refine PW.getf (t := (2, 149)) (v := .ref (gB g + 149)) cx qX7_readsRepeat_22 (sh_140 hx) rfl flX7_39 rfl ?_
      refine PW.iconst (v := 0) cx qX7_readsRepeat_25 rfl ?_
      refine PW.iald cx qX7_readsRepeat_26 (sh_149 hx) hf sne (fun t5 hf => ?_)
      refine PW.istore_n (L' := [some (.ref (gB g + 140)), some (.int p1), some (.int t5), none, none]) cx qX7_readsRepeat_27 hi2 rfl rfl ?_
      refine PW.aload_n cx qX7_readsRepeat_28 rfl ?_
      refine PW.getf (t := (0, 0)) (v := .int (rd h4 140 18)) cx qX7_readsRepeat_29 (sh_140 hx) rfl flX7_158 rfl ?_
      refine PW.istore_n (L' := [some (.ref (gB g + 140)), some (.int p1), some (.int t5), some (.int (rd h4 140 18)), none]) cx qX7_readsRepeat_32 hi3 rfl rfl ?_
      refine PW.iconst (v := 0) cx qX7_readsRepeat_33 rfl ?_
      refine PW.istore (L' := [some (.ref (gB g + 140)), some (.int p1), some (.int t5), some (.int (rd h4 140 18)), some (.int 0)]) cx qX7_readsRepeat_34 hi4 rfl rfl ?_
      obtain ⟨r15, er15, hf⟩ := bndO hf sne
      refine PW.locs (Lsub.keep (Lsub.keep (Lsub.keep (Lsub.keep (Lsub.keep Lsub.nil))))) (lX7_readsRepeat_1_36 mx hx p1 t5 (rd h4 140 18) FU 0 h4 r15 er15 (fun h16 e => ?_) (fun y e => ?_))
      · subst e
        refine PW.aload_n cx qX7_readsRepeat_84 rfl ?_
        refine PW.callVWV (As := []) (st := []) cx hR qX7_readsRepeat_85 klX7_182 mvX7_next (sh_140 hx) rfl rfl rfl rfl (Nat.le_of_ble_eq_true rfl) (Nat.le_of_ble_eq_true rfl) (Nat.le_of_ble_eq_true rfl) (Nat.zero_le _) (Nat.zero_le _) hf sne (fun t e => ctX7_next hx h16 t e) (fun h18 hf => ?_)
        refine PW.aload_n cx qX7_readsRepeat_88 rfl ?_
        refine PW.iconst (v := 1) cx qX7_readsRepeat_89 rfl ?_
        refine PW.callVWBc (As := [.int 1]) (st := []) cx hR qX7_readsRepeat_90 klX7_179 mvX7_is (sh_140 hx) rfl rfl rfl rfl (Nat.le_of_ble_eq_true rfl) (Nat.le_of_ble_eq_true rfl) (Nat.le_of_ble_eq_true rfl) (Nat.zero_le _) (Nat.zero_le _) hf sne (fun t e => ctX7_is hx h18 1 t e) (fun t19 h20 hf => ?_)
        exact PW.zret cx hrt (nbb _) qX7_readsRepeat_93 (le_wz hf)
      · subst e
        exact (le_wz hf)
set_option maxRecDepth 20000 in
theorem ctX7_readsCommand_1 {g : GT} {ex : Bool} {sh : List Shp} (hx : MSh sh) (h : Hp) (p1 : Int32) (r0 : Bool × Hp) (hf : M_readsCommand_1 h p1 = some r0) : Ct g mX7_readsCommand 12 0 0 ex [.ref (gB g + 140), .int p1] sh h (PE (some (.int (b2i r0.1))) sh r0.2) := by
  refine Ct.of (L := [some (.ref (gB g + 140)), some (.int p1), none]) (by decide) (by intro w hw; simp only [List.mem_cons, List.not_mem_nil, or_false] at hw; rcases hw with rfl | rfl <;> rfl) (Nat.le_of_ble_eq_true rfl) rfl (fun X mx => ?_)
  obtain ⟨cx, hR, hml, hrt, -⟩ := mx
  have cx : Cx g X RX7 cX7_readsCommand := cx
  have hrt : X.2.2.2.2.2.2.2.1.sig.returnType = (some .boolean) := hrt
  have hi2 : 2 < X.2.2.2.2.2.2.2.2.maxLocals := by rw [hml]; exact Nat.le_of_ble_eq_true rfl
  unfold M_readsCommand_1 at hf
  refine PW.aload_n cx qX7_readsCommand_0 rfl ?_
  refine PW.callVRI (As := []) (st := []) cx hR qX7_readsCommand_1 klX7_262 mvX7_wordAhead (sh_140 hx) rfl rfl rfl rfl (Nat.le_of_ble_eq_true rfl) (Nat.le_of_ble_eq_true rfl) (Nat.le_of_ble_eq_true rfl) (Nat.zero_le _) (Nat.zero_le _) hf sne (fun t e => ctX7_wordAhead hx h t e) (fun t1 hf => ?_)
  refine PW.istore_n (L' := [some (.ref (gB g + 140)), some (.int p1), some (.int t1)]) cx qX7_readsCommand_4 hi2 rfl rfl ?_
  refine PW.iload_n cx qX7_readsCommand_5 rfl ?_
  refine PW.iconst (v := (-1)) cx qX7_readsCommand_6 rfl ?_
  refine PW.icmp_ne cx qX7_readsCommand_7 hf (fun hf => ?_) (fun hf => ?_)
  · refine PW.aload_n cx qX7_readsCommand_10 rfl ?_
    refine PW.iconst (v := 1) cx qX7_readsCommand_11 rfl ?_
    refine PW.callVWBc (As := [.int 1]) (st := []) cx hR qX7_readsCommand_12 klX7_176 mvX7_fail (sh_140 hx) rfl rfl rfl rfl (Nat.le_of_ble_eq_true rfl) (Nat.le_of_ble_eq_true rfl) (Nat.le_of_ble_eq_true rfl) (Nat.zero_le _) (Nat.zero_le _) hf sne (fun t e => ctX7_fail hx h 1 t e) (fun t2 h3 hf => ?_)
    exact PW.zret cx hrt (nbb _) qX7_readsCommand_15 (le_wz hf)
  · refine PW.iload_n cx qX7_readsCommand_16 rfl ?_
    refine PW.bipush (v := 11) cx qX7_readsCommand_17 rfl ?_
    refine PW.icmp_ne cx qX7_readsCommand_19 hf (fun hf => ?_) (fun hf => ?_)
    · refine PW.iload_n cx qX7_readsCommand_22 rfl ?_
      refine PW.iconst (v := 2) cx qX7_readsCommand_23 rfl ?_
      refine PW.icmp_ne cx qX7_readsCommand_24 hf (fun hf => ?_) (fun hf => ?_)
      · refine PW.aload_n cx qX7_readsCommand_27 rfl ?_
        refine PW.iconst (v := 4) cx qX7_readsCommand_28 rfl ?_
        refine PW.callVWBc (As := [.int 4]) (st := []) cx hR qX7_readsCommand_29 klX7_176 mvX7_fail (sh_140 hx) rfl rfl rfl rfl (Nat.le_of_ble_eq_true rfl) (Nat.le_of_ble_eq_true rfl) (Nat.le_of_ble_eq_true rfl) (Nat.zero_le _) (Nat.zero_le _) hf sne (fun t e => ctX7_fail hx h 4 t e) (fun t4 h5 hf => ?_)
        exact PW.zret cx hrt (nbb _) qX7_readsCommand_32 (le_wz hf)
      · refine PW.aload_n cx qX7_readsCommand_33 rfl ?_
        refine PW.callVWV (As := []) (st := []) cx hR qX7_readsCommand_34 klX7_182 mvX7_next (sh_140 hx) rfl rfl rfl rfl (Nat.le_of_ble_eq_true rfl) (Nat.le_of_ble_eq_true rfl) (Nat.le_of_ble_eq_true rfl) (Nat.zero_le _) (Nat.zero_le _) hf sne (fun t e => ctX7_next hx h t e) (fun h7 hf => ?_)
        refine PW.aload_n cx qX7_readsCommand_37 rfl ?_
        refine PW.iload_n cx qX7_readsCommand_38 rfl ?_
        refine PW.callVWBc (As := [.int p1]) (st := []) cx hR qX7_readsCommand_39 klX7_265 mvX7_readsRepeat (sh_140 hx) rfl rfl rfl rfl (Nat.le_of_ble_eq_true rfl) (Nat.le_of_ble_eq_true rfl) (Nat.le_of_ble_eq_true rfl) (Nat.zero_le _) (Nat.zero_le _) hf sne (fun t e => ctX7_readsRepeat_1 hx h7 p1 t e) (fun t8 h9 hf => ?_)
        exact PW.zret cx hrt (nbb _) qX7_readsCommand_42 (le_wz hf)
    · refine PW.aload_n cx qX7_readsCommand_43 rfl ?_
      refine PW.getf (t := (0, 0)) (v := .int (rd h 140 20)) cx qX7_readsCommand_44 (sh_140 hx) rfl flX7_268 rfl ?_
      refine PW.sipush (v := 200) cx qX7_readsCommand_47 rfl ?_
      refine PW.icmp_ne cx qX7_readsCommand_50 hf (fun hf => ?_) (fun hf => ?_)
      · refine PW.aload_n cx qX7_readsCommand_53 rfl ?_
        refine PW.iconst (v := 5) cx qX7_readsCommand_54 rfl ?_
        refine PW.callVWBc (As := [.int 5]) (st := []) cx hR qX7_readsCommand_55 klX7_176 mvX7_fail (sh_140 hx) rfl rfl rfl rfl (Nat.le_of_ble_eq_true rfl) (Nat.le_of_ble_eq_true rfl) (Nat.le_of_ble_eq_true rfl) (Nat.zero_le _) (Nat.zero_le _) hf sne (fun t e => ctX7_fail hx h 5 t e) (fun t10 h11 hf => ?_)
        exact PW.zret cx hrt (nbb _) qX7_readsCommand_58 (le_wz hf)
      · refine PW.aload_n cx qX7_readsCommand_59 rfl ?_
        refine PW.dup cx qX7_readsCommand_60 rfl ?_
        refine PW.getf (t := (0, 0)) (v := .int (rd h 140 20)) cx qX7_readsCommand_61 (sh_140 hx) rfl flX7_268 rfl ?_
        refine PW.iconst (v := 1) cx qX7_readsCommand_64 rfl ?_
        refine PW.iadd cx qX7_readsCommand_65 ?_
        refine PW.putiN cx qX7_readsCommand_66 (sh_140 hx) rfl fpX7_268 hf (fun h12 hf => ?_)
        refine PW.aload_n cx qX7_readsCommand_69 rfl ?_
        refine PW.callVWV (As := []) (st := []) cx hR qX7_readsCommand_70 klX7_182 mvX7_next (sh_140 hx) rfl rfl rfl rfl (Nat.le_of_ble_eq_true rfl) (Nat.le_of_ble_eq_true rfl) (Nat.le_of_ble_eq_true rfl) (Nat.zero_le _) (Nat.zero_le _) hf sne (fun t e => ctX7_next hx h12 t e) (fun h14 hf => ?_)
        refine PW.aload_n cx qX7_readsCommand_73 rfl ?_
        refine PW.iload_n cx qX7_readsCommand_74 rfl ?_
        refine PW.callVWBc (As := [.int t1]) (st := []) cx hR qX7_readsCommand_75 klX7_271 mvX7_readsWord (sh_140 hx) rfl rfl rfl rfl (Nat.le_of_ble_eq_true rfl) (Nat.le_of_ble_eq_true rfl) (Nat.le_of_ble_eq_true rfl) (Nat.zero_le _) (Nat.zero_le _) hf sne (fun t e => ctX7_readsWord hx h14 t1 t e) (fun t15 h16 hf => ?_)
        exact PW.zret cx hrt (nbb _) qX7_readsCommand_78 (le_wz hf)
set_option maxRecDepth 20000 in
theorem lX7_readsRepeat_2_51 {g : GT} {X : XT} {ex : Bool} {post : Option Value → List Shp → Hp → Prop} {sh : List Shp} (mx : Mx g X mX7_readsRepeat 13 0 0) (hx : MSh sh) (c1 : Int32) (d2 : Int32) (d3 : Int32) (d4 : Int32) : ∀ (n : Nat) (h : Hp) (r : (Hp) ⊕ (Bool × Hp)) (hf : M_readsRepeat_2_L51 c1 n h = some r) (kx : ∀ (h1 : Hp), r = .inl h1 → PW g X ex (QE g X ex post 0 0) 0 0 sh h1 78 [some (.ref (gB g + 140)), some (.int c1), some (.int d2), some (.int d3), some (.int d4)] []) (kr : ∀ y : Bool × Hp, r = .inr y → post (some (.int (b2i y.1))) sh y.2), PW g X ex (QE g X ex post 0 0) 0 0 sh h 51 [some (.ref (gB g + 140)), some (.int c1), some (.int d2), some (.int d3), some (.int d4)] [] := by
  have mx0 := mx
  obtain ⟨cx, hR, hml, hrt, -⟩ := mx0
  have cx : Cx g X RX7 cX7_readsRepeat := cx
  have hrt : X.2.2.2.2.2.2.2.1.sig.returnType = (some .boolean) := hrt
  have hi2 : 2 < X.2.2.2.2.2.2.2.2.maxLocals := by rw [hml]; exact Nat.le_of_ble_eq_true rfl
  have hi3 : 3 < X.2.2.2.2.2.2.2.2.maxLocals := by rw [hml]; exact Nat.le_of_ble_eq_true rfl
  have hi4 : 4 < X.2.2.2.2.2.2.2.2.maxLocals := by rw [hml]; exact Nat.le_of_ble_eq_true rfl
  intro n
  induction n with
  | zero =>
    intro h r hf kx kr
    cases hf
  | succ n ih =>
    intro h r hf kx kr
    unfold M_readsRepeat_2_L51 at hf
    refine PW.aload_n cx qX7_readsRepeat_51 rfl ?_
    refine PW.getf (t := (0, 0)) (v := .int (rd h 140 16)) cx qX7_readsRepeat_52 (sh_140 hx) rfl flX7_164 rfl ?_
    refine PW.iconst (v := 5) cx qX7_readsRepeat_55 rfl ?_
    refine PW.icmp_eq cx qX7_readsRepeat_56 hf (fun hf => ?_) (fun hf => ?_)
    · exact PW.locs (Lsub.keep (Lsub.keep (Lsub.keep (Lsub.keep (Lsub.keep Lsub.nil))))) (kx h (Option.some.inj hf).symm)
    · refine PW.aload_n cx qX7_readsRepeat_59 rfl ?_
      refine PW.iload_n cx qX7_readsRepeat_60 rfl ?_
      refine PW.iconst (v := 1) cx qX7_readsRepeat_61 rfl ?_
      refine PW.iadd cx qX7_readsRepeat_62 ?_
      refine PW.callVWBc (As := [.int (c1 + 1)]) (st := []) cx hR qX7_readsRepeat_63 klX7_229 mvX7_readsCommand (sh_140 hx) rfl rfl rfl rfl (Nat.le_of_ble_eq_true rfl) (Nat.le_of_ble_eq_true rfl) (Nat.le_of_ble_eq_true rfl) (Nat.zero_le _) (Nat.zero_le _) hf sne (fun t e => ctX7_readsCommand_1 hx h (c1 + 1) t e) (fun t9 h10 hf => ?_)
      refine PW.if_ne cx qX7_readsRepeat_66 hf (fun hf => ?_) (fun hf => ?_)
      · refine PW.iconst (v := 0) cx qX7_readsRepeat_69 rfl ?_
        exact PW.zret cx hrt nb0 qX7_readsRepeat_70 (kr _ (Option.some.inj hf).symm)
      · refine PW.aload_n cx qX7_readsRepeat_71 rfl ?_
        refine PW.callVWV (As := []) (st := []) cx hR qX7_readsRepeat_72 klX7_182 mvX7_next (sh_140 hx) rfl rfl rfl rfl (Nat.le_of_ble_eq_true rfl) (Nat.le_of_ble_eq_true rfl) (Nat.le_of_ble_eq_true rfl) (Nat.zero_le _) (Nat.zero_le _) hf sne (fun t e => ctX7_next hx h10 t e) (fun h12 hf => ?_)
        refine PW.goto cx qX7_readsRepeat_75 ?_
        exact PW.locs (Lsub.keep (Lsub.keep (Lsub.keep (Lsub.keep (Lsub.keep Lsub.nil))))) (ih h12 _ hf kx kr)
set_option maxRecDepth 20000 in
theorem lX7_readsRepeat_2_36 {g : GT} {X : XT} {ex : Bool} {post : Option Value → List Shp → Hp → Prop} {sh : List Shp} (mx : Mx g X mX7_readsRepeat 13 0 0) (hx : MSh sh) (c1 : Int32) (c2 : Int32) (c3 : Int32) : ∀ (n : Nat) (v4 : Int32) (h : Hp) (r : (Hp) ⊕ (Bool × Hp)) (hf : M_readsRepeat_2_L36 c1 c2 c3 n v4 h = some r) (kx : ∀ (h1 : Hp), r = .inl h1 → PW g X ex (QE g X ex post 0 0) 0 0 sh h1 84 [some (.ref (gB g + 140)), some (.int c1), some (.int c2), some (.int c3), none] []) (kr : ∀ y : Bool × Hp, r = .inr y → post (some (.int (b2i y.1))) sh y.2), PW g X ex (QE g X ex post 0 0) 0 0 sh h 36 [some (.ref (gB g + 140)), some (.int c1), some (.int c2), some (.int c3), some (.int v4)] [] := by
  have mx0 := mx
  obtain ⟨cx, hR, hml, hrt, -⟩ := mx0
  have cx : Cx g X RX7 cX7_readsRepeat := cx
  have hrt : X.2.2.2.2.2.2.2.1.sig.returnType = (some .boolean) := hrt
  have hi2 : 2 < X.2.2.2.2.2.2.2.2.maxLocals := by rw [hml]; exact Nat.le_of_ble_eq_true rfl
  have hi3 : 3 < X.2.2.2.2.2.2.2.2.maxLocals := by rw [hml]; exact Nat.le_of_ble_eq_true rfl
  have hi4 : 4 < X.2.2.2.2.2.2.2.2.maxLocals := by rw [hml]; exact Nat.le_of_ble_eq_true rfl
  intro n
  induction n with
  | zero =>
    intro v4 h r hf kx kr
    cases hf
  | succ n ih =>
    intro v4 h r hf kx kr
    unfold M_readsRepeat_2_L36 at hf
    refine PW.iload cx qX7_readsRepeat_36 rfl ?_
    refine PW.iload_n cx qX7_readsRepeat_38 rfl ?_
    refine PW.icmp_ge cx qX7_readsRepeat_39 hf (fun hf => ?_) (fun hf => ?_)
    · exact PW.locs (Lsub.keep (Lsub.keep (Lsub.keep (Lsub.keep (Lsub.drop Lsub.nil))))) (kx h (Option.some.inj hf).symm)
    · refine PW.aload_n cx qX7_readsRepeat_42 rfl ?_
      refine PW.iload_n cx qX7_readsRepeat_43 rfl ?_
      refine PW.putiN cx qX7_readsRepeat_44 (sh_140 hx) rfl fpX7_158 hf (fun h6 hf => ?_)
      refine PW.aload_n cx qX7_readsRepeat_47 rfl ?_
      refine PW.callVWV (As := []) (st := []) cx hR qX7_readsRepeat_48 klX7_182 mvX7_next (sh_140 hx) rfl rfl rfl rfl (Nat.le_of_ble_eq_true rfl) (Nat.le_of_ble_eq_true rfl) (Nat.le_of_ble_eq_true rfl) (Nat.zero_le _) (Nat.zero_le _) hf sne (fun t e => ctX7_next hx h6 t e) (fun h8 hf => ?_)
      obtain ⟨r13, er13, hf⟩ := bndO hf sne
      refine PW.locs (Lsub.keep (Lsub.keep (Lsub.keep (Lsub.keep (Lsub.keep Lsub.nil))))) (lX7_readsRepeat_2_51 mx hx c1 c2 c3 v4 FU h8 r13 er13 (fun h14 e => ?_) (fun y e => ?_))
      · subst e
        refine PW.iinc (v := 1) (L' := [some (.ref (gB g + 140)), some (.int c1), some (.int c2), some (.int c3), some (.int (v4 + 1))]) cx qX7_readsRepeat_78 rfl rfl hi4 rfl rfl ?_
        refine PW.goto cx qX7_readsRepeat_81 ?_
        exact PW.locs (Lsub.keep (Lsub.keep (Lsub.keep (Lsub.keep (Lsub.keep Lsub.nil))))) (ih (v4 + 1) h14 _ hf kx kr)
      · subst e
        exact (kr _ (Option.some.inj hf).symm)
set_option maxRecDepth 20000 in
theorem ctX7_readsRepeat_2 {g : GT} {ex : Bool} {sh : List Shp} (hx : MSh sh) (h : Hp) (p1 : Int32) (r0 : Bool × Hp) (hf : M_readsRepeat_2 h p1 = some r0) : Ct g mX7_readsRepeat 13 0 0 ex [.ref (gB g + 140), .int p1] sh h (PE (some (.int (b2i r0.1))) sh r0.2) := by
  refine Ct.of (L := [some (.ref (gB g + 140)), some (.int p1), none, none, none]) (by decide) (by intro w hw; simp only [List.mem_cons, List.not_mem_nil, or_false] at hw; rcases hw with rfl | rfl <;> rfl) (Nat.le_of_ble_eq_true rfl) rfl (fun X mx => ?_)
  have mx0 := mx
  obtain ⟨cx, hR, hml, hrt, -⟩ := mx0
  have cx : Cx g X RX7 cX7_readsRepeat := cx
  have hrt : X.2.2.2.2.2.2.2.1.sig.returnType = (some .boolean) := hrt
  have hi2 : 2 < X.2.2.2.2.2.2.2.2.maxLocals := by rw [hml]; exact Nat.le_of_ble_eq_true rfl
  have hi3 : 3 < X.2.2.2.2.2.2.2.2.maxLocals := by rw [hml]; exact Nat.le_of_ble_eq_true rfl
  have hi4 : 4 < X.2.2.2.2.2.2.2.2.maxLocals := by rw [hml]; exact Nat.le_of_ble_eq_true rfl
  unfold M_readsRepeat_2 at hf
  refine PW.aload_n cx qX7_readsRepeat_0 rfl ?_
  refine PW.iconst (v := 0) cx qX7_readsRepeat_1 rfl ?_
  refine PW.iconst (v := 1) cx qX7_readsRepeat_2 rfl ?_
  refine PW.bipush (v := 20) cx qX7_readsRepeat_3 rfl ?_
  refine PW.callVWBc (As := [.int 0, .int 1, .int 20]) (st := []) cx hR qX7_readsRepeat_5 klX7_185 mvX7_number (sh_140 hx) rfl rfl rfl rfl (Nat.le_of_ble_eq_true rfl) (Nat.le_of_ble_eq_true rfl) (Nat.le_of_ble_eq_true rfl) (Nat.zero_le _) (Nat.zero_le _) hf sne (fun t e => ctX7_number hx h 0 1 20 t e) (fun t1 h2 hf => ?_)
  refine PW.if_eq cx qX7_readsRepeat_8 hf (fun hf => ?_) (fun hf => ?_)
  · refine PW.iconst (v := 0) cx qX7_readsRepeat_19 rfl ?_
    exact PW.zret cx hrt nb0 qX7_readsRepeat_20 (le_wz hf)
  · refine PW.aload_n cx qX7_readsRepeat_11 rfl ?_
    refine PW.iconst (v := 4) cx qX7_readsRepeat_12 rfl ?_
    refine PW.callVWBc (As := [.int 4]) (st := []) cx hR qX7_readsRepeat_13 klX7_179 mvX7_is (sh_140 hx) rfl rfl rfl rfl (Nat.le_of_ble_eq_true rfl) (Nat.le_of_ble_eq_true rfl) (Nat.le_of_ble_eq_true rfl) (Nat.zero_le _) (Nat.zero_le _) hf sne (fun t e => ctX7_is hx h2 4 t e) (fun t3 h4 hf => ?_)
    refine PW.if_ne cx qX7_readsRepeat_16 hf (fun hf => ?_) (fun hf => ?_)
    · refine PW.iconst (v := 0) cx qX7_readsRepeat_19 rfl ?_
      exact PW.zret cx hrt nb0 qX7_readsRepeat_20 (le_wz hf)
    · refine PW.aload_n cx qX7_readsRepeat_21 rfl ?_
      refine PW.getf (t := (2, 149)) (v := .ref (gB g + 149)) cx qX7_readsRepeat_22 (sh_140 hx) rfl flX7_39 rfl ?_
      refine PW.iconst (v := 0) cx qX7_readsRepeat_25 rfl ?_
      refine PW.iald cx qX7_readsRepeat_26 (sh_149 hx) hf sne (fun t5 hf => ?_)
      refine PW.istore_n (L' := [some (.ref (gB g + 140)), some (.int p1), some (.int t5), none, none]) cx qX7_readsRepeat_27 hi2 rfl rfl ?_
      refine PW.aload_n cx qX7_readsRepeat_28 rfl ?_
      refine PW.getf (t := (0, 0)) (v := .int (rd h4 140 18)) cx qX7_readsRepeat_29 (sh_140 hx) rfl flX7_158 rfl ?_
      refine PW.istore_n (L' := [some (.ref (gB g + 140)), some (.int p1), some (.int t5), some (.int (rd h4 140 18)), none]) cx qX7_readsRepeat_32 hi3 rfl rfl ?_
      refine PW.iconst (v := 0) cx qX7_readsRepeat_33 rfl ?_
      refine PW.istore (L' := [some (.ref (gB g + 140)), some (.int p1), some (.int t5), some (.int (rd h4 140 18)), some (.int 0)]) cx qX7_readsRepeat_34 hi4 rfl rfl ?_
      obtain ⟨r15, er15, hf⟩ := bndO hf sne
      refine PW.locs (Lsub.keep (Lsub.keep (Lsub.keep (Lsub.keep (Lsub.keep Lsub.nil))))) (lX7_readsRepeat_2_36 mx hx p1 t5 (rd h4 140 18) FU 0 h4 r15 er15 (fun h16 e => ?_) (fun y e => ?_))
      · subst e
        refine PW.aload_n cx qX7_readsRepeat_84 rfl ?_
        refine PW.callVWV (As := []) (st := []) cx hR qX7_readsRepeat_85 klX7_182 mvX7_next (sh_140 hx) rfl rfl rfl rfl (Nat.le_of_ble_eq_true rfl) (Nat.le_of_ble_eq_true rfl) (Nat.le_of_ble_eq_true rfl) (Nat.zero_le _) (Nat.zero_le _) hf sne (fun t e => ctX7_next hx h16 t e) (fun h18 hf => ?_)
        refine PW.aload_n cx qX7_readsRepeat_88 rfl ?_
        refine PW.iconst (v := 1) cx qX7_readsRepeat_89 rfl ?_
        refine PW.callVWBc (As := [.int 1]) (st := []) cx hR qX7_readsRepeat_90 klX7_179 mvX7_is (sh_140 hx) rfl rfl rfl rfl (Nat.le_of_ble_eq_true rfl) (Nat.le_of_ble_eq_true rfl) (Nat.le_of_ble_eq_true rfl) (Nat.zero_le _) (Nat.zero_le _) hf sne (fun t e => ctX7_is hx h18 1 t e) (fun t19 h20 hf => ?_)
        exact PW.zret cx hrt (nbb _) qX7_readsRepeat_93 (le_wz hf)
      · subst e
        exact (le_wz hf)
set_option maxRecDepth 20000 in
theorem ctX7_readsCommand_2 {g : GT} {ex : Bool} {sh : List Shp} (hx : MSh sh) (h : Hp) (p1 : Int32) (r0 : Bool × Hp) (hf : M_readsCommand_2 h p1 = some r0) : Ct g mX7_readsCommand 14 0 0 ex [.ref (gB g + 140), .int p1] sh h (PE (some (.int (b2i r0.1))) sh r0.2) := by
  refine Ct.of (L := [some (.ref (gB g + 140)), some (.int p1), none]) (by decide) (by intro w hw; simp only [List.mem_cons, List.not_mem_nil, or_false] at hw; rcases hw with rfl | rfl <;> rfl) (Nat.le_of_ble_eq_true rfl) rfl (fun X mx => ?_)
  obtain ⟨cx, hR, hml, hrt, -⟩ := mx
  have cx : Cx g X RX7 cX7_readsCommand := cx
  have hrt : X.2.2.2.2.2.2.2.1.sig.returnType = (some .boolean) := hrt
  have hi2 : 2 < X.2.2.2.2.2.2.2.2.maxLocals := by rw [hml]; exact Nat.le_of_ble_eq_true rfl
  unfold M_readsCommand_2 at hf
  refine PW.aload_n cx qX7_readsCommand_0 rfl ?_
  refine PW.callVRI (As := []) (st := []) cx hR qX7_readsCommand_1 klX7_262 mvX7_wordAhead (sh_140 hx) rfl rfl rfl rfl (Nat.le_of_ble_eq_true rfl) (Nat.le_of_ble_eq_true rfl) (Nat.le_of_ble_eq_true rfl) (Nat.zero_le _) (Nat.zero_le _) hf sne (fun t e => ctX7_wordAhead hx h t e) (fun t1 hf => ?_)
  refine PW.istore_n (L' := [some (.ref (gB g + 140)), some (.int p1), some (.int t1)]) cx qX7_readsCommand_4 hi2 rfl rfl ?_
  refine PW.iload_n cx qX7_readsCommand_5 rfl ?_
  refine PW.iconst (v := (-1)) cx qX7_readsCommand_6 rfl ?_
  refine PW.icmp_ne cx qX7_readsCommand_7 hf (fun hf => ?_) (fun hf => ?_)
  · refine PW.aload_n cx qX7_readsCommand_10 rfl ?_
    refine PW.iconst (v := 1) cx qX7_readsCommand_11 rfl ?_
    refine PW.callVWBc (As := [.int 1]) (st := []) cx hR qX7_readsCommand_12 klX7_176 mvX7_fail (sh_140 hx) rfl rfl rfl rfl (Nat.le_of_ble_eq_true rfl) (Nat.le_of_ble_eq_true rfl) (Nat.le_of_ble_eq_true rfl) (Nat.zero_le _) (Nat.zero_le _) hf sne (fun t e => ctX7_fail hx h 1 t e) (fun t2 h3 hf => ?_)
    exact PW.zret cx hrt (nbb _) qX7_readsCommand_15 (le_wz hf)
  · refine PW.iload_n cx qX7_readsCommand_16 rfl ?_
    refine PW.bipush (v := 11) cx qX7_readsCommand_17 rfl ?_
    refine PW.icmp_ne cx qX7_readsCommand_19 hf (fun hf => ?_) (fun hf => ?_)
    · refine PW.iload_n cx qX7_readsCommand_22 rfl ?_
      refine PW.iconst (v := 2) cx qX7_readsCommand_23 rfl ?_
      refine PW.icmp_ne cx qX7_readsCommand_24 hf (fun hf => ?_) (fun hf => ?_)
      · refine PW.aload_n cx qX7_readsCommand_27 rfl ?_
        refine PW.iconst (v := 4) cx qX7_readsCommand_28 rfl ?_
        refine PW.callVWBc (As := [.int 4]) (st := []) cx hR qX7_readsCommand_29 klX7_176 mvX7_fail (sh_140 hx) rfl rfl rfl rfl (Nat.le_of_ble_eq_true rfl) (Nat.le_of_ble_eq_true rfl) (Nat.le_of_ble_eq_true rfl) (Nat.zero_le _) (Nat.zero_le _) hf sne (fun t e => ctX7_fail hx h 4 t e) (fun t4 h5 hf => ?_)
        exact PW.zret cx hrt (nbb _) qX7_readsCommand_32 (le_wz hf)
      · refine PW.aload_n cx qX7_readsCommand_33 rfl ?_
        refine PW.callVWV (As := []) (st := []) cx hR qX7_readsCommand_34 klX7_182 mvX7_next (sh_140 hx) rfl rfl rfl rfl (Nat.le_of_ble_eq_true rfl) (Nat.le_of_ble_eq_true rfl) (Nat.le_of_ble_eq_true rfl) (Nat.zero_le _) (Nat.zero_le _) hf sne (fun t e => ctX7_next hx h t e) (fun h7 hf => ?_)
        refine PW.aload_n cx qX7_readsCommand_37 rfl ?_
        refine PW.iload_n cx qX7_readsCommand_38 rfl ?_
        refine PW.callVWBc (As := [.int p1]) (st := []) cx hR qX7_readsCommand_39 klX7_265 mvX7_readsRepeat (sh_140 hx) rfl rfl rfl rfl (Nat.le_of_ble_eq_true rfl) (Nat.le_of_ble_eq_true rfl) (Nat.le_of_ble_eq_true rfl) (Nat.zero_le _) (Nat.zero_le _) hf sne (fun t e => ctX7_readsRepeat_2 hx h7 p1 t e) (fun t8 h9 hf => ?_)
        exact PW.zret cx hrt (nbb _) qX7_readsCommand_42 (le_wz hf)
    · refine PW.aload_n cx qX7_readsCommand_43 rfl ?_
      refine PW.getf (t := (0, 0)) (v := .int (rd h 140 20)) cx qX7_readsCommand_44 (sh_140 hx) rfl flX7_268 rfl ?_
      refine PW.sipush (v := 200) cx qX7_readsCommand_47 rfl ?_
      refine PW.icmp_ne cx qX7_readsCommand_50 hf (fun hf => ?_) (fun hf => ?_)
      · refine PW.aload_n cx qX7_readsCommand_53 rfl ?_
        refine PW.iconst (v := 5) cx qX7_readsCommand_54 rfl ?_
        refine PW.callVWBc (As := [.int 5]) (st := []) cx hR qX7_readsCommand_55 klX7_176 mvX7_fail (sh_140 hx) rfl rfl rfl rfl (Nat.le_of_ble_eq_true rfl) (Nat.le_of_ble_eq_true rfl) (Nat.le_of_ble_eq_true rfl) (Nat.zero_le _) (Nat.zero_le _) hf sne (fun t e => ctX7_fail hx h 5 t e) (fun t10 h11 hf => ?_)
        exact PW.zret cx hrt (nbb _) qX7_readsCommand_58 (le_wz hf)
      · refine PW.aload_n cx qX7_readsCommand_59 rfl ?_
        refine PW.dup cx qX7_readsCommand_60 rfl ?_
        refine PW.getf (t := (0, 0)) (v := .int (rd h 140 20)) cx qX7_readsCommand_61 (sh_140 hx) rfl flX7_268 rfl ?_
        refine PW.iconst (v := 1) cx qX7_readsCommand_64 rfl ?_
        refine PW.iadd cx qX7_readsCommand_65 ?_
        refine PW.putiN cx qX7_readsCommand_66 (sh_140 hx) rfl fpX7_268 hf (fun h12 hf => ?_)
        refine PW.aload_n cx qX7_readsCommand_69 rfl ?_
        refine PW.callVWV (As := []) (st := []) cx hR qX7_readsCommand_70 klX7_182 mvX7_next (sh_140 hx) rfl rfl rfl rfl (Nat.le_of_ble_eq_true rfl) (Nat.le_of_ble_eq_true rfl) (Nat.le_of_ble_eq_true rfl) (Nat.zero_le _) (Nat.zero_le _) hf sne (fun t e => ctX7_next hx h12 t e) (fun h14 hf => ?_)
        refine PW.aload_n cx qX7_readsCommand_73 rfl ?_
        refine PW.iload_n cx qX7_readsCommand_74 rfl ?_
        refine PW.callVWBc (As := [.int t1]) (st := []) cx hR qX7_readsCommand_75 klX7_271 mvX7_readsWord (sh_140 hx) rfl rfl rfl rfl (Nat.le_of_ble_eq_true rfl) (Nat.le_of_ble_eq_true rfl) (Nat.le_of_ble_eq_true rfl) (Nat.zero_le _) (Nat.zero_le _) hf sne (fun t e => ctX7_readsWord hx h14 t1 t e) (fun t15 h16 hf => ?_)
        exact PW.zret cx hrt (nbb _) qX7_readsCommand_78 (le_wz hf)
set_option maxRecDepth 20000 in
theorem lX7_readsAll_34 {g : GT} {X : XT} {ex : Bool} {post : Option Value → List Shp → Hp → Prop} {sh : List Shp} (mx : Mx g X mX7_readsAll 15 0 0) (hx : MSh sh) : ∀ (n : Nat) (h : Hp) (r : (Hp) ⊕ (Bool × Hp)) (hf : M_readsAll_L34 n h = some r) (kx : ∀ (h1 : Hp), r = .inl h1 → PW g X ex (QE g X ex post 0 0) 0 0 sh h1 58 [some (.ref (gB g + 140))] []) (kr : ∀ y : Bool × Hp, r = .inr y → post (some (.int (b2i y.1))) sh y.2), PW g X ex (QE g X ex post 0 0) 0 0 sh h 34 [some (.ref (gB g + 140))] [] := by
  have mx0 := mx
  obtain ⟨cx, hR, hml, hrt, -⟩ := mx0
  have cx : Cx g X RX7 cX7_readsAll := cx
  have hrt : X.2.2.2.2.2.2.2.1.sig.returnType = (some .boolean) := hrt
  intro n
  induction n with
  | zero =>
    intro h r hf kx kr
    cases hf
  | succ n ih =>
    intro h r hf kx kr
    unfold M_readsAll_L34 at hf
    refine PW.aload_n cx qX7_readsAll_34 rfl ?_
    refine PW.getf (t := (0, 0)) (v := .int (rd h 140 16)) cx qX7_readsAll_35 (sh_140 hx) rfl flX7_164 rfl ?_
    refine PW.if_eq cx qX7_readsAll_38 hf (fun hf => ?_) (fun hf => ?_)
    · exact PW.locs (Lsub.keep Lsub.nil) (kx h (Option.some.inj hf).symm)
    · refine PW.aload_n cx qX7_readsAll_41 rfl ?_
      refine PW.iconst (v := 0) cx qX7_readsAll_42 rfl ?_
      refine PW.callVWBc (As := [.int 0]) (st := []) cx hR qX7_readsAll_43 klX7_229 mvX7_readsCommand (sh_140 hx) rfl rfl rfl rfl (Nat.le_of_ble_eq_true rfl) (Nat.le_of_ble_eq_true rfl) (Nat.le_of_ble_eq_true rfl) (Nat.zero_le _) (Nat.zero_le _) hf sne (fun t e => ctX7_readsCommand_2 hx h 0 t e) (fun t10 h11 hf => ?_)
      refine PW.if_ne cx qX7_readsAll_46 hf (fun hf => ?_) (fun hf => ?_)
      · refine PW.iconst (v := 0) cx qX7_readsAll_49 rfl ?_
        exact PW.zret cx hrt nb0 qX7_readsAll_50 (kr _ (Option.some.inj hf).symm)
      · refine PW.aload_n cx qX7_readsAll_51 rfl ?_
        refine PW.callVWV (As := []) (st := []) cx hR qX7_readsAll_52 klX7_182 mvX7_next (sh_140 hx) rfl rfl rfl rfl (Nat.le_of_ble_eq_true rfl) (Nat.le_of_ble_eq_true rfl) (Nat.le_of_ble_eq_true rfl) (Nat.zero_le _) (Nat.zero_le _) hf sne (fun t e => ctX7_next hx h11 t e) (fun h13 hf => ?_)
        refine PW.goto cx qX7_readsAll_55 ?_
        exact PW.locs (Lsub.keep Lsub.nil) (ih h13 _ hf kx kr)
set_option maxRecDepth 20000 in
theorem ctX7_readsAll {g : GT} {ex : Bool} {sh : List Shp} (hx : MSh sh) (h : Hp) (r0 : Bool × Hp) (hf : M_readsAll h = some r0) : Ct g mX7_readsAll 15 0 0 ex [.ref (gB g + 140)] sh h (PE (some (.int (b2i r0.1))) sh r0.2) := by
  refine Ct.of (L := [some (.ref (gB g + 140))]) (by decide) (by intro w hw; simp only [List.mem_cons, List.not_mem_nil, or_false] at hw; rcases hw with rfl <;> rfl) (Nat.le_of_ble_eq_true rfl) rfl (fun X mx => ?_)
  have mx0 := mx
  obtain ⟨cx, hR, hml, hrt, -⟩ := mx0
  have cx : Cx g X RX7 cX7_readsAll := cx
  have hrt : X.2.2.2.2.2.2.2.1.sig.returnType = (some .boolean) := hrt
  unfold M_readsAll at hf
  refine PW.aload_n cx qX7_readsAll_0 rfl ?_
  refine PW.ldcSW (v := 112) cx qX7_readsAll_1 ksX7_307 ?_
  refine PW.callVRB (As := [.ref (ga g (112 : Int32).toNatClampNeg)]) (st := []) cx hR qX7_readsAll_4 klX7_234 mvX7_says (sh_140 hx) rfl rfl rfl rfl (Nat.le_of_ble_eq_true rfl) (Nat.le_of_ble_eq_true rfl) (Nat.le_of_ble_eq_true rfl) (Nat.zero_le _) (Nat.zero_le _) hf sne (fun t e => ctX7_says hx h 112 t e) (fun t1 hf => ?_)
  refine PW.if_ne cx qX7_readsAll_7 hf (fun hf => ?_) (fun hf => ?_)
  · refine PW.aload_n cx qX7_readsAll_10 rfl ?_
    refine PW.iconst (v := 1) cx qX7_readsAll_11 rfl ?_
    refine PW.callVWBc (As := [.int 1]) (st := []) cx hR qX7_readsAll_12 klX7_176 mvX7_fail (sh_140 hx) rfl rfl rfl rfl (Nat.le_of_ble_eq_true rfl) (Nat.le_of_ble_eq_true rfl) (Nat.le_of_ble_eq_true rfl) (Nat.zero_le _) (Nat.zero_le _) hf sne (fun t e => ctX7_fail hx h 1 t e) (fun t2 h3 hf => ?_)
    exact PW.zret cx hrt (nbb _) qX7_readsAll_15 (le_wz hf)
  · refine PW.aload_n cx qX7_readsAll_16 rfl ?_
    refine PW.callVWV (As := []) (st := []) cx hR qX7_readsAll_17 klX7_182 mvX7_next (sh_140 hx) rfl rfl rfl rfl (Nat.le_of_ble_eq_true rfl) (Nat.le_of_ble_eq_true rfl) (Nat.le_of_ble_eq_true rfl) (Nat.zero_le _) (Nat.zero_le _) hf sne (fun t e => ctX7_next hx h t e) (fun h5 hf => ?_)
    refine PW.aload_n cx qX7_readsAll_20 rfl ?_
    refine PW.iconst (v := 1) cx qX7_readsAll_21 rfl ?_
    refine PW.callVWBc (As := [.int 1]) (st := []) cx hR qX7_readsAll_22 klX7_179 mvX7_is (sh_140 hx) rfl rfl rfl rfl (Nat.le_of_ble_eq_true rfl) (Nat.le_of_ble_eq_true rfl) (Nat.le_of_ble_eq_true rfl) (Nat.zero_le _) (Nat.zero_le _) hf sne (fun t e => ctX7_is hx h5 1 t e) (fun t6 h7 hf => ?_)
    refine PW.if_ne cx qX7_readsAll_25 hf (fun hf => ?_) (fun hf => ?_)
    · refine PW.iconst (v := 0) cx qX7_readsAll_28 rfl ?_
      exact PW.zret cx hrt nb0 qX7_readsAll_29 (le_wz hf)
    · refine PW.aload_n cx qX7_readsAll_30 rfl ?_
      refine PW.callVWV (As := []) (st := []) cx hR qX7_readsAll_31 klX7_182 mvX7_next (sh_140 hx) rfl rfl rfl rfl (Nat.le_of_ble_eq_true rfl) (Nat.le_of_ble_eq_true rfl) (Nat.le_of_ble_eq_true rfl) (Nat.zero_le _) (Nat.zero_le _) hf sne (fun t e => ctX7_next hx h7 t e) (fun h9 hf => ?_)
      obtain ⟨r14, er14, hf⟩ := bndO hf sne
      refine PW.locs (Lsub.keep Lsub.nil) (lX7_readsAll_34 mx hx FU h9 r14 er14 (fun h15 e => ?_) (fun y e => ?_))
      · subst e
        refine PW.iconst (v := 1) cx qX7_readsAll_58 rfl ?_
        exact PW.zret cx hrt nb1 qX7_readsAll_59 (le_wz hf)
      · subst e
        exact (le_wz hf)
set_option maxRecDepth 20000 in
theorem lX7_parses_2 {g : GT} {X : XT} {ex : Bool} {post : Option Value → List Shp → Hp → Prop} {sh : List Shp} (mx : Mx g X mX7_parses 16 0 0) (hx : MSh sh) : ∀ (n : Nat) (v1 : Int32) (h : Hp) (r : Hp) (hf : M_parses_L2 n v1 h = some r) (kx : ∀ (h1 : Hp), r = h1 → PW g X ex (QE g X ex post 0 0) 0 0 sh h1 21 [some (.ref (gB g + 140)), none] []), PW g X ex (QE g X ex post 0 0) 0 0 sh h 2 [some (.ref (gB g + 140)), some (.int v1)] [] := by
  have mx0 := mx
  obtain ⟨cx, hR, hml, hrt, -⟩ := mx0
  have cx : Cx g X RX7 cX7_parses := cx
  have hrt : X.2.2.2.2.2.2.2.1.sig.returnType = (some .boolean) := hrt
  have hi1 : 1 < X.2.2.2.2.2.2.2.2.maxLocals := by rw [hml]; exact Nat.le_of_ble_eq_true rfl
  intro n
  induction n with
  | zero =>
    intro v1 h r hf kx
    cases hf
  | succ n ih =>
    intro v1 h r hf kx
    unfold M_parses_L2 at hf
    refine PW.iload_n cx qX7_parses_2 rfl ?_
    refine PW.bipush (v := 106) cx qX7_parses_3 rfl ?_
    refine PW.icmp_ge cx qX7_parses_5 hf (fun hf => ?_) (fun hf => ?_)
    · exact PW.locs (Lsub.keep (Lsub.drop Lsub.nil)) (kx h (Option.some.inj hf).symm)
    · refine PW.aload_n cx qX7_parses_8 rfl ?_
      refine PW.getf (t := (2, 141)) (v := .ref (gB g + 141)) cx qX7_parses_9 (sh_140 hx) rfl flX7_7 rfl ?_
      refine PW.iload_n cx qX7_parses_12 rfl ?_
      refine PW.iconst (v := 0) cx qX7_parses_13 rfl ?_
      refine PW.iast cx qX7_parses_14 (sh_141 hx) hf sne (fun h1 hf => ?_)
      refine PW.iinc (v := 1) (L' := [some (.ref (gB g + 140)), some (.int (v1 + 1))]) cx qX7_parses_15 rfl rfl hi1 rfl rfl ?_
      refine PW.goto cx qX7_parses_18 ?_
      exact PW.locs (Lsub.keep (Lsub.keep Lsub.nil)) (ih (v1 + 1) h1 _ hf kx)
set_option maxRecDepth 20000 in
theorem ctX7_parses {g : GT} {ex : Bool} {sh : List Shp} (hx : MSh sh) (h : Hp) (r0 : Bool × Hp) (hf : M_parses h = some r0) : Ct g mX7_parses 16 0 0 ex [.ref (gB g + 140)] sh h (PE (some (.int (b2i r0.1))) sh r0.2) := by
  refine Ct.of (L := [some (.ref (gB g + 140)), none]) (by decide) (by intro w hw; simp only [List.mem_cons, List.not_mem_nil, or_false] at hw; rcases hw with rfl <;> rfl) (Nat.le_of_ble_eq_true rfl) rfl (fun X mx => ?_)
  have mx0 := mx
  obtain ⟨cx, hR, hml, hrt, -⟩ := mx0
  have cx : Cx g X RX7 cX7_parses := cx
  have hrt : X.2.2.2.2.2.2.2.1.sig.returnType = (some .boolean) := hrt
  have hi1 : 1 < X.2.2.2.2.2.2.2.2.maxLocals := by rw [hml]; exact Nat.le_of_ble_eq_true rfl
  unfold M_parses at hf
  refine PW.iconst (v := 0) cx qX7_parses_0 rfl ?_
  refine PW.istore_n (L' := [some (.ref (gB g + 140)), some (.int 0)]) cx qX7_parses_1 hi1 rfl rfl ?_
  obtain ⟨r2, er2, hf⟩ := bndO hf sne
  refine PW.locs (Lsub.keep (Lsub.keep Lsub.nil)) (lX7_parses_2 mx hx FU 0 h r2 er2 (fun xx_ e => ?_))
  subst e
  refine PW.aload_n cx qX7_parses_21 rfl ?_
  refine PW.getf (t := (2, 141)) (v := .ref (gB g + 141)) cx qX7_parses_22 (sh_140 hx) rfl flX7_7 rfl ?_
  refine PW.iconst (v := 1) cx qX7_parses_25 rfl ?_
  refine PW.bipush (v := 100) cx qX7_parses_26 rfl ?_
  refine PW.iast cx qX7_parses_28 (sh_141 hx) hf sne (fun h3 hf => ?_)
  refine PW.aload_n cx qX7_parses_29 rfl ?_
  refine PW.iconst (v := 0) cx qX7_parses_30 rfl ?_
  refine PW.putiN cx qX7_parses_31 (sh_140 hx) rfl fpX7_173 hf (fun h4 hf => ?_)
  refine PW.aload_n cx qX7_parses_34 rfl ?_
  refine PW.iconst (v := (-1)) cx qX7_parses_35 rfl ?_
  refine PW.putiN cx qX7_parses_36 (sh_140 hx) rfl fpX7_31 hf (fun h5 hf => ?_)
  refine PW.aload_n cx qX7_parses_39 rfl ?_
  refine PW.iconst (v := 0) cx qX7_parses_40 rfl ?_
  refine PW.putiN cx qX7_parses_41 (sh_140 hx) rfl fpX7_268 hf (fun h6 hf => ?_)
  refine PW.aload_n cx qX7_parses_44 rfl ?_
  refine PW.iconst (v := 0) cx qX7_parses_45 rfl ?_
  refine PW.putiN cx qX7_parses_46 (sh_140 hx) rfl fpX7_158 hf (fun h7 hf => ?_)
  refine PW.aload_n cx qX7_parses_49 rfl ?_
  refine PW.callVWV (As := []) (st := []) cx hR qX7_parses_50 klX7_182 mvX7_next (sh_140 hx) rfl rfl rfl rfl (Nat.le_of_ble_eq_true rfl) (Nat.le_of_ble_eq_true rfl) (Nat.le_of_ble_eq_true rfl) (Nat.zero_le _) (Nat.zero_le _) hf sne (fun t e => ctX7_next hx h7 t e) (fun h9 hf => ?_)
  refine PW.aload_n cx qX7_parses_53 rfl ?_
  refine PW.callVWBc (As := []) (st := []) cx hR qX7_parses_54 klX7_309 mvX7_readsAll (sh_140 hx) rfl rfl rfl rfl (Nat.le_of_ble_eq_true rfl) (Nat.le_of_ble_eq_true rfl) (Nat.le_of_ble_eq_true rfl) (Nat.zero_le _) (Nat.zero_le _) hf sne (fun t e => ctX7_readsAll hx h9 t e) (fun t10 h11 hf => ?_)
  exact PW.zret cx hrt (nbb _) qX7_parses_57 (le_wz hf)
set_option maxRecDepth 20000 in
theorem lX7_type_3 {g : GT} {X : XT} {ex : Bool} {post : Option Value → List Shp → Hp → Prop} {sh : List Shp} (mx : Mx g X mX7_type 0 0 0) (hx : MSh sh) (c1 : Int32) : ∀ (n : Nat) (v2 : Int32) (h : Hp) (r : Hp) (hf : M_type_L3 c1 n v2 h = some r) (kx : ∀ (h1 : Hp), r = h1 → PW g X ex (QE g X ex post 0 0) 0 0 sh h1 39 [some (.ref (gB g + 140)), some (.int c1), none] []), PW g X ex (QE g X ex post 0 0) 0 0 sh h 3 [some (.ref (gB g + 140)), some (.int c1), some (.int v2)] [] := by
  have mx0 := mx
  obtain ⟨cx, hR, hml, hrt, -⟩ := mx0
  have cx : Cx g X RX7 cX7_type := cx
  have hrt : X.2.2.2.2.2.2.2.1.sig.returnType = none := hrt
  have hi2 : 2 < X.2.2.2.2.2.2.2.2.maxLocals := by rw [hml]; exact Nat.le_of_ble_eq_true rfl
  intro n
  induction n with
  | zero =>
    intro v2 h r hf kx
    cases hf
  | succ n ih =>
    intro v2 h r hf kx
    unfold M_type_L3 at hf
    refine PW.iload_n cx qX7_type_3 rfl ?_
    refine PW.if_lt cx qX7_type_4 hf (fun hf => ?_) (fun hf => ?_)
    · exact PW.locs (Lsub.keep (Lsub.keep (Lsub.drop Lsub.nil))) (kx h (Option.some.inj hf).symm)
    · refine PW.aload_n cx qX7_type_7 rfl ?_
      refine PW.getf (t := (2, 146)) (v := .ref (gB g + 146)) cx qX7_type_8 (sh_140 hx) rfl flX7_25 rfl ?_
      refine PW.aload_n cx qX7_type_11 rfl ?_
      refine PW.getf (t := (0, 0)) (v := .int (rd h 140 9)) cx qX7_type_12 (sh_140 hx) rfl flX7_312 rfl ?_
      refine PW.iload_n cx qX7_type_15 rfl ?_
      refine PW.iload_n cx qX7_type_16 rfl ?_
      refine PW.ishr cx qX7_type_17 ?_
      refine PW.sipush (v := 255) cx qX7_type_18 rfl ?_
      refine PW.iand cx qX7_type_21 ?_
      refine PW.iast cx qX7_type_22 (sh_146 hx) hf sne (fun h1 hf => ?_)
      refine PW.aload_n cx qX7_type_23 rfl ?_
      refine PW.dup cx qX7_type_24 rfl ?_
      refine PW.getf (t := (0, 0)) (v := .int (rd h1 140 9)) cx qX7_type_25 (sh_140 hx) rfl flX7_312 rfl ?_
      refine PW.iconst (v := 1) cx qX7_type_28 rfl ?_
      refine PW.iadd cx qX7_type_29 ?_
      refine PW.putiN cx qX7_type_30 (sh_140 hx) rfl fpX7_312 hf (fun h2 hf => ?_)
      refine PW.iinc (v := (-8)) (L' := [some (.ref (gB g + 140)), some (.int c1), some (.int (v2 + (-8)))]) cx qX7_type_33 rfl rfl hi2 rfl rfl ?_
      refine PW.goto cx qX7_type_36 ?_
      exact PW.locs (Lsub.keep (Lsub.keep (Lsub.keep Lsub.nil))) (ih (v2 + (-8)) h2 _ hf kx)
set_option maxRecDepth 20000 in
theorem ctX7_type {g : GT} {ex : Bool} {sh : List Shp} (hx : MSh sh) (h : Hp) (p1 : Int32) (r0 : Hp) (hf : M_type h p1 = some r0) : Ct g mX7_type 0 0 0 ex [.ref (gB g + 140), .int p1] sh h (PE none sh r0) := by
  refine Ct.of (L := [some (.ref (gB g + 140)), some (.int p1), none]) (by decide) (by intro w hw; simp only [List.mem_cons, List.not_mem_nil, or_false] at hw; rcases hw with rfl | rfl <;> rfl) (Nat.le_of_ble_eq_true rfl) rfl (fun X mx => ?_)
  have mx0 := mx
  obtain ⟨cx, hR, hml, hrt, -⟩ := mx0
  have cx : Cx g X RX7 cX7_type := cx
  have hrt : X.2.2.2.2.2.2.2.1.sig.returnType = none := hrt
  have hi2 : 2 < X.2.2.2.2.2.2.2.2.maxLocals := by rw [hml]; exact Nat.le_of_ble_eq_true rfl
  unfold M_type at hf
  refine PW.bipush (v := 24) cx qX7_type_0 rfl ?_
  refine PW.istore_n (L' := [some (.ref (gB g + 140)), some (.int p1), some (.int 24)]) cx qX7_type_2 hi2 rfl rfl ?_
  obtain ⟨r3, er3, hf⟩ := bndO hf sne
  refine PW.locs (Lsub.keep (Lsub.keep (Lsub.keep Lsub.nil))) (lX7_type_3 mx hx p1 FU 24 h r3 er3 (fun xx_ e => ?_))
  subst e
  exact PW.vret cx hrt qX7_type_39 (le_wv hf)
set_option maxRecDepth 20000 in
theorem ctX7_append {g : GT} {ex : Bool} {sh : List Shp} (hx : MSh sh) (h : Hp) (p1 : Int32) (p2 : Int32) (p3 : Int32) (p4 : Int32) (p5 : Int32) (r0 : Int32 × Hp) (hf : M_append h p1 p2 p3 p4 p5 = some r0) : Ct g mX7_append 1 0 0 ex [.ref (gB g + 140), .int p1, .int p2, .int p3, .int p4, .int p5] sh h (PE (some (.int r0.1)) sh r0.2) := by
  refine Ct.of (L := [some (.ref (gB g + 140)), some (.int p1), some (.int p2), some (.int p3), some (.int p4), some (.int p5)]) (by decide) (by intro w hw; simp only [List.mem_cons, List.not_mem_nil, or_false] at hw; rcases hw with rfl | rfl | rfl | rfl | rfl | rfl <;> rfl) (Nat.le_of_ble_eq_true rfl) rfl (fun X mx => ?_)
  obtain ⟨cx, hR, hml, hrt, -⟩ := mx
  have cx : Cx g X RX7 cX7_append := cx
  have hrt : X.2.2.2.2.2.2.2.1.sig.returnType = (some .int) := hrt
  unfold M_append at hf
  refine PW.aload_n cx qX7_append_0 rfl ?_
  refine PW.iconst (v := 0) cx qX7_append_1 rfl ?_
  refine PW.putiN cx qX7_append_2 (sh_140 hx) rfl fpX7_54 hf (fun h1 hf => ?_)
  refine PW.aload_n cx qX7_append_5 rfl ?_
  refine PW.getf (t := (0, 0)) (v := .int (rd h1 140 9)) cx qX7_append_6 (sh_140 hx) rfl flX7_312 rfl ?_
  refine PW.bipush (v := 20) cx qX7_append_9 rfl ?_
  refine PW.iadd cx qX7_append_11 ?_
  refine PW.sipush (v := 600) cx qX7_append_12 rfl ?_
  refine PW.icmp_le cx qX7_append_15 hf (fun hf => ?_) (fun hf => ?_)
  · refine PW.aload_n cx qX7_append_20 rfl ?_
    refine PW.iload_n cx qX7_append_21 rfl ?_
    refine PW.callVWV (As := [.int p1]) (st := []) cx hR qX7_append_22 klX7_315 mvX7_type (sh_140 hx) rfl rfl rfl rfl (Nat.le_of_ble_eq_true rfl) (Nat.le_of_ble_eq_true rfl) (Nat.le_of_ble_eq_true rfl) (Nat.zero_le _) (Nat.zero_le _) hf sne (fun t e => ctX7_type hx h1 p1 t e) (fun h3 hf => ?_)
    refine PW.aload_n cx qX7_append_25 rfl ?_
    refine PW.iload_n cx qX7_append_26 rfl ?_
    refine PW.callVWV (As := [.int p2]) (st := []) cx hR qX7_append_27 klX7_315 mvX7_type (sh_140 hx) rfl rfl rfl rfl (Nat.le_of_ble_eq_true rfl) (Nat.le_of_ble_eq_true rfl) (Nat.le_of_ble_eq_true rfl) (Nat.zero_le _) (Nat.zero_le _) hf sne (fun t e => ctX7_type hx h3 p2 t e) (fun h5 hf => ?_)
    refine PW.aload_n cx qX7_append_30 rfl ?_
    refine PW.iload_n cx qX7_append_31 rfl ?_
    refine PW.callVWV (As := [.int p3]) (st := []) cx hR qX7_append_32 klX7_315 mvX7_type (sh_140 hx) rfl rfl rfl rfl (Nat.le_of_ble_eq_true rfl) (Nat.le_of_ble_eq_true rfl) (Nat.le_of_ble_eq_true rfl) (Nat.zero_le _) (Nat.zero_le _) hf sne (fun t e => ctX7_type hx h5 p3 t e) (fun h7 hf => ?_)
    refine PW.aload_n cx qX7_append_35 rfl ?_
    refine PW.iload cx qX7_append_36 rfl ?_
    refine PW.callVWV (As := [.int p4]) (st := []) cx hR qX7_append_38 klX7_315 mvX7_type (sh_140 hx) rfl rfl rfl rfl (Nat.le_of_ble_eq_true rfl) (Nat.le_of_ble_eq_true rfl) (Nat.le_of_ble_eq_true rfl) (Nat.zero_le _) (Nat.zero_le _) hf sne (fun t e => ctX7_type hx h7 p4 t e) (fun h9 hf => ?_)
    refine PW.aload_n cx qX7_append_41 rfl ?_
    refine PW.iload cx qX7_append_42 rfl ?_
    refine PW.callVWV (As := [.int p5]) (st := []) cx hR qX7_append_44 klX7_315 mvX7_type (sh_140 hx) rfl rfl rfl rfl (Nat.le_of_ble_eq_true rfl) (Nat.le_of_ble_eq_true rfl) (Nat.le_of_ble_eq_true rfl) (Nat.zero_le _) (Nat.zero_le _) hf sne (fun t e => ctX7_type hx h9 p5 t e) (fun h11 hf => ?_)
    refine PW.aload_n cx qX7_append_47 rfl ?_
    refine PW.getf (t := (0, 0)) (v := .int (rd h11 140 9)) cx qX7_append_48 (sh_140 hx) rfl flX7_312 rfl ?_
    exact PW.iret cx hrt qX7_append_51 (le_wi hf)
  · refine PW.iconst (v := (-1)) cx qX7_append_18 rfl ?_
    exact PW.iret cx hrt qX7_append_19 (le_wi hf)
set_option maxRecDepth 20000 in
theorem ctX7_truncateInput {g : GT} {ex : Bool} {sh : List Shp} (hx : MSh sh) (h : Hp) (p1 : Int32) (r0 : Int32 × Hp) (hf : M_truncateInput h p1 = some r0) : Ct g mX7_truncateInput 1 0 0 ex [.ref (gB g + 140), .int p1] sh h (PE (some (.int r0.1)) sh r0.2) := by
  refine Ct.of (L := [some (.ref (gB g + 140)), some (.int p1)]) (by decide) (by intro w hw; simp only [List.mem_cons, List.not_mem_nil, or_false] at hw; rcases hw with rfl | rfl <;> rfl) (Nat.le_of_ble_eq_true rfl) rfl (fun X mx => ?_)
  obtain ⟨cx, hR, hml, hrt, -⟩ := mx
  have cx : Cx g X RX7 cX7_truncateInput := cx
  have hrt : X.2.2.2.2.2.2.2.1.sig.returnType = (some .int) := hrt
  unfold M_truncateInput at hf
  refine PW.aload_n cx qX7_truncateInput_0 rfl ?_
  refine PW.iload_n cx qX7_truncateInput_1 rfl ?_
  refine PW.iconst (v := 0) cx qX7_truncateInput_2 rfl ?_
  refine PW.aload_n cx qX7_truncateInput_3 rfl ?_
  refine PW.getf (t := (0, 0)) (v := .int (rd h 140 9)) cx qX7_truncateInput_4 (sh_140 hx) rfl flX7_312 rfl ?_
  refine PW.callSRB (As := [.int p1, .int 0, .int (rd h 140 9)]) (st := [.ref (gB g + 140)]) cx hR qX7_truncateInput_7 klX7_57 miX7_in rfl rfl (Nat.le_of_ble_eq_true rfl) (Nat.le_of_ble_eq_true rfl) (Nat.le_of_ble_eq_true rfl) (Nat.zero_le _) (Nat.zero_le _) hf sne (fun t e => ctX7_in h p1 0 (rd h 140 9) t e) (fun t1 hf => ?_)
  obtain ⟨j18, ej18, hf⟩ := lt_split hf
  have hj18 : ∀ (z0_18 : Bool), j18 z0_18 = some r0 → PW g X ex (QE g X ex (PE (some (.int r0.1)) sh r0.2) 0 0) 0 0 sh h 18 [some (.ref (gB g + 140)), some (.int p1)] [.int (b2i z0_18), .ref (gB g + 140)] := by
    intro z0_18 hf
    rw [ej18] at hf
    refine PW.callVWBc (As := [.int (b2i z0_18)]) (st := []) cx hR qX7_truncateInput_18 klX7_319 mvX7_throwsOne (sh_140 hx) rfl rfl rfl rfl (Nat.le_of_ble_eq_true rfl) (Nat.le_of_ble_eq_true rfl) (Nat.le_of_ble_eq_true rfl) (Nat.zero_le _) (Nat.zero_le _) hf sne (fun t e => ctX7_throwsOne hx h z0_18 t e) (fun t2 h3 hf => ?_)
    refine PW.if_eq cx qX7_truncateInput_21 hf (fun hf => ?_) (fun hf => ?_)
    · refine PW.aload_n cx qX7_truncateInput_26 rfl ?_
      refine PW.iload_n cx qX7_truncateInput_27 rfl ?_
      refine PW.putiN cx qX7_truncateInput_28 (sh_140 hx) rfl fpX7_312 hf (fun h4 hf => ?_)
      refine PW.iload_n cx qX7_truncateInput_31 rfl ?_
      exact PW.iret cx hrt qX7_truncateInput_32 (le_wi hf)
    · refine PW.iconst (v := 0) cx qX7_truncateInput_24 rfl ?_
      exact PW.iret cx hrt qX7_truncateInput_25 (le_wi hf)
  refine PW.if_ne cx qX7_truncateInput_10 hf (fun hf => ?_) (fun hf => ?_)
  · refine PW.iconst (v := 1) cx qX7_truncateInput_13 rfl ?_
    refine PW.goto cx qX7_truncateInput_14 ?_
    exact PW.locs (Lsub.keep (Lsub.keep Lsub.nil)) (hj18 true hf)
  · refine PW.iconst (v := 0) cx qX7_truncateInput_17 rfl ?_
    exact PW.locs (Lsub.keep (Lsub.keep Lsub.nil)) (hj18 false hf)
set_option maxRecDepth 20000 in
theorem lX7_begins_2 {g : GT} {X : XT} {ex : Bool} {post : Option Value → List Shp → Hp → Prop} {sh : List Shp} (mx : Mx g X mX7_begins 0 0 0) (hx : MSh sh) : ∀ (n : Nat) (v1 : Int32) (h : Hp) (r : Hp) (hf : M_begins_L2 n v1 h = some r) (kx : ∀ (h1 : Hp), r = h1 → PW g X ex (QE g X ex post 0 0) 0 0 sh h1 26 [some (.ref (gB g + 140)), none] []), PW g X ex (QE g X ex post 0 0) 0 0 sh h 2 [some (.ref (gB g + 140)), some (.int v1)] [] := by
  have mx0 := mx
  obtain ⟨cx, hR, hml, hrt, -⟩ := mx0
  have cx : Cx g X RX7 cX7_begins := cx
  have hrt : X.2.2.2.2.2.2.2.1.sig.returnType = none := hrt
  have hi1 : 1 < X.2.2.2.2.2.2.2.2.maxLocals := by rw [hml]; exact Nat.le_of_ble_eq_true rfl
  intro n
  induction n with
  | zero =>
    intro v1 h r hf kx
    cases hf
  | succ n ih =>
    intro v1 h r hf kx
    unfold M_begins_L2 at hf
    refine PW.iload_n cx qX7_begins_2 rfl ?_
    refine PW.bipush (v := 106) cx qX7_begins_3 rfl ?_
    refine PW.icmp_ge cx qX7_begins_5 hf (fun hf => ?_) (fun hf => ?_)
    · exact PW.locs (Lsub.keep (Lsub.drop Lsub.nil)) (kx h (Option.some.inj hf).symm)
    · refine PW.aload_n cx qX7_begins_8 rfl ?_
      refine PW.getf (t := (2, 142)) (v := .ref (gB g + 142)) cx qX7_begins_9 (sh_140 hx) rfl flX7_13 rfl ?_
      refine PW.iload_n cx qX7_begins_12 rfl ?_
      refine PW.aload_n cx qX7_begins_13 rfl ?_
      refine PW.getf (t := (2, 141)) (v := .ref (gB g + 141)) cx qX7_begins_14 (sh_140 hx) rfl flX7_7 rfl ?_
      refine PW.iload_n cx qX7_begins_17 rfl ?_
      refine PW.iald cx qX7_begins_18 (sh_141 hx) hf sne (fun t1 hf => ?_)
      refine PW.iast cx qX7_begins_19 (sh_142 hx) hf sne (fun h2 hf => ?_)
      refine PW.iinc (v := 1) (L' := [some (.ref (gB g + 140)), some (.int (v1 + 1))]) cx qX7_begins_20 rfl rfl hi1 rfl rfl ?_
      refine PW.goto cx qX7_begins_23 ?_
      exact PW.locs (Lsub.keep (Lsub.keep Lsub.nil)) (ih (v1 + 1) h2 _ hf kx)
set_option maxRecDepth 20000 in
theorem ctX7_begins {g : GT} {ex : Bool} {sh : List Shp} (hx : MSh sh) (h : Hp) (r0 : Hp) (hf : M_begins h = some r0) : Ct g mX7_begins 0 0 0 ex [.ref (gB g + 140)] sh h (PE none sh r0) := by
  refine Ct.of (L := [some (.ref (gB g + 140)), none]) (by decide) (by intro w hw; simp only [List.mem_cons, List.not_mem_nil, or_false] at hw; rcases hw with rfl <;> rfl) (Nat.le_of_ble_eq_true rfl) rfl (fun X mx => ?_)
  have mx0 := mx
  obtain ⟨cx, hR, hml, hrt, -⟩ := mx0
  have cx : Cx g X RX7 cX7_begins := cx
  have hrt : X.2.2.2.2.2.2.2.1.sig.returnType = none := hrt
  have hi1 : 1 < X.2.2.2.2.2.2.2.2.maxLocals := by rw [hml]; exact Nat.le_of_ble_eq_true rfl
  unfold M_begins at hf
  refine PW.iconst (v := 0) cx qX7_begins_0 rfl ?_
  refine PW.istore_n (L' := [some (.ref (gB g + 140)), some (.int 0)]) cx qX7_begins_1 hi1 rfl rfl ?_
  obtain ⟨r3, er3, hf⟩ := bndO hf sne
  refine PW.locs (Lsub.keep (Lsub.keep Lsub.nil)) (lX7_begins_2 mx hx FU 0 h r3 er3 (fun xx_ e => ?_))
  subst e
  exact PW.vret cx hrt qX7_begins_26 (le_wv hf)
set_option maxRecDepth 20000 in
theorem lX7_remember_52 {g : GT} {X : XT} {ex : Bool} {post : Option Value → List Shp → Hp → Prop} {sh : List Shp} (mx : Mx g X mX7_remember 0 0 0) (hx : MSh sh) (d1 : Int32) : ∀ (n : Nat) (v2 : Int32) (h : Hp) (r : Hp) (hf : M_remember_L52 n v2 h = some r) (kx : ∀ (h1 : Hp), r = h1 → PW g X ex (QE g X ex post 0 0) 0 0 sh h1 84 [some (.ref (gB g + 140)), some (.int d1), none] []), PW g X ex (QE g X ex post 0 0) 0 0 sh h 52 [some (.ref (gB g + 140)), some (.int d1), some (.int v2)] [] := by
  have mx0 := mx
  obtain ⟨cx, hR, hml, hrt, -⟩ := mx0
  have cx : Cx g X RX7 cX7_remember := cx
  have hrt : X.2.2.2.2.2.2.2.1.sig.returnType = (some .int) := hrt
  have hi2 : 2 < X.2.2.2.2.2.2.2.2.maxLocals := by rw [hml]; exact Nat.le_of_ble_eq_true rfl
  intro n
  induction n with
  | zero =>
    intro v2 h r hf kx
    cases hf
  | succ n ih =>
    intro v2 h r hf kx
    unfold M_remember_L52 at hf
    refine PW.iload_n cx qX7_remember_52 rfl ?_
    refine PW.bipush (v := 106) cx qX7_remember_53 rfl ?_
    refine PW.icmp_ge cx qX7_remember_55 hf (fun hf => ?_) (fun hf => ?_)
    · exact PW.locs (Lsub.keep (Lsub.keep (Lsub.drop Lsub.nil))) (kx h (Option.some.inj hf).symm)
    · refine PW.aload_n cx qX7_remember_58 rfl ?_
      refine PW.getf (t := (2, 144)) (v := .ref (gB g + 144)) cx qX7_remember_59 (sh_140 hx) rfl flX7_19 rfl ?_
      refine PW.bipush (v := 106) cx qX7_remember_62 rfl ?_
      refine PW.aload_n cx qX7_remember_64 rfl ?_
      refine PW.getf (t := (0, 0)) (v := .int (rd h 140 5)) cx qX7_remember_65 (sh_140 hx) rfl flX7_322 rfl ?_
      refine PW.imul cx qX7_remember_68 ?_
      refine PW.iload_n cx qX7_remember_69 rfl ?_
      refine PW.iadd cx qX7_remember_70 ?_
      refine PW.aload_n cx qX7_remember_71 rfl ?_
      refine PW.getf (t := (2, 142)) (v := .ref (gB g + 142)) cx qX7_remember_72 (sh_140 hx) rfl flX7_13 rfl ?_
      refine PW.iload_n cx qX7_remember_75 rfl ?_
      refine PW.iald cx qX7_remember_76 (sh_142 hx) hf sne (fun t1 hf => ?_)
      refine PW.iast cx qX7_remember_77 (sh_144 hx) hf sne (fun h2 hf => ?_)
      refine PW.iinc (v := 1) (L' := [some (.ref (gB g + 140)), some (.int d1), some (.int (v2 + 1))]) cx qX7_remember_78 rfl rfl hi2 rfl rfl ?_
      refine PW.goto cx qX7_remember_81 ?_
      exact PW.locs (Lsub.keep (Lsub.keep (Lsub.keep Lsub.nil))) (ih (v2 + 1) h2 _ hf kx)
set_option maxRecDepth 20000 in
theorem lX7_remember_12 {g : GT} {X : XT} {ex : Bool} {post : Option Value → List Shp → Hp → Prop} {sh : List Shp} (mx : Mx g X mX7_remember 0 0 0) (hx : MSh sh) (d1 : Int32) : ∀ (n : Nat) (v2 : Int32) (h : Hp) (r : Hp) (hf : M_remember_L12 n v2 h = some r) (kx : ∀ (h1 : Hp), r = h1 → PW g X ex (QE g X ex post 0 0) 0 0 sh h1 40 [some (.ref (gB g + 140)), some (.int d1), none] []), PW g X ex (QE g X ex post 0 0) 0 0 sh h 12 [some (.ref (gB g + 140)), some (.int d1), some (.int v2)] [] := by
  have mx0 := mx
  obtain ⟨cx, hR, hml, hrt, -⟩ := mx0
  have cx : Cx g X RX7 cX7_remember := cx
  have hrt : X.2.2.2.2.2.2.2.1.sig.returnType = (some .int) := hrt
  have hi2 : 2 < X.2.2.2.2.2.2.2.2.maxLocals := by rw [hml]; exact Nat.le_of_ble_eq_true rfl
  intro n
  induction n with
  | zero =>
    intro v2 h r hf kx
    cases hf
  | succ n ih =>
    intro v2 h r hf kx
    unfold M_remember_L12 at hf
    refine PW.iload_n cx qX7_remember_12 rfl ?_
    refine PW.sipush (v := 848) cx qX7_remember_13 rfl ?_
    refine PW.icmp_ge cx qX7_remember_16 hf (fun hf => ?_) (fun hf => ?_)
    · exact PW.locs (Lsub.keep (Lsub.keep (Lsub.drop Lsub.nil))) (kx h (Option.some.inj hf).symm)
    · refine PW.aload_n cx qX7_remember_19 rfl ?_
      refine PW.getf (t := (2, 144)) (v := .ref (gB g + 144)) cx qX7_remember_20 (sh_140 hx) rfl flX7_19 rfl ?_
      refine PW.iload_n cx qX7_remember_23 rfl ?_
      refine PW.bipush (v := 106) cx qX7_remember_24 rfl ?_
      refine PW.isub cx qX7_remember_26 ?_
      refine PW.aload_n cx qX7_remember_27 rfl ?_
      refine PW.getf (t := (2, 144)) (v := .ref (gB g + 144)) cx qX7_remember_28 (sh_140 hx) rfl flX7_19 rfl ?_
      refine PW.iload_n cx qX7_remember_31 rfl ?_
      refine PW.iald cx qX7_remember_32 (sh_144 hx) hf sne (fun t5 hf => ?_)
      refine PW.iast cx qX7_remember_33 (sh_144 hx) hf sne (fun h6 hf => ?_)
      refine PW.iinc (v := 1) (L' := [some (.ref (gB g + 140)), some (.int d1), some (.int (v2 + 1))]) cx qX7_remember_34 rfl rfl hi2 rfl rfl ?_
      refine PW.goto cx qX7_remember_37 ?_
      exact PW.locs (Lsub.keep (Lsub.keep (Lsub.keep Lsub.nil))) (ih (v2 + 1) h6 _ hf kx)
set_option maxRecDepth 20000 in
theorem ctX7_remember {g : GT} {ex : Bool} {sh : List Shp} (hx : MSh sh) (h : Hp) (p1 : Int32) (r0 : Int32 × Hp) (hf : M_remember h p1 = some r0) : Ct g mX7_remember 0 0 0 ex [.ref (gB g + 140), .int p1] sh h (PE (some (.int r0.1)) sh r0.2) := by
  refine Ct.of (L := [some (.ref (gB g + 140)), some (.int p1), none]) (by decide) (by intro w hw; simp only [List.mem_cons, List.not_mem_nil, or_false] at hw; rcases hw with rfl | rfl <;> rfl) (Nat.le_of_ble_eq_true rfl) rfl (fun X mx => ?_)
  have mx0 := mx
  obtain ⟨cx, hR, hml, hrt, -⟩ := mx0
  have cx : Cx g X RX7 cX7_remember := cx
  have hrt : X.2.2.2.2.2.2.2.1.sig.returnType = (some .int) := hrt
  have hi2 : 2 < X.2.2.2.2.2.2.2.2.maxLocals := by rw [hml]; exact Nat.le_of_ble_eq_true rfl
  unfold M_remember at hf
  refine PW.aload_n cx qX7_remember_0 rfl ?_
  refine PW.getf (t := (0, 0)) (v := .int (rd h 140 5)) cx qX7_remember_1 (sh_140 hx) rfl flX7_322 rfl ?_
  refine PW.bipush (v := 8) cx qX7_remember_4 rfl ?_
  obtain ⟨j50, ej50, hf⟩ := lt_split hf
  have hj50 : ∀ (h_50 : Hp), j50 h_50 = some r0 → PW g X ex (QE g X ex (PE (some (.int r0.1)) sh r0.2) 0 0) 0 0 sh h_50 50 [some (.ref (gB g + 140)), some (.int p1), none] [] := by
    intro h_50 hf
    rw [ej50] at hf
    refine PW.iconst (v := 0) cx qX7_remember_50 rfl ?_
    refine PW.istore_n (L' := [some (.ref (gB g + 140)), some (.int p1), some (.int 0)]) cx qX7_remember_51 hi2 rfl rfl ?_
    obtain ⟨r3, er3, hf⟩ := bndO hf sne
    refine PW.locs (Lsub.keep (Lsub.keep (Lsub.keep Lsub.nil))) (lX7_remember_52 mx hx p1 FU 0 h_50 r3 er3 (fun xx_ e => ?_))
    subst e
    refine PW.aload_n cx qX7_remember_84 rfl ?_
    refine PW.dup cx qX7_remember_85 rfl ?_
    refine PW.getf (t := (0, 0)) (v := .int (rd r3 140 5)) cx qX7_remember_86 (sh_140 hx) rfl flX7_322 rfl ?_
    refine PW.iconst (v := 1) cx qX7_remember_89 rfl ?_
    refine PW.iadd cx qX7_remember_90 ?_
    refine PW.putiN cx qX7_remember_91 (sh_140 hx) rfl fpX7_322 hf (fun h4 hf => ?_)
    refine PW.iload_n cx qX7_remember_94 rfl ?_
    exact PW.iret cx hrt qX7_remember_95 (le_wi hf)
  refine PW.icmp_ne cx qX7_remember_6 hf (fun hf => ?_) (fun hf => ?_)
  · refine PW.bipush (v := 106) cx qX7_remember_9 rfl ?_
    refine PW.istore_n (L' := [some (.ref (gB g + 140)), some (.int p1), some (.int 106)]) cx qX7_remember_11 hi2 rfl rfl ?_
    obtain ⟨r7, er7, hf⟩ := bndO hf sne
    refine PW.locs (Lsub.keep (Lsub.keep (Lsub.keep Lsub.nil))) (lX7_remember_12 mx hx p1 FU 106 h r7 er7 (fun xx_ e => ?_))
    subst e
    refine PW.aload_n cx qX7_remember_40 rfl ?_
    refine PW.dup cx qX7_remember_41 rfl ?_
    refine PW.getf (t := (0, 0)) (v := .int (rd r7 140 5)) cx qX7_remember_42 (sh_140 hx) rfl flX7_322 rfl ?_
    refine PW.iconst (v := 1) cx qX7_remember_45 rfl ?_
    refine PW.isub cx qX7_remember_46 ?_
    refine PW.putiN cx qX7_remember_47 (sh_140 hx) rfl fpX7_322 hf (fun h8 hf => ?_)
    exact PW.locs (Lsub.keep (Lsub.keep (Lsub.drop Lsub.nil))) (hj50 h8 hf)
  · exact PW.locs (Lsub.keep (Lsub.keep (Lsub.drop Lsub.nil))) (hj50 h hf)
set_option maxRecDepth 20000 in
theorem lX7_runScript_7 {g : GT} {X : XT} {ex : Bool} {post : Option Value → List Shp → Hp → Prop} {sh : List Shp} (mx : Mx g X mX7_runScript 17 0 0) (hx : MSh sh) : ∀ (n : Nat) (v1 : Int32) (h : Hp) (r : Hp) (hf : M_runScript_L7 n v1 h = some r) (kx : ∀ (h1 : Hp), r = h1 → PW g X ex (QE g X ex post 0 0) 0 0 sh h1 33 [some (.ref (gB g + 140)), none] []), PW g X ex (QE g X ex post 0 0) 0 0 sh h 7 [some (.ref (gB g + 140)), some (.int v1)] [] := by
  have mx0 := mx
  obtain ⟨cx, hR, hml, hrt, -⟩ := mx0
  have cx : Cx g X RX7 cX7_runScript := cx
  have hrt : X.2.2.2.2.2.2.2.1.sig.returnType = (some .int) := hrt
  have hi1 : 1 < X.2.2.2.2.2.2.2.2.maxLocals := by rw [hml]; exact Nat.le_of_ble_eq_true rfl
  intro n
  induction n with
  | zero =>
    intro v1 h r hf kx
    cases hf
  | succ n ih =>
    intro v1 h r hf kx
    unfold M_runScript_L7 at hf
    refine PW.iload_n cx qX7_runScript_7 rfl ?_
    refine PW.aload_n cx qX7_runScript_8 rfl ?_
    refine PW.getf (t := (0, 0)) (v := .int (rd h 140 9)) cx qX7_runScript_9 (sh_140 hx) rfl flX7_312 rfl ?_
    refine PW.icmp_ge cx qX7_runScript_12 hf (fun hf => ?_) (fun hf => ?_)
    · exact PW.locs (Lsub.keep (Lsub.drop Lsub.nil)) (kx h (Option.some.inj hf).symm)
    · refine PW.aload_n cx qX7_runScript_15 rfl ?_
      refine PW.getf (t := (2, 147)) (v := .ref (gB g + 147)) cx qX7_runScript_16 (sh_140 hx) rfl flX7_28 rfl ?_
      refine PW.iload_n cx qX7_runScript_19 rfl ?_
      refine PW.aload_n cx qX7_runScript_20 rfl ?_
      refine PW.getf (t := (2, 146)) (v := .ref (gB g + 146)) cx qX7_runScript_21 (sh_140 hx) rfl flX7_25 rfl ?_
      refine PW.iload_n cx qX7_runScript_24 rfl ?_
      refine PW.iald cx qX7_runScript_25 (sh_146 hx) hf sne (fun t2 hf => ?_)
      refine PW.iast cx qX7_runScript_26 (sh_147 hx) hf sne (fun h3 hf => ?_)
      refine PW.iinc (v := 1) (L' := [some (.ref (gB g + 140)), some (.int (v1 + 1))]) cx qX7_runScript_27 rfl rfl hi1 rfl rfl ?_
      refine PW.goto cx qX7_runScript_30 ?_
      exact PW.locs (Lsub.keep (Lsub.keep Lsub.nil)) (ih (v1 + 1) h3 _ hf kx)
set_option maxRecDepth 20000 in
theorem lX7_runScript_59 {g : GT} {X : XT} {ex : Bool} {post : Option Value → List Shp → Hp → Prop} {sh : List Shp} (mx : Mx g X mX7_runScript 17 0 0) (hx : MSh sh) : ∀ (n : Nat) (v1 : Int32) (h : Hp) (r : Hp) (hf : M_runScript_L59 n v1 h = some r) (kx : ∀ (h1 : Hp), r = h1 → PW g X ex (QE g X ex post 0 0) 0 0 sh h1 83 [some (.ref (gB g + 140)), none] []), PW g X ex (QE g X ex post 0 0) 0 0 sh h 59 [some (.ref (gB g + 140)), some (.int v1)] [] := by
  have mx0 := mx
  obtain ⟨cx, hR, hml, hrt, -⟩ := mx0
  have cx : Cx g X RX7 cX7_runScript := cx
  have hrt : X.2.2.2.2.2.2.2.1.sig.returnType = (some .int) := hrt
  have hi1 : 1 < X.2.2.2.2.2.2.2.2.maxLocals := by rw [hml]; exact Nat.le_of_ble_eq_true rfl
  intro n
  induction n with
  | zero =>
    intro v1 h r hf kx
    cases hf
  | succ n ih =>
    intro v1 h r hf kx
    unfold M_runScript_L59 at hf
    refine PW.iload_n cx qX7_runScript_59 rfl ?_
    refine PW.bipush (v := 106) cx qX7_runScript_60 rfl ?_
    refine PW.icmp_ge cx qX7_runScript_62 hf (fun hf => ?_) (fun hf => ?_)
    · exact PW.locs (Lsub.keep (Lsub.drop Lsub.nil)) (kx h (Option.some.inj hf).symm)
    · refine PW.aload_n cx qX7_runScript_65 rfl ?_
      refine PW.getf (t := (2, 141)) (v := .ref (gB g + 141)) cx qX7_runScript_66 (sh_140 hx) rfl flX7_7 rfl ?_
      refine PW.iload_n cx qX7_runScript_69 rfl ?_
      refine PW.aload_n cx qX7_runScript_70 rfl ?_
      refine PW.getf (t := (2, 142)) (v := .ref (gB g + 142)) cx qX7_runScript_71 (sh_140 hx) rfl flX7_13 rfl ?_
      refine PW.iload_n cx qX7_runScript_74 rfl ?_
      refine PW.iald cx qX7_runScript_75 (sh_142 hx) hf sne (fun t11 hf => ?_)
      refine PW.iast cx qX7_runScript_76 (sh_141 hx) hf sne (fun h12 hf => ?_)
      refine PW.iinc (v := 1) (L' := [some (.ref (gB g + 140)), some (.int (v1 + 1))]) cx qX7_runScript_77 rfl rfl hi1 rfl rfl ?_
      refine PW.goto cx qX7_runScript_80 ?_
      exact PW.locs (Lsub.keep (Lsub.keep Lsub.nil)) (ih (v1 + 1) h12 _ hf kx)
set_option maxRecDepth 20000 in
theorem ctX7_runScript {g : GT} {ex : Bool} {sh : List Shp} (hx : MSh sh) (h : Hp) (r0 : Int32 × Hp) (hf : M_runScript h = some r0) : Ct g mX7_runScript 17 0 0 ex [.ref (gB g + 140)] sh h (PE (some (.int r0.1)) sh r0.2) := by
  refine Ct.of (L := [some (.ref (gB g + 140)), none]) (by decide) (by intro w hw; simp only [List.mem_cons, List.not_mem_nil, or_false] at hw; rcases hw with rfl <;> rfl) (Nat.le_of_ble_eq_true rfl) rfl (fun X mx => ?_)
  have mx0 := mx
  obtain ⟨cx, hR, hml, hrt, -⟩ := mx0
  have cx : Cx g X RX7 cX7_runScript := cx
  have hrt : X.2.2.2.2.2.2.2.1.sig.returnType = (some .int) := hrt
  have hi1 : 1 < X.2.2.2.2.2.2.2.2.maxLocals := by rw [hml]; exact Nat.le_of_ble_eq_true rfl
  unfold M_runScript at hf
  refine PW.aload_n cx qX7_runScript_0 rfl ?_
  refine PW.iconst (v := 0) cx qX7_runScript_1 rfl ?_
  refine PW.putiN cx qX7_runScript_2 (sh_140 hx) rfl fpX7_54 hf (fun h1 hf => ?_)
  refine PW.iconst (v := 0) cx qX7_runScript_5 rfl ?_
  refine PW.istore_n (L' := [some (.ref (gB g + 140)), some (.int 0)]) cx qX7_runScript_6 hi1 rfl rfl ?_
  obtain ⟨r4, er4, hf⟩ := bndO hf sne
  refine PW.locs (Lsub.keep (Lsub.keep Lsub.nil)) (lX7_runScript_7 mx hx FU 0 h1 r4 er4 (fun xx_ e => ?_))
  subst e
  refine PW.aload_n cx qX7_runScript_33 rfl ?_
  refine PW.aload_n cx qX7_runScript_34 rfl ?_
  refine PW.getf (t := (0, 0)) (v := .int (rd r4 140 9)) cx qX7_runScript_35 (sh_140 hx) rfl flX7_312 rfl ?_
  refine PW.putiN cx qX7_runScript_38 (sh_140 hx) rfl fpX7_151 hf (fun h5 hf => ?_)
  refine PW.aload_n cx qX7_runScript_41 rfl ?_
  refine PW.iconst (v := 0) cx qX7_runScript_42 rfl ?_
  refine PW.putiN cx qX7_runScript_43 (sh_140 hx) rfl fpX7_312 hf (fun h6 hf => ?_)
  refine PW.aload_n cx qX7_runScript_46 rfl ?_
  refine PW.callVWV (As := []) (st := []) cx hR qX7_runScript_47 klX7_325 mvX7_begins (sh_140 hx) rfl rfl rfl rfl (Nat.le_of_ble_eq_true rfl) (Nat.le_of_ble_eq_true rfl) (Nat.le_of_ble_eq_true rfl) (Nat.zero_le _) (Nat.zero_le _) hf sne (fun t e => ctX7_begins hx h6 t e) (fun h8 hf => ?_)
  refine PW.aload_n cx qX7_runScript_50 rfl ?_
  refine PW.callVWBc (As := []) (st := []) cx hR qX7_runScript_51 klX7_50 mvX7_parses (sh_140 hx) rfl rfl rfl rfl (Nat.le_of_ble_eq_true rfl) (Nat.le_of_ble_eq_true rfl) (Nat.le_of_ble_eq_true rfl) (Nat.zero_le _) (Nat.zero_le _) hf sne (fun t e => ctX7_parses hx h8 t e) (fun t9 h10 hf => ?_)
  refine PW.if_ne cx qX7_runScript_54 hf (fun hf => ?_) (fun hf => ?_)
  · refine PW.iconst (v := 0) cx qX7_runScript_57 rfl ?_
    refine PW.istore_n (L' := [some (.ref (gB g + 140)), some (.int 0)]) cx qX7_runScript_58 hi1 rfl rfl ?_
    obtain ⟨r13, er13, hf⟩ := bndO hf sne
    refine PW.locs (Lsub.keep (Lsub.keep Lsub.nil)) (lX7_runScript_59 mx hx FU 0 h10 r13 er13 (fun xx_ e => ?_))
    subst e
    refine PW.iconst (v := (-1)) cx qX7_runScript_83 rfl ?_
    exact PW.iret cx hrt qX7_runScript_84 (le_wi hf)
  · refine PW.aload_n cx qX7_runScript_85 rfl ?_
    refine PW.aload_n cx qX7_runScript_86 rfl ?_
    refine PW.getf (t := (2, 141)) (v := .ref (gB g + 141)) cx qX7_runScript_87 (sh_140 hx) rfl flX7_7 rfl ?_
    refine PW.iconst (v := 2) cx qX7_runScript_90 rfl ?_
    refine PW.iald cx qX7_runScript_91 (sh_141 hx) hf sne (fun t14 hf => ?_)
    refine PW.callVWIc (As := [.int t14]) (st := []) cx hR qX7_runScript_92 klX7_328 mvX7_remember (sh_140 hx) rfl rfl rfl rfl (Nat.le_of_ble_eq_true rfl) (Nat.le_of_ble_eq_true rfl) (Nat.le_of_ble_eq_true rfl) (Nat.zero_le _) (Nat.zero_le _) hf sne (fun t e => ctX7_remember hx h10 t14 t e) (fun t15 h16 hf => ?_)
    exact PW.iret cx hrt qX7_runScript_95 (le_wi hf)
set_option maxRecDepth 20000 in
theorem ctX7_addClip {g : GT} {ex : Bool} {sh : List Shp} (hx : MSh sh) (h : Hp) (p1 : Int32) (r0 : Int32 × Hp) (hf : M_addClip h p1 = some r0) : Ct g mX7_addClip 2 0 0 ex [.ref (gB g + 140), .int p1] sh h (PE (some (.int r0.1)) sh r0.2) := by
  refine Ct.of (L := [some (.ref (gB g + 140)), some (.int p1)]) (by decide) (by intro w hw; simp only [List.mem_cons, List.not_mem_nil, or_false] at hw; rcases hw with rfl | rfl <;> rfl) (Nat.le_of_ble_eq_true rfl) rfl (fun X mx => ?_)
  obtain ⟨cx, hR, hml, hrt, -⟩ := mx
  have cx : Cx g X RX7 cX7_addClip := cx
  have hrt : X.2.2.2.2.2.2.2.1.sig.returnType = (some .int) := hrt
  unfold M_addClip at hf
  refine PW.aload_n cx qX7_addClip_0 rfl ?_
  refine PW.iload_n cx qX7_addClip_1 rfl ?_
  refine PW.callSRB (As := [.int p1]) (st := [.ref (gB g + 140)]) cx hR qX7_addClip_2 klX7_188 miX7_areColours rfl rfl (Nat.le_of_ble_eq_true rfl) (Nat.le_of_ble_eq_true rfl) (Nat.le_of_ble_eq_true rfl) (Nat.zero_le _) (Nat.zero_le _) hf sne (fun t e => ctX7_areColours h p1 t e) (fun t1 hf => ?_)
  obtain ⟨j13, ej13, hf⟩ := lt_split hf
  have hj13 : ∀ (z0_13 : Bool), j13 z0_13 = some r0 → PW g X ex (QE g X ex (PE (some (.int r0.1)) sh r0.2) 0 0) 0 0 sh h 13 [some (.ref (gB g + 140)), some (.int p1)] [.int (b2i z0_13), .ref (gB g + 140)] := by
    intro z0_13 hf
    rw [ej13] at hf
    refine PW.aload_n cx qX7_addClip_13 rfl ?_
    refine PW.getf (t := (2, 141)) (v := .ref (gB g + 141)) cx qX7_addClip_14 (sh_140 hx) rfl flX7_7 rfl ?_
    refine PW.iconst (v := 2) cx qX7_addClip_17 rfl ?_
    refine PW.iald cx qX7_addClip_18 (sh_141 hx) hf sne (fun t2 hf => ?_)
    refine PW.bipush (v := 12) cx qX7_addClip_19 rfl ?_
    obtain ⟨j29, ej29, hf⟩ := lt_split hf
    have hj29 : ∀ (z0_29 : Bool), j29 z0_29 = some r0 → PW g X ex (QE g X ex (PE (some (.int r0.1)) sh r0.2) 0 0) 0 0 sh h 29 [some (.ref (gB g + 140)), some (.int p1)] [.int (b2i z0_29), .int (b2i z0_13), .ref (gB g + 140)] := by
      intro z0_29 hf
      rw [ej29] at hf
      refine PW.callVWBc (As := [.int (b2i z0_13), .int (b2i z0_29)]) (st := []) cx hR qX7_addClip_29 klX7_331 mvX7_throwsOne_ (sh_140 hx) rfl rfl rfl rfl (Nat.le_of_ble_eq_true rfl) (Nat.le_of_ble_eq_true rfl) (Nat.le_of_ble_eq_true rfl) (Nat.zero_le _) (Nat.zero_le _) hf sne (fun t e => ctX7_throwsOne_ hx h z0_13 z0_29 t e) (fun t3 h4 hf => ?_)
      refine PW.if_eq cx qX7_addClip_32 hf (fun hf => ?_) (fun hf => ?_)
      · refine PW.aload_n cx qX7_addClip_37 rfl ?_
        refine PW.callVWV (As := []) (st := []) cx hR qX7_addClip_38 klX7_325 mvX7_begins (sh_140 hx) rfl rfl rfl rfl (Nat.le_of_ble_eq_true rfl) (Nat.le_of_ble_eq_true rfl) (Nat.le_of_ble_eq_true rfl) (Nat.zero_le _) (Nat.zero_le _) hf sne (fun t e => ctX7_begins hx h4 t e) (fun h6 hf => ?_)
        refine PW.aload_n cx qX7_addClip_41 rfl ?_
        refine PW.aload_n cx qX7_addClip_42 rfl ?_
        refine PW.iload_n cx qX7_addClip_43 rfl ?_
        refine PW.callVWIc (As := [.int p1]) (st := [.ref (gB g + 140)]) cx hR qX7_addClip_44 klX7_195 mvX7_adds (sh_140 hx) rfl rfl rfl rfl (Nat.le_of_ble_eq_true rfl) (Nat.le_of_ble_eq_true rfl) (Nat.le_of_ble_eq_true rfl) (Nat.zero_le _) (Nat.zero_le _) hf sne (fun t e => ctX7_adds hx h6 p1 t e) (fun t7 h8 hf => ?_)
        refine PW.callVWIc (As := [.int t7]) (st := []) cx hR qX7_addClip_47 klX7_328 mvX7_remember (sh_140 hx) rfl rfl rfl rfl (Nat.le_of_ble_eq_true rfl) (Nat.le_of_ble_eq_true rfl) (Nat.le_of_ble_eq_true rfl) (Nat.zero_le _) (Nat.zero_le _) hf sne (fun t e => ctX7_remember hx h8 t7 t e) (fun t9 h10 hf => ?_)
        exact PW.iret cx hrt qX7_addClip_50 (le_wi hf)
      · refine PW.iconst (v := 0) cx qX7_addClip_35 rfl ?_
        exact PW.iret cx hrt qX7_addClip_36 (le_wi hf)
    refine PW.icmp_ne cx qX7_addClip_21 hf (fun hf => ?_) (fun hf => ?_)
    · refine PW.iconst (v := 1) cx qX7_addClip_24 rfl ?_
      refine PW.goto cx qX7_addClip_25 ?_
      exact PW.locs (Lsub.keep (Lsub.keep Lsub.nil)) (hj29 true hf)
    · refine PW.iconst (v := 0) cx qX7_addClip_28 rfl ?_
      exact PW.locs (Lsub.keep (Lsub.keep Lsub.nil)) (hj29 false hf)
  refine PW.if_ne cx qX7_addClip_5 hf (fun hf => ?_) (fun hf => ?_)
  · refine PW.iconst (v := 1) cx qX7_addClip_8 rfl ?_
    refine PW.goto cx qX7_addClip_9 ?_
    exact PW.locs (Lsub.keep (Lsub.keep Lsub.nil)) (hj13 true hf)
  · refine PW.iconst (v := 0) cx qX7_addClip_12 rfl ?_
    exact PW.locs (Lsub.keep (Lsub.keep Lsub.nil)) (hj13 false hf)
set_option maxRecDepth 20000 in
theorem ctX7_addReel {g : GT} {ex : Bool} {sh : List Shp} (hx : MSh sh) (h : Hp) (p1 : Int32) (r0 : Int32 × Hp) (hf : M_addReel h p1 = some r0) : Ct g mX7_addReel 2 0 0 ex [.ref (gB g + 140), .int p1] sh h (PE (some (.int r0.1)) sh r0.2) := by
  refine Ct.of (L := [some (.ref (gB g + 140)), some (.int p1)]) (by decide) (by intro w hw; simp only [List.mem_cons, List.not_mem_nil, or_false] at hw; rcases hw with rfl | rfl <;> rfl) (Nat.le_of_ble_eq_true rfl) rfl (fun X mx => ?_)
  obtain ⟨cx, hR, hml, hrt, -⟩ := mx
  have cx : Cx g X RX7 cX7_addReel := cx
  have hrt : X.2.2.2.2.2.2.2.1.sig.returnType = (some .int) := hrt
  unfold M_addReel at hf
  refine PW.aload_n cx qX7_addReel_0 rfl ?_
  refine PW.iload_n cx qX7_addReel_1 rfl ?_
  refine PW.iconst (v := 1) cx qX7_addReel_2 rfl ?_
  refine PW.bipush (v := 9) cx qX7_addReel_3 rfl ?_
  refine PW.callSRB (As := [.int p1, .int 1, .int 9]) (st := [.ref (gB g + 140)]) cx hR qX7_addReel_5 klX7_57 miX7_in rfl rfl (Nat.le_of_ble_eq_true rfl) (Nat.le_of_ble_eq_true rfl) (Nat.le_of_ble_eq_true rfl) (Nat.zero_le _) (Nat.zero_le _) hf sne (fun t e => ctX7_in h p1 1 9 t e) (fun t1 hf => ?_)
  obtain ⟨j16, ej16, hf⟩ := lt_split hf
  have hj16 : ∀ (z0_16 : Bool), j16 z0_16 = some r0 → PW g X ex (QE g X ex (PE (some (.int r0.1)) sh r0.2) 0 0) 0 0 sh h 16 [some (.ref (gB g + 140)), some (.int p1)] [.int (b2i z0_16), .ref (gB g + 140)] := by
    intro z0_16 hf
    rw [ej16] at hf
    refine PW.aload_n cx qX7_addReel_16 rfl ?_
    refine PW.getf (t := (2, 141)) (v := .ref (gB g + 141)) cx qX7_addReel_17 (sh_140 hx) rfl flX7_7 rfl ?_
    refine PW.iconst (v := 3) cx qX7_addReel_20 rfl ?_
    refine PW.iald cx qX7_addReel_21 (sh_141 hx) hf sne (fun t2 hf => ?_)
    refine PW.iconst (v := 4) cx qX7_addReel_22 rfl ?_
    obtain ⟨j31, ej31, hf⟩ := lt_split hf
    have hj31 : ∀ (z0_31 : Bool), j31 z0_31 = some r0 → PW g X ex (QE g X ex (PE (some (.int r0.1)) sh r0.2) 0 0) 0 0 sh h 31 [some (.ref (gB g + 140)), some (.int p1)] [.int (b2i z0_31), .int (b2i z0_16), .ref (gB g + 140)] := by
      intro z0_31 hf
      rw [ej31] at hf
      refine PW.callVWBc (As := [.int (b2i z0_16), .int (b2i z0_31)]) (st := []) cx hR qX7_addReel_31 klX7_331 mvX7_throwsOne_ (sh_140 hx) rfl rfl rfl rfl (Nat.le_of_ble_eq_true rfl) (Nat.le_of_ble_eq_true rfl) (Nat.le_of_ble_eq_true rfl) (Nat.zero_le _) (Nat.zero_le _) hf sne (fun t e => ctX7_throwsOne_ hx h z0_16 z0_31 t e) (fun t3 h4 hf => ?_)
      refine PW.if_eq cx qX7_addReel_34 hf (fun hf => ?_) (fun hf => ?_)
      · refine PW.aload_n cx qX7_addReel_39 rfl ?_
        refine PW.callVWV (As := []) (st := []) cx hR qX7_addReel_40 klX7_325 mvX7_begins (sh_140 hx) rfl rfl rfl rfl (Nat.le_of_ble_eq_true rfl) (Nat.le_of_ble_eq_true rfl) (Nat.le_of_ble_eq_true rfl) (Nat.zero_le _) (Nat.zero_le _) hf sne (fun t e => ctX7_begins hx h4 t e) (fun h6 hf => ?_)
        refine PW.aload_n cx qX7_addReel_43 rfl ?_
        refine PW.aload_n cx qX7_addReel_44 rfl ?_
        refine PW.iload_n cx qX7_addReel_45 rfl ?_
        refine PW.callVWIc (As := [.int p1]) (st := [.ref (gB g + 140)]) cx hR qX7_addReel_46 klX7_198 mvX7_hangs (sh_140 hx) rfl rfl rfl rfl (Nat.le_of_ble_eq_true rfl) (Nat.le_of_ble_eq_true rfl) (Nat.le_of_ble_eq_true rfl) (Nat.zero_le _) (Nat.zero_le _) hf sne (fun t e => ctX7_hangs hx h6 p1 t e) (fun t7 h8 hf => ?_)
        refine PW.callVWIc (As := [.int t7]) (st := []) cx hR qX7_addReel_49 klX7_328 mvX7_remember (sh_140 hx) rfl rfl rfl rfl (Nat.le_of_ble_eq_true rfl) (Nat.le_of_ble_eq_true rfl) (Nat.le_of_ble_eq_true rfl) (Nat.zero_le _) (Nat.zero_le _) hf sne (fun t e => ctX7_remember hx h8 t7 t e) (fun t9 h10 hf => ?_)
        exact PW.iret cx hrt qX7_addReel_52 (le_wi hf)
      · refine PW.iconst (v := 0) cx qX7_addReel_37 rfl ?_
        exact PW.iret cx hrt qX7_addReel_38 (le_wi hf)
    refine PW.icmp_ne cx qX7_addReel_23 hf (fun hf => ?_) (fun hf => ?_)
    · refine PW.iconst (v := 1) cx qX7_addReel_26 rfl ?_
      refine PW.goto cx qX7_addReel_27 ?_
      exact PW.locs (Lsub.keep (Lsub.keep Lsub.nil)) (hj31 true hf)
    · refine PW.iconst (v := 0) cx qX7_addReel_30 rfl ?_
      exact PW.locs (Lsub.keep (Lsub.keep Lsub.nil)) (hj31 false hf)
  refine PW.if_ne cx qX7_addReel_8 hf (fun hf => ?_) (fun hf => ?_)
  · refine PW.iconst (v := 1) cx qX7_addReel_11 rfl ?_
    refine PW.goto cx qX7_addReel_12 ?_
    exact PW.locs (Lsub.keep (Lsub.keep Lsub.nil)) (hj16 true hf)
  · refine PW.iconst (v := 0) cx qX7_addReel_15 rfl ?_
    exact PW.locs (Lsub.keep (Lsub.keep Lsub.nil)) (hj16 false hf)
set_option maxRecDepth 20000 in
theorem ctX7_addScene {g : GT} {ex : Bool} {sh : List Shp} (hx : MSh sh) (h : Hp) (p1 : Int32) (r0 : Int32 × Hp) (hf : M_addScene h p1 = some r0) : Ct g mX7_addScene 1 0 0 ex [.ref (gB g + 140), .int p1] sh h (PE (some (.int r0.1)) sh r0.2) := by
  refine Ct.of (L := [some (.ref (gB g + 140)), some (.int p1)]) (by decide) (by intro w hw; simp only [List.mem_cons, List.not_mem_nil, or_false] at hw; rcases hw with rfl | rfl <;> rfl) (Nat.le_of_ble_eq_true rfl) rfl (fun X mx => ?_)
  obtain ⟨cx, hR, hml, hrt, -⟩ := mx
  have cx : Cx g X RX7 cX7_addScene := cx
  have hrt : X.2.2.2.2.2.2.2.1.sig.returnType = (some .int) := hrt
  unfold M_addScene at hf
  refine PW.aload_n cx qX7_addScene_0 rfl ?_
  refine PW.iload_n cx qX7_addScene_1 rfl ?_
  refine PW.iconst (v := 1) cx qX7_addScene_2 rfl ?_
  refine PW.bipush (v := 9) cx qX7_addScene_3 rfl ?_
  refine PW.callSRB (As := [.int p1, .int 1, .int 9]) (st := [.ref (gB g + 140)]) cx hR qX7_addScene_5 klX7_57 miX7_in rfl rfl (Nat.le_of_ble_eq_true rfl) (Nat.le_of_ble_eq_true rfl) (Nat.le_of_ble_eq_true rfl) (Nat.zero_le _) (Nat.zero_le _) hf sne (fun t e => ctX7_in h p1 1 9 t e) (fun t1 hf => ?_)
  obtain ⟨j16, ej16, hf⟩ := lt_split hf
  have hj16 : ∀ (z0_16 : Bool), j16 z0_16 = some r0 → PW g X ex (QE g X ex (PE (some (.int r0.1)) sh r0.2) 0 0) 0 0 sh h 16 [some (.ref (gB g + 140)), some (.int p1)] [.int (b2i z0_16), .ref (gB g + 140)] := by
    intro z0_16 hf
    rw [ej16] at hf
    refine PW.aload_n cx qX7_addScene_16 rfl ?_
    refine PW.getf (t := (2, 141)) (v := .ref (gB g + 141)) cx qX7_addScene_17 (sh_140 hx) rfl flX7_7 rfl ?_
    refine PW.iconst (v := 4) cx qX7_addScene_20 rfl ?_
    refine PW.iald cx qX7_addScene_21 (sh_141 hx) hf sne (fun t2 hf => ?_)
    refine PW.iconst (v := 5) cx qX7_addScene_22 rfl ?_
    obtain ⟨j31, ej31, hf⟩ := lt_split hf
    have hj31 : ∀ (z0_31 : Bool), j31 z0_31 = some r0 → PW g X ex (QE g X ex (PE (some (.int r0.1)) sh r0.2) 0 0) 0 0 sh h 31 [some (.ref (gB g + 140)), some (.int p1)] [.int (b2i z0_31), .int (b2i z0_16), .ref (gB g + 140)] := by
      intro z0_31 hf
      rw [ej31] at hf
      refine PW.callVWBc (As := [.int (b2i z0_16), .int (b2i z0_31)]) (st := []) cx hR qX7_addScene_31 klX7_331 mvX7_throwsOne_ (sh_140 hx) rfl rfl rfl rfl (Nat.le_of_ble_eq_true rfl) (Nat.le_of_ble_eq_true rfl) (Nat.le_of_ble_eq_true rfl) (Nat.zero_le _) (Nat.zero_le _) hf sne (fun t e => ctX7_throwsOne_ hx h z0_16 z0_31 t e) (fun t3 h4 hf => ?_)
      refine PW.if_eq cx qX7_addScene_34 hf (fun hf => ?_) (fun hf => ?_)
      · refine PW.aload_n cx qX7_addScene_39 rfl ?_
        refine PW.callVWV (As := []) (st := []) cx hR qX7_addScene_40 klX7_325 mvX7_begins (sh_140 hx) rfl rfl rfl rfl (Nat.le_of_ble_eq_true rfl) (Nat.le_of_ble_eq_true rfl) (Nat.le_of_ble_eq_true rfl) (Nat.zero_le _) (Nat.zero_le _) hf sne (fun t e => ctX7_begins hx h4 t e) (fun h6 hf => ?_)
        refine PW.aload_n cx qX7_addScene_43 rfl ?_
        refine PW.aload_n cx qX7_addScene_44 rfl ?_
        refine PW.iload_n cx qX7_addScene_45 rfl ?_
        refine PW.callVWIc (As := [.int p1]) (st := [.ref (gB g + 140)]) cx hR qX7_addScene_46 klX7_201 mvX7_opens (sh_140 hx) rfl rfl rfl rfl (Nat.le_of_ble_eq_true rfl) (Nat.le_of_ble_eq_true rfl) (Nat.le_of_ble_eq_true rfl) (Nat.zero_le _) (Nat.zero_le _) hf sne (fun t e => ctX7_opens hx h6 p1 t e) (fun t7 h8 hf => ?_)
        refine PW.callVWIc (As := [.int t7]) (st := []) cx hR qX7_addScene_49 klX7_328 mvX7_remember (sh_140 hx) rfl rfl rfl rfl (Nat.le_of_ble_eq_true rfl) (Nat.le_of_ble_eq_true rfl) (Nat.le_of_ble_eq_true rfl) (Nat.zero_le _) (Nat.zero_le _) hf sne (fun t e => ctX7_remember hx h8 t7 t e) (fun t9 h10 hf => ?_)
        exact PW.iret cx hrt qX7_addScene_52 (le_wi hf)
      · refine PW.iconst (v := 0) cx qX7_addScene_37 rfl ?_
        exact PW.iret cx hrt qX7_addScene_38 (le_wi hf)
    refine PW.icmp_ne cx qX7_addScene_23 hf (fun hf => ?_) (fun hf => ?_)
    · refine PW.iconst (v := 1) cx qX7_addScene_26 rfl ?_
      refine PW.goto cx qX7_addScene_27 ?_
      exact PW.locs (Lsub.keep (Lsub.keep Lsub.nil)) (hj31 true hf)
    · refine PW.iconst (v := 0) cx qX7_addScene_30 rfl ?_
      exact PW.locs (Lsub.keep (Lsub.keep Lsub.nil)) (hj31 false hf)
  refine PW.if_ne cx qX7_addScene_8 hf (fun hf => ?_) (fun hf => ?_)
  · refine PW.iconst (v := 1) cx qX7_addScene_11 rfl ?_
    refine PW.goto cx qX7_addScene_12 ?_
    exact PW.locs (Lsub.keep (Lsub.keep Lsub.nil)) (hj16 true hf)
  · refine PW.iconst (v := 0) cx qX7_addScene_15 rfl ?_
    exact PW.locs (Lsub.keep (Lsub.keep Lsub.nil)) (hj16 false hf)
set_option maxRecDepth 20000 in
theorem ctX7_sleep {g : GT} {ex : Bool} {sh : List Shp} (hx : MSh sh) (h : Hp) (p1 : Int32) (p2 : Int32) (r0 : Int32 × Hp) (hf : M_sleep h p1 p2 = some r0) : Ct g mX7_sleep 7 0 0 ex [.ref (gB g + 140), .int p1, .int p2] sh h (PE (some (.int r0.1)) sh r0.2) := by
  refine Ct.of (L := [some (.ref (gB g + 140)), some (.int p1), some (.int p2), none]) (by decide) (by intro w hw; simp only [List.mem_cons, List.not_mem_nil, or_false] at hw; rcases hw with rfl | rfl | rfl <;> rfl) (Nat.le_of_ble_eq_true rfl) rfl (fun X mx => ?_)
  obtain ⟨cx, hR, hml, hrt, -⟩ := mx
  have cx : Cx g X RX7 cX7_sleep := cx
  have hrt : X.2.2.2.2.2.2.2.1.sig.returnType = (some .int) := hrt
  have hi3 : 3 < X.2.2.2.2.2.2.2.2.maxLocals := by rw [hml]; exact Nat.le_of_ble_eq_true rfl
  unfold M_sleep at hf
  refine PW.aload_n cx qX7_sleep_0 rfl ?_
  refine PW.iload_n cx qX7_sleep_1 rfl ?_
  refine PW.callVRB (As := [.int p1]) (st := []) cx hR qX7_sleep_2 klX7_334 mvX7_isClip (sh_140 hx) rfl rfl rfl rfl (Nat.le_of_ble_eq_true rfl) (Nat.le_of_ble_eq_true rfl) (Nat.le_of_ble_eq_true rfl) (Nat.zero_le _) (Nat.zero_le _) hf sne (fun t e => ctX7_isClip hx h p1 t e) (fun t1 hf => ?_)
  obtain ⟨j21, ej21, hf⟩ := lt_split hf
  have hj21 : ∀ (z0_21 : Bool), j21 z0_21 = some r0 → PW g X ex (QE g X ex (PE (some (.int r0.1)) sh r0.2) 0 0) 0 0 sh h 21 [some (.ref (gB g + 140)), some (.int p1), some (.int p2), none] [.int (b2i z0_21)] := by
    intro z0_21 hf
    rw [ej21] at hf
    refine PW.istore_n (L' := [some (.ref (gB g + 140)), some (.int p1), some (.int p2), some (.int (b2i z0_21))]) cx qX7_sleep_21 hi3 rfl rfl ?_
    refine PW.aload_n cx qX7_sleep_22 rfl ?_
    refine PW.iload_n cx qX7_sleep_23 rfl ?_
    obtain ⟨j32, ej32, hf⟩ := lt_split hf
    have hj32 : ∀ (z0_32 : Bool), j32 z0_32 = some r0 → PW g X ex (QE g X ex (PE (some (.int r0.1)) sh r0.2) 0 0) 0 0 sh h 32 [some (.ref (gB g + 140)), some (.int p1), some (.int p2), some (.int (b2i z0_21))] [.int (b2i z0_32), .ref (gB g + 140)] := by
      intro z0_32 hf
      rw [ej32] at hf
      refine PW.iload_n cx qX7_sleep_32 rfl ?_
      obtain ⟨j50, ej50, hf⟩ := lt_split hf
      have hj50 : ∀ (z0_50 : Bool), j50 z0_50 = some r0 → PW g X ex (QE g X ex (PE (some (.int r0.1)) sh r0.2) 0 0) 0 0 sh h 50 [some (.ref (gB g + 140)), some (.int p1), some (.int p2), none] [.int (b2i z0_50), .int (b2i z0_32), .ref (gB g + 140)] := by
        intro z0_50 hf
        rw [ej50] at hf
        refine PW.callVWBc (As := [.int (b2i z0_32), .int (b2i z0_50)]) (st := []) cx hR qX7_sleep_50 klX7_331 mvX7_throwsOne_ (sh_140 hx) rfl rfl rfl rfl (Nat.le_of_ble_eq_true rfl) (Nat.le_of_ble_eq_true rfl) (Nat.le_of_ble_eq_true rfl) (Nat.zero_le _) (Nat.zero_le _) hf sne (fun t e => ctX7_throwsOne_ hx h z0_32 z0_50 t e) (fun t2 h3 hf => ?_)
        refine PW.if_eq cx qX7_sleep_53 hf (fun hf => ?_) (fun hf => ?_)
        · refine PW.aload_n cx qX7_sleep_58 rfl ?_
          refine PW.callVWV (As := []) (st := []) cx hR qX7_sleep_59 klX7_325 mvX7_begins (sh_140 hx) rfl rfl rfl rfl (Nat.le_of_ble_eq_true rfl) (Nat.le_of_ble_eq_true rfl) (Nat.le_of_ble_eq_true rfl) (Nat.zero_le _) (Nat.zero_le _) hf sne (fun t e => ctX7_begins hx h3 t e) (fun h5 hf => ?_)
          refine PW.aload_n cx qX7_sleep_62 rfl ?_
          refine PW.aload_n cx qX7_sleep_63 rfl ?_
          refine PW.iload_n cx qX7_sleep_64 rfl ?_
          refine PW.iload_n cx qX7_sleep_65 rfl ?_
          refine PW.callVWIc (As := [.int p1, .int p2]) (st := [.ref (gB g + 140)]) cx hR qX7_sleep_66 klX7_136 mvX7_liesDown (sh_140 hx) rfl rfl rfl rfl (Nat.le_of_ble_eq_true rfl) (Nat.le_of_ble_eq_true rfl) (Nat.le_of_ble_eq_true rfl) (Nat.zero_le _) (Nat.zero_le _) hf sne (fun t e => ctX7_liesDown hx h5 p1 p2 t e) (fun t6 h7 hf => ?_)
          refine PW.callVWIc (As := [.int t6]) (st := []) cx hR qX7_sleep_69 klX7_328 mvX7_remember (sh_140 hx) rfl rfl rfl rfl (Nat.le_of_ble_eq_true rfl) (Nat.le_of_ble_eq_true rfl) (Nat.le_of_ble_eq_true rfl) (Nat.zero_le _) (Nat.zero_le _) hf sne (fun t e => ctX7_remember hx h7 t6 t e) (fun t8 h9 hf => ?_)
          exact PW.iret cx hrt qX7_sleep_72 (le_wi hf)
        · refine PW.iconst (v := 0) cx qX7_sleep_56 rfl ?_
          exact PW.iret cx hrt qX7_sleep_57 (le_wi hf)
      obtain ⟨j49, ej49, hf⟩ := lt_split hf
      have hj49 : ∀ (u_49 : Unit), j49 u_49 = some r0 → PW g X ex (QE g X ex (PE (some (.int r0.1)) sh r0.2) 0 0) 0 0 sh h 49 [some (.ref (gB g + 140)), some (.int p1), some (.int p2), none] [.int (b2i z0_32), .ref (gB g + 140)] := by
        intro u_49 hf
        rw [ej49] at hf
        refine PW.iconst (v := 0) cx qX7_sleep_49 rfl ?_
        exact PW.locs (Lsub.keep (Lsub.keep (Lsub.keep (Lsub.drop Lsub.nil)))) (hj50 false hf)
      refine PW.if_eq cx qX7_sleep_33 hf (fun hf => ?_) (fun hf => ?_)
      · exact PW.locs (Lsub.keep (Lsub.keep (Lsub.keep (Lsub.drop Lsub.nil)))) (hj49 () hf)
      · refine PW.aload_n cx qX7_sleep_36 rfl ?_
        refine PW.iload_n cx qX7_sleep_37 rfl ?_
        refine PW.iload_n cx qX7_sleep_38 rfl ?_
        refine PW.callVRI (As := [.int p1, .int p2]) (st := [.int (b2i z0_32), .ref (gB g + 140)]) cx hR qX7_sleep_39 klX7_207 mvX7_whyStaysUp (sh_140 hx) rfl rfl rfl rfl (Nat.le_of_ble_eq_true rfl) (Nat.le_of_ble_eq_true rfl) (Nat.le_of_ble_eq_true rfl) (Nat.zero_le _) (Nat.zero_le _) hf sne (fun t e => ctX7_whyStaysUp hx h p1 p2 t e) (fun t10 hf => ?_)
        refine PW.if_eq cx qX7_sleep_42 hf (fun hf => ?_) (fun hf => ?_)
        · exact PW.locs (Lsub.keep (Lsub.keep (Lsub.keep (Lsub.drop Lsub.nil)))) (hj49 () hf)
        · refine PW.iconst (v := 1) cx qX7_sleep_45 rfl ?_
          refine PW.goto cx qX7_sleep_46 ?_
          exact PW.locs (Lsub.keep (Lsub.keep (Lsub.keep (Lsub.drop Lsub.nil)))) (hj50 true hf)
    refine PW.if_ne cx qX7_sleep_24 hf (fun hf => ?_) (fun hf => ?_)
    · refine PW.iconst (v := 1) cx qX7_sleep_27 rfl ?_
      refine PW.goto cx qX7_sleep_28 ?_
      exact PW.locs (Lsub.keep (Lsub.keep (Lsub.keep (Lsub.keep Lsub.nil)))) (hj32 true hf)
    · refine PW.iconst (v := 0) cx qX7_sleep_31 rfl ?_
      exact PW.locs (Lsub.keep (Lsub.keep (Lsub.keep (Lsub.keep Lsub.nil)))) (hj32 false hf)
  obtain ⟨j20, ej20, hf⟩ := lt_split hf
  have hj20 : ∀ (u_20 : Unit), j20 u_20 = some r0 → PW g X ex (QE g X ex (PE (some (.int r0.1)) sh r0.2) 0 0) 0 0 sh h 20 [some (.ref (gB g + 140)), some (.int p1), some (.int p2), none] [] := by
    intro u_20 hf
    rw [ej20] at hf
    refine PW.iconst (v := 0) cx qX7_sleep_20 rfl ?_
    exact PW.locs (Lsub.keep (Lsub.keep (Lsub.keep (Lsub.drop Lsub.nil)))) (hj21 false hf)
  refine PW.if_eq cx qX7_sleep_5 hf (fun hf => ?_) (fun hf => ?_)
  · exact PW.locs (Lsub.keep (Lsub.keep (Lsub.keep (Lsub.drop Lsub.nil)))) (hj20 () hf)
  · refine PW.aload_n cx qX7_sleep_8 rfl ?_
    refine PW.iload_n cx qX7_sleep_9 rfl ?_
    refine PW.callVRB (As := [.int p2]) (st := []) cx hR qX7_sleep_10 klX7_337 mvX7_isReel (sh_140 hx) rfl rfl rfl rfl (Nat.le_of_ble_eq_true rfl) (Nat.le_of_ble_eq_true rfl) (Nat.le_of_ble_eq_true rfl) (Nat.zero_le _) (Nat.zero_le _) hf sne (fun t e => ctX7_isReel hx h p2 t e) (fun t11 hf => ?_)
    refine PW.if_eq cx qX7_sleep_13 hf (fun hf => ?_) (fun hf => ?_)
    · exact PW.locs (Lsub.keep (Lsub.keep (Lsub.keep (Lsub.drop Lsub.nil)))) (hj20 () hf)
    · refine PW.iconst (v := 1) cx qX7_sleep_16 rfl ?_
      refine PW.goto cx qX7_sleep_17 ?_
      exact PW.locs (Lsub.keep (Lsub.keep (Lsub.keep (Lsub.drop Lsub.nil)))) (hj21 true hf)
set_option maxRecDepth 20000 in
theorem ctX7_wake {g : GT} {ex : Bool} {sh : List Shp} (hx : MSh sh) (h : Hp) (p1 : Int32) (r0 : Int32 × Hp) (hf : M_wake h p1 = some r0) : Ct g mX7_wake 4 0 0 ex [.ref (gB g + 140), .int p1] sh h (PE (some (.int r0.1)) sh r0.2) := by
  refine Ct.of (L := [some (.ref (gB g + 140)), some (.int p1), none]) (by decide) (by intro w hw; simp only [List.mem_cons, List.not_mem_nil, or_false] at hw; rcases hw with rfl | rfl <;> rfl) (Nat.le_of_ble_eq_true rfl) rfl (fun X mx => ?_)
  obtain ⟨cx, hR, hml, hrt, -⟩ := mx
  have cx : Cx g X RX7 cX7_wake := cx
  have hrt : X.2.2.2.2.2.2.2.1.sig.returnType = (some .int) := hrt
  have hi2 : 2 < X.2.2.2.2.2.2.2.2.maxLocals := by rw [hml]; exact Nat.le_of_ble_eq_true rfl
  unfold M_wake at hf
  refine PW.aload_n cx qX7_wake_0 rfl ?_
  refine PW.iload_n cx qX7_wake_1 rfl ?_
  refine PW.callVRB (As := [.int p1]) (st := []) cx hR qX7_wake_2 klX7_334 mvX7_isClip (sh_140 hx) rfl rfl rfl rfl (Nat.le_of_ble_eq_true rfl) (Nat.le_of_ble_eq_true rfl) (Nat.le_of_ble_eq_true rfl) (Nat.zero_le _) (Nat.zero_le _) hf sne (fun t e => ctX7_isClip hx h p1 t e) (fun t1 hf => ?_)
  refine PW.istore_n (L' := [some (.ref (gB g + 140)), some (.int p1), some (.int (b2i t1))]) cx qX7_wake_5 hi2 rfl rfl ?_
  refine PW.aload_n cx qX7_wake_6 rfl ?_
  refine PW.iload_n cx qX7_wake_7 rfl ?_
  obtain ⟨j16, ej16, hf⟩ := lt_split hf
  have hj16 : ∀ (z0_16 : Bool), j16 z0_16 = some r0 → PW g X ex (QE g X ex (PE (some (.int r0.1)) sh r0.2) 0 0) 0 0 sh h 16 [some (.ref (gB g + 140)), some (.int p1), some (.int (b2i t1))] [.int (b2i z0_16), .ref (gB g + 140)] := by
    intro z0_16 hf
    rw [ej16] at hf
    refine PW.iload_n cx qX7_wake_16 rfl ?_
    obtain ⟨j35, ej35, hf⟩ := lt_split hf
    have hj35 : ∀ (z0_35 : Bool), j35 z0_35 = some r0 → PW g X ex (QE g X ex (PE (some (.int r0.1)) sh r0.2) 0 0) 0 0 sh h 35 [some (.ref (gB g + 140)), some (.int p1), none] [.int (b2i z0_35), .int (b2i z0_16), .ref (gB g + 140)] := by
      intro z0_35 hf
      rw [ej35] at hf
      refine PW.callVWBc (As := [.int (b2i z0_16), .int (b2i z0_35)]) (st := []) cx hR qX7_wake_35 klX7_331 mvX7_throwsOne_ (sh_140 hx) rfl rfl rfl rfl (Nat.le_of_ble_eq_true rfl) (Nat.le_of_ble_eq_true rfl) (Nat.le_of_ble_eq_true rfl) (Nat.zero_le _) (Nat.zero_le _) hf sne (fun t e => ctX7_throwsOne_ hx h z0_16 z0_35 t e) (fun t2 h3 hf => ?_)
      refine PW.if_eq cx qX7_wake_38 hf (fun hf => ?_) (fun hf => ?_)
      · refine PW.aload_n cx qX7_wake_43 rfl ?_
        refine PW.callVWV (As := []) (st := []) cx hR qX7_wake_44 klX7_325 mvX7_begins (sh_140 hx) rfl rfl rfl rfl (Nat.le_of_ble_eq_true rfl) (Nat.le_of_ble_eq_true rfl) (Nat.le_of_ble_eq_true rfl) (Nat.zero_le _) (Nat.zero_le _) hf sne (fun t e => ctX7_begins hx h3 t e) (fun h5 hf => ?_)
        refine PW.aload_n cx qX7_wake_47 rfl ?_
        refine PW.aload_n cx qX7_wake_48 rfl ?_
        refine PW.iload_n cx qX7_wake_49 rfl ?_
        refine PW.iconst (v := 0) cx qX7_wake_50 rfl ?_
        refine PW.callVWIc (As := [.int p1, .int 0]) (st := [.ref (gB g + 140)]) cx hR qX7_wake_51 klX7_133 mvX7_leaves (sh_140 hx) rfl rfl rfl rfl (Nat.le_of_ble_eq_true rfl) (Nat.le_of_ble_eq_true rfl) (Nat.le_of_ble_eq_true rfl) (Nat.zero_le _) (Nat.zero_le _) hf sne (fun t e => ctX7_leaves hx h5 p1 0 t e) (fun t6 h7 hf => ?_)
        refine PW.callVWIc (As := [.int t6]) (st := []) cx hR qX7_wake_54 klX7_328 mvX7_remember (sh_140 hx) rfl rfl rfl rfl (Nat.le_of_ble_eq_true rfl) (Nat.le_of_ble_eq_true rfl) (Nat.le_of_ble_eq_true rfl) (Nat.zero_le _) (Nat.zero_le _) hf sne (fun t e => ctX7_remember hx h7 t6 t e) (fun t8 h9 hf => ?_)
        exact PW.iret cx hrt qX7_wake_57 (le_wi hf)
      · refine PW.iconst (v := 0) cx qX7_wake_41 rfl ?_
        exact PW.iret cx hrt qX7_wake_42 (le_wi hf)
    obtain ⟨j34, ej34, hf⟩ := lt_split hf
    have hj34 : ∀ (u_34 : Unit), j34 u_34 = some r0 → PW g X ex (QE g X ex (PE (some (.int r0.1)) sh r0.2) 0 0) 0 0 sh h 34 [some (.ref (gB g + 140)), some (.int p1), none] [.int (b2i z0_16), .ref (gB g + 140)] := by
      intro u_34 hf
      rw [ej34] at hf
      refine PW.iconst (v := 0) cx qX7_wake_34 rfl ?_
      exact PW.locs (Lsub.keep (Lsub.keep (Lsub.drop Lsub.nil))) (hj35 false hf)
    refine PW.if_eq cx qX7_wake_17 hf (fun hf => ?_) (fun hf => ?_)
    · exact PW.locs (Lsub.keep (Lsub.keep (Lsub.drop Lsub.nil))) (hj34 () hf)
    · refine PW.aload_n cx qX7_wake_20 rfl ?_
      refine PW.iload_n cx qX7_wake_21 rfl ?_
      refine PW.iconst (v := 1) cx qX7_wake_22 rfl ?_
      refine PW.callVRI (As := [.int p1, .int 1]) (st := [.int (b2i z0_16), .ref (gB g + 140)]) cx hR qX7_wake_23 klX7_70 mvX7_of (sh_140 hx) rfl rfl rfl rfl (Nat.le_of_ble_eq_true rfl) (Nat.le_of_ble_eq_true rfl) (Nat.le_of_ble_eq_true rfl) (Nat.zero_le _) (Nat.zero_le _) hf sne (fun t e => ctX7_of hx h p1 1 t e) (fun t10 hf => ?_)
      refine PW.iconst (v := 1) cx qX7_wake_26 rfl ?_
      refine PW.icmp_eq cx qX7_wake_27 hf (fun hf => ?_) (fun hf => ?_)
      · exact PW.locs (Lsub.keep (Lsub.keep (Lsub.drop Lsub.nil))) (hj34 () hf)
      · refine PW.iconst (v := 1) cx qX7_wake_30 rfl ?_
        refine PW.goto cx qX7_wake_31 ?_
        exact PW.locs (Lsub.keep (Lsub.keep (Lsub.drop Lsub.nil))) (hj35 true hf)
  refine PW.if_ne cx qX7_wake_8 hf (fun hf => ?_) (fun hf => ?_)
  · refine PW.iconst (v := 1) cx qX7_wake_11 rfl ?_
    refine PW.goto cx qX7_wake_12 ?_
    exact PW.locs (Lsub.keep (Lsub.keep (Lsub.keep Lsub.nil))) (hj16 true hf)
  · refine PW.iconst (v := 0) cx qX7_wake_15 rfl ?_
    exact PW.locs (Lsub.keep (Lsub.keep (Lsub.keep Lsub.nil))) (hj16 false hf)
set_option maxRecDepth 20000 in
theorem ctX7_cut {g : GT} {ex : Bool} {sh : List Shp} (hx : MSh sh) (h : Hp) (p1 : Int32) (p2 : Int32) (r0 : Int32 × Hp) (hf : M_cut h p1 p2 = some r0) : Ct g mX7_cut 5 0 0 ex [.ref (gB g + 140), .int p1, .int p2] sh h (PE (some (.int r0.1)) sh r0.2) := by
  refine Ct.of (L := [some (.ref (gB g + 140)), some (.int p1), some (.int p2)]) (by decide) (by intro w hw; simp only [List.mem_cons, List.not_mem_nil, or_false] at hw; rcases hw with rfl | rfl | rfl <;> rfl) (Nat.le_of_ble_eq_true rfl) rfl (fun X mx => ?_)
  obtain ⟨cx, hR, hml, hrt, -⟩ := mx
  have cx : Cx g X RX7 cX7_cut := cx
  have hrt : X.2.2.2.2.2.2.2.1.sig.returnType = (some .int) := hrt
  unfold M_cut at hf
  refine PW.aload_n cx qX7_cut_0 rfl ?_
  refine PW.aload_n cx qX7_cut_1 rfl ?_
  refine PW.iload_n cx qX7_cut_2 rfl ?_
  refine PW.callVRB (As := [.int p1]) (st := [.ref (gB g + 140)]) cx hR qX7_cut_3 klX7_340 mvX7_isScene (sh_140 hx) rfl rfl rfl rfl (Nat.le_of_ble_eq_true rfl) (Nat.le_of_ble_eq_true rfl) (Nat.le_of_ble_eq_true rfl) (Nat.zero_le _) (Nat.zero_le _) hf sne (fun t e => ctX7_isScene hx h p1 t e) (fun t1 hf => ?_)
  obtain ⟨j14, ej14, hf⟩ := lt_split hf
  have hj14 : ∀ (z0_14 : Bool), j14 z0_14 = some r0 → PW g X ex (QE g X ex (PE (some (.int r0.1)) sh r0.2) 0 0) 0 0 sh h 14 [some (.ref (gB g + 140)), some (.int p1), some (.int p2)] [.int (b2i z0_14), .ref (gB g + 140)] := by
    intro z0_14 hf
    rw [ej14] at hf
    refine PW.iload_n cx qX7_cut_14 rfl ?_
    refine PW.callSRB (As := [.int p2]) (st := [.int (b2i z0_14), .ref (gB g + 140)]) cx hR qX7_cut_15 klX7_343 miX7_isPattern rfl rfl (Nat.le_of_ble_eq_true rfl) (Nat.le_of_ble_eq_true rfl) (Nat.le_of_ble_eq_true rfl) (Nat.zero_le _) (Nat.zero_le _) hf sne (fun t e => ctX7_isPattern h p2 t e) (fun t2 hf => ?_)
    obtain ⟨j26, ej26, hf⟩ := lt_split hf
    have hj26 : ∀ (z0_26 : Bool), j26 z0_26 = some r0 → PW g X ex (QE g X ex (PE (some (.int r0.1)) sh r0.2) 0 0) 0 0 sh h 26 [some (.ref (gB g + 140)), some (.int p1), some (.int p2)] [.int (b2i z0_26), .int (b2i z0_14), .ref (gB g + 140)] := by
      intro z0_26 hf
      rw [ej26] at hf
      refine PW.callVWBc (As := [.int (b2i z0_14), .int (b2i z0_26)]) (st := []) cx hR qX7_cut_26 klX7_331 mvX7_throwsOne_ (sh_140 hx) rfl rfl rfl rfl (Nat.le_of_ble_eq_true rfl) (Nat.le_of_ble_eq_true rfl) (Nat.le_of_ble_eq_true rfl) (Nat.zero_le _) (Nat.zero_le _) hf sne (fun t e => ctX7_throwsOne_ hx h z0_14 z0_26 t e) (fun t3 h4 hf => ?_)
      refine PW.if_eq cx qX7_cut_29 hf (fun hf => ?_) (fun hf => ?_)
      · refine PW.aload_n cx qX7_cut_34 rfl ?_
        refine PW.callVWV (As := []) (st := []) cx hR qX7_cut_35 klX7_325 mvX7_begins (sh_140 hx) rfl rfl rfl rfl (Nat.le_of_ble_eq_true rfl) (Nat.le_of_ble_eq_true rfl) (Nat.le_of_ble_eq_true rfl) (Nat.zero_le _) (Nat.zero_le _) hf sne (fun t e => ctX7_begins hx h4 t e) (fun h6 hf => ?_)
        refine PW.aload_n cx qX7_cut_38 rfl ?_
        refine PW.aload_n cx qX7_cut_39 rfl ?_
        refine PW.iload_n cx qX7_cut_40 rfl ?_
        refine PW.iload_n cx qX7_cut_41 rfl ?_
        refine PW.callVWIc (As := [.int p1, .int p2]) (st := [.ref (gB g + 140)]) cx hR qX7_cut_42 klX7_210 mvX7_cuts (sh_140 hx) rfl rfl rfl rfl (Nat.le_of_ble_eq_true rfl) (Nat.le_of_ble_eq_true rfl) (Nat.le_of_ble_eq_true rfl) (Nat.zero_le _) (Nat.zero_le _) hf sne (fun t e => ctX7_cuts hx h6 p1 p2 t e) (fun t7 h8 hf => ?_)
        refine PW.callVWIc (As := [.int t7]) (st := []) cx hR qX7_cut_45 klX7_328 mvX7_remember (sh_140 hx) rfl rfl rfl rfl (Nat.le_of_ble_eq_true rfl) (Nat.le_of_ble_eq_true rfl) (Nat.le_of_ble_eq_true rfl) (Nat.zero_le _) (Nat.zero_le _) hf sne (fun t e => ctX7_remember hx h8 t7 t e) (fun t9 h10 hf => ?_)
        exact PW.iret cx hrt qX7_cut_48 (le_wi hf)
      · refine PW.iconst (v := 0) cx qX7_cut_32 rfl ?_
        exact PW.iret cx hrt qX7_cut_33 (le_wi hf)
    refine PW.if_ne cx qX7_cut_18 hf (fun hf => ?_) (fun hf => ?_)
    · refine PW.iconst (v := 1) cx qX7_cut_21 rfl ?_
      refine PW.goto cx qX7_cut_22 ?_
      exact PW.locs (Lsub.keep (Lsub.keep (Lsub.keep Lsub.nil))) (hj26 true hf)
    · refine PW.iconst (v := 0) cx qX7_cut_25 rfl ?_
      exact PW.locs (Lsub.keep (Lsub.keep (Lsub.keep Lsub.nil))) (hj26 false hf)
  refine PW.if_ne cx qX7_cut_6 hf (fun hf => ?_) (fun hf => ?_)
  · refine PW.iconst (v := 1) cx qX7_cut_9 rfl ?_
    refine PW.goto cx qX7_cut_10 ?_
    exact PW.locs (Lsub.keep (Lsub.keep (Lsub.keep Lsub.nil))) (hj14 true hf)
  · refine PW.iconst (v := 0) cx qX7_cut_13 rfl ?_
    exact PW.locs (Lsub.keep (Lsub.keep (Lsub.keep Lsub.nil))) (hj14 false hf)
set_option maxRecDepth 20000 in
theorem ctX7_air {g : GT} {ex : Bool} {sh : List Shp} (hx : MSh sh) (h : Hp) (p1 : Int32) (r0 : Int32 × Hp) (hf : M_air h p1 = some r0) : Ct g mX7_air 8 0 0 ex [.ref (gB g + 140), .int p1] sh h (PE (some (.int r0.1)) sh r0.2) := by
  refine Ct.of (L := [some (.ref (gB g + 140)), some (.int p1)]) (by decide) (by intro w hw; simp only [List.mem_cons, List.not_mem_nil, or_false] at hw; rcases hw with rfl | rfl <;> rfl) (Nat.le_of_ble_eq_true rfl) rfl (fun X mx => ?_)
  obtain ⟨cx, hR, hml, hrt, -⟩ := mx
  have cx : Cx g X RX7 cX7_air := cx
  have hrt : X.2.2.2.2.2.2.2.1.sig.returnType = (some .int) := hrt
  unfold M_air at hf
  refine PW.aload_n cx qX7_air_0 rfl ?_
  refine PW.aload_n cx qX7_air_1 rfl ?_
  refine PW.iload_n cx qX7_air_2 rfl ?_
  refine PW.callVRB (As := [.int p1]) (st := [.ref (gB g + 140)]) cx hR qX7_air_3 klX7_337 mvX7_isReel (sh_140 hx) rfl rfl rfl rfl (Nat.le_of_ble_eq_true rfl) (Nat.le_of_ble_eq_true rfl) (Nat.le_of_ble_eq_true rfl) (Nat.zero_le _) (Nat.zero_le _) hf sne (fun t e => ctX7_isReel hx h p1 t e) (fun t1 hf => ?_)
  obtain ⟨j14, ej14, hf⟩ := lt_split hf
  have hj14 : ∀ (z0_14 : Bool), j14 z0_14 = some r0 → PW g X ex (QE g X ex (PE (some (.int r0.1)) sh r0.2) 0 0) 0 0 sh h 14 [some (.ref (gB g + 140)), some (.int p1)] [.int (b2i z0_14), .ref (gB g + 140)] := by
    intro z0_14 hf
    rw [ej14] at hf
    refine PW.callVWBc (As := [.int (b2i z0_14)]) (st := []) cx hR qX7_air_14 klX7_319 mvX7_throwsOne (sh_140 hx) rfl rfl rfl rfl (Nat.le_of_ble_eq_true rfl) (Nat.le_of_ble_eq_true rfl) (Nat.le_of_ble_eq_true rfl) (Nat.zero_le _) (Nat.zero_le _) hf sne (fun t e => ctX7_throwsOne hx h z0_14 t e) (fun t2 h3 hf => ?_)
    refine PW.if_eq cx qX7_air_17 hf (fun hf => ?_) (fun hf => ?_)
    · refine PW.aload_n cx qX7_air_22 rfl ?_
      refine PW.callVWV (As := []) (st := []) cx hR qX7_air_23 klX7_325 mvX7_begins (sh_140 hx) rfl rfl rfl rfl (Nat.le_of_ble_eq_true rfl) (Nat.le_of_ble_eq_true rfl) (Nat.le_of_ble_eq_true rfl) (Nat.zero_le _) (Nat.zero_le _) hf sne (fun t e => ctX7_begins hx h3 t e) (fun h5 hf => ?_)
      refine PW.aload_n cx qX7_air_26 rfl ?_
      refine PW.aload_n cx qX7_air_27 rfl ?_
      refine PW.iload_n cx qX7_air_28 rfl ?_
      refine PW.callVWIc (As := [.int p1]) (st := [.ref (gB g + 140)]) cx hR qX7_air_29 klX7_213 mvX7_airs (sh_140 hx) rfl rfl rfl rfl (Nat.le_of_ble_eq_true rfl) (Nat.le_of_ble_eq_true rfl) (Nat.le_of_ble_eq_true rfl) (Nat.zero_le _) (Nat.zero_le _) hf sne (fun t e => ctX7_airs hx h5 p1 t e) (fun t6 h7 hf => ?_)
      refine PW.callVWIc (As := [.int t6]) (st := []) cx hR qX7_air_32 klX7_328 mvX7_remember (sh_140 hx) rfl rfl rfl rfl (Nat.le_of_ble_eq_true rfl) (Nat.le_of_ble_eq_true rfl) (Nat.le_of_ble_eq_true rfl) (Nat.zero_le _) (Nat.zero_le _) hf sne (fun t e => ctX7_remember hx h7 t6 t e) (fun t8 h9 hf => ?_)
      exact PW.iret cx hrt qX7_air_35 (le_wi hf)
    · refine PW.iconst (v := 0) cx qX7_air_20 rfl ?_
      exact PW.iret cx hrt qX7_air_21 (le_wi hf)
  refine PW.if_ne cx qX7_air_6 hf (fun hf => ?_) (fun hf => ?_)
  · refine PW.iconst (v := 1) cx qX7_air_9 rfl ?_
    refine PW.goto cx qX7_air_10 ?_
    exact PW.locs (Lsub.keep (Lsub.keep Lsub.nil)) (hj14 true hf)
  · refine PW.iconst (v := 0) cx qX7_air_13 rfl ?_
    exact PW.locs (Lsub.keep (Lsub.keep Lsub.nil)) (hj14 false hf)
set_option maxRecDepth 20000 in
theorem ctX7_feed {g : GT} {ex : Bool} {sh : List Shp} (hx : MSh sh) (h : Hp) (p1 : Int32) (p2 : Int32) (r0 : Int32 × Hp) (hf : M_feed h p1 p2 = some r0) : Ct g mX7_feed 2 0 0 ex [.ref (gB g + 140), .int p1, .int p2] sh h (PE (some (.int r0.1)) sh r0.2) := by
  refine Ct.of (L := [some (.ref (gB g + 140)), some (.int p1), some (.int p2), none, none]) (by decide) (by intro w hw; simp only [List.mem_cons, List.not_mem_nil, or_false] at hw; rcases hw with rfl | rfl | rfl <;> rfl) (Nat.le_of_ble_eq_true rfl) rfl (fun X mx => ?_)
  obtain ⟨cx, hR, hml, hrt, -⟩ := mx
  have cx : Cx g X RX7 cX7_feed := cx
  have hrt : X.2.2.2.2.2.2.2.1.sig.returnType = (some .int) := hrt
  have hi3 : 3 < X.2.2.2.2.2.2.2.2.maxLocals := by rw [hml]; exact Nat.le_of_ble_eq_true rfl
  have hi4 : 4 < X.2.2.2.2.2.2.2.2.maxLocals := by rw [hml]; exact Nat.le_of_ble_eq_true rfl
  unfold M_feed at hf
  refine PW.aload_n cx qX7_feed_0 rfl ?_
  refine PW.iload_n cx qX7_feed_1 rfl ?_
  refine PW.callVRB (As := [.int p1]) (st := []) cx hR qX7_feed_2 klX7_334 mvX7_isClip (sh_140 hx) rfl rfl rfl rfl (Nat.le_of_ble_eq_true rfl) (Nat.le_of_ble_eq_true rfl) (Nat.le_of_ble_eq_true rfl) (Nat.zero_le _) (Nat.zero_le _) hf sne (fun t e => ctX7_isClip hx h p1 t e) (fun t1 hf => ?_)
  refine PW.istore_n (L' := [some (.ref (gB g + 140)), some (.int p1), some (.int p2), some (.int (b2i t1)), none]) cx qX7_feed_5 hi3 rfl rfl ?_
  refine PW.iload_n cx qX7_feed_6 rfl ?_
  refine PW.iconst (v := 1) cx qX7_feed_7 rfl ?_
  refine PW.bipush (v := 50) cx qX7_feed_8 rfl ?_
  refine PW.callSRB (As := [.int p2, .int 1, .int 50]) (st := []) cx hR qX7_feed_10 klX7_57 miX7_in rfl rfl (Nat.le_of_ble_eq_true rfl) (Nat.le_of_ble_eq_true rfl) (Nat.le_of_ble_eq_true rfl) (Nat.zero_le _) (Nat.zero_le _) hf sne (fun t e => ctX7_in h p2 1 50 t e) (fun t2 hf => ?_)
  obtain ⟨j21, ej21, hf⟩ := lt_split hf
  have hj21 : ∀ (z0_21 : Bool), j21 z0_21 = some r0 → PW g X ex (QE g X ex (PE (some (.int r0.1)) sh r0.2) 0 0) 0 0 sh h 21 [some (.ref (gB g + 140)), some (.int p1), some (.int p2), some (.int (b2i t1)), none] [.int (b2i z0_21)] := by
    intro z0_21 hf
    rw [ej21] at hf
    refine PW.istore (L' := [some (.ref (gB g + 140)), some (.int p1), some (.int p2), some (.int (b2i t1)), some (.int (b2i z0_21))]) cx qX7_feed_21 hi4 rfl rfl ?_
    refine PW.aload_n cx qX7_feed_23 rfl ?_
    refine PW.iload_n cx qX7_feed_24 rfl ?_
    obtain ⟨j33, ej33, hf⟩ := lt_split hf
    have hj33 : ∀ (z0_33 : Bool), j33 z0_33 = some r0 → PW g X ex (QE g X ex (PE (some (.int r0.1)) sh r0.2) 0 0) 0 0 sh h 33 [some (.ref (gB g + 140)), some (.int p1), some (.int p2), some (.int (b2i t1)), some (.int (b2i z0_21))] [.int (b2i z0_33), .ref (gB g + 140)] := by
      intro z0_33 hf
      rw [ej33] at hf
      refine PW.iload cx qX7_feed_33 rfl ?_
      refine PW.iload_n cx qX7_feed_35 rfl ?_
      obtain ⟨j58, ej58, hf⟩ := lt_split hf
      have hj58 : ∀ (z0_58 : Bool), j58 z0_58 = some r0 → PW g X ex (QE g X ex (PE (some (.int r0.1)) sh r0.2) 0 0) 0 0 sh h 58 [some (.ref (gB g + 140)), some (.int p1), some (.int p2), none, none] [.int (b2i z0_58), .int (b2i z0_21), .int (b2i z0_33), .ref (gB g + 140)] := by
        intro z0_58 hf
        rw [ej58] at hf
        refine PW.callVWBc (As := [.int (b2i z0_33), .int (b2i z0_21), .int (b2i z0_58)]) (st := []) cx hR qX7_feed_58 klX7_346 mvX7_throwsOne__ (sh_140 hx) rfl rfl rfl rfl (Nat.le_of_ble_eq_true rfl) (Nat.le_of_ble_eq_true rfl) (Nat.le_of_ble_eq_true rfl) (Nat.zero_le _) (Nat.zero_le _) hf sne (fun t e => ctX7_throwsOne__ hx h z0_33 z0_21 z0_58 t e) (fun t3 h4 hf => ?_)
        refine PW.if_eq cx qX7_feed_61 hf (fun hf => ?_) (fun hf => ?_)
        · refine PW.aload_n cx qX7_feed_66 rfl ?_
          refine PW.callVWV (As := []) (st := []) cx hR qX7_feed_67 klX7_325 mvX7_begins (sh_140 hx) rfl rfl rfl rfl (Nat.le_of_ble_eq_true rfl) (Nat.le_of_ble_eq_true rfl) (Nat.le_of_ble_eq_true rfl) (Nat.zero_le _) (Nat.zero_le _) hf sne (fun t e => ctX7_begins hx h4 t e) (fun h6 hf => ?_)
          refine PW.aload_n cx qX7_feed_70 rfl ?_
          refine PW.aload_n cx qX7_feed_71 rfl ?_
          refine PW.iload_n cx qX7_feed_72 rfl ?_
          refine PW.iload_n cx qX7_feed_73 rfl ?_
          refine PW.callVWIc (As := [.int p1, .int p2]) (st := [.ref (gB g + 140)]) cx hR qX7_feed_74 klX7_220 mvX7_feeds (sh_140 hx) rfl rfl rfl rfl (Nat.le_of_ble_eq_true rfl) (Nat.le_of_ble_eq_true rfl) (Nat.le_of_ble_eq_true rfl) (Nat.zero_le _) (Nat.zero_le _) hf sne (fun t e => ctX7_feeds hx h6 p1 p2 t e) (fun t7 h8 hf => ?_)
          refine PW.callVWIc (As := [.int t7]) (st := []) cx hR qX7_feed_77 klX7_328 mvX7_remember (sh_140 hx) rfl rfl rfl rfl (Nat.le_of_ble_eq_true rfl) (Nat.le_of_ble_eq_true rfl) (Nat.le_of_ble_eq_true rfl) (Nat.zero_le _) (Nat.zero_le _) hf sne (fun t e => ctX7_remember hx h8 t7 t e) (fun t9 h10 hf => ?_)
          exact PW.iret cx hrt qX7_feed_80 (le_wi hf)
        · refine PW.iconst (v := 0) cx qX7_feed_64 rfl ?_
          exact PW.iret cx hrt qX7_feed_65 (le_wi hf)
      obtain ⟨j57, ej57, hf⟩ := lt_split hf
      have hj57 : ∀ (u_57 : Unit), j57 u_57 = some r0 → PW g X ex (QE g X ex (PE (some (.int r0.1)) sh r0.2) 0 0) 0 0 sh h 57 [some (.ref (gB g + 140)), some (.int p1), some (.int p2), none, none] [.int (b2i z0_21), .int (b2i z0_33), .ref (gB g + 140)] := by
        intro u_57 hf
        rw [ej57] at hf
        refine PW.iconst (v := 0) cx qX7_feed_57 rfl ?_
        exact PW.locs (Lsub.keep (Lsub.keep (Lsub.keep (Lsub.drop (Lsub.drop Lsub.nil))))) (hj58 false hf)
      refine PW.if_eq cx qX7_feed_36 hf (fun hf => ?_) (fun hf => ?_)
      · exact PW.locs (Lsub.keep (Lsub.keep (Lsub.keep (Lsub.drop (Lsub.drop Lsub.nil))))) (hj57 () hf)
      · refine PW.iload cx qX7_feed_39 rfl ?_
        refine PW.if_ne cx qX7_feed_41 hf (fun hf => ?_) (fun hf => ?_)
        · refine PW.aload_n cx qX7_feed_44 rfl ?_
          refine PW.iload_n cx qX7_feed_45 rfl ?_
          refine PW.iload_n cx qX7_feed_46 rfl ?_
          refine PW.callVRB (As := [.int p1, .int p2]) (st := [.int (b2i z0_21), .int (b2i z0_33), .ref (gB g + 140)]) cx hR qX7_feed_47 klX7_216 mvX7_canFeed (sh_140 hx) rfl rfl rfl rfl (Nat.le_of_ble_eq_true rfl) (Nat.le_of_ble_eq_true rfl) (Nat.le_of_ble_eq_true rfl) (Nat.zero_le _) (Nat.zero_le _) hf sne (fun t e => ctX7_canFeed hx h p1 p2 t e) (fun t11 hf => ?_)
          refine PW.if_ne cx qX7_feed_50 hf (fun hf => ?_) (fun hf => ?_)
          · refine PW.iconst (v := 1) cx qX7_feed_53 rfl ?_
            refine PW.goto cx qX7_feed_54 ?_
            exact PW.locs (Lsub.keep (Lsub.keep (Lsub.keep (Lsub.drop (Lsub.drop Lsub.nil))))) (hj58 true hf)
          · exact PW.locs (Lsub.keep (Lsub.keep (Lsub.keep (Lsub.drop (Lsub.drop Lsub.nil))))) (hj57 () hf)
        · exact PW.locs (Lsub.keep (Lsub.keep (Lsub.keep (Lsub.drop (Lsub.drop Lsub.nil))))) (hj57 () hf)
    refine PW.if_ne cx qX7_feed_25 hf (fun hf => ?_) (fun hf => ?_)
    · refine PW.iconst (v := 1) cx qX7_feed_28 rfl ?_
      refine PW.goto cx qX7_feed_29 ?_
      exact PW.locs (Lsub.keep (Lsub.keep (Lsub.keep (Lsub.keep (Lsub.keep Lsub.nil))))) (hj33 true hf)
    · refine PW.iconst (v := 0) cx qX7_feed_32 rfl ?_
      exact PW.locs (Lsub.keep (Lsub.keep (Lsub.keep (Lsub.keep (Lsub.keep Lsub.nil))))) (hj33 false hf)
  refine PW.if_ne cx qX7_feed_13 hf (fun hf => ?_) (fun hf => ?_)
  · refine PW.iconst (v := 1) cx qX7_feed_16 rfl ?_
    refine PW.goto cx qX7_feed_17 ?_
    exact PW.locs (Lsub.keep (Lsub.keep (Lsub.keep (Lsub.keep (Lsub.drop Lsub.nil))))) (hj21 true hf)
  · refine PW.iconst (v := 0) cx qX7_feed_20 rfl ?_
    exact PW.locs (Lsub.keep (Lsub.keep (Lsub.keep (Lsub.keep (Lsub.drop Lsub.nil))))) (hj21 false hf)
set_option maxRecDepth 20000 in
theorem ctX7_addFood {g : GT} {ex : Bool} {sh : List Shp} (hx : MSh sh) (h : Hp) (p1 : Int32) (r0 : Int32 × Hp) (hf : M_addFood h p1 = some r0) : Ct g mX7_addFood 1 0 0 ex [.ref (gB g + 140), .int p1] sh h (PE (some (.int r0.1)) sh r0.2) := by
  refine Ct.of (L := [some (.ref (gB g + 140)), some (.int p1), none]) (by decide) (by intro w hw; simp only [List.mem_cons, List.not_mem_nil, or_false] at hw; rcases hw with rfl | rfl <;> rfl) (Nat.le_of_ble_eq_true rfl) rfl (fun X mx => ?_)
  obtain ⟨cx, hR, hml, hrt, -⟩ := mx
  have cx : Cx g X RX7 cX7_addFood := cx
  have hrt : X.2.2.2.2.2.2.2.1.sig.returnType = (some .int) := hrt
  have hi2 : 2 < X.2.2.2.2.2.2.2.2.maxLocals := by rw [hml]; exact Nat.le_of_ble_eq_true rfl
  unfold M_addFood at hf
  refine PW.iload_n cx qX7_addFood_0 rfl ?_
  refine PW.iconst (v := 1) cx qX7_addFood_1 rfl ?_
  refine PW.sipush (v := 999) cx qX7_addFood_2 rfl ?_
  refine PW.callSRB (As := [.int p1, .int 1, .int 999]) (st := []) cx hR qX7_addFood_5 klX7_57 miX7_in rfl rfl (Nat.le_of_ble_eq_true rfl) (Nat.le_of_ble_eq_true rfl) (Nat.le_of_ble_eq_true rfl) (Nat.zero_le _) (Nat.zero_le _) hf sne (fun t e => ctX7_in h p1 1 999 t e) (fun t1 hf => ?_)
  obtain ⟨j16, ej16, hf⟩ := lt_split hf
  have hj16 : ∀ (z0_16 : Bool), j16 z0_16 = some r0 → PW g X ex (QE g X ex (PE (some (.int r0.1)) sh r0.2) 0 0) 0 0 sh h 16 [some (.ref (gB g + 140)), some (.int p1), none] [.int (b2i z0_16)] := by
    intro z0_16 hf
    rw [ej16] at hf
    refine PW.istore_n (L' := [some (.ref (gB g + 140)), some (.int p1), some (.int (b2i z0_16))]) cx qX7_addFood_16 hi2 rfl rfl ?_
    refine PW.aload_n cx qX7_addFood_17 rfl ?_
    refine PW.iload_n cx qX7_addFood_18 rfl ?_
    refine PW.iload_n cx qX7_addFood_19 rfl ?_
    obtain ⟨j42, ej42, hf⟩ := lt_split hf
    have hj42 : ∀ (z0_42 : Bool), j42 z0_42 = some r0 → PW g X ex (QE g X ex (PE (some (.int r0.1)) sh r0.2) 0 0) 0 0 sh h 42 [some (.ref (gB g + 140)), some (.int p1), none] [.int (b2i z0_42), .int (b2i z0_16), .ref (gB g + 140)] := by
      intro z0_42 hf
      rw [ej42] at hf
      refine PW.callVWBc (As := [.int (b2i z0_16), .int (b2i z0_42)]) (st := []) cx hR qX7_addFood_42 klX7_331 mvX7_throwsOne_ (sh_140 hx) rfl rfl rfl rfl (Nat.le_of_ble_eq_true rfl) (Nat.le_of_ble_eq_true rfl) (Nat.le_of_ble_eq_true rfl) (Nat.zero_le _) (Nat.zero_le _) hf sne (fun t e => ctX7_throwsOne_ hx h z0_16 z0_42 t e) (fun t2 h3 hf => ?_)
      refine PW.if_eq cx qX7_addFood_45 hf (fun hf => ?_) (fun hf => ?_)
      · refine PW.aload_n cx qX7_addFood_50 rfl ?_
        refine PW.callVWV (As := []) (st := []) cx hR qX7_addFood_51 klX7_325 mvX7_begins (sh_140 hx) rfl rfl rfl rfl (Nat.le_of_ble_eq_true rfl) (Nat.le_of_ble_eq_true rfl) (Nat.le_of_ble_eq_true rfl) (Nat.zero_le _) (Nat.zero_le _) hf sne (fun t e => ctX7_begins hx h3 t e) (fun h5 hf => ?_)
        refine PW.aload_n cx qX7_addFood_54 rfl ?_
        refine PW.getf (t := (2, 141)) (v := .ref (gB g + 141)) cx qX7_addFood_55 (sh_140 hx) rfl flX7_7 rfl ?_
        refine PW.iconst (v := 1) cx qX7_addFood_58 rfl ?_
        refine PW.dup2 cx qX7_addFood_59 rfl rfl ?_
        refine PW.iald cx qX7_addFood_60 (sh_141 hx) hf sne (fun t6 hf => ?_)
        refine PW.iload_n cx qX7_addFood_61 rfl ?_
        refine PW.iadd cx qX7_addFood_62 ?_
        refine PW.iast cx qX7_addFood_63 (sh_141 hx) hf sne (fun h7 hf => ?_)
        refine PW.aload_n cx qX7_addFood_64 rfl ?_
        refine PW.aload_n cx qX7_addFood_65 rfl ?_
        refine PW.getf (t := (2, 141)) (v := .ref (gB g + 141)) cx qX7_addFood_66 (sh_140 hx) rfl flX7_7 rfl ?_
        refine PW.iconst (v := 1) cx qX7_addFood_69 rfl ?_
        refine PW.iald cx qX7_addFood_70 (sh_141 hx) hf sne (fun t8 hf => ?_)
        refine PW.callVWIc (As := [.int t8]) (st := []) cx hR qX7_addFood_71 klX7_328 mvX7_remember (sh_140 hx) rfl rfl rfl rfl (Nat.le_of_ble_eq_true rfl) (Nat.le_of_ble_eq_true rfl) (Nat.le_of_ble_eq_true rfl) (Nat.zero_le _) (Nat.zero_le _) hf sne (fun t e => ctX7_remember hx h7 t8 t e) (fun t9 h10 hf => ?_)
        exact PW.iret cx hrt qX7_addFood_74 (le_wi hf)
      · refine PW.iconst (v := 0) cx qX7_addFood_48 rfl ?_
        exact PW.iret cx hrt qX7_addFood_49 (le_wi hf)
    obtain ⟨j41, ej41, hf⟩ := lt_split hf
    have hj41 : ∀ (u_41 : Unit), j41 u_41 = some r0 → PW g X ex (QE g X ex (PE (some (.int r0.1)) sh r0.2) 0 0) 0 0 sh h 41 [some (.ref (gB g + 140)), some (.int p1), none] [.int (b2i z0_16), .ref (gB g + 140)] := by
      intro u_41 hf
      rw [ej41] at hf
      refine PW.iconst (v := 0) cx qX7_addFood_41 rfl ?_
      exact PW.locs (Lsub.keep (Lsub.keep (Lsub.drop Lsub.nil))) (hj42 false hf)
    refine PW.if_ne cx qX7_addFood_20 hf (fun hf => ?_) (fun hf => ?_)
    · refine PW.aload_n cx qX7_addFood_23 rfl ?_
      refine PW.getf (t := (2, 141)) (v := .ref (gB g + 141)) cx qX7_addFood_24 (sh_140 hx) rfl flX7_7 rfl ?_
      refine PW.iconst (v := 1) cx qX7_addFood_27 rfl ?_
      refine PW.iald cx qX7_addFood_28 (sh_141 hx) hf sne (fun t11 hf => ?_)
      refine PW.iload_n cx qX7_addFood_29 rfl ?_
      refine PW.iadd cx qX7_addFood_30 ?_
      refine PW.sipush (v := 9999) cx qX7_addFood_31 rfl ?_
      refine PW.icmp_le cx qX7_addFood_34 hf (fun hf => ?_) (fun hf => ?_)
      · exact PW.locs (Lsub.keep (Lsub.keep (Lsub.drop Lsub.nil))) (hj41 () hf)
      · refine PW.iconst (v := 1) cx qX7_addFood_37 rfl ?_
        refine PW.goto cx qX7_addFood_38 ?_
        exact PW.locs (Lsub.keep (Lsub.keep (Lsub.drop Lsub.nil))) (hj42 true hf)
    · exact PW.locs (Lsub.keep (Lsub.keep (Lsub.drop Lsub.nil))) (hj41 () hf)
  refine PW.if_ne cx qX7_addFood_8 hf (fun hf => ?_) (fun hf => ?_)
  · refine PW.iconst (v := 1) cx qX7_addFood_11 rfl ?_
    refine PW.goto cx qX7_addFood_12 ?_
    exact PW.locs (Lsub.keep (Lsub.keep (Lsub.drop Lsub.nil))) (hj16 true hf)
  · refine PW.iconst (v := 0) cx qX7_addFood_15 rfl ?_
    exact PW.locs (Lsub.keep (Lsub.keep (Lsub.drop Lsub.nil))) (hj16 false hf)
set_option maxRecDepth 20000 in
theorem ctX7_paint {g : GT} {ex : Bool} {sh : List Shp} (hx : MSh sh) (h : Hp) (p1 : Int32) (p2 : Int32) (p3 : Int32) (r0 : Int32 × Hp) (hf : M_paint h p1 p2 p3 = some r0) : Ct g mX7_paint 4 0 0 ex [.ref (gB g + 140), .int p1, .int p2, .int p3] sh h (PE (some (.int r0.1)) sh r0.2) := by
  refine Ct.of (L := [some (.ref (gB g + 140)), some (.int p1), some (.int p2), some (.int p3), none]) (by decide) (by intro w hw; simp only [List.mem_cons, List.not_mem_nil, or_false] at hw; rcases hw with rfl | rfl | rfl | rfl <;> rfl) (Nat.le_of_ble_eq_true rfl) rfl (fun X mx => ?_)
  obtain ⟨cx, hR, hml, hrt, -⟩ := mx
  have cx : Cx g X RX7 cX7_paint := cx
  have hrt : X.2.2.2.2.2.2.2.1.sig.returnType = (some .int) := hrt
  have hi4 : 4 < X.2.2.2.2.2.2.2.2.maxLocals := by rw [hml]; exact Nat.le_of_ble_eq_true rfl
  unfold M_paint at hf
  refine PW.aload_n cx qX7_paint_0 rfl ?_
  refine PW.iload_n cx qX7_paint_1 rfl ?_
  refine PW.callVRB (As := [.int p1]) (st := []) cx hR qX7_paint_2 klX7_334 mvX7_isClip (sh_140 hx) rfl rfl rfl rfl (Nat.le_of_ble_eq_true rfl) (Nat.le_of_ble_eq_true rfl) (Nat.le_of_ble_eq_true rfl) (Nat.zero_le _) (Nat.zero_le _) hf sne (fun t e => ctX7_isClip hx h p1 t e) (fun t1 hf => ?_)
  obtain ⟨j32, ej32, hf⟩ := lt_split hf
  have hj32 : ∀ (z0_32 : Bool), j32 z0_32 = some r0 → PW g X ex (QE g X ex (PE (some (.int r0.1)) sh r0.2) 0 0) 0 0 sh h 32 [some (.ref (gB g + 140)), some (.int p1), some (.int p2), some (.int p3), none] [.int (b2i z0_32)] := by
    intro z0_32 hf
    rw [ej32] at hf
    refine PW.istore (L' := [some (.ref (gB g + 140)), some (.int p1), some (.int p2), some (.int p3), some (.int (b2i z0_32))]) cx qX7_paint_32 hi4 rfl rfl ?_
    refine PW.aload_n cx qX7_paint_34 rfl ?_
    refine PW.iload cx qX7_paint_35 rfl ?_
    obtain ⟨j45, ej45, hf⟩ := lt_split hf
    have hj45 : ∀ (z0_45 : Bool), j45 z0_45 = some r0 → PW g X ex (QE g X ex (PE (some (.int r0.1)) sh r0.2) 0 0) 0 0 sh h 45 [some (.ref (gB g + 140)), some (.int p1), some (.int p2), some (.int p3), some (.int (b2i z0_32))] [.int (b2i z0_45), .ref (gB g + 140)] := by
      intro z0_45 hf
      rw [ej45] at hf
      refine PW.iload_n cx qX7_paint_45 rfl ?_
      refine PW.iconst (v := 1) cx qX7_paint_46 rfl ?_
      refine PW.bipush (v := 9) cx qX7_paint_47 rfl ?_
      refine PW.callSRB (As := [.int p3, .int 1, .int 9]) (st := [.int (b2i z0_45), .ref (gB g + 140)]) cx hR qX7_paint_49 klX7_57 miX7_in rfl rfl (Nat.le_of_ble_eq_true rfl) (Nat.le_of_ble_eq_true rfl) (Nat.le_of_ble_eq_true rfl) (Nat.zero_le _) (Nat.zero_le _) hf sne (fun t e => ctX7_in h p3 1 9 t e) (fun t2 hf => ?_)
      obtain ⟨j60, ej60, hf⟩ := lt_split hf
      have hj60 : ∀ (z0_60 : Bool), j60 z0_60 = some r0 → PW g X ex (QE g X ex (PE (some (.int r0.1)) sh r0.2) 0 0) 0 0 sh h 60 [some (.ref (gB g + 140)), some (.int p1), some (.int p2), some (.int p3), some (.int (b2i z0_32))] [.int (b2i z0_60), .int (b2i z0_45), .ref (gB g + 140)] := by
        intro z0_60 hf
        rw [ej60] at hf
        refine PW.iload cx qX7_paint_60 rfl ?_
        obtain ⟨j79, ej79, hf⟩ := lt_split hf
        have hj79 : ∀ (z0_79 : Bool), j79 z0_79 = some r0 → PW g X ex (QE g X ex (PE (some (.int r0.1)) sh r0.2) 0 0) 0 0 sh h 79 [some (.ref (gB g + 140)), some (.int p1), some (.int p2), some (.int p3), none] [.int (b2i z0_79), .int (b2i z0_60), .int (b2i z0_45), .ref (gB g + 140)] := by
          intro z0_79 hf
          rw [ej79] at hf
          refine PW.callVWBc (As := [.int (b2i z0_45), .int (b2i z0_60), .int (b2i z0_79)]) (st := []) cx hR qX7_paint_79 klX7_346 mvX7_throwsOne__ (sh_140 hx) rfl rfl rfl rfl (Nat.le_of_ble_eq_true rfl) (Nat.le_of_ble_eq_true rfl) (Nat.le_of_ble_eq_true rfl) (Nat.zero_le _) (Nat.zero_le _) hf sne (fun t e => ctX7_throwsOne__ hx h z0_45 z0_60 z0_79 t e) (fun t3 h4 hf => ?_)
          refine PW.if_eq cx qX7_paint_82 hf (fun hf => ?_) (fun hf => ?_)
          · refine PW.aload_n cx qX7_paint_87 rfl ?_
            refine PW.callVWV (As := []) (st := []) cx hR qX7_paint_88 klX7_325 mvX7_begins (sh_140 hx) rfl rfl rfl rfl (Nat.le_of_ble_eq_true rfl) (Nat.le_of_ble_eq_true rfl) (Nat.le_of_ble_eq_true rfl) (Nat.zero_le _) (Nat.zero_le _) hf sne (fun t e => ctX7_begins hx h4 t e) (fun h6 hf => ?_)
            refine PW.aload_n cx qX7_paint_91 rfl ?_
            refine PW.aload_n cx qX7_paint_92 rfl ?_
            refine PW.iload_n cx qX7_paint_93 rfl ?_
            refine PW.iload_n cx qX7_paint_94 rfl ?_
            refine PW.iload_n cx qX7_paint_95 rfl ?_
            refine PW.callVWIc (As := [.int p1, .int p2, .int p3]) (st := [.ref (gB g + 140)]) cx hR qX7_paint_96 klX7_223 mvX7_paints (sh_140 hx) rfl rfl rfl rfl (Nat.le_of_ble_eq_true rfl) (Nat.le_of_ble_eq_true rfl) (Nat.le_of_ble_eq_true rfl) (Nat.zero_le _) (Nat.zero_le _) hf sne (fun t e => ctX7_paints hx h6 p1 p2 p3 t e) (fun t7 h8 hf => ?_)
            refine PW.callVWIc (As := [.int t7]) (st := []) cx hR qX7_paint_99 klX7_328 mvX7_remember (sh_140 hx) rfl rfl rfl rfl (Nat.le_of_ble_eq_true rfl) (Nat.le_of_ble_eq_true rfl) (Nat.le_of_ble_eq_true rfl) (Nat.zero_le _) (Nat.zero_le _) hf sne (fun t e => ctX7_remember hx h8 t7 t e) (fun t9 h10 hf => ?_)
            exact PW.iret cx hrt qX7_paint_102 (le_wi hf)
          · refine PW.iconst (v := 0) cx qX7_paint_85 rfl ?_
            exact PW.iret cx hrt qX7_paint_86 (le_wi hf)
        obtain ⟨j78, ej78, hf⟩ := lt_split hf
        have hj78 : ∀ (u_78 : Unit), j78 u_78 = some r0 → PW g X ex (QE g X ex (PE (some (.int r0.1)) sh r0.2) 0 0) 0 0 sh h 78 [some (.ref (gB g + 140)), some (.int p1), some (.int p2), some (.int p3), none] [.int (b2i z0_60), .int (b2i z0_45), .ref (gB g + 140)] := by
          intro u_78 hf
          rw [ej78] at hf
          refine PW.iconst (v := 0) cx qX7_paint_78 rfl ?_
          exact PW.locs (Lsub.keep (Lsub.keep (Lsub.keep (Lsub.keep (Lsub.drop Lsub.nil))))) (hj79 false hf)
        refine PW.if_eq cx qX7_paint_62 hf (fun hf => ?_) (fun hf => ?_)
        · exact PW.locs (Lsub.keep (Lsub.keep (Lsub.keep (Lsub.keep (Lsub.drop Lsub.nil))))) (hj78 () hf)
        · refine PW.aload_n cx qX7_paint_65 rfl ?_
          refine PW.iload_n cx qX7_paint_66 rfl ?_
          refine PW.iconst (v := 1) cx qX7_paint_67 rfl ?_
          refine PW.callVRI (As := [.int p1, .int 1]) (st := [.int (b2i z0_60), .int (b2i z0_45), .ref (gB g + 140)]) cx hR qX7_paint_68 klX7_70 mvX7_of (sh_140 hx) rfl rfl rfl rfl (Nat.le_of_ble_eq_true rfl) (Nat.le_of_ble_eq_true rfl) (Nat.le_of_ble_eq_true rfl) (Nat.zero_le _) (Nat.zero_le _) hf sne (fun t e => ctX7_of hx h p1 1 t e) (fun t11 hf => ?_)
          refine PW.if_eq cx qX7_paint_71 hf (fun hf => ?_) (fun hf => ?_)
          · exact PW.locs (Lsub.keep (Lsub.keep (Lsub.keep (Lsub.keep (Lsub.drop Lsub.nil))))) (hj78 () hf)
          · refine PW.iconst (v := 1) cx qX7_paint_74 rfl ?_
            refine PW.goto cx qX7_paint_75 ?_
            exact PW.locs (Lsub.keep (Lsub.keep (Lsub.keep (Lsub.keep (Lsub.drop Lsub.nil))))) (hj79 true hf)
      refine PW.if_ne cx qX7_paint_52 hf (fun hf => ?_) (fun hf => ?_)
      · refine PW.iconst (v := 1) cx qX7_paint_55 rfl ?_
        refine PW.goto cx qX7_paint_56 ?_
        exact PW.locs (Lsub.keep (Lsub.keep (Lsub.keep (Lsub.keep (Lsub.keep Lsub.nil))))) (hj60 true hf)
      · refine PW.iconst (v := 0) cx qX7_paint_59 rfl ?_
        exact PW.locs (Lsub.keep (Lsub.keep (Lsub.keep (Lsub.keep (Lsub.keep Lsub.nil))))) (hj60 false hf)
    refine PW.if_ne cx qX7_paint_37 hf (fun hf => ?_) (fun hf => ?_)
    · refine PW.iconst (v := 1) cx qX7_paint_40 rfl ?_
      refine PW.goto cx qX7_paint_41 ?_
      exact PW.locs (Lsub.keep (Lsub.keep (Lsub.keep (Lsub.keep (Lsub.keep Lsub.nil))))) (hj45 true hf)
    · refine PW.iconst (v := 0) cx qX7_paint_44 rfl ?_
      exact PW.locs (Lsub.keep (Lsub.keep (Lsub.keep (Lsub.keep (Lsub.keep Lsub.nil))))) (hj45 false hf)
  obtain ⟨j31, ej31, hf⟩ := lt_split hf
  have hj31 : ∀ (u_31 : Unit), j31 u_31 = some r0 → PW g X ex (QE g X ex (PE (some (.int r0.1)) sh r0.2) 0 0) 0 0 sh h 31 [some (.ref (gB g + 140)), some (.int p1), some (.int p2), some (.int p3), none] [] := by
    intro u_31 hf
    rw [ej31] at hf
    refine PW.iconst (v := 0) cx qX7_paint_31 rfl ?_
    exact PW.locs (Lsub.keep (Lsub.keep (Lsub.keep (Lsub.keep (Lsub.drop Lsub.nil))))) (hj32 false hf)
  refine PW.if_eq cx qX7_paint_5 hf (fun hf => ?_) (fun hf => ?_)
  · exact PW.locs (Lsub.keep (Lsub.keep (Lsub.keep (Lsub.keep (Lsub.drop Lsub.nil))))) (hj31 () hf)
  · refine PW.iload_n cx qX7_paint_8 rfl ?_
    refine PW.iconst (v := 0) cx qX7_paint_9 rfl ?_
    refine PW.aload_n cx qX7_paint_10 rfl ?_
    refine PW.iload_n cx qX7_paint_11 rfl ?_
    refine PW.iconst (v := 0) cx qX7_paint_12 rfl ?_
    refine PW.callVRI (As := [.int p1, .int 0]) (st := [.int 0, .int p2]) cx hR qX7_paint_13 klX7_70 mvX7_of (sh_140 hx) rfl rfl rfl rfl (Nat.le_of_ble_eq_true rfl) (Nat.le_of_ble_eq_true rfl) (Nat.le_of_ble_eq_true rfl) (Nat.zero_le _) (Nat.zero_le _) hf sne (fun t e => ctX7_of hx h p1 0 t e) (fun t12 hf => ?_)
    refine PW.callSRI (As := [.int t12]) (st := [.int 0, .int p2]) cx hR qX7_paint_16 klX7_61 miX7_digits rfl rfl (Nat.le_of_ble_eq_true rfl) (Nat.le_of_ble_eq_true rfl) (Nat.le_of_ble_eq_true rfl) (Nat.zero_le _) (Nat.zero_le _) hf sne (fun t e => ctX7_digits h t12 t e) (fun t13 hf => ?_)
    refine PW.iconst (v := 1) cx qX7_paint_19 rfl ?_
    refine PW.isub cx qX7_paint_20 ?_
    refine PW.callSRB (As := [.int p2, .int 0, .int (t13 - 1)]) (st := []) cx hR qX7_paint_21 klX7_57 miX7_in rfl rfl (Nat.le_of_ble_eq_true rfl) (Nat.le_of_ble_eq_true rfl) (Nat.le_of_ble_eq_true rfl) (Nat.zero_le _) (Nat.zero_le _) hf sne (fun t e => ctX7_in h p2 0 (t13 - 1) t e) (fun t14 hf => ?_)
    refine PW.if_eq cx qX7_paint_24 hf (fun hf => ?_) (fun hf => ?_)
    · exact PW.locs (Lsub.keep (Lsub.keep (Lsub.keep (Lsub.keep (Lsub.drop Lsub.nil))))) (hj31 () hf)
    · refine PW.iconst (v := 1) cx qX7_paint_27 rfl ?_
      refine PW.goto cx qX7_paint_28 ?_
      exact PW.locs (Lsub.keep (Lsub.keep (Lsub.keep (Lsub.keep (Lsub.drop Lsub.nil))))) (hj32 true hf)
set_option maxRecDepth 20000 in
theorem ctX7_passWeeks {g : GT} {ex : Bool} {sh : List Shp} (hx : MSh sh) (h : Hp) (p1 : Int32) (r0 : Int32 × Hp) (hf : M_passWeeks h p1 = some r0) : Ct g mX7_passWeeks 6 0 0 ex [.ref (gB g + 140), .int p1] sh h (PE (some (.int r0.1)) sh r0.2) := by
  refine Ct.of (L := [some (.ref (gB g + 140)), some (.int p1), none]) (by decide) (by intro w hw; simp only [List.mem_cons, List.not_mem_nil, or_false] at hw; rcases hw with rfl | rfl <;> rfl) (Nat.le_of_ble_eq_true rfl) rfl (fun X mx => ?_)
  obtain ⟨cx, hR, hml, hrt, -⟩ := mx
  have cx : Cx g X RX7 cX7_passWeeks := cx
  have hrt : X.2.2.2.2.2.2.2.1.sig.returnType = (some .int) := hrt
  have hi2 : 2 < X.2.2.2.2.2.2.2.2.maxLocals := by rw [hml]; exact Nat.le_of_ble_eq_true rfl
  unfold M_passWeeks at hf
  refine PW.iload_n cx qX7_passWeeks_0 rfl ?_
  refine PW.iconst (v := 1) cx qX7_passWeeks_1 rfl ?_
  refine PW.bipush (v := 50) cx qX7_passWeeks_2 rfl ?_
  refine PW.callSRB (As := [.int p1, .int 1, .int 50]) (st := []) cx hR qX7_passWeeks_4 klX7_57 miX7_in rfl rfl (Nat.le_of_ble_eq_true rfl) (Nat.le_of_ble_eq_true rfl) (Nat.le_of_ble_eq_true rfl) (Nat.zero_le _) (Nat.zero_le _) hf sne (fun t e => ctX7_in h p1 1 50 t e) (fun t1 hf => ?_)
  obtain ⟨j15, ej15, hf⟩ := lt_split hf
  have hj15 : ∀ (z0_15 : Bool), j15 z0_15 = some r0 → PW g X ex (QE g X ex (PE (some (.int r0.1)) sh r0.2) 0 0) 0 0 sh h 15 [some (.ref (gB g + 140)), some (.int p1), none] [.int (b2i z0_15)] := by
    intro z0_15 hf
    rw [ej15] at hf
    refine PW.istore_n (L' := [some (.ref (gB g + 140)), some (.int p1), some (.int (b2i z0_15))]) cx qX7_passWeeks_15 hi2 rfl rfl ?_
    refine PW.aload_n cx qX7_passWeeks_16 rfl ?_
    refine PW.iload_n cx qX7_passWeeks_17 rfl ?_
    refine PW.iload_n cx qX7_passWeeks_18 rfl ?_
    obtain ⟨j41, ej41, hf⟩ := lt_split hf
    have hj41 : ∀ (z0_41 : Bool), j41 z0_41 = some r0 → PW g X ex (QE g X ex (PE (some (.int r0.1)) sh r0.2) 0 0) 0 0 sh h 41 [some (.ref (gB g + 140)), some (.int p1), none] [.int (b2i z0_41), .int (b2i z0_15), .ref (gB g + 140)] := by
      intro z0_41 hf
      rw [ej41] at hf
      refine PW.callVWBc (As := [.int (b2i z0_15), .int (b2i z0_41)]) (st := []) cx hR qX7_passWeeks_41 klX7_331 mvX7_throwsOne_ (sh_140 hx) rfl rfl rfl rfl (Nat.le_of_ble_eq_true rfl) (Nat.le_of_ble_eq_true rfl) (Nat.le_of_ble_eq_true rfl) (Nat.zero_le _) (Nat.zero_le _) hf sne (fun t e => ctX7_throwsOne_ hx h z0_15 z0_41 t e) (fun t2 h3 hf => ?_)
      refine PW.if_eq cx qX7_passWeeks_44 hf (fun hf => ?_) (fun hf => ?_)
      · refine PW.aload_n cx qX7_passWeeks_49 rfl ?_
        refine PW.callVWV (As := []) (st := []) cx hR qX7_passWeeks_50 klX7_325 mvX7_begins (sh_140 hx) rfl rfl rfl rfl (Nat.le_of_ble_eq_true rfl) (Nat.le_of_ble_eq_true rfl) (Nat.le_of_ble_eq_true rfl) (Nat.zero_le _) (Nat.zero_le _) hf sne (fun t e => ctX7_begins hx h3 t e) (fun h5 hf => ?_)
        refine PW.aload_n cx qX7_passWeeks_53 rfl ?_
        refine PW.aload_n cx qX7_passWeeks_54 rfl ?_
        refine PW.iload_n cx qX7_passWeeks_55 rfl ?_
        refine PW.callVWIc (As := [.int p1]) (st := [.ref (gB g + 140)]) cx hR qX7_passWeeks_56 klX7_226 mvX7_passes (sh_140 hx) rfl rfl rfl rfl (Nat.le_of_ble_eq_true rfl) (Nat.le_of_ble_eq_true rfl) (Nat.le_of_ble_eq_true rfl) (Nat.zero_le _) (Nat.zero_le _) hf sne (fun t e => ctX7_passes hx h5 p1 t e) (fun t6 h7 hf => ?_)
        refine PW.callVWIc (As := [.int t6]) (st := []) cx hR qX7_passWeeks_59 klX7_328 mvX7_remember (sh_140 hx) rfl rfl rfl rfl (Nat.le_of_ble_eq_true rfl) (Nat.le_of_ble_eq_true rfl) (Nat.le_of_ble_eq_true rfl) (Nat.zero_le _) (Nat.zero_le _) hf sne (fun t e => ctX7_remember hx h7 t6 t e) (fun t8 h9 hf => ?_)
        exact PW.iret cx hrt qX7_passWeeks_62 (le_wi hf)
      · refine PW.iconst (v := 0) cx qX7_passWeeks_47 rfl ?_
        exact PW.iret cx hrt qX7_passWeeks_48 (le_wi hf)
    obtain ⟨j40, ej40, hf⟩ := lt_split hf
    have hj40 : ∀ (u_40 : Unit), j40 u_40 = some r0 → PW g X ex (QE g X ex (PE (some (.int r0.1)) sh r0.2) 0 0) 0 0 sh h 40 [some (.ref (gB g + 140)), some (.int p1), none] [.int (b2i z0_15), .ref (gB g + 140)] := by
      intro u_40 hf
      rw [ej40] at hf
      refine PW.iconst (v := 0) cx qX7_passWeeks_40 rfl ?_
      exact PW.locs (Lsub.keep (Lsub.keep (Lsub.drop Lsub.nil))) (hj41 false hf)
    refine PW.if_ne cx qX7_passWeeks_19 hf (fun hf => ?_) (fun hf => ?_)
    · refine PW.aload_n cx qX7_passWeeks_22 rfl ?_
      refine PW.getf (t := (2, 141)) (v := .ref (gB g + 141)) cx qX7_passWeeks_23 (sh_140 hx) rfl flX7_7 rfl ?_
      refine PW.iconst (v := 0) cx qX7_passWeeks_26 rfl ?_
      refine PW.iald cx qX7_passWeeks_27 (sh_141 hx) hf sne (fun t10 hf => ?_)
      refine PW.iload_n cx qX7_passWeeks_28 rfl ?_
      refine PW.iadd cx qX7_passWeeks_29 ?_
      refine PW.sipush (v := 999) cx qX7_passWeeks_30 rfl ?_
      refine PW.icmp_le cx qX7_passWeeks_33 hf (fun hf => ?_) (fun hf => ?_)
      · exact PW.locs (Lsub.keep (Lsub.keep (Lsub.drop Lsub.nil))) (hj40 () hf)
      · refine PW.iconst (v := 1) cx qX7_passWeeks_36 rfl ?_
        refine PW.goto cx qX7_passWeeks_37 ?_
        exact PW.locs (Lsub.keep (Lsub.keep (Lsub.drop Lsub.nil))) (hj41 true hf)
    · exact PW.locs (Lsub.keep (Lsub.keep (Lsub.drop Lsub.nil))) (hj40 () hf)
  refine PW.if_ne cx qX7_passWeeks_7 hf (fun hf => ?_) (fun hf => ?_)
  · refine PW.iconst (v := 1) cx qX7_passWeeks_10 rfl ?_
    refine PW.goto cx qX7_passWeeks_11 ?_
    exact PW.locs (Lsub.keep (Lsub.keep (Lsub.drop Lsub.nil))) (hj15 true hf)
  · refine PW.iconst (v := 0) cx qX7_passWeeks_14 rfl ?_
    exact PW.locs (Lsub.keep (Lsub.keep (Lsub.drop Lsub.nil))) (hj15 false hf)
set_option maxRecDepth 20000 in
theorem lX7_undo_26 {g : GT} {X : XT} {ex : Bool} {post : Option Value → List Shp → Hp → Prop} {sh : List Shp} (mx : Mx g X mX7_undo 0 0 0) (hx : MSh sh) : ∀ (n : Nat) (v1 : Int32) (h : Hp) (r : Hp) (hf : M_undo_L26 n v1 h = some r) (kx : ∀ (h1 : Hp), r = h1 → PW g X ex (QE g X ex post 0 0) 0 0 sh h1 58 [some (.ref (gB g + 140)), none] []), PW g X ex (QE g X ex post 0 0) 0 0 sh h 26 [some (.ref (gB g + 140)), some (.int v1)] [] := by
  have mx0 := mx
  obtain ⟨cx, hR, hml, hrt, -⟩ := mx0
  have cx : Cx g X RX7 cX7_undo := cx
  have hrt : X.2.2.2.2.2.2.2.1.sig.returnType = (some .int) := hrt
  have hi1 : 1 < X.2.2.2.2.2.2.2.2.maxLocals := by rw [hml]; exact Nat.le_of_ble_eq_true rfl
  intro n
  induction n with
  | zero =>
    intro v1 h r hf kx
    cases hf
  | succ n ih =>
    intro v1 h r hf kx
    unfold M_undo_L26 at hf
    refine PW.iload_n cx qX7_undo_26 rfl ?_
    refine PW.bipush (v := 106) cx qX7_undo_27 rfl ?_
    refine PW.icmp_ge cx qX7_undo_29 hf (fun hf => ?_) (fun hf => ?_)
    · exact PW.locs (Lsub.keep (Lsub.drop Lsub.nil)) (kx h (Option.some.inj hf).symm)
    · refine PW.aload_n cx qX7_undo_32 rfl ?_
      refine PW.getf (t := (2, 141)) (v := .ref (gB g + 141)) cx qX7_undo_33 (sh_140 hx) rfl flX7_7 rfl ?_
      refine PW.iload_n cx qX7_undo_36 rfl ?_
      refine PW.aload_n cx qX7_undo_37 rfl ?_
      refine PW.getf (t := (2, 144)) (v := .ref (gB g + 144)) cx qX7_undo_38 (sh_140 hx) rfl flX7_19 rfl ?_
      refine PW.bipush (v := 106) cx qX7_undo_41 rfl ?_
      refine PW.aload_n cx qX7_undo_43 rfl ?_
      refine PW.getf (t := (0, 0)) (v := .int (rd h 140 5)) cx qX7_undo_44 (sh_140 hx) rfl flX7_322 rfl ?_
      refine PW.imul cx qX7_undo_47 ?_
      refine PW.iload_n cx qX7_undo_48 rfl ?_
      refine PW.iadd cx qX7_undo_49 ?_
      refine PW.iald cx qX7_undo_50 (sh_144 hx) hf sne (fun t3 hf => ?_)
      refine PW.iast cx qX7_undo_51 (sh_141 hx) hf sne (fun h4 hf => ?_)
      refine PW.iinc (v := 1) (L' := [some (.ref (gB g + 140)), some (.int (v1 + 1))]) cx qX7_undo_52 rfl rfl hi1 rfl rfl ?_
      refine PW.goto cx qX7_undo_55 ?_
      exact PW.locs (Lsub.keep (Lsub.keep Lsub.nil)) (ih (v1 + 1) h4 _ hf kx)
set_option maxRecDepth 20000 in
theorem ctX7_undo {g : GT} {ex : Bool} {sh : List Shp} (hx : MSh sh) (h : Hp) (r0 : Int32 × Hp) (hf : M_undo h = some r0) : Ct g mX7_undo 0 0 0 ex [.ref (gB g + 140)] sh h (PE (some (.int r0.1)) sh r0.2) := by
  refine Ct.of (L := [some (.ref (gB g + 140)), none]) (by decide) (by intro w hw; simp only [List.mem_cons, List.not_mem_nil, or_false] at hw; rcases hw with rfl <;> rfl) (Nat.le_of_ble_eq_true rfl) rfl (fun X mx => ?_)
  have mx0 := mx
  obtain ⟨cx, hR, hml, hrt, -⟩ := mx0
  have cx : Cx g X RX7 cX7_undo := cx
  have hrt : X.2.2.2.2.2.2.2.1.sig.returnType = (some .int) := hrt
  have hi1 : 1 < X.2.2.2.2.2.2.2.2.maxLocals := by rw [hml]; exact Nat.le_of_ble_eq_true rfl
  unfold M_undo at hf
  refine PW.aload_n cx qX7_undo_0 rfl ?_
  refine PW.iconst (v := 0) cx qX7_undo_1 rfl ?_
  refine PW.putiN cx qX7_undo_2 (sh_140 hx) rfl fpX7_54 hf (fun h1 hf => ?_)
  refine PW.aload_n cx qX7_undo_5 rfl ?_
  refine PW.getf (t := (0, 0)) (v := .int (rd h1 140 5)) cx qX7_undo_6 (sh_140 hx) rfl flX7_322 rfl ?_
  refine PW.if_ne cx qX7_undo_9 hf (fun hf => ?_) (fun hf => ?_)
  · refine PW.iconst (v := (-1)) cx qX7_undo_12 rfl ?_
    exact PW.iret cx hrt qX7_undo_13 (le_wi hf)
  · refine PW.aload_n cx qX7_undo_14 rfl ?_
    refine PW.dup cx qX7_undo_15 rfl ?_
    refine PW.getf (t := (0, 0)) (v := .int (rd h1 140 5)) cx qX7_undo_16 (sh_140 hx) rfl flX7_322 rfl ?_
    refine PW.iconst (v := 1) cx qX7_undo_19 rfl ?_
    refine PW.isub cx qX7_undo_20 ?_
    refine PW.putiN cx qX7_undo_21 (sh_140 hx) rfl fpX7_322 hf (fun h2 hf => ?_)
    refine PW.iconst (v := 0) cx qX7_undo_24 rfl ?_
    refine PW.istore_n (L' := [some (.ref (gB g + 140)), some (.int 0)]) cx qX7_undo_25 hi1 rfl rfl ?_
    obtain ⟨r5, er5, hf⟩ := bndO hf sne
    refine PW.locs (Lsub.keep (Lsub.keep Lsub.nil)) (lX7_undo_26 mx hx FU 0 h2 r5 er5 (fun xx_ e => ?_))
    subst e
    refine PW.aload_n cx qX7_undo_58 rfl ?_
    refine PW.getf (t := (0, 0)) (v := .int (rd r5 140 5)) cx qX7_undo_59 (sh_140 hx) rfl flX7_322 rfl ?_
    exact PW.iret cx hrt qX7_undo_62 (le_wi hf)
set_option maxRecDepth 20000 in
theorem ctX7_undoCount {g : GT} {ex : Bool} {sh : List Shp} (hx : MSh sh) (h : Hp) (r0 : Int32 × Hp) (hf : M_undoCount h = some r0) : Ct g mX7_undoCount 0 0 0 ex [.ref (gB g + 140)] sh h (PE (some (.int r0.1)) sh r0.2) := by
  refine Ct.of (L := [some (.ref (gB g + 140))]) (by decide) (by intro w hw; simp only [List.mem_cons, List.not_mem_nil, or_false] at hw; rcases hw with rfl <;> rfl) (Nat.le_of_ble_eq_true rfl) rfl (fun X mx => ?_)
  obtain ⟨cx, hR, hml, hrt, -⟩ := mx
  have cx : Cx g X RX7 cX7_undoCount := cx
  have hrt : X.2.2.2.2.2.2.2.1.sig.returnType = (some .int) := hrt
  unfold M_undoCount at hf
  refine PW.aload_n cx qX7_undoCount_0 rfl ?_
  refine PW.iconst (v := 0) cx qX7_undoCount_1 rfl ?_
  refine PW.putiN cx qX7_undoCount_2 (sh_140 hx) rfl fpX7_54 hf (fun h1 hf => ?_)
  refine PW.aload_n cx qX7_undoCount_5 rfl ?_
  refine PW.getf (t := (0, 0)) (v := .int (rd h1 140 5)) cx qX7_undoCount_6 (sh_140 hx) rfl flX7_322 rfl ?_
  exact PW.iret cx hrt qX7_undoCount_9 (le_wi hf)
set_option maxRecDepth 20000 in
theorem lX7_saveSnapshot_12 {g : GT} {X : XT} {ex : Bool} {post : Option Value → List Shp → Hp → Prop} {sh : List Shp} (mx : Mx g X mX7_saveSnapshot 0 0 0) (hx : MSh sh) : ∀ (n : Nat) (v1 : Int32) (h : Hp) (r : Hp) (hf : M_saveSnapshot_L12 n v1 h = some r) (kx : ∀ (h1 : Hp), r = h1 → PW g X ex (QE g X ex post 0 0) 0 0 sh h1 36 [some (.ref (gB g + 140)), none] []), PW g X ex (QE g X ex post 0 0) 0 0 sh h 12 [some (.ref (gB g + 140)), some (.int v1)] [] := by
  have mx0 := mx
  obtain ⟨cx, hR, hml, hrt, -⟩ := mx0
  have cx : Cx g X RX7 cX7_saveSnapshot := cx
  have hrt : X.2.2.2.2.2.2.2.1.sig.returnType = (some .int) := hrt
  have hi1 : 1 < X.2.2.2.2.2.2.2.2.maxLocals := by rw [hml]; exact Nat.le_of_ble_eq_true rfl
  intro n
  induction n with
  | zero =>
    intro v1 h r hf kx
    cases hf
  | succ n ih =>
    intro v1 h r hf kx
    unfold M_saveSnapshot_L12 at hf
    refine PW.iload_n cx qX7_saveSnapshot_12 rfl ?_
    refine PW.bipush (v := 106) cx qX7_saveSnapshot_13 rfl ?_
    refine PW.icmp_ge cx qX7_saveSnapshot_15 hf (fun hf => ?_) (fun hf => ?_)
    · exact PW.locs (Lsub.keep (Lsub.drop Lsub.nil)) (kx h (Option.some.inj hf).symm)
    · refine PW.aload_n cx qX7_saveSnapshot_18 rfl ?_
      refine PW.getf (t := (2, 145)) (v := .ref (gB g + 145)) cx qX7_saveSnapshot_19 (sh_140 hx) rfl flX7_22 rfl ?_
      refine PW.iload_n cx qX7_saveSnapshot_22 rfl ?_
      refine PW.aload_n cx qX7_saveSnapshot_23 rfl ?_
      refine PW.getf (t := (2, 141)) (v := .ref (gB g + 141)) cx qX7_saveSnapshot_24 (sh_140 hx) rfl flX7_7 rfl ?_
      refine PW.iload_n cx qX7_saveSnapshot_27 rfl ?_
      refine PW.iald cx qX7_saveSnapshot_28 (sh_141 hx) hf sne (fun t3 hf => ?_)
      refine PW.iast cx qX7_saveSnapshot_29 (sh_145 hx) hf sne (fun h4 hf => ?_)
      refine PW.iinc (v := 1) (L' := [some (.ref (gB g + 140)), some (.int (v1 + 1))]) cx qX7_saveSnapshot_30 rfl rfl hi1 rfl rfl ?_
      refine PW.goto cx qX7_saveSnapshot_33 ?_
      exact PW.locs (Lsub.keep (Lsub.keep Lsub.nil)) (ih (v1 + 1) h4 _ hf kx)
set_option maxRecDepth 20000 in
theorem ctX7_saveSnapshot {g : GT} {ex : Bool} {sh : List Shp} (hx : MSh sh) (h : Hp) (r0 : Int32 × Hp) (hf : M_saveSnapshot h = some r0) : Ct g mX7_saveSnapshot 0 0 0 ex [.ref (gB g + 140)] sh h (PE (some (.int r0.1)) sh r0.2) := by
  refine Ct.of (L := [some (.ref (gB g + 140)), none]) (by decide) (by intro w hw; simp only [List.mem_cons, List.not_mem_nil, or_false] at hw; rcases hw with rfl <;> rfl) (Nat.le_of_ble_eq_true rfl) rfl (fun X mx => ?_)
  have mx0 := mx
  obtain ⟨cx, hR, hml, hrt, -⟩ := mx0
  have cx : Cx g X RX7 cX7_saveSnapshot := cx
  have hrt : X.2.2.2.2.2.2.2.1.sig.returnType = (some .int) := hrt
  have hi1 : 1 < X.2.2.2.2.2.2.2.2.maxLocals := by rw [hml]; exact Nat.le_of_ble_eq_true rfl
  unfold M_saveSnapshot at hf
  refine PW.aload_n cx qX7_saveSnapshot_0 rfl ?_
  refine PW.iconst (v := 0) cx qX7_saveSnapshot_1 rfl ?_
  refine PW.putiN cx qX7_saveSnapshot_2 (sh_140 hx) rfl fpX7_54 hf (fun h1 hf => ?_)
  refine PW.aload_n cx qX7_saveSnapshot_5 rfl ?_
  refine PW.iconst (v := 1) cx qX7_saveSnapshot_6 rfl ?_
  refine PW.putzN cx qX7_saveSnapshot_7 (sh_140 hx) rfl fpX7_349 (by decide) (by decide) hf (fun h2 hf => ?_)
  refine PW.iconst (v := 0) cx qX7_saveSnapshot_10 rfl ?_
  refine PW.istore_n (L' := [some (.ref (gB g + 140)), some (.int 0)]) cx qX7_saveSnapshot_11 hi1 rfl rfl ?_
  obtain ⟨r5, er5, hf⟩ := bndO hf sne
  refine PW.locs (Lsub.keep (Lsub.keep Lsub.nil)) (lX7_saveSnapshot_12 mx hx FU 0 h2 r5 er5 (fun xx_ e => ?_))
  subst e
  refine PW.aload_n cx qX7_saveSnapshot_36 rfl ?_
  refine PW.getf (t := (2, 141)) (v := .ref (gB g + 141)) cx qX7_saveSnapshot_37 (sh_140 hx) rfl flX7_7 rfl ?_
  refine PW.iconst (v := 0) cx qX7_saveSnapshot_40 rfl ?_
  refine PW.iald cx qX7_saveSnapshot_41 (sh_141 hx) hf sne (fun t6 hf => ?_)
  exact PW.iret cx hrt qX7_saveSnapshot_42 (le_wi hf)
set_option maxRecDepth 20000 in
theorem lX7_restoreSnapshot_23 {g : GT} {X : XT} {ex : Bool} {post : Option Value → List Shp → Hp → Prop} {sh : List Shp} (mx : Mx g X mX7_restoreSnapshot 1 0 0) (hx : MSh sh) : ∀ (n : Nat) (v1 : Int32) (h : Hp) (r : Hp) (hf : M_restoreSnapshot_L23 n v1 h = some r) (kx : ∀ (h1 : Hp), r = h1 → PW g X ex (QE g X ex post 0 0) 0 0 sh h1 47 [some (.ref (gB g + 140)), none] []), PW g X ex (QE g X ex post 0 0) 0 0 sh h 23 [some (.ref (gB g + 140)), some (.int v1)] [] := by
  have mx0 := mx
  obtain ⟨cx, hR, hml, hrt, -⟩ := mx0
  have cx : Cx g X RX7 cX7_restoreSnapshot := cx
  have hrt : X.2.2.2.2.2.2.2.1.sig.returnType = (some .int) := hrt
  have hi1 : 1 < X.2.2.2.2.2.2.2.2.maxLocals := by rw [hml]; exact Nat.le_of_ble_eq_true rfl
  intro n
  induction n with
  | zero =>
    intro v1 h r hf kx
    cases hf
  | succ n ih =>
    intro v1 h r hf kx
    unfold M_restoreSnapshot_L23 at hf
    refine PW.iload_n cx qX7_restoreSnapshot_23 rfl ?_
    refine PW.bipush (v := 106) cx qX7_restoreSnapshot_24 rfl ?_
    refine PW.icmp_ge cx qX7_restoreSnapshot_26 hf (fun hf => ?_) (fun hf => ?_)
    · exact PW.locs (Lsub.keep (Lsub.drop Lsub.nil)) (kx h (Option.some.inj hf).symm)
    · refine PW.aload_n cx qX7_restoreSnapshot_29 rfl ?_
      refine PW.getf (t := (2, 141)) (v := .ref (gB g + 141)) cx qX7_restoreSnapshot_30 (sh_140 hx) rfl flX7_7 rfl ?_
      refine PW.iload_n cx qX7_restoreSnapshot_33 rfl ?_
      refine PW.aload_n cx qX7_restoreSnapshot_34 rfl ?_
      refine PW.getf (t := (2, 145)) (v := .ref (gB g + 145)) cx qX7_restoreSnapshot_35 (sh_140 hx) rfl flX7_22 rfl ?_
      refine PW.iload_n cx qX7_restoreSnapshot_38 rfl ?_
      refine PW.iald cx qX7_restoreSnapshot_39 (sh_145 hx) hf sne (fun t3 hf => ?_)
      refine PW.iast cx qX7_restoreSnapshot_40 (sh_141 hx) hf sne (fun h4 hf => ?_)
      refine PW.iinc (v := 1) (L' := [some (.ref (gB g + 140)), some (.int (v1 + 1))]) cx qX7_restoreSnapshot_41 rfl rfl hi1 rfl rfl ?_
      refine PW.goto cx qX7_restoreSnapshot_44 ?_
      exact PW.locs (Lsub.keep (Lsub.keep Lsub.nil)) (ih (v1 + 1) h4 _ hf kx)
set_option maxRecDepth 20000 in
theorem ctX7_restoreSnapshot {g : GT} {ex : Bool} {sh : List Shp} (hx : MSh sh) (h : Hp) (r0 : Int32 × Hp) (hf : M_restoreSnapshot h = some r0) : Ct g mX7_restoreSnapshot 1 0 0 ex [.ref (gB g + 140)] sh h (PE (some (.int r0.1)) sh r0.2) := by
  refine Ct.of (L := [some (.ref (gB g + 140)), none]) (by decide) (by intro w hw; simp only [List.mem_cons, List.not_mem_nil, or_false] at hw; rcases hw with rfl <;> rfl) (Nat.le_of_ble_eq_true rfl) rfl (fun X mx => ?_)
  have mx0 := mx
  obtain ⟨cx, hR, hml, hrt, -⟩ := mx0
  have cx : Cx g X RX7 cX7_restoreSnapshot := cx
  have hrt : X.2.2.2.2.2.2.2.1.sig.returnType = (some .int) := hrt
  have hi1 : 1 < X.2.2.2.2.2.2.2.2.maxLocals := by rw [hml]; exact Nat.le_of_ble_eq_true rfl
  unfold M_restoreSnapshot at hf
  refine PW.aload_n cx qX7_restoreSnapshot_0 rfl ?_
  refine PW.aload_n cx qX7_restoreSnapshot_1 rfl ?_
  refine PW.getf (t := (1, 0)) (v := .int (rd h 140 6)) cx qX7_restoreSnapshot_2 (sh_140 hx) rfl flX7_349 rfl ?_
  obtain ⟨j13, ej13, hf⟩ := lt_split hf
  have hj13 : ∀ (z0_13 : Bool), j13 z0_13 = some r0 → PW g X ex (QE g X ex (PE (some (.int r0.1)) sh r0.2) 0 0) 0 0 sh h 13 [some (.ref (gB g + 140)), none] [.int (b2i z0_13), .ref (gB g + 140)] := by
    intro z0_13 hf
    rw [ej13] at hf
    refine PW.callVWBc (As := [.int (b2i z0_13)]) (st := []) cx hR qX7_restoreSnapshot_13 klX7_319 mvX7_throwsOne (sh_140 hx) rfl rfl rfl rfl (Nat.le_of_ble_eq_true rfl) (Nat.le_of_ble_eq_true rfl) (Nat.le_of_ble_eq_true rfl) (Nat.zero_le _) (Nat.zero_le _) hf sne (fun t e => ctX7_throwsOne hx h z0_13 t e) (fun t1 h2 hf => ?_)
    refine PW.if_eq cx qX7_restoreSnapshot_16 hf (fun hf => ?_) (fun hf => ?_)
    · refine PW.iconst (v := 0) cx qX7_restoreSnapshot_21 rfl ?_
      refine PW.istore_n (L' := [some (.ref (gB g + 140)), some (.int 0)]) cx qX7_restoreSnapshot_22 hi1 rfl rfl ?_
      obtain ⟨r5, er5, hf⟩ := bndO hf sne
      refine PW.locs (Lsub.keep (Lsub.keep Lsub.nil)) (lX7_restoreSnapshot_23 mx hx FU 0 h2 r5 er5 (fun xx_ e => ?_))
      subst e
      refine PW.aload_n cx qX7_restoreSnapshot_47 rfl ?_
      refine PW.iconst (v := 0) cx qX7_restoreSnapshot_48 rfl ?_
      refine PW.putiN cx qX7_restoreSnapshot_49 (sh_140 hx) rfl fpX7_322 hf (fun h6 hf => ?_)
      refine PW.aload_n cx qX7_restoreSnapshot_52 rfl ?_
      refine PW.getf (t := (2, 141)) (v := .ref (gB g + 141)) cx qX7_restoreSnapshot_53 (sh_140 hx) rfl flX7_7 rfl ?_
      refine PW.iconst (v := 0) cx qX7_restoreSnapshot_56 rfl ?_
      refine PW.iald cx qX7_restoreSnapshot_57 (sh_141 hx) hf sne (fun t7 hf => ?_)
      exact PW.iret cx hrt qX7_restoreSnapshot_58 (le_wi hf)
    · refine PW.iconst (v := 0) cx qX7_restoreSnapshot_19 rfl ?_
      exact PW.iret cx hrt qX7_restoreSnapshot_20 (le_wi hf)
  refine PW.if_ne cx qX7_restoreSnapshot_5 hf (fun hf => ?_) (fun hf => ?_)
  · refine PW.iconst (v := 1) cx qX7_restoreSnapshot_8 rfl ?_
    refine PW.goto cx qX7_restoreSnapshot_9 ?_
    exact PW.locs (Lsub.keep (Lsub.drop Lsub.nil)) (hj13 true hf)
  · refine PW.iconst (v := 0) cx qX7_restoreSnapshot_12 rfl ?_
    exact PW.locs (Lsub.keep (Lsub.drop Lsub.nil)) (hj13 false hf)
set_option maxRecDepth 20000 in
theorem ctX7_scriptErrorKind {g : GT} {ex : Bool} {sh : List Shp} (hx : MSh sh) (h : Hp) (r0 : Int32 × Hp) (hf : M_scriptErrorKind h = some r0) : Ct g mX7_scriptErrorKind 0 0 0 ex [.ref (gB g + 140)] sh h (PE (some (.int r0.1)) sh r0.2) := by
  refine Ct.of (L := [some (.ref (gB g + 140))]) (by decide) (by intro w hw; simp only [List.mem_cons, List.not_mem_nil, or_false] at hw; rcases hw with rfl <;> rfl) (Nat.le_of_ble_eq_true rfl) rfl (fun X mx => ?_)
  obtain ⟨cx, hR, hml, hrt, -⟩ := mx
  have cx : Cx g X RX7 cX7_scriptErrorKind := cx
  have hrt : X.2.2.2.2.2.2.2.1.sig.returnType = (some .int) := hrt
  unfold M_scriptErrorKind at hf
  refine PW.aload_n cx qX7_scriptErrorKind_0 rfl ?_
  refine PW.iconst (v := 0) cx qX7_scriptErrorKind_1 rfl ?_
  refine PW.putiN cx qX7_scriptErrorKind_2 (sh_140 hx) rfl fpX7_54 hf (fun h1 hf => ?_)
  refine PW.aload_n cx qX7_scriptErrorKind_5 rfl ?_
  refine PW.getf (t := (0, 0)) (v := .int (rd h1 140 11)) cx qX7_scriptErrorKind_6 (sh_140 hx) rfl flX7_173 rfl ?_
  exact PW.iret cx hrt qX7_scriptErrorKind_9 (le_wi hf)
set_option maxRecDepth 20000 in
theorem ctX7_scriptErrorOffset {g : GT} {ex : Bool} {sh : List Shp} (hx : MSh sh) (h : Hp) (r0 : Int32 × Hp) (hf : M_scriptErrorOffset h = some r0) : Ct g mX7_scriptErrorOffset 0 0 0 ex [.ref (gB g + 140)] sh h (PE (some (.int r0.1)) sh r0.2) := by
  refine Ct.of (L := [some (.ref (gB g + 140))]) (by decide) (by intro w hw; simp only [List.mem_cons, List.not_mem_nil, or_false] at hw; rcases hw with rfl <;> rfl) (Nat.le_of_ble_eq_true rfl) rfl (fun X mx => ?_)
  obtain ⟨cx, hR, hml, hrt, -⟩ := mx
  have cx : Cx g X RX7 cX7_scriptErrorOffset := cx
  have hrt : X.2.2.2.2.2.2.2.1.sig.returnType = (some .int) := hrt
  unfold M_scriptErrorOffset at hf
  refine PW.aload_n cx qX7_scriptErrorOffset_0 rfl ?_
  refine PW.iconst (v := 0) cx qX7_scriptErrorOffset_1 rfl ?_
  refine PW.putiN cx qX7_scriptErrorOffset_2 (sh_140 hx) rfl fpX7_54 hf (fun h1 hf => ?_)
  refine PW.aload_n cx qX7_scriptErrorOffset_5 rfl ?_
  refine PW.getf (t := (0, 0)) (v := .int (rd h1 140 12)) cx qX7_scriptErrorOffset_6 (sh_140 hx) rfl flX7_31 rfl ?_
  exact PW.iret cx hrt qX7_scriptErrorOffset_9 (le_wi hf)
set_option maxRecDepth 20000 in
theorem ctX7_told {g : GT} {ex : Bool} {sh : List Shp} (hx : MSh sh) (h : Hp) (p1 : Int32) (r0 : Int32 × Hp) (hf : M_told h p1 = some r0) : Ct g mX7_told 0 0 0 ex [.ref (gB g + 140), .int p1] sh h (PE (some (.int r0.1)) sh r0.2) := by
  refine Ct.of (L := [some (.ref (gB g + 140)), some (.int p1)]) (by decide) (by intro w hw; simp only [List.mem_cons, List.not_mem_nil, or_false] at hw; rcases hw with rfl | rfl <;> rfl) (Nat.le_of_ble_eq_true rfl) rfl (fun X mx => ?_)
  obtain ⟨cx, hR, hml, hrt, -⟩ := mx
  have cx : Cx g X RX7 cX7_told := cx
  have hrt : X.2.2.2.2.2.2.2.1.sig.returnType = (some .int) := hrt
  unfold M_told at hf
  refine PW.aload_n cx qX7_told_0 rfl ?_
  refine PW.iconst (v := 0) cx qX7_told_1 rfl ?_
  refine PW.putiN cx qX7_told_2 (sh_140 hx) rfl fpX7_54 hf (fun h1 hf => ?_)
  refine PW.aload_n cx qX7_told_5 rfl ?_
  refine PW.getf (t := (2, 141)) (v := .ref (gB g + 141)) cx qX7_told_6 (sh_140 hx) rfl flX7_7 rfl ?_
  refine PW.iload_n cx qX7_told_9 rfl ?_
  refine PW.iald cx qX7_told_10 (sh_141 hx) hf sne (fun t2 hf => ?_)
  exact PW.iret cx hrt qX7_told_11 (le_wi hf)
set_option maxRecDepth 20000 in
theorem ctX7_week {g : GT} {ex : Bool} {sh : List Shp} (hx : MSh sh) (h : Hp) (r0 : Int32 × Hp) (hf : M_week h = some r0) : Ct g mX7_week 1 0 0 ex [.ref (gB g + 140)] sh h (PE (some (.int r0.1)) sh r0.2) := by
  refine Ct.of (L := [some (.ref (gB g + 140))]) (by decide) (by intro w hw; simp only [List.mem_cons, List.not_mem_nil, or_false] at hw; rcases hw with rfl <;> rfl) (Nat.le_of_ble_eq_true rfl) rfl (fun X mx => ?_)
  obtain ⟨cx, hR, hml, hrt, -⟩ := mx
  have cx : Cx g X RX7 cX7_week := cx
  have hrt : X.2.2.2.2.2.2.2.1.sig.returnType = (some .int) := hrt
  unfold M_week at hf
  refine PW.aload_n cx qX7_week_0 rfl ?_
  refine PW.iconst (v := 0) cx qX7_week_1 rfl ?_
  refine PW.callVWIc (As := [.int 0]) (st := []) cx hR qX7_week_2 klX7_353 mvX7_told (sh_140 hx) rfl rfl rfl rfl (Nat.le_of_ble_eq_true rfl) (Nat.le_of_ble_eq_true rfl) (Nat.le_of_ble_eq_true rfl) (Nat.zero_le _) (Nat.zero_le _) hf sne (fun t e => ctX7_told hx h 0 t e) (fun t1 h2 hf => ?_)
  exact PW.iret cx hrt qX7_week_5 (le_wi hf)
set_option maxRecDepth 20000 in
theorem ctX7_food {g : GT} {ex : Bool} {sh : List Shp} (hx : MSh sh) (h : Hp) (r0 : Int32 × Hp) (hf : M_food h = some r0) : Ct g mX7_food 1 0 0 ex [.ref (gB g + 140)] sh h (PE (some (.int r0.1)) sh r0.2) := by
  refine Ct.of (L := [some (.ref (gB g + 140))]) (by decide) (by intro w hw; simp only [List.mem_cons, List.not_mem_nil, or_false] at hw; rcases hw with rfl <;> rfl) (Nat.le_of_ble_eq_true rfl) rfl (fun X mx => ?_)
  obtain ⟨cx, hR, hml, hrt, -⟩ := mx
  have cx : Cx g X RX7 cX7_food := cx
  have hrt : X.2.2.2.2.2.2.2.1.sig.returnType = (some .int) := hrt
  unfold M_food at hf
  refine PW.aload_n cx qX7_food_0 rfl ?_
  refine PW.iconst (v := 1) cx qX7_food_1 rfl ?_
  refine PW.callVWIc (As := [.int 1]) (st := []) cx hR qX7_food_2 klX7_353 mvX7_told (sh_140 hx) rfl rfl rfl rfl (Nat.le_of_ble_eq_true rfl) (Nat.le_of_ble_eq_true rfl) (Nat.le_of_ble_eq_true rfl) (Nat.zero_le _) (Nat.zero_le _) hf sne (fun t e => ctX7_told hx h 1 t e) (fun t1 h2 hf => ?_)
  exact PW.iret cx hrt qX7_food_5 (le_wi hf)
set_option maxRecDepth 20000 in
theorem ctX7_clipCount {g : GT} {ex : Bool} {sh : List Shp} (hx : MSh sh) (h : Hp) (r0 : Int32 × Hp) (hf : M_clipCount h = some r0) : Ct g mX7_clipCount 1 0 0 ex [.ref (gB g + 140)] sh h (PE (some (.int r0.1)) sh r0.2) := by
  refine Ct.of (L := [some (.ref (gB g + 140))]) (by decide) (by intro w hw; simp only [List.mem_cons, List.not_mem_nil, or_false] at hw; rcases hw with rfl <;> rfl) (Nat.le_of_ble_eq_true rfl) rfl (fun X mx => ?_)
  obtain ⟨cx, hR, hml, hrt, -⟩ := mx
  have cx : Cx g X RX7 cX7_clipCount := cx
  have hrt : X.2.2.2.2.2.2.2.1.sig.returnType = (some .int) := hrt
  unfold M_clipCount at hf
  refine PW.aload_n cx qX7_clipCount_0 rfl ?_
  refine PW.iconst (v := 2) cx qX7_clipCount_1 rfl ?_
  refine PW.callVWIc (As := [.int 2]) (st := []) cx hR qX7_clipCount_2 klX7_353 mvX7_told (sh_140 hx) rfl rfl rfl rfl (Nat.le_of_ble_eq_true rfl) (Nat.le_of_ble_eq_true rfl) (Nat.le_of_ble_eq_true rfl) (Nat.zero_le _) (Nat.zero_le _) hf sne (fun t e => ctX7_told hx h 2 t e) (fun t1 h2 hf => ?_)
  exact PW.iret cx hrt qX7_clipCount_5 (le_wi hf)
set_option maxRecDepth 20000 in
theorem ctX7_reelCount {g : GT} {ex : Bool} {sh : List Shp} (hx : MSh sh) (h : Hp) (r0 : Int32 × Hp) (hf : M_reelCount h = some r0) : Ct g mX7_reelCount 1 0 0 ex [.ref (gB g + 140)] sh h (PE (some (.int r0.1)) sh r0.2) := by
  refine Ct.of (L := [some (.ref (gB g + 140))]) (by decide) (by intro w hw; simp only [List.mem_cons, List.not_mem_nil, or_false] at hw; rcases hw with rfl <;> rfl) (Nat.le_of_ble_eq_true rfl) rfl (fun X mx => ?_)
  obtain ⟨cx, hR, hml, hrt, -⟩ := mx
  have cx : Cx g X RX7 cX7_reelCount := cx
  have hrt : X.2.2.2.2.2.2.2.1.sig.returnType = (some .int) := hrt
  unfold M_reelCount at hf
  refine PW.aload_n cx qX7_reelCount_0 rfl ?_
  refine PW.iconst (v := 3) cx qX7_reelCount_1 rfl ?_
  refine PW.callVWIc (As := [.int 3]) (st := []) cx hR qX7_reelCount_2 klX7_353 mvX7_told (sh_140 hx) rfl rfl rfl rfl (Nat.le_of_ble_eq_true rfl) (Nat.le_of_ble_eq_true rfl) (Nat.le_of_ble_eq_true rfl) (Nat.zero_le _) (Nat.zero_le _) hf sne (fun t e => ctX7_told hx h 3 t e) (fun t1 h2 hf => ?_)
  exact PW.iret cx hrt qX7_reelCount_5 (le_wi hf)
