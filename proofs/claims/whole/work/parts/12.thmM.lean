theorem ctX7_thrown {g : GT} {ex : Bool} {sh : List Shp} (hx : MSh sh) (h : Hp) (r0 : Int32) (hf : M_thrown h = some r0) : Ct g mX7_thrown 0 0 0 ex [.ref (gB g + 140)] sh h (PE (some (.int r0)) sh h) := by
  refine Ct.of (L := [some (.ref (gB g + 140))]) (by decide) (by intro w hw; simp only [List.mem_cons, List.not_mem_nil, or_false] at hw; rcases hw with rfl <;> rfl) (Nat.le_of_ble_eq_true rfl) rfl (fun X mx => ?_)
  obtain ⟨cx, hR, hml, hrt, -⟩ := mx
  have cx : Cx g X RX7 cX7_thrown := cx
  have hrt : X.2.2.2.2.2.2.2.1.sig.returnType = (some .int) := hrt
  unfold M_thrown at hf
  refine PW.aload_n cx qX7_thrown_0 rfl ?_
  refine PW.getf (t := (0, 0)) (v := .int (h 140 15)) cx qX7_thrown_1 (sh_140 hx) rfl flX7_54 rfl ?_
  exact PW.iret cx hrt qX7_thrown_4 (le_ri hf)
theorem ctX7_in {g : GT} {ex : Bool} {sh : List Shp} (h : Hp) (p1 : Int32) (p2 : Int32) (p3 : Int32) (r0 : Bool) (hf : M_in p1 p2 p3 = some r0) : Ct g mX7_in 0 0 0 ex [.int p1, .int p2, .int p3] sh h (PE (some (.int (b2i r0))) sh h) := by
  refine Ct.of (L := [some (.int p1), some (.int p2), some (.int p3)]) (by decide) (by intro w hw; simp only [List.mem_cons, List.not_mem_nil, or_false] at hw; rcases hw with rfl | rfl | rfl <;> rfl) (Nat.le_of_ble_eq_true rfl) rfl (fun X mx => ?_)
  obtain ⟨cx, hR, hml, hrt, -⟩ := mx
  have cx : Cx g X RX7 cX7_in := cx
  have hrt : X.2.2.2.2.2.2.2.1.sig.returnType = (some .boolean) := hrt
  unfold M_in at hf
  refine PW.iload_n cx qX7_in_0 rfl ?_
  refine PW.iload_n cx qX7_in_1 rfl ?_
  refine PW.icmp_lt cx qX7_in_2 hf (fun hf => ?_) (fun hf => ?_)
  · refine PW.iconst (v := 0) cx qX7_in_14 rfl ?_
    exact PW.zret cx hrt nb0 qX7_in_15 (le_rz hf)
  · refine PW.iload_n cx qX7_in_5 rfl ?_
    refine PW.iload_n cx qX7_in_6 rfl ?_
    refine PW.icmp_gt cx qX7_in_7 hf (fun hf => ?_) (fun hf => ?_)
    · refine PW.iconst (v := 0) cx qX7_in_14 rfl ?_
      exact PW.zret cx hrt nb0 qX7_in_15 (le_rz hf)
    · refine PW.iconst (v := 1) cx qX7_in_10 rfl ?_
      refine PW.goto cx qX7_in_11 ?_
      exact PW.zret cx hrt nb1 qX7_in_15 (le_rz hf)
theorem ctX7_throwsOne {g : GT} {ex : Bool} {sh : List Shp} (hx : MSh sh) (h : Hp) (p1 : Bool) (r0 : Bool × Hp) (hf : M_throwsOne h p1 = some r0) : Ct g mX7_throwsOne 0 0 0 ex [.ref (gB g + 140), .int (b2i p1)] sh h (PE (some (.int (b2i r0.1))) sh r0.2) := by
  refine Ct.of (L := [some (.ref (gB g + 140)), some (.int (b2i p1))]) (by decide) (by intro w hw; simp only [List.mem_cons, List.not_mem_nil, or_false] at hw; rcases hw with rfl | rfl <;> rfl) (Nat.le_of_ble_eq_true rfl) rfl (fun X mx => ?_)
  obtain ⟨cx, hR, hml, hrt, -⟩ := mx
  have cx : Cx g X RX7 cX7_throwsOne := cx
  have hrt : X.2.2.2.2.2.2.2.1.sig.returnType = (some .boolean) := hrt
  unfold M_throwsOne at hf
  refine PW.aload_n cx qX7_throwsOne_0 rfl ?_
  refine PW.iload_n cx qX7_throwsOne_1 rfl ?_
  refine PW.if_eq cx qX7_throwsOne_2 hf (fun hf => ?_) (fun hf => ?_)
  · refine PW.iconst (v := 0) cx qX7_throwsOne_9 rfl ?_
    refine PW.putiN cx qX7_throwsOne_10 (sh_140 hx) rfl fpX7_54 hf (fun h1 hf => ?_)
    refine PW.iload_n cx qX7_throwsOne_13 rfl ?_
    exact PW.zret cx hrt (nbb _) qX7_throwsOne_14 (le_wz hf)
  · refine PW.iconst (v := 1) cx qX7_throwsOne_5 rfl ?_
    refine PW.goto cx qX7_throwsOne_6 ?_
    refine PW.putiN cx qX7_throwsOne_10 (sh_140 hx) rfl fpX7_54 hf (fun h2 hf => ?_)
    refine PW.iload_n cx qX7_throwsOne_13 rfl ?_
    exact PW.zret cx hrt (nbb _) qX7_throwsOne_14 (le_wz hf)
theorem ctX7_throwsOne_ {g : GT} {ex : Bool} {sh : List Shp} (hx : MSh sh) (h : Hp) (p1 : Bool) (p2 : Bool) (r0 : Bool × Hp) (hf : M_throwsOne2 h p1 p2 = some r0) : Ct g mX7_throwsOne_ 0 0 0 ex [.ref (gB g + 140), .int (b2i p1), .int (b2i p2)] sh h (PE (some (.int (b2i r0.1))) sh r0.2) := by
  refine Ct.of (L := [some (.ref (gB g + 140)), some (.int (b2i p1)), some (.int (b2i p2))]) (by decide) (by intro w hw; simp only [List.mem_cons, List.not_mem_nil, or_false] at hw; rcases hw with rfl | rfl | rfl <;> rfl) (Nat.le_of_ble_eq_true rfl) rfl (fun X mx => ?_)
  obtain ⟨cx, hR, hml, hrt, -⟩ := mx
  have cx : Cx g X RX7 cX7_throwsOne_ := cx
  have hrt : X.2.2.2.2.2.2.2.1.sig.returnType = (some .boolean) := hrt
  unfold M_throwsOne2 at hf
  refine PW.aload_n cx qX7_throwsOne__0 rfl ?_
  refine PW.iload_n cx qX7_throwsOne__1 rfl ?_
  obtain ⟨j18, ej18, hf⟩ := lt_split hf
  have hj18 : ∀ (z0_18 : Int32), j18 z0_18 = some r0 → PW g X ex (QE g X ex (PE (some (.int (b2i r0.1))) sh r0.2) 0 0) 0 0 sh h 18 [none, some (.int (b2i p1)), some (.int (b2i p2))] [.int z0_18, .ref (gB g + 140)] := by
    intro z0_18 hf
    rw [ej18] at hf
    refine PW.putiN cx qX7_throwsOne__18 (sh_140 hx) rfl fpX7_54 hf (fun h1 hf => ?_)
    refine PW.iload_n cx qX7_throwsOne__21 rfl ?_
    refine PW.if_ne cx qX7_throwsOne__22 hf (fun hf => ?_) (fun hf => ?_)
    · refine PW.iload_n cx qX7_throwsOne__25 rfl ?_
      refine PW.if_eq cx qX7_throwsOne__26 hf (fun hf => ?_) (fun hf => ?_)
      · refine PW.iconst (v := 0) cx qX7_throwsOne__33 rfl ?_
        exact PW.zret cx hrt nb0 qX7_throwsOne__34 (le_wz hf)
      · refine PW.iconst (v := 1) cx qX7_throwsOne__29 rfl ?_
        refine PW.goto cx qX7_throwsOne__30 ?_
        exact PW.zret cx hrt nb1 qX7_throwsOne__34 (le_wz hf)
    · refine PW.iconst (v := 1) cx qX7_throwsOne__29 rfl ?_
      refine PW.goto cx qX7_throwsOne__30 ?_
      exact PW.zret cx hrt nb1 qX7_throwsOne__34 (le_wz hf)
  refine PW.if_eq cx qX7_throwsOne__2 hf (fun hf => ?_) (fun hf => ?_)
  · refine PW.iload_n cx qX7_throwsOne__9 rfl ?_
    refine PW.if_eq cx qX7_throwsOne__10 hf (fun hf => ?_) (fun hf => ?_)
    · refine PW.iconst (v := 0) cx qX7_throwsOne__17 rfl ?_
      exact PW.locs (Lsub.drop (Lsub.keep (Lsub.keep Lsub.nil))) (hj18 0 hf)
    · refine PW.iconst (v := 2) cx qX7_throwsOne__13 rfl ?_
      refine PW.goto cx qX7_throwsOne__14 ?_
      exact PW.locs (Lsub.drop (Lsub.keep (Lsub.keep Lsub.nil))) (hj18 2 hf)
  · refine PW.iconst (v := 1) cx qX7_throwsOne__5 rfl ?_
    refine PW.goto cx qX7_throwsOne__6 ?_
    exact PW.locs (Lsub.drop (Lsub.keep (Lsub.keep Lsub.nil))) (hj18 1 hf)
theorem ctX7_throwsOne__ {g : GT} {ex : Bool} {sh : List Shp} (hx : MSh sh) (h : Hp) (p1 : Bool) (p2 : Bool) (p3 : Bool) (r0 : Bool × Hp) (hf : M_throwsOne3 h p1 p2 p3 = some r0) : Ct g mX7_throwsOne__ 0 0 0 ex [.ref (gB g + 140), .int (b2i p1), .int (b2i p2), .int (b2i p3)] sh h (PE (some (.int (b2i r0.1))) sh r0.2) := by
  refine Ct.of (L := [some (.ref (gB g + 140)), some (.int (b2i p1)), some (.int (b2i p2)), some (.int (b2i p3))]) (by decide) (by intro w hw; simp only [List.mem_cons, List.not_mem_nil, or_false] at hw; rcases hw with rfl | rfl | rfl | rfl <;> rfl) (Nat.le_of_ble_eq_true rfl) rfl (fun X mx => ?_)
  obtain ⟨cx, hR, hml, hrt, -⟩ := mx
  have cx : Cx g X RX7 cX7_throwsOne__ := cx
  have hrt : X.2.2.2.2.2.2.2.1.sig.returnType = (some .boolean) := hrt
  unfold M_throwsOne3 at hf
  refine PW.aload_n cx qX7_throwsOne___0 rfl ?_
  refine PW.iload_n cx qX7_throwsOne___1 rfl ?_
  obtain ⟨j26, ej26, hf⟩ := lt_split hf
  have hj26 : ∀ (z0_26 : Int32), j26 z0_26 = some r0 → PW g X ex (QE g X ex (PE (some (.int (b2i r0.1))) sh r0.2) 0 0) 0 0 sh h 26 [none, some (.int (b2i p1)), some (.int (b2i p2)), some (.int (b2i p3))] [.int z0_26, .ref (gB g + 140)] := by
    intro z0_26 hf
    rw [ej26] at hf
    refine PW.putiN cx qX7_throwsOne___26 (sh_140 hx) rfl fpX7_54 hf (fun h1 hf => ?_)
    refine PW.iload_n cx qX7_throwsOne___29 rfl ?_
    refine PW.if_ne cx qX7_throwsOne___30 hf (fun hf => ?_) (fun hf => ?_)
    · refine PW.iload_n cx qX7_throwsOne___33 rfl ?_
      refine PW.if_ne cx qX7_throwsOne___34 hf (fun hf => ?_) (fun hf => ?_)
      · refine PW.iload_n cx qX7_throwsOne___37 rfl ?_
        refine PW.if_eq cx qX7_throwsOne___38 hf (fun hf => ?_) (fun hf => ?_)
        · refine PW.iconst (v := 0) cx qX7_throwsOne___45 rfl ?_
          exact PW.zret cx hrt nb0 qX7_throwsOne___46 (le_wz hf)
        · refine PW.iconst (v := 1) cx qX7_throwsOne___41 rfl ?_
          refine PW.goto cx qX7_throwsOne___42 ?_
          exact PW.zret cx hrt nb1 qX7_throwsOne___46 (le_wz hf)
      · refine PW.iconst (v := 1) cx qX7_throwsOne___41 rfl ?_
        refine PW.goto cx qX7_throwsOne___42 ?_
        exact PW.zret cx hrt nb1 qX7_throwsOne___46 (le_wz hf)
    · refine PW.iconst (v := 1) cx qX7_throwsOne___41 rfl ?_
      refine PW.goto cx qX7_throwsOne___42 ?_
      exact PW.zret cx hrt nb1 qX7_throwsOne___46 (le_wz hf)
  refine PW.if_eq cx qX7_throwsOne___2 hf (fun hf => ?_) (fun hf => ?_)
  · refine PW.iload_n cx qX7_throwsOne___9 rfl ?_
    refine PW.if_eq cx qX7_throwsOne___10 hf (fun hf => ?_) (fun hf => ?_)
    · refine PW.iload_n cx qX7_throwsOne___17 rfl ?_
      refine PW.if_eq cx qX7_throwsOne___18 hf (fun hf => ?_) (fun hf => ?_)
      · refine PW.iconst (v := 0) cx qX7_throwsOne___25 rfl ?_
        exact PW.locs (Lsub.drop (Lsub.keep (Lsub.keep (Lsub.keep Lsub.nil)))) (hj26 0 hf)
      · refine PW.iconst (v := 3) cx qX7_throwsOne___21 rfl ?_
        refine PW.goto cx qX7_throwsOne___22 ?_
        exact PW.locs (Lsub.drop (Lsub.keep (Lsub.keep (Lsub.keep Lsub.nil)))) (hj26 3 hf)
    · refine PW.iconst (v := 2) cx qX7_throwsOne___13 rfl ?_
      refine PW.goto cx qX7_throwsOne___14 ?_
      exact PW.locs (Lsub.drop (Lsub.keep (Lsub.keep (Lsub.keep Lsub.nil)))) (hj26 2 hf)
  · refine PW.iconst (v := 1) cx qX7_throwsOne___5 rfl ?_
    refine PW.goto cx qX7_throwsOne___6 ?_
    exact PW.locs (Lsub.drop (Lsub.keep (Lsub.keep (Lsub.keep Lsub.nil)))) (hj26 1 hf)
theorem ctX7_isClip {g : GT} {ex : Bool} {sh : List Shp} (hx : MSh sh) (h : Hp) (p1 : Int32) (r0 : Bool) (hf : M_isClip h p1 = some r0) : Ct g mX7_isClip 1 0 0 ex [.ref (gB g + 140), .int p1] sh h (PE (some (.int (b2i r0))) sh h) := by
  refine Ct.of (L := [some (.ref (gB g + 140)), some (.int p1)]) (by decide) (by intro w hw; simp only [List.mem_cons, List.not_mem_nil, or_false] at hw; rcases hw with rfl | rfl <;> rfl) (Nat.le_of_ble_eq_true rfl) rfl (fun X mx => ?_)
  obtain ⟨cx, hR, hml, hrt, -⟩ := mx
  have cx : Cx g X RX7 cX7_isClip := cx
  have hrt : X.2.2.2.2.2.2.2.1.sig.returnType = (some .boolean) := hrt
  unfold M_isClip at hf
  refine PW.iload_n cx qX7_isClip_0 rfl ?_
  refine PW.iconst (v := 0) cx qX7_isClip_1 rfl ?_
  refine PW.aload_n cx qX7_isClip_2 rfl ?_
  refine PW.getf (t := (2, 141)) (v := .ref (gB g + 141)) cx qX7_isClip_3 (sh_140 hx) rfl flX7_7 rfl ?_
  refine PW.iconst (v := 2) cx qX7_isClip_6 rfl ?_
  refine PW.iald cx qX7_isClip_7 (sh_141 hx) hf sne (fun t1 hf => ?_)
  refine PW.iconst (v := 1) cx qX7_isClip_8 rfl ?_
  refine PW.isub cx qX7_isClip_9 ?_
  refine PW.callSRB (As := [.int p1, .int 0, .int (t1 - 1)]) (st := []) cx hR qX7_isClip_10 klX7_57 miX7_in rfl rfl (Nat.le_of_ble_eq_true rfl) (Nat.le_of_ble_eq_true rfl) (Nat.le_of_ble_eq_true rfl) (Nat.zero_le _) (Nat.zero_le _) hf sne (fun t e => ctX7_in h p1 0 (t1 - 1) t e) (fun t2 hf => ?_)
  exact PW.zret cx hrt (nbb _) qX7_isClip_13 (le_rz hf)
theorem ctX7_isReel {g : GT} {ex : Bool} {sh : List Shp} (hx : MSh sh) (h : Hp) (p1 : Int32) (r0 : Bool) (hf : M_isReel h p1 = some r0) : Ct g mX7_isReel 1 0 0 ex [.ref (gB g + 140), .int p1] sh h (PE (some (.int (b2i r0))) sh h) := by
  refine Ct.of (L := [some (.ref (gB g + 140)), some (.int p1)]) (by decide) (by intro w hw; simp only [List.mem_cons, List.not_mem_nil, or_false] at hw; rcases hw with rfl | rfl <;> rfl) (Nat.le_of_ble_eq_true rfl) rfl (fun X mx => ?_)
  obtain ⟨cx, hR, hml, hrt, -⟩ := mx
  have cx : Cx g X RX7 cX7_isReel := cx
  have hrt : X.2.2.2.2.2.2.2.1.sig.returnType = (some .boolean) := hrt
  unfold M_isReel at hf
  refine PW.iload_n cx qX7_isReel_0 rfl ?_
  refine PW.iconst (v := 0) cx qX7_isReel_1 rfl ?_
  refine PW.aload_n cx qX7_isReel_2 rfl ?_
  refine PW.getf (t := (2, 141)) (v := .ref (gB g + 141)) cx qX7_isReel_3 (sh_140 hx) rfl flX7_7 rfl ?_
  refine PW.iconst (v := 3) cx qX7_isReel_6 rfl ?_
  refine PW.iald cx qX7_isReel_7 (sh_141 hx) hf sne (fun t1 hf => ?_)
  refine PW.iconst (v := 1) cx qX7_isReel_8 rfl ?_
  refine PW.isub cx qX7_isReel_9 ?_
  refine PW.callSRB (As := [.int p1, .int 0, .int (t1 - 1)]) (st := []) cx hR qX7_isReel_10 klX7_57 miX7_in rfl rfl (Nat.le_of_ble_eq_true rfl) (Nat.le_of_ble_eq_true rfl) (Nat.le_of_ble_eq_true rfl) (Nat.zero_le _) (Nat.zero_le _) hf sne (fun t e => ctX7_in h p1 0 (t1 - 1) t e) (fun t2 hf => ?_)
  exact PW.zret cx hrt (nbb _) qX7_isReel_13 (le_rz hf)
theorem ctX7_isScene {g : GT} {ex : Bool} {sh : List Shp} (hx : MSh sh) (h : Hp) (p1 : Int32) (r0 : Bool) (hf : M_isScene h p1 = some r0) : Ct g mX7_isScene 1 0 0 ex [.ref (gB g + 140), .int p1] sh h (PE (some (.int (b2i r0))) sh h) := by
  refine Ct.of (L := [some (.ref (gB g + 140)), some (.int p1)]) (by decide) (by intro w hw; simp only [List.mem_cons, List.not_mem_nil, or_false] at hw; rcases hw with rfl | rfl <;> rfl) (Nat.le_of_ble_eq_true rfl) rfl (fun X mx => ?_)
  obtain ⟨cx, hR, hml, hrt, -⟩ := mx
  have cx : Cx g X RX7 cX7_isScene := cx
  have hrt : X.2.2.2.2.2.2.2.1.sig.returnType = (some .boolean) := hrt
  unfold M_isScene at hf
  refine PW.iload_n cx qX7_isScene_0 rfl ?_
  refine PW.iconst (v := 0) cx qX7_isScene_1 rfl ?_
  refine PW.aload_n cx qX7_isScene_2 rfl ?_
  refine PW.getf (t := (2, 141)) (v := .ref (gB g + 141)) cx qX7_isScene_3 (sh_140 hx) rfl flX7_7 rfl ?_
  refine PW.iconst (v := 4) cx qX7_isScene_6 rfl ?_
  refine PW.iald cx qX7_isScene_7 (sh_141 hx) hf sne (fun t1 hf => ?_)
  refine PW.iconst (v := 1) cx qX7_isScene_8 rfl ?_
  refine PW.isub cx qX7_isScene_9 ?_
  refine PW.callSRB (As := [.int p1, .int 0, .int (t1 - 1)]) (st := []) cx hR qX7_isScene_10 klX7_57 miX7_in rfl rfl (Nat.le_of_ble_eq_true rfl) (Nat.le_of_ble_eq_true rfl) (Nat.le_of_ble_eq_true rfl) (Nat.zero_le _) (Nat.zero_le _) hf sne (fun t e => ctX7_in h p1 0 (t1 - 1) t e) (fun t2 hf => ?_)
  exact PW.zret cx hrt (nbb _) qX7_isScene_13 (le_rz hf)
theorem ctX7_of {g : GT} {ex : Bool} {sh : List Shp} (hx : MSh sh) (h : Hp) (p1 : Int32) (p2 : Int32) (r0 : Int32) (hf : M_of h p1 p2 = some r0) : Ct g mX7_of 0 0 0 ex [.ref (gB g + 140), .int p1, .int p2] sh h (PE (some (.int r0)) sh h) := by
  refine Ct.of (L := [some (.ref (gB g + 140)), some (.int p1), some (.int p2)]) (by decide) (by intro w hw; simp only [List.mem_cons, List.not_mem_nil, or_false] at hw; rcases hw with rfl | rfl | rfl <;> rfl) (Nat.le_of_ble_eq_true rfl) rfl (fun X mx => ?_)
  obtain ⟨cx, hR, hml, hrt, -⟩ := mx
  have cx : Cx g X RX7 cX7_of := cx
  have hrt : X.2.2.2.2.2.2.2.1.sig.returnType = (some .int) := hrt
  unfold M_of at hf
  refine PW.aload_n cx qX7_of_0 rfl ?_
  refine PW.getf (t := (2, 141)) (v := .ref (gB g + 141)) cx qX7_of_1 (sh_140 hx) rfl flX7_7 rfl ?_
  refine PW.bipush (v := 8) cx qX7_of_4 rfl ?_
  refine PW.iconst (v := 4) cx qX7_of_6 rfl ?_
  refine PW.iload_n cx qX7_of_7 rfl ?_
  refine PW.imul cx qX7_of_8 ?_
  refine PW.iadd cx qX7_of_9 ?_
  refine PW.iload_n cx qX7_of_10 rfl ?_
  refine PW.iadd cx qX7_of_11 ?_
  refine PW.iald cx qX7_of_12 (sh_141 hx) hf sne (fun t1 hf => ?_)
  exact PW.iret cx hrt qX7_of_13 (le_ri hf)
theorem ctX7_to {g : GT} {ex : Bool} {sh : List Shp} (hx : MSh sh) (h : Hp) (p1 : Int32) (p2 : Int32) (p3 : Int32) (r0 : Hp) (hf : M_to h p1 p2 p3 = some r0) : Ct g mX7_to 0 0 0 ex [.ref (gB g + 140), .int p1, .int p2, .int p3] sh h (PE none sh r0) := by
  refine Ct.of (L := [some (.ref (gB g + 140)), some (.int p1), some (.int p2), some (.int p3)]) (by decide) (by intro w hw; simp only [List.mem_cons, List.not_mem_nil, or_false] at hw; rcases hw with rfl | rfl | rfl | rfl <;> rfl) (Nat.le_of_ble_eq_true rfl) rfl (fun X mx => ?_)
  obtain ⟨cx, hR, hml, hrt, -⟩ := mx
  have cx : Cx g X RX7 cX7_to := cx
  have hrt : X.2.2.2.2.2.2.2.1.sig.returnType = none := hrt
  unfold M_to at hf
  refine PW.aload_n cx qX7_to_0 rfl ?_
  refine PW.getf (t := (2, 141)) (v := .ref (gB g + 141)) cx qX7_to_1 (sh_140 hx) rfl flX7_7 rfl ?_
  refine PW.bipush (v := 8) cx qX7_to_4 rfl ?_
  refine PW.iconst (v := 4) cx qX7_to_6 rfl ?_
  refine PW.iload_n cx qX7_to_7 rfl ?_
  refine PW.imul cx qX7_to_8 ?_
  refine PW.iadd cx qX7_to_9 ?_
  refine PW.iload_n cx qX7_to_10 rfl ?_
  refine PW.iadd cx qX7_to_11 ?_
  refine PW.iload_n cx qX7_to_12 rfl ?_
  refine PW.iast cx qX7_to_13 (sh_141 hx) hf sne (fun h1 hf => ?_)
  exact PW.vret cx hrt qX7_to_14 (le_wv hf)
theorem ctX7_scene {g : GT} {ex : Bool} {sh : List Shp} (hx : MSh sh) (h : Hp) (p1 : Int32) (p2 : Int32) (r0 : Int32) (hf : M_scene h p1 p2 = some r0) : Ct g mX7_scene 0 0 0 ex [.ref (gB g + 140), .int p1, .int p2] sh h (PE (some (.int r0)) sh h) := by
  refine Ct.of (L := [some (.ref (gB g + 140)), some (.int p1), some (.int p2)]) (by decide) (by intro w hw; simp only [List.mem_cons, List.not_mem_nil, or_false] at hw; rcases hw with rfl | rfl | rfl <;> rfl) (Nat.le_of_ble_eq_true rfl) rfl (fun X mx => ?_)
  obtain ⟨cx, hR, hml, hrt, -⟩ := mx
  have cx : Cx g X RX7 cX7_scene := cx
  have hrt : X.2.2.2.2.2.2.2.1.sig.returnType = (some .int) := hrt
  unfold M_scene at hf
  refine PW.aload_n cx qX7_scene_0 rfl ?_
  refine PW.getf (t := (2, 141)) (v := .ref (gB g + 141)) cx qX7_scene_1 (sh_140 hx) rfl flX7_7 rfl ?_
  refine PW.bipush (v := 96) cx qX7_scene_4 rfl ?_
  refine PW.iconst (v := 2) cx qX7_scene_6 rfl ?_
  refine PW.iload_n cx qX7_scene_7 rfl ?_
  refine PW.imul cx qX7_scene_8 ?_
  refine PW.iadd cx qX7_scene_9 ?_
  refine PW.iload_n cx qX7_scene_10 rfl ?_
  refine PW.iadd cx qX7_scene_11 ?_
  refine PW.iald cx qX7_scene_12 (sh_141 hx) hf sne (fun t1 hf => ?_)
  exact PW.iret cx hrt qX7_scene_13 (le_ri hf)
theorem ctX7_beds {g : GT} {ex : Bool} {sh : List Shp} (hx : MSh sh) (h : Hp) (p1 : Int32) (r0 : Int32) (hf : M_beds h p1 = some r0) : Ct g mX7_beds 0 0 0 ex [.ref (gB g + 140), .int p1] sh h (PE (some (.int r0)) sh h) := by
  refine Ct.of (L := [some (.ref (gB g + 140)), some (.int p1)]) (by decide) (by intro w hw; simp only [List.mem_cons, List.not_mem_nil, or_false] at hw; rcases hw with rfl | rfl <;> rfl) (Nat.le_of_ble_eq_true rfl) rfl (fun X mx => ?_)
  obtain ⟨cx, hR, hml, hrt, -⟩ := mx
  have cx : Cx g X RX7 cX7_beds := cx
  have hrt : X.2.2.2.2.2.2.2.1.sig.returnType = (some .int) := hrt
  unfold M_beds at hf
  refine PW.aload_n cx qX7_beds_0 rfl ?_
  refine PW.getf (t := (2, 141)) (v := .ref (gB g + 141)) cx qX7_beds_1 (sh_140 hx) rfl flX7_7 rfl ?_
  refine PW.bipush (v := 56) cx qX7_beds_4 rfl ?_
  refine PW.iload_n cx qX7_beds_6 rfl ?_
  refine PW.iadd cx qX7_beds_7 ?_
  refine PW.iald cx qX7_beds_8 (sh_141 hx) hf sne (fun t1 hf => ?_)
  exact PW.iret cx hrt qX7_beds_9 (le_ri hf)
theorem ctX7_inBed {g : GT} {ex : Bool} {sh : List Shp} (hx : MSh sh) (h : Hp) (p1 : Int32) (p2 : Int32) (r0 : Int32) (hf : M_inBed h p1 p2 = some r0) : Ct g mX7_inBed 0 0 0 ex [.ref (gB g + 140), .int p1, .int p2] sh h (PE (some (.int r0)) sh h) := by
  refine Ct.of (L := [some (.ref (gB g + 140)), some (.int p1), some (.int p2)]) (by decide) (by intro w hw; simp only [List.mem_cons, List.not_mem_nil, or_false] at hw; rcases hw with rfl | rfl | rfl <;> rfl) (Nat.le_of_ble_eq_true rfl) rfl (fun X mx => ?_)
  obtain ⟨cx, hR, hml, hrt, -⟩ := mx
  have cx : Cx g X RX7 cX7_inBed := cx
  have hrt : X.2.2.2.2.2.2.2.1.sig.returnType = (some .int) := hrt
  unfold M_inBed at hf
  refine PW.aload_n cx qX7_inBed_0 rfl ?_
  refine PW.getf (t := (2, 141)) (v := .ref (gB g + 141)) cx qX7_inBed_1 (sh_140 hx) rfl flX7_7 rfl ?_
  refine PW.bipush (v := 60) cx qX7_inBed_4 rfl ?_
  refine PW.bipush (v := 9) cx qX7_inBed_6 rfl ?_
  refine PW.iload_n cx qX7_inBed_8 rfl ?_
  refine PW.imul cx qX7_inBed_9 ?_
  refine PW.iadd cx qX7_inBed_10 ?_
  refine PW.iload_n cx qX7_inBed_11 rfl ?_
  refine PW.iadd cx qX7_inBed_12 ?_
  refine PW.iald cx qX7_inBed_13 (sh_141 hx) hf sne (fun t1 hf => ?_)
  exact PW.iret cx hrt qX7_inBed_14 (le_ri hf)
theorem ctX7_setBed {g : GT} {ex : Bool} {sh : List Shp} (hx : MSh sh) (h : Hp) (p1 : Int32) (p2 : Int32) (p3 : Int32) (r0 : Hp) (hf : M_setBed h p1 p2 p3 = some r0) : Ct g mX7_setBed 0 0 0 ex [.ref (gB g + 140), .int p1, .int p2, .int p3] sh h (PE none sh r0) := by
  refine Ct.of (L := [some (.ref (gB g + 140)), some (.int p1), some (.int p2), some (.int p3)]) (by decide) (by intro w hw; simp only [List.mem_cons, List.not_mem_nil, or_false] at hw; rcases hw with rfl | rfl | rfl | rfl <;> rfl) (Nat.le_of_ble_eq_true rfl) rfl (fun X mx => ?_)
  obtain ⟨cx, hR, hml, hrt, -⟩ := mx
  have cx : Cx g X RX7 cX7_setBed := cx
  have hrt : X.2.2.2.2.2.2.2.1.sig.returnType = none := hrt
  unfold M_setBed at hf
  refine PW.aload_n cx qX7_setBed_0 rfl ?_
  refine PW.getf (t := (2, 141)) (v := .ref (gB g + 141)) cx qX7_setBed_1 (sh_140 hx) rfl flX7_7 rfl ?_
  refine PW.bipush (v := 60) cx qX7_setBed_4 rfl ?_
  refine PW.bipush (v := 9) cx qX7_setBed_6 rfl ?_
  refine PW.iload_n cx qX7_setBed_8 rfl ?_
  refine PW.imul cx qX7_setBed_9 ?_
  refine PW.iadd cx qX7_setBed_10 ?_
  refine PW.iload_n cx qX7_setBed_11 rfl ?_
  refine PW.iadd cx qX7_setBed_12 ?_
  refine PW.iload_n cx qX7_setBed_13 rfl ?_
  refine PW.iast cx qX7_setBed_14 (sh_141 hx) hf sne (fun h1 hf => ?_)
  exact PW.vret cx hrt qX7_setBed_15 (le_wv hf)
theorem lX7_digits_4 {g : GT} {X : XT} {ex : Bool} {sh : List Shp} {post : Option Value → List Shp → Hp → Prop} (mx : Mx g X mX7_digits 0 0 0) (h : Hp) : ∀ (n : Nat) (v1 : Int32) (v2 : Int32) (r : Int32) (hf : M_digits_L4 n v1 v2 = some r) (kx : ∀ (x1 : Int32), r = x1 → PW g X ex (QE g X ex post 0 0) 0 0 sh h 19 [none, some (.int x1), none] []), PW g X ex (QE g X ex post 0 0) 0 0 sh h 4 [none, some (.int v1), some (.int v2)] [] := by
  have mx0 := mx
  obtain ⟨cx, hR, hml, hrt, -⟩ := mx0
  have cx : Cx g X RX7 cX7_digits := cx
  have hrt : X.2.2.2.2.2.2.2.1.sig.returnType = (some .int) := hrt
  have hi1 : 1 < X.2.2.2.2.2.2.2.2.maxLocals := by rw [hml]; exact Nat.le_of_ble_eq_true rfl
  have hi2 : 2 < X.2.2.2.2.2.2.2.2.maxLocals := by rw [hml]; exact Nat.le_of_ble_eq_true rfl
  intro n
  induction n with
  | zero =>
    intro v1 v2 r hf kx
    cases hf
  | succ n ih =>
    intro v1 v2 r hf kx
    unfold M_digits_L4 at hf
    refine PW.iload_n cx qX7_digits_4 rfl ?_
    refine PW.if_le cx qX7_digits_5 hf (fun hf => ?_) (fun hf => ?_)
    · exact PW.locs (Lsub.drop (Lsub.keep (Lsub.drop Lsub.nil))) (kx v1 (Option.some.inj hf).symm)
    · refine PW.iinc (v := 1) (L' := [none, some (.int (v1 + 1)), some (.int v2)]) cx qX7_digits_8 rfl rfl hi1 rfl rfl ?_
      refine PW.iload_n cx qX7_digits_11 rfl ?_
      refine PW.bipush (v := 10) cx qX7_digits_12 rfl ?_
      refine PW.idivK cx qX7_digits_14 (by decide) ?_
      refine PW.istore_n (L' := [none, some (.int (v1 + 1)), some (.int (v2 / 10))]) cx qX7_digits_15 hi2 rfl rfl ?_
      refine PW.goto cx qX7_digits_16 ?_
      exact PW.locs (Lsub.drop (Lsub.keep (Lsub.keep Lsub.nil))) (ih (v1 + 1) (v2 / 10) _ hf kx)
theorem ctX7_digits {g : GT} {ex : Bool} {sh : List Shp} (h : Hp) (p1 : Int32) (r0 : Int32) (hf : M_digits p1 = some r0) : Ct g mX7_digits 0 0 0 ex [.int p1] sh h (PE (some (.int r0)) sh h) := by
  refine Ct.of (L := [some (.int p1), none, none]) (by decide) (by intro w hw; simp only [List.mem_cons, List.not_mem_nil, or_false] at hw; rcases hw with rfl <;> rfl) (Nat.le_of_ble_eq_true rfl) rfl (fun X mx => ?_)
  have mx0 := mx
  obtain ⟨cx, hR, hml, hrt, -⟩ := mx0
  have cx : Cx g X RX7 cX7_digits := cx
  have hrt : X.2.2.2.2.2.2.2.1.sig.returnType = (some .int) := hrt
  have hi1 : 1 < X.2.2.2.2.2.2.2.2.maxLocals := by rw [hml]; exact Nat.le_of_ble_eq_true rfl
  have hi2 : 2 < X.2.2.2.2.2.2.2.2.maxLocals := by rw [hml]; exact Nat.le_of_ble_eq_true rfl
  unfold M_digits at hf
  refine PW.iconst (v := 0) cx qX7_digits_0 rfl ?_
  refine PW.istore_n (L' := [some (.int p1), some (.int 0), none]) cx qX7_digits_1 hi1 rfl rfl ?_
  refine PW.iload_n cx qX7_digits_2 rfl ?_
  refine PW.istore_n (L' := [some (.int p1), some (.int 0), some (.int p1)]) cx qX7_digits_3 hi2 rfl rfl ?_
  obtain ⟨r1, er1, hf⟩ := bndO hf sne
  refine PW.locs (Lsub.drop (Lsub.keep (Lsub.keep Lsub.nil))) (lX7_digits_4 mx h FU 0 p1 r1 er1 (fun xx_ e => ?_))
  subst e
  refine PW.iload_n cx qX7_digits_19 rfl ?_
  exact PW.iret cx hrt qX7_digits_20 (le_ri hf)
theorem lX7_digit_9 {g : GT} {X : XT} {ex : Bool} {sh : List Shp} {post : Option Value → List Shp → Hp → Prop} (mx : Mx g X mX7_digit 1 0 0) (h : Hp) (c1 : Int32) : ∀ (n : Nat) (v2 : Int32) (v3 : Int32) (r : Int32) (hf : M_digit_L9 c1 n v2 v3 = some r) (kx : ∀ (x2 : Int32), r = x2 → PW g X ex (QE g X ex post 0 0) 0 0 sh h 25 [none, some (.int c1), some (.int x2), none] []), PW g X ex (QE g X ex post 0 0) 0 0 sh h 9 [none, some (.int c1), some (.int v2), some (.int v3)] [] := by
  have mx0 := mx
  obtain ⟨cx, hR, hml, hrt, -⟩ := mx0
  have cx : Cx g X RX7 cX7_digit := cx
  have hrt : X.2.2.2.2.2.2.2.1.sig.returnType = (some .int) := hrt
  have hi2 : 2 < X.2.2.2.2.2.2.2.2.maxLocals := by rw [hml]; exact Nat.le_of_ble_eq_true rfl
  have hi3 : 3 < X.2.2.2.2.2.2.2.2.maxLocals := by rw [hml]; exact Nat.le_of_ble_eq_true rfl
  intro n
  induction n with
  | zero =>
    intro v2 v3 r hf kx
    cases hf
  | succ n ih =>
    intro v2 v3 r hf kx
    unfold M_digit_L9 at hf
    refine PW.iload_n cx qX7_digit_9 rfl ?_
    refine PW.iload_n cx qX7_digit_10 rfl ?_
    refine PW.icmp_le cx qX7_digit_11 hf (fun hf => ?_) (fun hf => ?_)
    · exact PW.locs (Lsub.drop (Lsub.keep (Lsub.keep (Lsub.drop Lsub.nil)))) (kx v2 (Option.some.inj hf).symm)
    · refine PW.iload_n cx qX7_digit_14 rfl ?_
      refine PW.bipush (v := 10) cx qX7_digit_15 rfl ?_
      refine PW.idivK cx qX7_digit_17 (by decide) ?_
      refine PW.istore_n (L' := [none, some (.int c1), some (.int (v2 / 10)), some (.int v3)]) cx qX7_digit_18 hi2 rfl rfl ?_
      refine PW.iinc (v := (-1)) (L' := [none, some (.int c1), some (.int (v2 / 10)), some (.int (v3 + (-1)))]) cx qX7_digit_19 rfl rfl hi3 rfl rfl ?_
      refine PW.goto cx qX7_digit_22 ?_
      exact PW.locs (Lsub.drop (Lsub.keep (Lsub.keep (Lsub.keep Lsub.nil)))) (ih (v2 / 10) (v3 + (-1)) _ hf kx)
theorem ctX7_digit {g : GT} {ex : Bool} {sh : List Shp} (h : Hp) (p1 : Int32) (p2 : Int32) (r0 : Int32) (hf : M_digit p1 p2 = some r0) : Ct g mX7_digit 1 0 0 ex [.int p1, .int p2] sh h (PE (some (.int r0)) sh h) := by
  refine Ct.of (L := [some (.int p1), some (.int p2), none, none]) (by decide) (by intro w hw; simp only [List.mem_cons, List.not_mem_nil, or_false] at hw; rcases hw with rfl | rfl <;> rfl) (Nat.le_of_ble_eq_true rfl) rfl (fun X mx => ?_)
  have mx0 := mx
  obtain ⟨cx, hR, hml, hrt, -⟩ := mx0
  have cx : Cx g X RX7 cX7_digit := cx
  have hrt : X.2.2.2.2.2.2.2.1.sig.returnType = (some .int) := hrt
  have hi2 : 2 < X.2.2.2.2.2.2.2.2.maxLocals := by rw [hml]; exact Nat.le_of_ble_eq_true rfl
  have hi3 : 3 < X.2.2.2.2.2.2.2.2.maxLocals := by rw [hml]; exact Nat.le_of_ble_eq_true rfl
  unfold M_digit at hf
  refine PW.iload_n cx qX7_digit_0 rfl ?_
  refine PW.istore_n (L' := [some (.int p1), some (.int p2), some (.int p1), none]) cx qX7_digit_1 hi2 rfl rfl ?_
  refine PW.iload_n cx qX7_digit_2 rfl ?_
  refine PW.callSRI (As := [.int p1]) (st := []) cx hR qX7_digit_3 klX7_61 miX7_digits rfl rfl (Nat.le_of_ble_eq_true rfl) (Nat.le_of_ble_eq_true rfl) (Nat.le_of_ble_eq_true rfl) (Nat.zero_le _) (Nat.zero_le _) hf sne (fun t e => ctX7_digits h p1 t e) (fun t1 hf => ?_)
  refine PW.iconst (v := 1) cx qX7_digit_6 rfl ?_
  refine PW.isub cx qX7_digit_7 ?_
  refine PW.istore_n (L' := [some (.int p1), some (.int p2), some (.int p1), some (.int (t1 - 1))]) cx qX7_digit_8 hi3 rfl rfl ?_
  obtain ⟨r2, er2, hf⟩ := bndO hf sne
  refine PW.locs (Lsub.drop (Lsub.keep (Lsub.keep (Lsub.keep Lsub.nil)))) (lX7_digit_9 mx h p2 FU p1 (t1 - 1) r2 er2 (fun xx_ e => ?_))
  subst e
  refine PW.iload_n cx qX7_digit_25 rfl ?_
  refine PW.bipush (v := 10) cx qX7_digit_26 rfl ?_
  refine PW.iremK cx qX7_digit_28 (by decide) ?_
  exact PW.iret cx hrt qX7_digit_29 (le_ri hf)
theorem lX7_hasZero_2 {g : GT} {X : XT} {ex : Bool} {sh : List Shp} {post : Option Value → List Shp → Hp → Prop} (mx : Mx g X mX7_hasZero 0 0 0) (h : Hp) : ∀ (n : Nat) (v1 : Int32) (r : (Unit) ⊕ (Bool)) (hf : M_hasZero_L2 n v1 = some r) (kx : r = .inl () → PW g X ex (QE g X ex post 0 0) 0 0 sh h 23 [none, none] []) (kr : ∀ y : Bool, r = .inr y → post (some (.int (b2i y))) sh h), PW g X ex (QE g X ex post 0 0) 0 0 sh h 2 [none, some (.int v1)] [] := by
  have mx0 := mx
  obtain ⟨cx, hR, hml, hrt, -⟩ := mx0
  have cx : Cx g X RX7 cX7_hasZero := cx
  have hrt : X.2.2.2.2.2.2.2.1.sig.returnType = (some .boolean) := hrt
  have hi1 : 1 < X.2.2.2.2.2.2.2.2.maxLocals := by rw [hml]; exact Nat.le_of_ble_eq_true rfl
  intro n
  induction n with
  | zero =>
    intro v1 r hf kx kr
    cases hf
  | succ n ih =>
    intro v1 r hf kx kr
    unfold M_hasZero_L2 at hf
    refine PW.iload_n cx qX7_hasZero_2 rfl ?_
    refine PW.if_le cx qX7_hasZero_3 hf (fun hf => ?_) (fun hf => ?_)
    · exact PW.locs (Lsub.drop (Lsub.drop Lsub.nil)) (kx (Option.some.inj hf).symm)
    · refine PW.iload_n cx qX7_hasZero_6 rfl ?_
      refine PW.bipush (v := 10) cx qX7_hasZero_7 rfl ?_
      refine PW.iremK cx qX7_hasZero_9 (by decide) ?_
      refine PW.if_ne cx qX7_hasZero_10 hf (fun hf => ?_) (fun hf => ?_)
      · refine PW.iconst (v := 1) cx qX7_hasZero_13 rfl ?_
        exact PW.zret cx hrt nb1 qX7_hasZero_14 (kr _ (Option.some.inj hf).symm)
      · refine PW.iload_n cx qX7_hasZero_15 rfl ?_
        refine PW.bipush (v := 10) cx qX7_hasZero_16 rfl ?_
        refine PW.idivK cx qX7_hasZero_18 (by decide) ?_
        refine PW.istore_n (L' := [none, some (.int (v1 / 10))]) cx qX7_hasZero_19 hi1 rfl rfl ?_
        refine PW.goto cx qX7_hasZero_20 ?_
        exact PW.locs (Lsub.drop (Lsub.keep Lsub.nil)) (ih (v1 / 10) _ hf kx kr)
theorem ctX7_hasZero {g : GT} {ex : Bool} {sh : List Shp} (h : Hp) (p1 : Int32) (r0 : Bool) (hf : M_hasZero p1 = some r0) : Ct g mX7_hasZero 0 0 0 ex [.int p1] sh h (PE (some (.int (b2i r0))) sh h) := by
  refine Ct.of (L := [some (.int p1), none]) (by decide) (by intro w hw; simp only [List.mem_cons, List.not_mem_nil, or_false] at hw; rcases hw with rfl <;> rfl) (Nat.le_of_ble_eq_true rfl) rfl (fun X mx => ?_)
  have mx0 := mx
  obtain ⟨cx, hR, hml, hrt, -⟩ := mx0
  have cx : Cx g X RX7 cX7_hasZero := cx
  have hrt : X.2.2.2.2.2.2.2.1.sig.returnType = (some .boolean) := hrt
  have hi1 : 1 < X.2.2.2.2.2.2.2.2.maxLocals := by rw [hml]; exact Nat.le_of_ble_eq_true rfl
  unfold M_hasZero at hf
  refine PW.iload_n cx qX7_hasZero_0 rfl ?_
  refine PW.istore_n (L' := [some (.int p1), some (.int p1)]) cx qX7_hasZero_1 hi1 rfl rfl ?_
  obtain ⟨r1, er1, hf⟩ := bndO hf sne
  refine PW.locs (Lsub.drop (Lsub.keep Lsub.nil)) (lX7_hasZero_2 mx h FU p1 r1 er1 (fun e => ?_) (fun y e => ?_))
  · subst e
    refine PW.iconst (v := 0) cx qX7_hasZero_23 rfl ?_
    exact PW.zret cx hrt nb0 qX7_hasZero_24 (le_rz hf)
  · subst e
    exact (le_rz hf)
theorem ctX7_areColours {g : GT} {ex : Bool} {sh : List Shp} (h : Hp) (p1 : Int32) (r0 : Bool) (hf : M_areColours p1 = some r0) : Ct g mX7_areColours 1 0 0 ex [.int p1] sh h (PE (some (.int (b2i r0))) sh h) := by
  refine Ct.of (L := [some (.int p1)]) (by decide) (by intro w hw; simp only [List.mem_cons, List.not_mem_nil, or_false] at hw; rcases hw with rfl <;> rfl) (Nat.le_of_ble_eq_true rfl) rfl (fun X mx => ?_)
  obtain ⟨cx, hR, hml, hrt, -⟩ := mx
  have cx : Cx g X RX7 cX7_areColours := cx
  have hrt : X.2.2.2.2.2.2.2.1.sig.returnType = (some .boolean) := hrt
  unfold M_areColours at hf
  refine PW.iload_n cx qX7_areColours_0 rfl ?_
  refine PW.iconst (v := 1) cx qX7_areColours_1 rfl ?_
  refine PW.ldc (v := 99999999) cx qX7_areColours_2 kcX7_65 ?_
  refine PW.callSRB (As := [.int p1, .int 1, .int 99999999]) (st := []) cx hR qX7_areColours_4 klX7_57 miX7_in rfl rfl (Nat.le_of_ble_eq_true rfl) (Nat.le_of_ble_eq_true rfl) (Nat.le_of_ble_eq_true rfl) (Nat.zero_le _) (Nat.zero_le _) hf sne (fun t e => ctX7_in h p1 1 99999999 t e) (fun t1 hf => ?_)
  refine PW.if_eq cx qX7_areColours_7 hf (fun hf => ?_) (fun hf => ?_)
  · refine PW.iconst (v := 0) cx qX7_areColours_21 rfl ?_
    exact PW.zret cx hrt nb0 qX7_areColours_22 (le_rz hf)
  · refine PW.iload_n cx qX7_areColours_10 rfl ?_
    refine PW.callSRB (As := [.int p1]) (st := []) cx hR qX7_areColours_11 klX7_66 miX7_hasZero rfl rfl (Nat.le_of_ble_eq_true rfl) (Nat.le_of_ble_eq_true rfl) (Nat.le_of_ble_eq_true rfl) (Nat.zero_le _) (Nat.zero_le _) hf sne (fun t e => ctX7_hasZero h p1 t e) (fun t2 hf => ?_)
    refine PW.if_ne cx qX7_areColours_14 hf (fun hf => ?_) (fun hf => ?_)
    · refine PW.iconst (v := 1) cx qX7_areColours_17 rfl ?_
      refine PW.goto cx qX7_areColours_18 ?_
      exact PW.zret cx hrt nb1 qX7_areColours_22 (le_rz hf)
    · refine PW.iconst (v := 0) cx qX7_areColours_21 rfl ?_
      exact PW.zret cx hrt nb0 qX7_areColours_22 (le_rz hf)
theorem ctX7_isPattern {g : GT} {ex : Bool} {sh : List Shp} (h : Hp) (p1 : Int32) (r0 : Bool) (hf : M_isPattern p1 = some r0) : Ct g mX7_isPattern 1 0 0 ex [.int p1] sh h (PE (some (.int (b2i r0))) sh h) := by
  refine Ct.of (L := [some (.int p1)]) (by decide) (by intro w hw; simp only [List.mem_cons, List.not_mem_nil, or_false] at hw; rcases hw with rfl <;> rfl) (Nat.le_of_ble_eq_true rfl) rfl (fun X mx => ?_)
  obtain ⟨cx, hR, hml, hrt, -⟩ := mx
  have cx : Cx g X RX7 cX7_isPattern := cx
  have hrt : X.2.2.2.2.2.2.2.1.sig.returnType = (some .boolean) := hrt
  unfold M_isPattern at hf
  refine PW.iload_n cx qX7_isPattern_0 rfl ?_
  refine PW.iconst (v := 1) cx qX7_isPattern_1 rfl ?_
  refine PW.sipush (v := 9999) cx qX7_isPattern_2 rfl ?_
  refine PW.callSRB (As := [.int p1, .int 1, .int 9999]) (st := []) cx hR qX7_isPattern_5 klX7_57 miX7_in rfl rfl (Nat.le_of_ble_eq_true rfl) (Nat.le_of_ble_eq_true rfl) (Nat.le_of_ble_eq_true rfl) (Nat.zero_le _) (Nat.zero_le _) hf sne (fun t e => ctX7_in h p1 1 9999 t e) (fun t1 hf => ?_)
  exact PW.zret cx hrt (nbb _) qX7_isPattern_8 (le_rz hf)
theorem lX7_hashOf_4 {g : GT} {X : XT} {ex : Bool} {sh : List Shp} {post : Option Value → List Shp → Hp → Prop} (mx : Mx g X mX7_hashOf 2 0 0) (hx : MSh sh) (h : Hp) (c1 : Int32) : ∀ (n : Nat) (v2 : Int32) (v3 : Int32) (r : Int32) (hf : M_hashOf_L4 h c1 n v2 v3 = some r) (kx : ∀ (x2 : Int32), r = x2 → PW g X ex (QE g X ex post 0 0) 0 0 sh h 43 [some (.ref (gB g + 140)), some (.int c1), some (.int x2), none] []), PW g X ex (QE g X ex post 0 0) 0 0 sh h 4 [some (.ref (gB g + 140)), some (.int c1), some (.int v2), some (.int v3)] [] := by
  have mx0 := mx
  obtain ⟨cx, hR, hml, hrt, -⟩ := mx0
  have cx : Cx g X RX7 cX7_hashOf := cx
  have hrt : X.2.2.2.2.2.2.2.1.sig.returnType = (some .int) := hrt
  have hi2 : 2 < X.2.2.2.2.2.2.2.2.maxLocals := by rw [hml]; exact Nat.le_of_ble_eq_true rfl
  have hi3 : 3 < X.2.2.2.2.2.2.2.2.maxLocals := by rw [hml]; exact Nat.le_of_ble_eq_true rfl
  intro n
  induction n with
  | zero =>
    intro v2 v3 r hf kx
    cases hf
  | succ n ih =>
    intro v2 v3 r hf kx
    unfold M_hashOf_L4 at hf
    refine PW.iload_n cx qX7_hashOf_4 rfl ?_
    refine PW.aload_n cx qX7_hashOf_5 rfl ?_
    refine PW.iload_n cx qX7_hashOf_6 rfl ?_
    refine PW.iconst (v := 0) cx qX7_hashOf_7 rfl ?_
    refine PW.callVRI (As := [.int c1, .int 0]) (st := [.int v3]) cx hR qX7_hashOf_8 klX7_70 mvX7_of (sh_140 hx) rfl rfl rfl rfl (Nat.le_of_ble_eq_true rfl) (Nat.le_of_ble_eq_true rfl) (Nat.le_of_ble_eq_true rfl) (Nat.zero_le _) (Nat.zero_le _) hf sne (fun t e => ctX7_of hx h c1 0 t e) (fun t1 hf => ?_)
    refine PW.callSRI (As := [.int t1]) (st := [.int v3]) cx hR qX7_hashOf_11 klX7_61 miX7_digits rfl rfl (Nat.le_of_ble_eq_true rfl) (Nat.le_of_ble_eq_true rfl) (Nat.le_of_ble_eq_true rfl) (Nat.zero_le _) (Nat.zero_le _) hf sne (fun t e => ctX7_digits h t1 t e) (fun t2 hf => ?_)
    refine PW.icmp_ge cx qX7_hashOf_14 hf (fun hf => ?_) (fun hf => ?_)
    · exact PW.locs (Lsub.keep (Lsub.keep (Lsub.keep (Lsub.drop Lsub.nil)))) (kx v2 (Option.some.inj hf).symm)
    · refine PW.bipush (v := 31) cx qX7_hashOf_17 rfl ?_
      refine PW.iload_n cx qX7_hashOf_19 rfl ?_
      refine PW.imul cx qX7_hashOf_20 ?_
      refine PW.aload_n cx qX7_hashOf_21 rfl ?_
      refine PW.iload_n cx qX7_hashOf_22 rfl ?_
      refine PW.iconst (v := 0) cx qX7_hashOf_23 rfl ?_
      refine PW.callVRI (As := [.int c1, .int 0]) (st := [.int (31 * v2)]) cx hR qX7_hashOf_24 klX7_70 mvX7_of (sh_140 hx) rfl rfl rfl rfl (Nat.le_of_ble_eq_true rfl) (Nat.le_of_ble_eq_true rfl) (Nat.le_of_ble_eq_true rfl) (Nat.zero_le _) (Nat.zero_le _) hf sne (fun t e => ctX7_of hx h c1 0 t e) (fun t3 hf => ?_)
      refine PW.iload_n cx qX7_hashOf_27 rfl ?_
      refine PW.callSRI (As := [.int t3, .int v3]) (st := [.int (31 * v2)]) cx hR qX7_hashOf_28 klX7_74 miX7_digit rfl rfl (Nat.le_of_ble_eq_true rfl) (Nat.le_of_ble_eq_true rfl) (Nat.le_of_ble_eq_true rfl) (Nat.zero_le _) (Nat.zero_le _) hf sne (fun t e => ctX7_digit h t3 v3 t e) (fun t4 hf => ?_)
      refine PW.iadd cx qX7_hashOf_31 ?_
      refine PW.sipush (v := 997) cx qX7_hashOf_32 rfl ?_
      refine PW.iremK cx qX7_hashOf_35 (by decide) ?_
      refine PW.istore_n (L' := [some (.ref (gB g + 140)), some (.int c1), some (.int (((31 * v2) + t4) - ((31 * v2) + t4) / 997 * 997)), some (.int v3)]) cx qX7_hashOf_36 hi2 rfl rfl ?_
      refine PW.iinc (v := 1) (L' := [some (.ref (gB g + 140)), some (.int c1), some (.int (((31 * v2) + t4) - ((31 * v2) + t4) / 997 * 997)), some (.int (v3 + 1))]) cx qX7_hashOf_37 rfl rfl hi3 rfl rfl ?_
      refine PW.goto cx qX7_hashOf_40 ?_
      exact PW.locs (Lsub.keep (Lsub.keep (Lsub.keep (Lsub.keep Lsub.nil)))) (ih (((31 * v2) + t4) - ((31 * v2) + t4) / 997 * 997) (v3 + 1) _ hf kx)
theorem ctX7_hashOf {g : GT} {ex : Bool} {sh : List Shp} (hx : MSh sh) (h : Hp) (p1 : Int32) (r0 : Int32) (hf : M_hashOf h p1 = some r0) : Ct g mX7_hashOf 2 0 0 ex [.ref (gB g + 140), .int p1] sh h (PE (some (.int r0)) sh h) := by
  refine Ct.of (L := [some (.ref (gB g + 140)), some (.int p1), none, none]) (by decide) (by intro w hw; simp only [List.mem_cons, List.not_mem_nil, or_false] at hw; rcases hw with rfl | rfl <;> rfl) (Nat.le_of_ble_eq_true rfl) rfl (fun X mx => ?_)
  have mx0 := mx
  obtain ⟨cx, hR, hml, hrt, -⟩ := mx0
  have cx : Cx g X RX7 cX7_hashOf := cx
  have hrt : X.2.2.2.2.2.2.2.1.sig.returnType = (some .int) := hrt
  have hi2 : 2 < X.2.2.2.2.2.2.2.2.maxLocals := by rw [hml]; exact Nat.le_of_ble_eq_true rfl
  have hi3 : 3 < X.2.2.2.2.2.2.2.2.maxLocals := by rw [hml]; exact Nat.le_of_ble_eq_true rfl
  unfold M_hashOf at hf
  refine PW.iconst (v := 0) cx qX7_hashOf_0 rfl ?_
  refine PW.istore_n (L' := [some (.ref (gB g + 140)), some (.int p1), some (.int 0), none]) cx qX7_hashOf_1 hi2 rfl rfl ?_
  refine PW.iconst (v := 0) cx qX7_hashOf_2 rfl ?_
  refine PW.istore_n (L' := [some (.ref (gB g + 140)), some (.int p1), some (.int 0), some (.int 0)]) cx qX7_hashOf_3 hi3 rfl rfl ?_
  obtain ⟨r5, er5, hf⟩ := bndO hf sne
  refine PW.locs (Lsub.keep (Lsub.keep (Lsub.keep (Lsub.keep Lsub.nil)))) (lX7_hashOf_4 mx hx h p1 FU 0 0 r5 er5 (fun xx_ e => ?_))
  subst e
  refine PW.iload_n cx qX7_hashOf_43 rfl ?_
  exact PW.iret cx hrt qX7_hashOf_44 (le_ri hf)
theorem lX7_fitsAt_2 {g : GT} {X : XT} {ex : Bool} {sh : List Shp} {post : Option Value → List Shp → Hp → Prop} (mx : Mx g X mX7_fitsAt 2 0 0) (h : Hp) (c0 : Int32) (c1 : Int32) (c2 : Int32) : ∀ (n : Nat) (v3 : Int32) (r : (Unit) ⊕ (Bool)) (hf : M_fitsAt_L2 c0 c1 c2 n v3 = some r) (kx : r = .inl () → PW g X ex (QE g X ex post 0 0) 0 0 sh h 42 [some (.int c0), some (.int c1), some (.int c2), none, none] []) (kr : ∀ y : Bool, r = .inr y → post (some (.int (b2i y))) sh h), PW g X ex (QE g X ex post 0 0) 0 0 sh h 2 [some (.int c0), some (.int c1), some (.int c2), some (.int v3), none] [] := by
  have mx0 := mx
  obtain ⟨cx, hR, hml, hrt, -⟩ := mx0
  have cx : Cx g X RX7 cX7_fitsAt := cx
  have hrt : X.2.2.2.2.2.2.2.1.sig.returnType = (some .boolean) := hrt
  have hi3 : 3 < X.2.2.2.2.2.2.2.2.maxLocals := by rw [hml]; exact Nat.le_of_ble_eq_true rfl
  have hi4 : 4 < X.2.2.2.2.2.2.2.2.maxLocals := by rw [hml]; exact Nat.le_of_ble_eq_true rfl
  intro n
  induction n with
  | zero =>
    intro v3 r hf kx kr
    cases hf
  | succ n ih =>
    intro v3 r hf kx kr
    unfold M_fitsAt_L2 at hf
    refine PW.iload_n cx qX7_fitsAt_2 rfl ?_
    refine PW.iload_n cx qX7_fitsAt_3 rfl ?_
    refine PW.callSRI (As := [.int c1]) (st := [.int v3]) cx hR qX7_fitsAt_4 klX7_61 miX7_digits rfl rfl (Nat.le_of_ble_eq_true rfl) (Nat.le_of_ble_eq_true rfl) (Nat.le_of_ble_eq_true rfl) (Nat.zero_le _) (Nat.zero_le _) hf sne (fun t e => ctX7_digits h c1 t e) (fun t1 hf => ?_)
    refine PW.icmp_ge cx qX7_fitsAt_7 hf (fun hf => ?_) (fun hf => ?_)
    · exact PW.locs (Lsub.keep (Lsub.keep (Lsub.keep (Lsub.drop (Lsub.drop Lsub.nil))))) (kx (Option.some.inj hf).symm)
    · refine PW.iload_n cx qX7_fitsAt_10 rfl ?_
      refine PW.iload_n cx qX7_fitsAt_11 rfl ?_
      refine PW.callSRI (As := [.int c1, .int v3]) (st := []) cx hR qX7_fitsAt_12 klX7_74 miX7_digit rfl rfl (Nat.le_of_ble_eq_true rfl) (Nat.le_of_ble_eq_true rfl) (Nat.le_of_ble_eq_true rfl) (Nat.zero_le _) (Nat.zero_le _) hf sne (fun t e => ctX7_digit h c1 v3 t e) (fun t2 hf => ?_)
      refine PW.istore (L' := [some (.int c0), some (.int c1), some (.int c2), some (.int v3), some (.int t2)]) cx qX7_fitsAt_15 hi4 rfl rfl ?_
      refine PW.iload cx qX7_fitsAt_17 rfl ?_
      refine PW.if_eq cx qX7_fitsAt_19 hf (fun hf => ?_) (fun hf => ?_)
      · refine PW.iinc (v := 1) (L' := [some (.int c0), some (.int c1), some (.int c2), some (.int (v3 + 1)), some (.int t2)]) cx qX7_fitsAt_36 rfl rfl hi3 rfl rfl ?_
        refine PW.goto cx qX7_fitsAt_39 ?_
        exact PW.locs (Lsub.keep (Lsub.keep (Lsub.keep (Lsub.keep (Lsub.drop Lsub.nil))))) (ih (v3 + 1) _ hf kx kr)
      · refine PW.iload cx qX7_fitsAt_22 rfl ?_
        refine PW.iload_n cx qX7_fitsAt_24 rfl ?_
        refine PW.iload_n cx qX7_fitsAt_25 rfl ?_
        refine PW.iload_n cx qX7_fitsAt_26 rfl ?_
        refine PW.iadd cx qX7_fitsAt_27 ?_
        refine PW.callSRI (As := [.int c0, .int (c2 + v3)]) (st := [.int t2]) cx hR qX7_fitsAt_28 klX7_74 miX7_digit rfl rfl (Nat.le_of_ble_eq_true rfl) (Nat.le_of_ble_eq_true rfl) (Nat.le_of_ble_eq_true rfl) (Nat.zero_le _) (Nat.zero_le _) hf sne (fun t e => ctX7_digit h c0 (c2 + v3) t e) (fun t3 hf => ?_)
        refine PW.icmp_eq cx qX7_fitsAt_31 hf (fun hf => ?_) (fun hf => ?_)
        · refine PW.iinc (v := 1) (L' := [some (.int c0), some (.int c1), some (.int c2), some (.int (v3 + 1)), some (.int t2)]) cx qX7_fitsAt_36 rfl rfl hi3 rfl rfl ?_
          refine PW.goto cx qX7_fitsAt_39 ?_
          exact PW.locs (Lsub.keep (Lsub.keep (Lsub.keep (Lsub.keep (Lsub.drop Lsub.nil))))) (ih (v3 + 1) _ hf kx kr)
        · refine PW.iconst (v := 0) cx qX7_fitsAt_34 rfl ?_
          exact PW.zret cx hrt nb0 qX7_fitsAt_35 (kr _ (Option.some.inj hf).symm)
theorem ctX7_fitsAt {g : GT} {ex : Bool} {sh : List Shp} (h : Hp) (p1 : Int32) (p2 : Int32) (p3 : Int32) (r0 : Bool) (hf : M_fitsAt p1 p2 p3 = some r0) : Ct g mX7_fitsAt 2 0 0 ex [.int p1, .int p2, .int p3] sh h (PE (some (.int (b2i r0))) sh h) := by
  refine Ct.of (L := [some (.int p1), some (.int p2), some (.int p3), none, none]) (by decide) (by intro w hw; simp only [List.mem_cons, List.not_mem_nil, or_false] at hw; rcases hw with rfl | rfl | rfl <;> rfl) (Nat.le_of_ble_eq_true rfl) rfl (fun X mx => ?_)
  have mx0 := mx
  obtain ⟨cx, hR, hml, hrt, -⟩ := mx0
  have cx : Cx g X RX7 cX7_fitsAt := cx
  have hrt : X.2.2.2.2.2.2.2.1.sig.returnType = (some .boolean) := hrt
  have hi3 : 3 < X.2.2.2.2.2.2.2.2.maxLocals := by rw [hml]; exact Nat.le_of_ble_eq_true rfl
  have hi4 : 4 < X.2.2.2.2.2.2.2.2.maxLocals := by rw [hml]; exact Nat.le_of_ble_eq_true rfl
  unfold M_fitsAt at hf
  refine PW.iconst (v := 0) cx qX7_fitsAt_0 rfl ?_
  refine PW.istore_n (L' := [some (.int p1), some (.int p2), some (.int p3), some (.int 0), none]) cx qX7_fitsAt_1 hi3 rfl rfl ?_
  obtain ⟨r4, er4, hf⟩ := bndO hf sne
  refine PW.locs (Lsub.keep (Lsub.keep (Lsub.keep (Lsub.keep (Lsub.drop Lsub.nil))))) (lX7_fitsAt_2 mx h p1 p2 p3 FU 0 r4 er4 (fun e => ?_) (fun y e => ?_))
  · subst e
    refine PW.iconst (v := 1) cx qX7_fitsAt_42 rfl ?_
    exact PW.zret cx hrt nb1 qX7_fitsAt_43 (le_rz hf)
  · subst e
    exact (le_rz hf)
theorem lX7_matchOf_10 {g : GT} {X : XT} {ex : Bool} {sh : List Shp} {post : Option Value → List Shp → Hp → Prop} (mx : Mx g X mX7_matchOf 3 0 0) (hx : MSh sh) (h : Hp) (c2 : Int32) (c3 : Int32) : ∀ (n : Nat) (v4 : Int32) (r : (Unit) ⊕ (Int32)) (hf : M_matchOf_L10 c2 c3 n v4 = some r) (kx : r = .inl () → PW g X ex (QE g X ex post 0 0) 0 0 sh h 43 [none, none, some (.int c2), some (.int c3), none] []) (kr : ∀ y : Int32, r = .inr y → post (some (.int y)) sh h), PW g X ex (QE g X ex post 0 0) 0 0 sh h 10 [none, none, some (.int c2), some (.int c3), some (.int v4)] [] := by
  have mx0 := mx
  obtain ⟨cx, hR, hml, hrt, -⟩ := mx0
  have cx : Cx g X RX7 cX7_matchOf := cx
  have hrt : X.2.2.2.2.2.2.2.1.sig.returnType = (some .int) := hrt
  have hi3 : 3 < X.2.2.2.2.2.2.2.2.maxLocals := by rw [hml]; exact Nat.le_of_ble_eq_true rfl
  have hi4 : 4 < X.2.2.2.2.2.2.2.2.maxLocals := by rw [hml]; exact Nat.le_of_ble_eq_true rfl
  intro n
  induction n with
  | zero =>
    intro v4 r hf kx kr
    cases hf
  | succ n ih =>
    intro v4 r hf kx kr
    unfold M_matchOf_L10 at hf
    refine PW.iload cx qX7_matchOf_10 rfl ?_
    refine PW.iload_n cx qX7_matchOf_12 rfl ?_
    refine PW.callSRI (As := [.int c2]) (st := [.int v4]) cx hR qX7_matchOf_13 klX7_61 miX7_digits rfl rfl (Nat.le_of_ble_eq_true rfl) (Nat.le_of_ble_eq_true rfl) (Nat.le_of_ble_eq_true rfl) (Nat.zero_le _) (Nat.zero_le _) hf sne (fun t e => ctX7_digits h c2 t e) (fun t2 hf => ?_)
    refine PW.iadd cx qX7_matchOf_16 ?_
    refine PW.iload_n cx qX7_matchOf_17 rfl ?_
    refine PW.callSRI (As := [.int c3]) (st := [.int (v4 + t2)]) cx hR qX7_matchOf_18 klX7_61 miX7_digits rfl rfl (Nat.le_of_ble_eq_true rfl) (Nat.le_of_ble_eq_true rfl) (Nat.le_of_ble_eq_true rfl) (Nat.zero_le _) (Nat.zero_le _) hf sne (fun t e => ctX7_digits h c3 t e) (fun t3 hf => ?_)
    refine PW.icmp_gt cx qX7_matchOf_21 hf (fun hf => ?_) (fun hf => ?_)
    · exact PW.locs (Lsub.drop (Lsub.drop (Lsub.keep (Lsub.keep (Lsub.drop Lsub.nil))))) (kx (Option.some.inj hf).symm)
    · refine PW.iload_n cx qX7_matchOf_24 rfl ?_
      refine PW.iload_n cx qX7_matchOf_25 rfl ?_
      refine PW.iload cx qX7_matchOf_26 rfl ?_
      refine PW.callSRB (As := [.int c3, .int c2, .int v4]) (st := []) cx hR qX7_matchOf_28 klX7_77 miX7_fitsAt rfl rfl (Nat.le_of_ble_eq_true rfl) (Nat.le_of_ble_eq_true rfl) (Nat.le_of_ble_eq_true rfl) (Nat.zero_le _) (Nat.zero_le _) hf sne (fun t e => ctX7_fitsAt h c3 c2 v4 t e) (fun t4 hf => ?_)
      refine PW.if_eq cx qX7_matchOf_31 hf (fun hf => ?_) (fun hf => ?_)
      · refine PW.iinc (v := 1) (L' := [none, none, some (.int c2), some (.int c3), some (.int (v4 + 1))]) cx qX7_matchOf_37 rfl rfl hi4 rfl rfl ?_
        refine PW.goto cx qX7_matchOf_40 ?_
        exact PW.locs (Lsub.drop (Lsub.drop (Lsub.keep (Lsub.keep (Lsub.keep Lsub.nil))))) (ih (v4 + 1) _ hf kx kr)
      · refine PW.iload cx qX7_matchOf_34 rfl ?_
        exact PW.iret cx hrt qX7_matchOf_36 (kr _ (Option.some.inj hf).symm)
theorem ctX7_matchOf {g : GT} {ex : Bool} {sh : List Shp} (hx : MSh sh) (h : Hp) (p1 : Int32) (p2 : Int32) (r0 : Int32) (hf : M_matchOf h p1 p2 = some r0) : Ct g mX7_matchOf 3 0 0 ex [.ref (gB g + 140), .int p1, .int p2] sh h (PE (some (.int r0)) sh h) := by
  refine Ct.of (L := [some (.ref (gB g + 140)), some (.int p1), some (.int p2), none, none]) (by decide) (by intro w hw; simp only [List.mem_cons, List.not_mem_nil, or_false] at hw; rcases hw with rfl | rfl | rfl <;> rfl) (Nat.le_of_ble_eq_true rfl) rfl (fun X mx => ?_)
  have mx0 := mx
  obtain ⟨cx, hR, hml, hrt, -⟩ := mx0
  have cx : Cx g X RX7 cX7_matchOf := cx
  have hrt : X.2.2.2.2.2.2.2.1.sig.returnType = (some .int) := hrt
  have hi3 : 3 < X.2.2.2.2.2.2.2.2.maxLocals := by rw [hml]; exact Nat.le_of_ble_eq_true rfl
  have hi4 : 4 < X.2.2.2.2.2.2.2.2.maxLocals := by rw [hml]; exact Nat.le_of_ble_eq_true rfl
  unfold M_matchOf at hf
  refine PW.aload_n cx qX7_matchOf_0 rfl ?_
  refine PW.iload_n cx qX7_matchOf_1 rfl ?_
  refine PW.iconst (v := 0) cx qX7_matchOf_2 rfl ?_
  refine PW.callVRI (As := [.int p1, .int 0]) (st := []) cx hR qX7_matchOf_3 klX7_70 mvX7_of (sh_140 hx) rfl rfl rfl rfl (Nat.le_of_ble_eq_true rfl) (Nat.le_of_ble_eq_true rfl) (Nat.le_of_ble_eq_true rfl) (Nat.zero_le _) (Nat.zero_le _) hf sne (fun t e => ctX7_of hx h p1 0 t e) (fun t1 hf => ?_)
  refine PW.istore_n (L' := [some (.ref (gB g + 140)), some (.int p1), some (.int p2), some (.int t1), none]) cx qX7_matchOf_6 hi3 rfl rfl ?_
  refine PW.iconst (v := 0) cx qX7_matchOf_7 rfl ?_
  refine PW.istore (L' := [some (.ref (gB g + 140)), some (.int p1), some (.int p2), some (.int t1), some (.int 0)]) cx qX7_matchOf_8 hi4 rfl rfl ?_
  obtain ⟨r5, er5, hf⟩ := bndO hf sne
  refine PW.locs (Lsub.drop (Lsub.drop (Lsub.keep (Lsub.keep (Lsub.keep Lsub.nil))))) (lX7_matchOf_10 mx hx h p2 t1 FU 0 r5 er5 (fun e => ?_) (fun y e => ?_))
  · subst e
    refine PW.iconst (v := (-1)) cx qX7_matchOf_43 rfl ?_
    exact PW.iret cx hrt qX7_matchOf_44 (le_ri hf)
  · subst e
    exact (le_ri hf)
theorem lX7_runFrom_19 {g : GT} {X : XT} {ex : Bool} {sh : List Shp} {post : Option Value → List Shp → Hp → Prop} (mx : Mx g X mX7_runFrom 2 0 0) (hx : MSh sh) (h : Hp) (c3 : Int32) (c4 : Int32) (c5 : Int32) (c6 : Int32) : ∀ (n : Nat) (v7 : Int32) (r : Int32) (hf : M_runFrom_L19 c3 c4 c5 c6 n v7 = some r) (kx : ∀ (x7 : Int32), r = x7 → PW g X ex (QE g X ex post 0 0) 0 0 sh h 72 [none, none, none, some (.int c3), some (.int c4), some (.int c5), some (.int c6), some (.int x7)] []), PW g X ex (QE g X ex post 0 0) 0 0 sh h 19 [none, none, none, some (.int c3), some (.int c4), some (.int c5), some (.int c6), some (.int v7)] [] := by
  have mx0 := mx
  obtain ⟨cx, hR, hml, hrt, -⟩ := mx0
  have cx : Cx g X RX7 cX7_runFrom := cx
  have hrt : X.2.2.2.2.2.2.2.1.sig.returnType = (some .int) := hrt
  have hi5 : 5 < X.2.2.2.2.2.2.2.2.maxLocals := by rw [hml]; exact Nat.le_of_ble_eq_true rfl
  have hi6 : 6 < X.2.2.2.2.2.2.2.2.maxLocals := by rw [hml]; exact Nat.le_of_ble_eq_true rfl
  have hi7 : 7 < X.2.2.2.2.2.2.2.2.maxLocals := by rw [hml]; exact Nat.le_of_ble_eq_true rfl
  intro n
  induction n with
  | zero =>
    intro v7 r hf kx
    cases hf
  | succ n ih =>
    intro v7 r hf kx
    unfold M_runFrom_L19 at hf
    refine PW.iload_n cx qX7_runFrom_19 rfl ?_
    refine PW.iload cx qX7_runFrom_20 rfl ?_
    refine PW.iadd cx qX7_runFrom_22 ?_
    refine PW.iload cx qX7_runFrom_23 rfl ?_
    refine PW.callSRI (As := [.int c5]) (st := [.int (c3 + v7)]) cx hR qX7_runFrom_25 klX7_61 miX7_digits rfl rfl (Nat.le_of_ble_eq_true rfl) (Nat.le_of_ble_eq_true rfl) (Nat.le_of_ble_eq_true rfl) (Nat.zero_le _) (Nat.zero_le _) hf sne (fun t e => ctX7_digits h c5 t e) (fun t3 hf => ?_)
    refine PW.icmp_ge cx qX7_runFrom_28 hf (fun hf => ?_) (fun hf => ?_)
    · exact PW.locs (Lsub.drop (Lsub.drop (Lsub.drop (Lsub.keep (Lsub.keep (Lsub.keep (Lsub.keep (Lsub.keep Lsub.nil)))))))) (kx v7 (Option.some.inj hf).symm)
    · refine PW.iload cx qX7_runFrom_31 rfl ?_
      refine PW.iload cx qX7_runFrom_33 rfl ?_
      refine PW.iadd cx qX7_runFrom_35 ?_
      refine PW.iload cx qX7_runFrom_36 rfl ?_
      refine PW.callSRI (As := [.int c6]) (st := [.int (c4 + v7)]) cx hR qX7_runFrom_38 klX7_61 miX7_digits rfl rfl (Nat.le_of_ble_eq_true rfl) (Nat.le_of_ble_eq_true rfl) (Nat.le_of_ble_eq_true rfl) (Nat.zero_le _) (Nat.zero_le _) hf sne (fun t e => ctX7_digits h c6 t e) (fun t4 hf => ?_)
      refine PW.icmp_ge cx qX7_runFrom_41 hf (fun hf => ?_) (fun hf => ?_)
      · exact PW.locs (Lsub.drop (Lsub.drop (Lsub.drop (Lsub.keep (Lsub.keep (Lsub.keep (Lsub.keep (Lsub.keep Lsub.nil)))))))) (kx v7 (Option.some.inj hf).symm)
      · refine PW.iload cx qX7_runFrom_44 rfl ?_
        refine PW.iload_n cx qX7_runFrom_46 rfl ?_
        refine PW.iload cx qX7_runFrom_47 rfl ?_
        refine PW.iadd cx qX7_runFrom_49 ?_
        refine PW.callSRI (As := [.int c5, .int (c3 + v7)]) (st := []) cx hR qX7_runFrom_50 klX7_74 miX7_digit rfl rfl (Nat.le_of_ble_eq_true rfl) (Nat.le_of_ble_eq_true rfl) (Nat.le_of_ble_eq_true rfl) (Nat.zero_le _) (Nat.zero_le _) hf sne (fun t e => ctX7_digit h c5 (c3 + v7) t e) (fun t5 hf => ?_)
        refine PW.iload cx qX7_runFrom_53 rfl ?_
        refine PW.iload cx qX7_runFrom_55 rfl ?_
        refine PW.iload cx qX7_runFrom_57 rfl ?_
        refine PW.iadd cx qX7_runFrom_59 ?_
        refine PW.callSRI (As := [.int c6, .int (c4 + v7)]) (st := [.int t5]) cx hR qX7_runFrom_60 klX7_74 miX7_digit rfl rfl (Nat.le_of_ble_eq_true rfl) (Nat.le_of_ble_eq_true rfl) (Nat.le_of_ble_eq_true rfl) (Nat.zero_le _) (Nat.zero_le _) hf sne (fun t e => ctX7_digit h c6 (c4 + v7) t e) (fun t6 hf => ?_)
        refine PW.icmp_ne cx qX7_runFrom_63 hf (fun hf => ?_) (fun hf => ?_)
        · refine PW.iinc (v := 1) (L' := [none, none, none, some (.int c3), some (.int c4), some (.int c5), some (.int c6), some (.int (v7 + 1))]) cx qX7_runFrom_66 rfl rfl hi7 rfl rfl ?_
          refine PW.goto cx qX7_runFrom_69 ?_
          exact PW.locs (Lsub.drop (Lsub.drop (Lsub.drop (Lsub.keep (Lsub.keep (Lsub.keep (Lsub.keep (Lsub.keep Lsub.nil)))))))) (ih (v7 + 1) _ hf kx)
        · exact PW.locs (Lsub.drop (Lsub.drop (Lsub.drop (Lsub.keep (Lsub.keep (Lsub.keep (Lsub.keep (Lsub.keep Lsub.nil)))))))) (kx v7 (Option.some.inj hf).symm)
theorem ctX7_runFrom {g : GT} {ex : Bool} {sh : List Shp} (hx : MSh sh) (h : Hp) (p1 : Int32) (p2 : Int32) (p3 : Int32) (p4 : Int32) (r0 : Int32) (hf : M_runFrom h p1 p2 p3 p4 = some r0) : Ct g mX7_runFrom 2 0 0 ex [.ref (gB g + 140), .int p1, .int p2, .int p3, .int p4] sh h (PE (some (.int r0)) sh h) := by
  refine Ct.of (L := [some (.ref (gB g + 140)), some (.int p1), some (.int p2), some (.int p3), some (.int p4), none, none, none]) (by decide) (by intro w hw; simp only [List.mem_cons, List.not_mem_nil, or_false] at hw; rcases hw with rfl | rfl | rfl | rfl | rfl <;> rfl) (Nat.le_of_ble_eq_true rfl) rfl (fun X mx => ?_)
  have mx0 := mx
  obtain ⟨cx, hR, hml, hrt, -⟩ := mx0
  have cx : Cx g X RX7 cX7_runFrom := cx
  have hrt : X.2.2.2.2.2.2.2.1.sig.returnType = (some .int) := hrt
  have hi5 : 5 < X.2.2.2.2.2.2.2.2.maxLocals := by rw [hml]; exact Nat.le_of_ble_eq_true rfl
  have hi6 : 6 < X.2.2.2.2.2.2.2.2.maxLocals := by rw [hml]; exact Nat.le_of_ble_eq_true rfl
  have hi7 : 7 < X.2.2.2.2.2.2.2.2.maxLocals := by rw [hml]; exact Nat.le_of_ble_eq_true rfl
  unfold M_runFrom at hf
  refine PW.aload_n cx qX7_runFrom_0 rfl ?_
  refine PW.iload_n cx qX7_runFrom_1 rfl ?_
  refine PW.iconst (v := 0) cx qX7_runFrom_2 rfl ?_
  refine PW.callVRI (As := [.int p1, .int 0]) (st := []) cx hR qX7_runFrom_3 klX7_70 mvX7_of (sh_140 hx) rfl rfl rfl rfl (Nat.le_of_ble_eq_true rfl) (Nat.le_of_ble_eq_true rfl) (Nat.le_of_ble_eq_true rfl) (Nat.zero_le _) (Nat.zero_le _) hf sne (fun t e => ctX7_of hx h p1 0 t e) (fun t1 hf => ?_)
  refine PW.istore (L' := [some (.ref (gB g + 140)), some (.int p1), some (.int p2), some (.int p3), some (.int p4), some (.int t1), none, none]) cx qX7_runFrom_6 hi5 rfl rfl ?_
  refine PW.aload_n cx qX7_runFrom_8 rfl ?_
  refine PW.iload_n cx qX7_runFrom_9 rfl ?_
  refine PW.iconst (v := 0) cx qX7_runFrom_10 rfl ?_
  refine PW.callVRI (As := [.int p2, .int 0]) (st := []) cx hR qX7_runFrom_11 klX7_70 mvX7_of (sh_140 hx) rfl rfl rfl rfl (Nat.le_of_ble_eq_true rfl) (Nat.le_of_ble_eq_true rfl) (Nat.le_of_ble_eq_true rfl) (Nat.zero_le _) (Nat.zero_le _) hf sne (fun t e => ctX7_of hx h p2 0 t e) (fun t2 hf => ?_)
  refine PW.istore (L' := [some (.ref (gB g + 140)), some (.int p1), some (.int p2), some (.int p3), some (.int p4), some (.int t1), some (.int t2), none]) cx qX7_runFrom_14 hi6 rfl rfl ?_
  refine PW.iconst (v := 0) cx qX7_runFrom_16 rfl ?_
  refine PW.istore (L' := [some (.ref (gB g + 140)), some (.int p1), some (.int p2), some (.int p3), some (.int p4), some (.int t1), some (.int t2), some (.int 0)]) cx qX7_runFrom_17 hi7 rfl rfl ?_
  obtain ⟨r7, er7, hf⟩ := bndO hf sne
  refine PW.locs (Lsub.drop (Lsub.drop (Lsub.drop (Lsub.keep (Lsub.keep (Lsub.keep (Lsub.keep (Lsub.keep Lsub.nil)))))))) (lX7_runFrom_19 mx hx h p3 p4 t1 t2 FU 0 r7 er7 (fun xx_ e => ?_))
  subst e
  refine PW.iload cx qX7_runFrom_72 rfl ?_
  exact PW.iret cx hrt qX7_runFrom_74 (le_ri hf)
theorem lX7_run_22 {g : GT} {X : XT} {ex : Bool} {sh : List Shp} {post : Option Value → List Shp → Hp → Prop} (mx : Mx g X mX7_run 3 0 0) (hx : MSh sh) (h : Hp) (c1 : Int32) (c2 : Int32) (c4 : Int32) : ∀ (n : Nat) (v3 : Int32) (v5 : Int32) (r : Int32) (hf : M_run_L22 h c1 c2 c4 n v3 v5 = some r) (kx : ∀ (x3 : Int32), r = x3 → PW g X ex (QE g X ex post 0 0) 0 0 sh h 57 [some (.ref (gB g + 140)), some (.int c1), some (.int c2), some (.int x3), some (.int c4), none] []), PW g X ex (QE g X ex post 0 0) 0 0 sh h 22 [some (.ref (gB g + 140)), some (.int c1), some (.int c2), some (.int v3), some (.int c4), some (.int v5)] [] := by
  have mx0 := mx
  obtain ⟨cx, hR, hml, hrt, -⟩ := mx0
  have cx : Cx g X RX7 cX7_run := cx
  have hrt : X.2.2.2.2.2.2.2.1.sig.returnType = (some .int) := hrt
  have hi3 : 3 < X.2.2.2.2.2.2.2.2.maxLocals := by rw [hml]; exact Nat.le_of_ble_eq_true rfl
  have hi4 : 4 < X.2.2.2.2.2.2.2.2.maxLocals := by rw [hml]; exact Nat.le_of_ble_eq_true rfl
  have hi5 : 5 < X.2.2.2.2.2.2.2.2.maxLocals := by rw [hml]; exact Nat.le_of_ble_eq_true rfl
  intro n
  induction n with
  | zero =>
    intro v3 v5 r hf kx
    cases hf
  | succ n ih =>
    intro v3 v5 r hf kx
    unfold M_run_L22 at hf
    refine PW.iload cx qX7_run_22 rfl ?_
    refine PW.aload_n cx qX7_run_24 rfl ?_
    refine PW.iload_n cx qX7_run_25 rfl ?_
    refine PW.iconst (v := 0) cx qX7_run_26 rfl ?_
    refine PW.callVRI (As := [.int c2, .int 0]) (st := [.int v5]) cx hR qX7_run_27 klX7_70 mvX7_of (sh_140 hx) rfl rfl rfl rfl (Nat.le_of_ble_eq_true rfl) (Nat.le_of_ble_eq_true rfl) (Nat.le_of_ble_eq_true rfl) (Nat.zero_le _) (Nat.zero_le _) hf sne (fun t e => ctX7_of hx h c2 0 t e) (fun t3 hf => ?_)
    refine PW.callSRI (As := [.int t3]) (st := [.int v5]) cx hR qX7_run_30 klX7_61 miX7_digits rfl rfl (Nat.le_of_ble_eq_true rfl) (Nat.le_of_ble_eq_true rfl) (Nat.le_of_ble_eq_true rfl) (Nat.zero_le _) (Nat.zero_le _) hf sne (fun t e => ctX7_digits h t3 t e) (fun t4 hf => ?_)
    refine PW.icmp_ge cx qX7_run_33 hf (fun hf => ?_) (fun hf => ?_)
    · exact PW.locs (Lsub.keep (Lsub.keep (Lsub.keep (Lsub.keep (Lsub.keep (Lsub.drop Lsub.nil)))))) (kx v3 (Option.some.inj hf).symm)
    · refine PW.iload_n cx qX7_run_36 rfl ?_
      refine PW.aload_n cx qX7_run_37 rfl ?_
      refine PW.iload_n cx qX7_run_38 rfl ?_
      refine PW.iload_n cx qX7_run_39 rfl ?_
      refine PW.iload cx qX7_run_40 rfl ?_
      refine PW.iload cx qX7_run_42 rfl ?_
      refine PW.callVRI (As := [.int c1, .int c2, .int c4, .int v5]) (st := [.int v3]) cx hR qX7_run_44 klX7_80 mvX7_runFrom (sh_140 hx) rfl rfl rfl rfl (Nat.le_of_ble_eq_true rfl) (Nat.le_of_ble_eq_true rfl) (Nat.le_of_ble_eq_true rfl) (Nat.zero_le _) (Nat.zero_le _) hf sne (fun t e => ctX7_runFrom hx h c1 c2 c4 v5 t e) (fun t5 hf => ?_)
      refine PW.mmax cx hR qX7_run_47 klX7_84 (Nat.le_of_ble_eq_true rfl) (Nat.le_of_ble_eq_true rfl) (Nat.zero_le _) (Nat.zero_le _) ?_
      refine PW.istore_n (L' := [some (.ref (gB g + 140)), some (.int c1), some (.int c2), some (.int (mxI v3 t5)), some (.int c4), some (.int v5)]) cx qX7_run_50 hi3 rfl rfl ?_
      refine PW.iinc (v := 1) (L' := [some (.ref (gB g + 140)), some (.int c1), some (.int c2), some (.int (mxI v3 t5)), some (.int c4), some (.int (v5 + 1))]) cx qX7_run_51 rfl rfl hi5 rfl rfl ?_
      refine PW.goto cx qX7_run_54 ?_
      exact PW.locs (Lsub.keep (Lsub.keep (Lsub.keep (Lsub.keep (Lsub.keep (Lsub.keep Lsub.nil)))))) (ih (mxI v3 t5) (v5 + 1) _ hf kx)
theorem lX7_run_5 {g : GT} {X : XT} {ex : Bool} {sh : List Shp} {post : Option Value → List Shp → Hp → Prop} (mx : Mx g X mX7_run 3 0 0) (hx : MSh sh) (h : Hp) (c1 : Int32) (c2 : Int32) : ∀ (n : Nat) (v3 : Int32) (v4 : Int32) (r : Int32) (hf : M_run_L5 h c1 c2 n v3 v4 = some r) (kx : ∀ (x3 : Int32), r = x3 → PW g X ex (QE g X ex post 0 0) 0 0 sh h 63 [some (.ref (gB g + 140)), some (.int c1), some (.int c2), some (.int x3), none, none] []), PW g X ex (QE g X ex post 0 0) 0 0 sh h 5 [some (.ref (gB g + 140)), some (.int c1), some (.int c2), some (.int v3), some (.int v4), none] [] := by
  have mx0 := mx
  obtain ⟨cx, hR, hml, hrt, -⟩ := mx0
  have cx : Cx g X RX7 cX7_run := cx
  have hrt : X.2.2.2.2.2.2.2.1.sig.returnType = (some .int) := hrt
  have hi3 : 3 < X.2.2.2.2.2.2.2.2.maxLocals := by rw [hml]; exact Nat.le_of_ble_eq_true rfl
  have hi4 : 4 < X.2.2.2.2.2.2.2.2.maxLocals := by rw [hml]; exact Nat.le_of_ble_eq_true rfl
  have hi5 : 5 < X.2.2.2.2.2.2.2.2.maxLocals := by rw [hml]; exact Nat.le_of_ble_eq_true rfl
  intro n
  induction n with
  | zero =>
    intro v3 v4 r hf kx
    cases hf
  | succ n ih =>
    intro v3 v4 r hf kx
    unfold M_run_L5 at hf
    refine PW.iload cx qX7_run_5 rfl ?_
    refine PW.aload_n cx qX7_run_7 rfl ?_
    refine PW.iload_n cx qX7_run_8 rfl ?_
    refine PW.iconst (v := 0) cx qX7_run_9 rfl ?_
    refine PW.callVRI (As := [.int c1, .int 0]) (st := [.int v4]) cx hR qX7_run_10 klX7_70 mvX7_of (sh_140 hx) rfl rfl rfl rfl (Nat.le_of_ble_eq_true rfl) (Nat.le_of_ble_eq_true rfl) (Nat.le_of_ble_eq_true rfl) (Nat.zero_le _) (Nat.zero_le _) hf sne (fun t e => ctX7_of hx h c1 0 t e) (fun t1 hf => ?_)
    refine PW.callSRI (As := [.int t1]) (st := [.int v4]) cx hR qX7_run_13 klX7_61 miX7_digits rfl rfl (Nat.le_of_ble_eq_true rfl) (Nat.le_of_ble_eq_true rfl) (Nat.le_of_ble_eq_true rfl) (Nat.zero_le _) (Nat.zero_le _) hf sne (fun t e => ctX7_digits h t1 t e) (fun t2 hf => ?_)
    refine PW.icmp_ge cx qX7_run_16 hf (fun hf => ?_) (fun hf => ?_)
    · exact PW.locs (Lsub.keep (Lsub.keep (Lsub.keep (Lsub.keep (Lsub.drop (Lsub.drop Lsub.nil)))))) (kx v3 (Option.some.inj hf).symm)
    · refine PW.iconst (v := 0) cx qX7_run_19 rfl ?_
      refine PW.istore (L' := [some (.ref (gB g + 140)), some (.int c1), some (.int c2), some (.int v3), some (.int v4), some (.int 0)]) cx qX7_run_20 hi5 rfl rfl ?_
      obtain ⟨r6, er6, hf⟩ := bndO hf sne
      refine PW.locs (Lsub.keep (Lsub.keep (Lsub.keep (Lsub.keep (Lsub.keep (Lsub.keep Lsub.nil)))))) (lX7_run_22 mx hx h c1 c2 v4 FU v3 0 r6 er6 (fun xx_ e => ?_))
      subst e
      refine PW.iinc (v := 1) (L' := [some (.ref (gB g + 140)), some (.int c1), some (.int c2), some (.int r6), some (.int (v4 + 1)), none]) cx qX7_run_57 rfl rfl hi4 rfl rfl ?_
      refine PW.goto cx qX7_run_60 ?_
      exact PW.locs (Lsub.keep (Lsub.keep (Lsub.keep (Lsub.keep (Lsub.keep (Lsub.drop Lsub.nil)))))) (ih r6 (v4 + 1) _ hf kx)
theorem ctX7_run {g : GT} {ex : Bool} {sh : List Shp} (hx : MSh sh) (h : Hp) (p1 : Int32) (p2 : Int32) (r0 : Int32) (hf : M_run h p1 p2 = some r0) : Ct g mX7_run 3 0 0 ex [.ref (gB g + 140), .int p1, .int p2] sh h (PE (some (.int r0)) sh h) := by
  refine Ct.of (L := [some (.ref (gB g + 140)), some (.int p1), some (.int p2), none, none, none]) (by decide) (by intro w hw; simp only [List.mem_cons, List.not_mem_nil, or_false] at hw; rcases hw with rfl | rfl | rfl <;> rfl) (Nat.le_of_ble_eq_true rfl) rfl (fun X mx => ?_)
  have mx0 := mx
  obtain ⟨cx, hR, hml, hrt, -⟩ := mx0
  have cx : Cx g X RX7 cX7_run := cx
  have hrt : X.2.2.2.2.2.2.2.1.sig.returnType = (some .int) := hrt
  have hi3 : 3 < X.2.2.2.2.2.2.2.2.maxLocals := by rw [hml]; exact Nat.le_of_ble_eq_true rfl
  have hi4 : 4 < X.2.2.2.2.2.2.2.2.maxLocals := by rw [hml]; exact Nat.le_of_ble_eq_true rfl
  have hi5 : 5 < X.2.2.2.2.2.2.2.2.maxLocals := by rw [hml]; exact Nat.le_of_ble_eq_true rfl
  unfold M_run at hf
  refine PW.iconst (v := 0) cx qX7_run_0 rfl ?_
  refine PW.istore_n (L' := [some (.ref (gB g + 140)), some (.int p1), some (.int p2), some (.int 0), none, none]) cx qX7_run_1 hi3 rfl rfl ?_
  refine PW.iconst (v := 0) cx qX7_run_2 rfl ?_
  refine PW.istore (L' := [some (.ref (gB g + 140)), some (.int p1), some (.int p2), some (.int 0), some (.int 0), none]) cx qX7_run_3 hi4 rfl rfl ?_
  obtain ⟨r7, er7, hf⟩ := bndO hf sne
  refine PW.locs (Lsub.keep (Lsub.keep (Lsub.keep (Lsub.keep (Lsub.keep (Lsub.drop Lsub.nil)))))) (lX7_run_5 mx hx h p1 p2 FU 0 0 r7 er7 (fun xx_ e => ?_))
  subst e
  refine PW.iload_n cx qX7_run_63 rfl ?_
  exact PW.iret cx hrt qX7_run_64 (le_ri hf)
theorem ctX7_homeOf {g : GT} {ex : Bool} {sh : List Shp} (hx : MSh sh) (h : Hp) (p1 : Int32) (p2 : Int32) (r0 : Int32) (hf : M_homeOf h p1 p2 = some r0) : Ct g mX7_homeOf 3 0 0 ex [.ref (gB g + 140), .int p1, .int p2] sh h (PE (some (.int r0)) sh h) := by
  refine Ct.of (L := [some (.ref (gB g + 140)), some (.int p1), some (.int p2)]) (by decide) (by intro w hw; simp only [List.mem_cons, List.not_mem_nil, or_false] at hw; rcases hw with rfl | rfl | rfl <;> rfl) (Nat.le_of_ble_eq_true rfl) rfl (fun X mx => ?_)
  obtain ⟨cx, hR, hml, hrt, -⟩ := mx
  have cx : Cx g X RX7 cX7_homeOf := cx
  have hrt : X.2.2.2.2.2.2.2.1.sig.returnType = (some .int) := hrt
  unfold M_homeOf at hf
  refine PW.aload_n cx qX7_homeOf_0 rfl ?_
  refine PW.iload_n cx qX7_homeOf_1 rfl ?_
  refine PW.callVRI (As := [.int p1]) (st := []) cx hR qX7_homeOf_2 klX7_89 mvX7_hashOf (sh_140 hx) rfl rfl rfl rfl (Nat.le_of_ble_eq_true rfl) (Nat.le_of_ble_eq_true rfl) (Nat.le_of_ble_eq_true rfl) (Nat.zero_le _) (Nat.zero_le _) hf sne (fun t e => ctX7_hashOf hx h p1 t e) (fun t1 hf => ?_)
  refine PW.aload_n cx qX7_homeOf_5 rfl ?_
  refine PW.iload_n cx qX7_homeOf_6 rfl ?_
  refine PW.callVRI (As := [.int p2]) (st := [.int t1]) cx hR qX7_homeOf_7 klX7_92 mvX7_beds (sh_140 hx) rfl rfl rfl rfl (Nat.le_of_ble_eq_true rfl) (Nat.le_of_ble_eq_true rfl) (Nat.le_of_ble_eq_true rfl) (Nat.zero_le _) (Nat.zero_le _) hf sne (fun t e => ctX7_beds hx h p2 t e) (fun t2 hf => ?_)
  refine PW.irem cx qX7_homeOf_10 hf sne (fun t3 hf => ?_)
  exact PW.iret cx hrt qX7_homeOf_11 (le_ri hf)
theorem ctX7_onWay {g : GT} {ex : Bool} {sh : List Shp} (hx : MSh sh) (h : Hp) (p1 : Int32) (p2 : Int32) (p3 : Int32) (r0 : Int32) (hf : M_onWay h p1 p2 p3 = some r0) : Ct g mX7_onWay 4 0 0 ex [.ref (gB g + 140), .int p1, .int p2, .int p3] sh h (PE (some (.int r0)) sh h) := by
  refine Ct.of (L := [some (.ref (gB g + 140)), some (.int p1), some (.int p2), some (.int p3)]) (by decide) (by intro w hw; simp only [List.mem_cons, List.not_mem_nil, or_false] at hw; rcases hw with rfl | rfl | rfl | rfl <;> rfl) (Nat.le_of_ble_eq_true rfl) rfl (fun X mx => ?_)
  obtain ⟨cx, hR, hml, hrt, -⟩ := mx
  have cx : Cx g X RX7 cX7_onWay := cx
  have hrt : X.2.2.2.2.2.2.2.1.sig.returnType = (some .int) := hrt
  unfold M_onWay at hf
  refine PW.aload_n cx qX7_onWay_0 rfl ?_
  refine PW.iload_n cx qX7_onWay_1 rfl ?_
  refine PW.iload_n cx qX7_onWay_2 rfl ?_
  refine PW.callVRI (As := [.int p1, .int p2]) (st := []) cx hR qX7_onWay_3 klX7_95 mvX7_homeOf (sh_140 hx) rfl rfl rfl rfl (Nat.le_of_ble_eq_true rfl) (Nat.le_of_ble_eq_true rfl) (Nat.le_of_ble_eq_true rfl) (Nat.zero_le _) (Nat.zero_le _) hf sne (fun t e => ctX7_homeOf hx h p1 p2 t e) (fun t1 hf => ?_)
  refine PW.iload_n cx qX7_onWay_6 rfl ?_
  refine PW.iadd cx qX7_onWay_7 ?_
  refine PW.aload_n cx qX7_onWay_8 rfl ?_
  refine PW.iload_n cx qX7_onWay_9 rfl ?_
  refine PW.callVRI (As := [.int p2]) (st := [.int (t1 + p3)]) cx hR qX7_onWay_10 klX7_92 mvX7_beds (sh_140 hx) rfl rfl rfl rfl (Nat.le_of_ble_eq_true rfl) (Nat.le_of_ble_eq_true rfl) (Nat.le_of_ble_eq_true rfl) (Nat.zero_le _) (Nat.zero_le _) hf sne (fun t e => ctX7_beds hx h p2 t e) (fun t2 hf => ?_)
  refine PW.irem cx qX7_onWay_13 hf sne (fun t3 hf => ?_)
  exact PW.iret cx hrt qX7_onWay_14 (le_ri hf)
theorem lX7_passedBy_2 {g : GT} {X : XT} {ex : Bool} {sh : List Shp} {post : Option Value → List Shp → Hp → Prop} (mx : Mx g X mX7_passedBy 5 0 0) (hx : MSh sh) (h : Hp) (c1 : Int32) (c2 : Int32) : ∀ (n : Nat) (v3 : Int32) (r : (Unit) ⊕ (Int32)) (hf : M_passedBy_L2 h c1 c2 n v3 = some r) (kx : r = .inl () → PW g X ex (QE g X ex post 0 0) 0 0 sh h 34 [some (.ref (gB g + 140)), some (.int c1), some (.int c2), none] []) (kr : ∀ y : Int32, r = .inr y → post (some (.int y)) sh h), PW g X ex (QE g X ex post 0 0) 0 0 sh h 2 [some (.ref (gB g + 140)), some (.int c1), some (.int c2), some (.int v3)] [] := by
  have mx0 := mx
  obtain ⟨cx, hR, hml, hrt, -⟩ := mx0
  have cx : Cx g X RX7 cX7_passedBy := cx
  have hrt : X.2.2.2.2.2.2.2.1.sig.returnType = (some .int) := hrt
  have hi3 : 3 < X.2.2.2.2.2.2.2.2.maxLocals := by rw [hml]; exact Nat.le_of_ble_eq_true rfl
  intro n
  induction n with
  | zero =>
    intro v3 r hf kx kr
    cases hf
  | succ n ih =>
    intro v3 r hf kx kr
    unfold M_passedBy_L2 at hf
    refine PW.iload_n cx qX7_passedBy_2 rfl ?_
    refine PW.aload_n cx qX7_passedBy_3 rfl ?_
    refine PW.iload_n cx qX7_passedBy_4 rfl ?_
    refine PW.callVRI (As := [.int c2]) (st := [.int v3]) cx hR qX7_passedBy_5 klX7_92 mvX7_beds (sh_140 hx) rfl rfl rfl rfl (Nat.le_of_ble_eq_true rfl) (Nat.le_of_ble_eq_true rfl) (Nat.le_of_ble_eq_true rfl) (Nat.zero_le _) (Nat.zero_le _) hf sne (fun t e => ctX7_beds hx h c2 t e) (fun t1 hf => ?_)
    refine PW.icmp_ge cx qX7_passedBy_8 hf (fun hf => ?_) (fun hf => ?_)
    · exact PW.locs (Lsub.keep (Lsub.keep (Lsub.keep (Lsub.drop Lsub.nil)))) (kx (Option.some.inj hf).symm)
    · refine PW.aload_n cx qX7_passedBy_11 rfl ?_
      refine PW.iload_n cx qX7_passedBy_12 rfl ?_
      refine PW.aload_n cx qX7_passedBy_13 rfl ?_
      refine PW.iload_n cx qX7_passedBy_14 rfl ?_
      refine PW.iload_n cx qX7_passedBy_15 rfl ?_
      refine PW.iload_n cx qX7_passedBy_16 rfl ?_
      refine PW.callVRI (As := [.int c1, .int c2, .int v3]) (st := [.int c2, .ref (gB g + 140)]) cx hR qX7_passedBy_17 klX7_98 mvX7_onWay (sh_140 hx) rfl rfl rfl rfl (Nat.le_of_ble_eq_true rfl) (Nat.le_of_ble_eq_true rfl) (Nat.le_of_ble_eq_true rfl) (Nat.zero_le _) (Nat.zero_le _) hf sne (fun t e => ctX7_onWay hx h c1 c2 v3 t e) (fun t2 hf => ?_)
      refine PW.callVRI (As := [.int c2, .int t2]) (st := []) cx hR qX7_passedBy_20 klX7_102 mvX7_inBed (sh_140 hx) rfl rfl rfl rfl (Nat.le_of_ble_eq_true rfl) (Nat.le_of_ble_eq_true rfl) (Nat.le_of_ble_eq_true rfl) (Nat.zero_le _) (Nat.zero_le _) hf sne (fun t e => ctX7_inBed hx h c2 t2 t e) (fun t3 hf => ?_)
      refine PW.if_ge cx qX7_passedBy_23 hf (fun hf => ?_) (fun hf => ?_)
      · refine PW.iinc (v := 1) (L' := [some (.ref (gB g + 140)), some (.int c1), some (.int c2), some (.int (v3 + 1))]) cx qX7_passedBy_28 rfl rfl hi3 rfl rfl ?_
        refine PW.goto cx qX7_passedBy_31 ?_
        exact PW.locs (Lsub.keep (Lsub.keep (Lsub.keep (Lsub.keep Lsub.nil)))) (ih (v3 + 1) _ hf kx kr)
      · refine PW.iload_n cx qX7_passedBy_26 rfl ?_
        exact PW.iret cx hrt qX7_passedBy_27 (kr _ (Option.some.inj hf).symm)
theorem ctX7_passedBy {g : GT} {ex : Bool} {sh : List Shp} (hx : MSh sh) (h : Hp) (p1 : Int32) (p2 : Int32) (r0 : Int32) (hf : M_passedBy h p1 p2 = some r0) : Ct g mX7_passedBy 5 0 0 ex [.ref (gB g + 140), .int p1, .int p2] sh h (PE (some (.int r0)) sh h) := by
  refine Ct.of (L := [some (.ref (gB g + 140)), some (.int p1), some (.int p2), none]) (by decide) (by intro w hw; simp only [List.mem_cons, List.not_mem_nil, or_false] at hw; rcases hw with rfl | rfl | rfl <;> rfl) (Nat.le_of_ble_eq_true rfl) rfl (fun X mx => ?_)
  have mx0 := mx
  obtain ⟨cx, hR, hml, hrt, -⟩ := mx0
  have cx : Cx g X RX7 cX7_passedBy := cx
  have hrt : X.2.2.2.2.2.2.2.1.sig.returnType = (some .int) := hrt
  have hi3 : 3 < X.2.2.2.2.2.2.2.2.maxLocals := by rw [hml]; exact Nat.le_of_ble_eq_true rfl
  unfold M_passedBy at hf
  refine PW.iconst (v := 0) cx qX7_passedBy_0 rfl ?_
  refine PW.istore_n (L' := [some (.ref (gB g + 140)), some (.int p1), some (.int p2), some (.int 0)]) cx qX7_passedBy_1 hi3 rfl rfl ?_
  obtain ⟨r4, er4, hf⟩ := bndO hf sne
  refine PW.locs (Lsub.keep (Lsub.keep (Lsub.keep (Lsub.keep Lsub.nil)))) (lX7_passedBy_2 mx hx h p1 p2 FU 0 r4 er4 (fun e => ?_) (fun y e => ?_))
  · subst e
    refine PW.iconst (v := (-1)) cx qX7_passedBy_34 rfl ?_
    exact PW.iret cx hrt qX7_passedBy_35 (le_ri hf)
  · subst e
    exact (le_ri hf)
theorem lX7_looks_2 {g : GT} {X : XT} {ex : Bool} {sh : List Shp} {post : Option Value → List Shp → Hp → Prop} (mx : Mx g X mX7_looks 5 0 0) (hx : MSh sh) (h : Hp) (c1 : Int32) (c2 : Int32) : ∀ (n : Nat) (v3 : Int32) (r : (Unit) ⊕ (Int32)) (hf : M_looks_L2 h c1 c2 n v3 = some r) (kx : r = .inl () → PW g X ex (QE g X ex post 0 0) 0 0 sh h 47 [some (.ref (gB g + 140)), some (.int c1), some (.int c2), none, none] []) (kr : ∀ y : Int32, r = .inr y → post (some (.int y)) sh h), PW g X ex (QE g X ex post 0 0) 0 0 sh h 2 [some (.ref (gB g + 140)), some (.int c1), some (.int c2), some (.int v3), none] [] := by
  have mx0 := mx
  obtain ⟨cx, hR, hml, hrt, -⟩ := mx0
  have cx : Cx g X RX7 cX7_looks := cx
  have hrt : X.2.2.2.2.2.2.2.1.sig.returnType = (some .int) := hrt
  have hi3 : 3 < X.2.2.2.2.2.2.2.2.maxLocals := by rw [hml]; exact Nat.le_of_ble_eq_true rfl
  have hi4 : 4 < X.2.2.2.2.2.2.2.2.maxLocals := by rw [hml]; exact Nat.le_of_ble_eq_true rfl
  intro n
  induction n with
  | zero =>
    intro v3 r hf kx kr
    cases hf
  | succ n ih =>
    intro v3 r hf kx kr
    unfold M_looks_L2 at hf
    refine PW.iload_n cx qX7_looks_2 rfl ?_
    refine PW.aload_n cx qX7_looks_3 rfl ?_
    refine PW.iload_n cx qX7_looks_4 rfl ?_
    refine PW.callVRI (As := [.int c2]) (st := [.int v3]) cx hR qX7_looks_5 klX7_92 mvX7_beds (sh_140 hx) rfl rfl rfl rfl (Nat.le_of_ble_eq_true rfl) (Nat.le_of_ble_eq_true rfl) (Nat.le_of_ble_eq_true rfl) (Nat.zero_le _) (Nat.zero_le _) hf sne (fun t e => ctX7_beds hx h c2 t e) (fun t1 hf => ?_)
    refine PW.icmp_ge cx qX7_looks_8 hf (fun hf => ?_) (fun hf => ?_)
    · exact PW.locs (Lsub.keep (Lsub.keep (Lsub.keep (Lsub.drop (Lsub.drop Lsub.nil))))) (kx (Option.some.inj hf).symm)
    · refine PW.aload_n cx qX7_looks_11 rfl ?_
      refine PW.iload_n cx qX7_looks_12 rfl ?_
      refine PW.aload_n cx qX7_looks_13 rfl ?_
      refine PW.iload_n cx qX7_looks_14 rfl ?_
      refine PW.iload_n cx qX7_looks_15 rfl ?_
      refine PW.iload_n cx qX7_looks_16 rfl ?_
      refine PW.callVRI (As := [.int c1, .int c2, .int v3]) (st := [.int c2, .ref (gB g + 140)]) cx hR qX7_looks_17 klX7_98 mvX7_onWay (sh_140 hx) rfl rfl rfl rfl (Nat.le_of_ble_eq_true rfl) (Nat.le_of_ble_eq_true rfl) (Nat.le_of_ble_eq_true rfl) (Nat.zero_le _) (Nat.zero_le _) hf sne (fun t e => ctX7_onWay hx h c1 c2 v3 t e) (fun t2 hf => ?_)
      refine PW.callVRI (As := [.int c2, .int t2]) (st := []) cx hR qX7_looks_20 klX7_102 mvX7_inBed (sh_140 hx) rfl rfl rfl rfl (Nat.le_of_ble_eq_true rfl) (Nat.le_of_ble_eq_true rfl) (Nat.le_of_ble_eq_true rfl) (Nat.zero_le _) (Nat.zero_le _) hf sne (fun t e => ctX7_inBed hx h c2 t2 t e) (fun t3 hf => ?_)
      refine PW.istore (L' := [some (.ref (gB g + 140)), some (.int c1), some (.int c2), some (.int v3), some (.int t3)]) cx qX7_looks_23 hi4 rfl rfl ?_
      refine PW.iload cx qX7_looks_25 rfl ?_
      refine PW.iload_n cx qX7_looks_27 rfl ?_
      refine PW.icmp_eq cx qX7_looks_28 hf (fun hf => ?_) (fun hf => ?_)
      · refine PW.iload_n cx qX7_looks_37 rfl ?_
        refine PW.iconst (v := 1) cx qX7_looks_38 rfl ?_
        refine PW.iadd cx qX7_looks_39 ?_
        exact PW.iret cx hrt qX7_looks_40 (kr _ (Option.some.inj hf).symm)
      · refine PW.iload cx qX7_looks_31 rfl ?_
        refine PW.iconst (v := (-1)) cx qX7_looks_33 rfl ?_
        refine PW.icmp_ne cx qX7_looks_34 hf (fun hf => ?_) (fun hf => ?_)
        · refine PW.iload_n cx qX7_looks_37 rfl ?_
          refine PW.iconst (v := 1) cx qX7_looks_38 rfl ?_
          refine PW.iadd cx qX7_looks_39 ?_
          exact PW.iret cx hrt qX7_looks_40 (kr _ (Option.some.inj hf).symm)
        · refine PW.iinc (v := 1) (L' := [some (.ref (gB g + 140)), some (.int c1), some (.int c2), some (.int (v3 + 1)), some (.int t3)]) cx qX7_looks_41 rfl rfl hi3 rfl rfl ?_
          refine PW.goto cx qX7_looks_44 ?_
          exact PW.locs (Lsub.keep (Lsub.keep (Lsub.keep (Lsub.keep (Lsub.drop Lsub.nil))))) (ih (v3 + 1) _ hf kx kr)
theorem ctX7_looks {g : GT} {ex : Bool} {sh : List Shp} (hx : MSh sh) (h : Hp) (p1 : Int32) (p2 : Int32) (r0 : Int32) (hf : M_looks h p1 p2 = some r0) : Ct g mX7_looks 5 0 0 ex [.ref (gB g + 140), .int p1, .int p2] sh h (PE (some (.int r0)) sh h) := by
  refine Ct.of (L := [some (.ref (gB g + 140)), some (.int p1), some (.int p2), none, none]) (by decide) (by intro w hw; simp only [List.mem_cons, List.not_mem_nil, or_false] at hw; rcases hw with rfl | rfl | rfl <;> rfl) (Nat.le_of_ble_eq_true rfl) rfl (fun X mx => ?_)
  have mx0 := mx
  obtain ⟨cx, hR, hml, hrt, -⟩ := mx0
  have cx : Cx g X RX7 cX7_looks := cx
  have hrt : X.2.2.2.2.2.2.2.1.sig.returnType = (some .int) := hrt
  have hi3 : 3 < X.2.2.2.2.2.2.2.2.maxLocals := by rw [hml]; exact Nat.le_of_ble_eq_true rfl
  have hi4 : 4 < X.2.2.2.2.2.2.2.2.maxLocals := by rw [hml]; exact Nat.le_of_ble_eq_true rfl
  unfold M_looks at hf
  refine PW.iconst (v := 0) cx qX7_looks_0 rfl ?_
  refine PW.istore_n (L' := [some (.ref (gB g + 140)), some (.int p1), some (.int p2), some (.int 0), none]) cx qX7_looks_1 hi3 rfl rfl ?_
  obtain ⟨r4, er4, hf⟩ := bndO hf sne
  refine PW.locs (Lsub.keep (Lsub.keep (Lsub.keep (Lsub.keep (Lsub.drop Lsub.nil))))) (lX7_looks_2 mx hx h p1 p2 FU 0 r4 er4 (fun e => ?_) (fun y e => ?_))
  · subst e
    refine PW.aload_n cx qX7_looks_47 rfl ?_
    refine PW.iload_n cx qX7_looks_48 rfl ?_
    refine PW.callVRI (As := [.int p2]) (st := []) cx hR qX7_looks_49 klX7_92 mvX7_beds (sh_140 hx) rfl rfl rfl rfl (Nat.le_of_ble_eq_true rfl) (Nat.le_of_ble_eq_true rfl) (Nat.le_of_ble_eq_true rfl) (Nat.zero_le _) (Nat.zero_le _) hf sne (fun t e => ctX7_beds hx h p2 t e) (fun t5 hf => ?_)
    exact PW.iret cx hrt qX7_looks_52 (le_ri hf)
  · subst e
    exact (le_ri hf)
theorem lX7_bedWith_2 {g : GT} {X : XT} {ex : Bool} {sh : List Shp} {post : Option Value → List Shp → Hp → Prop} (mx : Mx g X mX7_bedWith 1 0 0) (hx : MSh sh) (h : Hp) (c1 : Int32) (c2 : Int32) : ∀ (n : Nat) (v3 : Int32) (r : (Unit) ⊕ (Int32)) (hf : M_bedWith_L2 h c1 c2 n v3 = some r) (kx : r = .inl () → PW g X ex (QE g X ex post 0 0) 0 0 sh h 29 [some (.ref (gB g + 140)), some (.int c1), some (.int c2), none] []) (kr : ∀ y : Int32, r = .inr y → post (some (.int y)) sh h), PW g X ex (QE g X ex post 0 0) 0 0 sh h 2 [some (.ref (gB g + 140)), some (.int c1), some (.int c2), some (.int v3)] [] := by
  have mx0 := mx
  obtain ⟨cx, hR, hml, hrt, -⟩ := mx0
  have cx : Cx g X RX7 cX7_bedWith := cx
  have hrt : X.2.2.2.2.2.2.2.1.sig.returnType = (some .int) := hrt
  have hi3 : 3 < X.2.2.2.2.2.2.2.2.maxLocals := by rw [hml]; exact Nat.le_of_ble_eq_true rfl
  intro n
  induction n with
  | zero =>
    intro v3 r hf kx kr
    cases hf
  | succ n ih =>
    intro v3 r hf kx kr
    unfold M_bedWith_L2 at hf
    refine PW.iload_n cx qX7_bedWith_2 rfl ?_
    refine PW.aload_n cx qX7_bedWith_3 rfl ?_
    refine PW.iload_n cx qX7_bedWith_4 rfl ?_
    refine PW.callVRI (As := [.int c2]) (st := [.int v3]) cx hR qX7_bedWith_5 klX7_92 mvX7_beds (sh_140 hx) rfl rfl rfl rfl (Nat.le_of_ble_eq_true rfl) (Nat.le_of_ble_eq_true rfl) (Nat.le_of_ble_eq_true rfl) (Nat.zero_le _) (Nat.zero_le _) hf sne (fun t e => ctX7_beds hx h c2 t e) (fun t1 hf => ?_)
    refine PW.icmp_ge cx qX7_bedWith_8 hf (fun hf => ?_) (fun hf => ?_)
    · exact PW.locs (Lsub.keep (Lsub.keep (Lsub.keep (Lsub.drop Lsub.nil)))) (kx (Option.some.inj hf).symm)
    · refine PW.aload_n cx qX7_bedWith_11 rfl ?_
      refine PW.iload_n cx qX7_bedWith_12 rfl ?_
      refine PW.iload_n cx qX7_bedWith_13 rfl ?_
      refine PW.callVRI (As := [.int c2, .int v3]) (st := []) cx hR qX7_bedWith_14 klX7_102 mvX7_inBed (sh_140 hx) rfl rfl rfl rfl (Nat.le_of_ble_eq_true rfl) (Nat.le_of_ble_eq_true rfl) (Nat.le_of_ble_eq_true rfl) (Nat.zero_le _) (Nat.zero_le _) hf sne (fun t e => ctX7_inBed hx h c2 v3 t e) (fun t2 hf => ?_)
      refine PW.iload_n cx qX7_bedWith_17 rfl ?_
      refine PW.icmp_ne cx qX7_bedWith_18 hf (fun hf => ?_) (fun hf => ?_)
      · refine PW.iload_n cx qX7_bedWith_21 rfl ?_
        exact PW.iret cx hrt qX7_bedWith_22 (kr _ (Option.some.inj hf).symm)
      · refine PW.iinc (v := 1) (L' := [some (.ref (gB g + 140)), some (.int c1), some (.int c2), some (.int (v3 + 1))]) cx qX7_bedWith_23 rfl rfl hi3 rfl rfl ?_
        refine PW.goto cx qX7_bedWith_26 ?_
        exact PW.locs (Lsub.keep (Lsub.keep (Lsub.keep (Lsub.keep Lsub.nil)))) (ih (v3 + 1) _ hf kx kr)
theorem ctX7_bedWith {g : GT} {ex : Bool} {sh : List Shp} (hx : MSh sh) (h : Hp) (p1 : Int32) (p2 : Int32) (r0 : Int32) (hf : M_bedWith h p1 p2 = some r0) : Ct g mX7_bedWith 1 0 0 ex [.ref (gB g + 140), .int p1, .int p2] sh h (PE (some (.int r0)) sh h) := by
  refine Ct.of (L := [some (.ref (gB g + 140)), some (.int p1), some (.int p2), none]) (by decide) (by intro w hw; simp only [List.mem_cons, List.not_mem_nil, or_false] at hw; rcases hw with rfl | rfl | rfl <;> rfl) (Nat.le_of_ble_eq_true rfl) rfl (fun X mx => ?_)
  have mx0 := mx
  obtain ⟨cx, hR, hml, hrt, -⟩ := mx0
  have cx : Cx g X RX7 cX7_bedWith := cx
  have hrt : X.2.2.2.2.2.2.2.1.sig.returnType = (some .int) := hrt
  have hi3 : 3 < X.2.2.2.2.2.2.2.2.maxLocals := by rw [hml]; exact Nat.le_of_ble_eq_true rfl
  unfold M_bedWith at hf
  refine PW.iconst (v := 0) cx qX7_bedWith_0 rfl ?_
  refine PW.istore_n (L' := [some (.ref (gB g + 140)), some (.int p1), some (.int p2), some (.int 0)]) cx qX7_bedWith_1 hi3 rfl rfl ?_
  obtain ⟨r3, er3, hf⟩ := bndO hf sne
  refine PW.locs (Lsub.keep (Lsub.keep (Lsub.keep (Lsub.keep Lsub.nil)))) (lX7_bedWith_2 mx hx h p1 p2 FU 0 r3 er3 (fun e => ?_) (fun y e => ?_))
  · subst e
    refine PW.iconst (v := (-1)) cx qX7_bedWith_29 rfl ?_
    exact PW.iret cx hrt qX7_bedWith_30 (le_ri hf)
  · subst e
    exact (le_ri hf)
theorem lX7_reelWith_2 {g : GT} {X : XT} {ex : Bool} {sh : List Shp} {post : Option Value → List Shp → Hp → Prop} (mx : Mx g X mX7_reelWith 2 0 0) (hx : MSh sh) (h : Hp) (c1 : Int32) : ∀ (n : Nat) (v2 : Int32) (r : (Unit) ⊕ (Int32)) (hf : M_reelWith_L2 h c1 n v2 = some r) (kx : r = .inl () → PW g X ex (QE g X ex post 0 0) 0 0 sh h 30 [some (.ref (gB g + 140)), some (.int c1), none] []) (kr : ∀ y : Int32, r = .inr y → post (some (.int y)) sh h), PW g X ex (QE g X ex post 0 0) 0 0 sh h 2 [some (.ref (gB g + 140)), some (.int c1), some (.int v2)] [] := by
  have mx0 := mx
  obtain ⟨cx, hR, hml, hrt, -⟩ := mx0
  have cx : Cx g X RX7 cX7_reelWith := cx
  have hrt : X.2.2.2.2.2.2.2.1.sig.returnType = (some .int) := hrt
  have hi2 : 2 < X.2.2.2.2.2.2.2.2.maxLocals := by rw [hml]; exact Nat.le_of_ble_eq_true rfl
  intro n
  induction n with
  | zero =>
    intro v2 r hf kx kr
    cases hf
  | succ n ih =>
    intro v2 r hf kx kr
    unfold M_reelWith_L2 at hf
    refine PW.iload_n cx qX7_reelWith_2 rfl ?_
    refine PW.aload_n cx qX7_reelWith_3 rfl ?_
    refine PW.getf (t := (2, 141)) (v := .ref (gB g + 141)) cx qX7_reelWith_4 (sh_140 hx) rfl flX7_7 rfl ?_
    refine PW.iconst (v := 3) cx qX7_reelWith_7 rfl ?_
    refine PW.iald cx qX7_reelWith_8 (sh_141 hx) hf sne (fun t1 hf => ?_)
    refine PW.icmp_ge cx qX7_reelWith_9 hf (fun hf => ?_) (fun hf => ?_)
    · exact PW.locs (Lsub.keep (Lsub.keep (Lsub.drop Lsub.nil))) (kx (Option.some.inj hf).symm)
    · refine PW.aload_n cx qX7_reelWith_12 rfl ?_
      refine PW.iload_n cx qX7_reelWith_13 rfl ?_
      refine PW.iload_n cx qX7_reelWith_14 rfl ?_
      refine PW.callVRI (As := [.int c1, .int v2]) (st := []) cx hR qX7_reelWith_15 klX7_105 mvX7_bedWith (sh_140 hx) rfl rfl rfl rfl (Nat.le_of_ble_eq_true rfl) (Nat.le_of_ble_eq_true rfl) (Nat.le_of_ble_eq_true rfl) (Nat.zero_le _) (Nat.zero_le _) hf sne (fun t e => ctX7_bedWith hx h c1 v2 t e) (fun t2 hf => ?_)
      refine PW.iconst (v := (-1)) cx qX7_reelWith_18 rfl ?_
      refine PW.icmp_eq cx qX7_reelWith_19 hf (fun hf => ?_) (fun hf => ?_)
      · refine PW.iinc (v := 1) (L' := [some (.ref (gB g + 140)), some (.int c1), some (.int (v2 + 1))]) cx qX7_reelWith_24 rfl rfl hi2 rfl rfl ?_
        refine PW.goto cx qX7_reelWith_27 ?_
        exact PW.locs (Lsub.keep (Lsub.keep (Lsub.keep Lsub.nil))) (ih (v2 + 1) _ hf kx kr)
      · refine PW.iload_n cx qX7_reelWith_22 rfl ?_
        exact PW.iret cx hrt qX7_reelWith_23 (kr _ (Option.some.inj hf).symm)
theorem ctX7_reelWith {g : GT} {ex : Bool} {sh : List Shp} (hx : MSh sh) (h : Hp) (p1 : Int32) (r0 : Int32) (hf : M_reelWith h p1 = some r0) : Ct g mX7_reelWith 2 0 0 ex [.ref (gB g + 140), .int p1] sh h (PE (some (.int r0)) sh h) := by
  refine Ct.of (L := [some (.ref (gB g + 140)), some (.int p1), none]) (by decide) (by intro w hw; simp only [List.mem_cons, List.not_mem_nil, or_false] at hw; rcases hw with rfl | rfl <;> rfl) (Nat.le_of_ble_eq_true rfl) rfl (fun X mx => ?_)
  have mx0 := mx
  obtain ⟨cx, hR, hml, hrt, -⟩ := mx0
  have cx : Cx g X RX7 cX7_reelWith := cx
  have hrt : X.2.2.2.2.2.2.2.1.sig.returnType = (some .int) := hrt
  have hi2 : 2 < X.2.2.2.2.2.2.2.2.maxLocals := by rw [hml]; exact Nat.le_of_ble_eq_true rfl
  unfold M_reelWith at hf
  refine PW.iconst (v := 0) cx qX7_reelWith_0 rfl ?_
  refine PW.istore_n (L' := [some (.ref (gB g + 140)), some (.int p1), some (.int 0)]) cx qX7_reelWith_1 hi2 rfl rfl ?_
  obtain ⟨r3, er3, hf⟩ := bndO hf sne
  refine PW.locs (Lsub.keep (Lsub.keep (Lsub.keep Lsub.nil))) (lX7_reelWith_2 mx hx h p1 FU 0 r3 er3 (fun e => ?_) (fun y e => ?_))
  · subst e
    refine PW.iconst (v := (-1)) cx qX7_reelWith_30 rfl ?_
    exact PW.iret cx hrt qX7_reelWith_31 (le_ri hf)
  · subst e
    exact (le_ri hf)
theorem lX7_sleepersIn_4 {g : GT} {X : XT} {ex : Bool} {sh : List Shp} {post : Option Value → List Shp → Hp → Prop} (mx : Mx g X mX7_sleepersIn 1 0 0) (hx : MSh sh) (h : Hp) (c1 : Int32) : ∀ (n : Nat) (v2 : Int32) (v3 : Int32) (r : Int32) (hf : M_sleepersIn_L4 h c1 n v2 v3 = some r) (kx : ∀ (x2 : Int32), r = x2 → PW g X ex (QE g X ex post 0 0) 0 0 sh h 43 [some (.ref (gB g + 140)), some (.int c1), some (.int x2), none] []), PW g X ex (QE g X ex post 0 0) 0 0 sh h 4 [some (.ref (gB g + 140)), some (.int c1), some (.int v2), some (.int v3)] [] := by
  have mx0 := mx
  obtain ⟨cx, hR, hml, hrt, -⟩ := mx0
  have cx : Cx g X RX7 cX7_sleepersIn := cx
  have hrt : X.2.2.2.2.2.2.2.1.sig.returnType = (some .int) := hrt
  have hi2 : 2 < X.2.2.2.2.2.2.2.2.maxLocals := by rw [hml]; exact Nat.le_of_ble_eq_true rfl
  have hi3 : 3 < X.2.2.2.2.2.2.2.2.maxLocals := by rw [hml]; exact Nat.le_of_ble_eq_true rfl
  intro n
  induction n with
  | zero =>
    intro v2 v3 r hf kx
    cases hf
  | succ n ih =>
    intro v2 v3 r hf kx
    unfold M_sleepersIn_L4 at hf
    refine PW.iload_n cx qX7_sleepersIn_4 rfl ?_
    refine PW.aload_n cx qX7_sleepersIn_5 rfl ?_
    refine PW.iload_n cx qX7_sleepersIn_6 rfl ?_
    refine PW.callVRI (As := [.int c1]) (st := [.int v3]) cx hR qX7_sleepersIn_7 klX7_92 mvX7_beds (sh_140 hx) rfl rfl rfl rfl (Nat.le_of_ble_eq_true rfl) (Nat.le_of_ble_eq_true rfl) (Nat.le_of_ble_eq_true rfl) (Nat.zero_le _) (Nat.zero_le _) hf sne (fun t e => ctX7_beds hx h c1 t e) (fun t1 hf => ?_)
    refine PW.icmp_ge cx qX7_sleepersIn_10 hf (fun hf => ?_) (fun hf => ?_)
    · exact PW.locs (Lsub.keep (Lsub.keep (Lsub.keep (Lsub.drop Lsub.nil)))) (kx v2 (Option.some.inj hf).symm)
    · refine PW.iload_n cx qX7_sleepersIn_13 rfl ?_
      refine PW.aload_n cx qX7_sleepersIn_14 rfl ?_
      refine PW.iload_n cx qX7_sleepersIn_15 rfl ?_
      refine PW.iload_n cx qX7_sleepersIn_16 rfl ?_
      refine PW.callVRI (As := [.int c1, .int v3]) (st := [.int v2]) cx hR qX7_sleepersIn_17 klX7_102 mvX7_inBed (sh_140 hx) rfl rfl rfl rfl (Nat.le_of_ble_eq_true rfl) (Nat.le_of_ble_eq_true rfl) (Nat.le_of_ble_eq_true rfl) (Nat.zero_le _) (Nat.zero_le _) hf sne (fun t e => ctX7_inBed hx h c1 v3 t e) (fun t2 hf => ?_)
      refine PW.if_lt cx qX7_sleepersIn_20 hf (fun hf => ?_) (fun hf => ?_)
      · refine PW.iconst (v := 0) cx qX7_sleepersIn_34 rfl ?_
        refine PW.ior cx qX7_sleepersIn_35 ?_
        refine PW.istore_n (L' := [some (.ref (gB g + 140)), some (.int c1), some (.int (v2 ||| 0)), some (.int v3)]) cx qX7_sleepersIn_36 hi2 rfl rfl ?_
        refine PW.iinc (v := 1) (L' := [some (.ref (gB g + 140)), some (.int c1), some (.int (v2 ||| 0)), some (.int (v3 + 1))]) cx qX7_sleepersIn_37 rfl rfl hi3 rfl rfl ?_
        refine PW.goto cx qX7_sleepersIn_40 ?_
        exact PW.locs (Lsub.keep (Lsub.keep (Lsub.keep (Lsub.keep Lsub.nil)))) (ih (v2 ||| 0) (v3 + 1) _ hf kx)
      · refine PW.iconst (v := 1) cx qX7_sleepersIn_23 rfl ?_
        refine PW.aload_n cx qX7_sleepersIn_24 rfl ?_
        refine PW.iload_n cx qX7_sleepersIn_25 rfl ?_
        refine PW.iload_n cx qX7_sleepersIn_26 rfl ?_
        refine PW.callVRI (As := [.int c1, .int v3]) (st := [.int 1, .int v2]) cx hR qX7_sleepersIn_27 klX7_102 mvX7_inBed (sh_140 hx) rfl rfl rfl rfl (Nat.le_of_ble_eq_true rfl) (Nat.le_of_ble_eq_true rfl) (Nat.le_of_ble_eq_true rfl) (Nat.zero_le _) (Nat.zero_le _) hf sne (fun t e => ctX7_inBed hx h c1 v3 t e) (fun t3 hf => ?_)
        refine PW.ishl cx qX7_sleepersIn_30 ?_
        refine PW.goto cx qX7_sleepersIn_31 ?_
        refine PW.ior cx qX7_sleepersIn_35 ?_
        refine PW.istore_n (L' := [some (.ref (gB g + 140)), some (.int c1), some (.int (v2 ||| (1 <<< (t3 &&& 31)))), some (.int v3)]) cx qX7_sleepersIn_36 hi2 rfl rfl ?_
        refine PW.iinc (v := 1) (L' := [some (.ref (gB g + 140)), some (.int c1), some (.int (v2 ||| (1 <<< (t3 &&& 31)))), some (.int (v3 + 1))]) cx qX7_sleepersIn_37 rfl rfl hi3 rfl rfl ?_
        refine PW.goto cx qX7_sleepersIn_40 ?_
        exact PW.locs (Lsub.keep (Lsub.keep (Lsub.keep (Lsub.keep Lsub.nil)))) (ih (v2 ||| (1 <<< (t3 &&& 31))) (v3 + 1) _ hf kx)
theorem ctX7_sleepersIn {g : GT} {ex : Bool} {sh : List Shp} (hx : MSh sh) (h : Hp) (p1 : Int32) (r0 : Int32) (hf : M_sleepersIn h p1 = some r0) : Ct g mX7_sleepersIn 1 0 0 ex [.ref (gB g + 140), .int p1] sh h (PE (some (.int r0)) sh h) := by
  refine Ct.of (L := [some (.ref (gB g + 140)), some (.int p1), none, none]) (by decide) (by intro w hw; simp only [List.mem_cons, List.not_mem_nil, or_false] at hw; rcases hw with rfl | rfl <;> rfl) (Nat.le_of_ble_eq_true rfl) rfl (fun X mx => ?_)
  have mx0 := mx
  obtain ⟨cx, hR, hml, hrt, -⟩ := mx0
  have cx : Cx g X RX7 cX7_sleepersIn := cx
  have hrt : X.2.2.2.2.2.2.2.1.sig.returnType = (some .int) := hrt
  have hi2 : 2 < X.2.2.2.2.2.2.2.2.maxLocals := by rw [hml]; exact Nat.le_of_ble_eq_true rfl
  have hi3 : 3 < X.2.2.2.2.2.2.2.2.maxLocals := by rw [hml]; exact Nat.le_of_ble_eq_true rfl
  unfold M_sleepersIn at hf
  refine PW.iconst (v := 0) cx qX7_sleepersIn_0 rfl ?_
  refine PW.istore_n (L' := [some (.ref (gB g + 140)), some (.int p1), some (.int 0), none]) cx qX7_sleepersIn_1 hi2 rfl rfl ?_
  refine PW.iconst (v := 0) cx qX7_sleepersIn_2 rfl ?_
  refine PW.istore_n (L' := [some (.ref (gB g + 140)), some (.int p1), some (.int 0), some (.int 0)]) cx qX7_sleepersIn_3 hi3 rfl rfl ?_
  obtain ⟨r4, er4, hf⟩ := bndO hf sne
  refine PW.locs (Lsub.keep (Lsub.keep (Lsub.keep (Lsub.keep Lsub.nil)))) (lX7_sleepersIn_4 mx hx h p1 FU 0 0 r4 er4 (fun xx_ e => ?_))
  subst e
  refine PW.iload_n cx qX7_sleepersIn_43 rfl ?_
  exact PW.iret cx hrt qX7_sleepersIn_44 (le_ri hf)
theorem ctX7_whyStaysUp {g : GT} {ex : Bool} {sh : List Shp} (hx : MSh sh) (h : Hp) (p1 : Int32) (p2 : Int32) (r0 : Int32) (hf : M_whyStaysUp h p1 p2 = some r0) : Ct g mX7_whyStaysUp 6 0 0 ex [.ref (gB g + 140), .int p1, .int p2] sh h (PE (some (.int r0)) sh h) := by
  refine Ct.of (L := [some (.ref (gB g + 140)), some (.int p1), some (.int p2)]) (by decide) (by intro w hw; simp only [List.mem_cons, List.not_mem_nil, or_false] at hw; rcases hw with rfl | rfl | rfl <;> rfl) (Nat.le_of_ble_eq_true rfl) rfl (fun X mx => ?_)
  obtain ⟨cx, hR, hml, hrt, -⟩ := mx
  have cx : Cx g X RX7 cX7_whyStaysUp := cx
  have hrt : X.2.2.2.2.2.2.2.1.sig.returnType = (some .int) := hrt
  unfold M_whyStaysUp at hf
  refine PW.aload_n cx qX7_whyStaysUp_0 rfl ?_
  refine PW.iload_n cx qX7_whyStaysUp_1 rfl ?_
  refine PW.iconst (v := 1) cx qX7_whyStaysUp_2 rfl ?_
  refine PW.callVRI (As := [.int p1, .int 1]) (st := []) cx hR qX7_whyStaysUp_3 klX7_70 mvX7_of (sh_140 hx) rfl rfl rfl rfl (Nat.le_of_ble_eq_true rfl) (Nat.le_of_ble_eq_true rfl) (Nat.le_of_ble_eq_true rfl) (Nat.zero_le _) (Nat.zero_le _) hf sne (fun t e => ctX7_of hx h p1 1 t e) (fun t1 hf => ?_)
  refine PW.if_eq cx qX7_whyStaysUp_6 hf (fun hf => ?_) (fun hf => ?_)
  · refine PW.aload_n cx qX7_whyStaysUp_11 rfl ?_
    refine PW.iload_n cx qX7_whyStaysUp_12 rfl ?_
    refine PW.iconst (v := 2) cx qX7_whyStaysUp_13 rfl ?_
    refine PW.callVRI (As := [.int p1, .int 2]) (st := []) cx hR qX7_whyStaysUp_14 klX7_70 mvX7_of (sh_140 hx) rfl rfl rfl rfl (Nat.le_of_ble_eq_true rfl) (Nat.le_of_ble_eq_true rfl) (Nat.le_of_ble_eq_true rfl) (Nat.zero_le _) (Nat.zero_le _) hf sne (fun t e => ctX7_of hx h p1 2 t e) (fun t2 hf => ?_)
    refine PW.bipush (v := 10) cx qX7_whyStaysUp_17 rfl ?_
    refine PW.icmp_ge cx qX7_whyStaysUp_19 hf (fun hf => ?_) (fun hf => ?_)
    · refine PW.aload_n cx qX7_whyStaysUp_24 rfl ?_
      refine PW.iload_n cx qX7_whyStaysUp_25 rfl ?_
      refine PW.iload_n cx qX7_whyStaysUp_26 rfl ?_
      refine PW.callVRI (As := [.int p1, .int p2]) (st := []) cx hR qX7_whyStaysUp_27 klX7_108 mvX7_passedBy (sh_140 hx) rfl rfl rfl rfl (Nat.le_of_ble_eq_true rfl) (Nat.le_of_ble_eq_true rfl) (Nat.le_of_ble_eq_true rfl) (Nat.zero_le _) (Nat.zero_le _) hf sne (fun t e => ctX7_passedBy hx h p1 p2 t e) (fun t3 hf => ?_)
      refine PW.iconst (v := (-1)) cx qX7_whyStaysUp_30 rfl ?_
      refine PW.icmp_ne cx qX7_whyStaysUp_31 hf (fun hf => ?_) (fun hf => ?_)
      · refine PW.iconst (v := 3) cx qX7_whyStaysUp_34 rfl ?_
        refine PW.goto cx qX7_whyStaysUp_35 ?_
        exact PW.iret cx hrt qX7_whyStaysUp_39 (le_ri hf)
      · refine PW.iconst (v := 0) cx qX7_whyStaysUp_38 rfl ?_
        exact PW.iret cx hrt qX7_whyStaysUp_39 (le_ri hf)
    · refine PW.iconst (v := 2) cx qX7_whyStaysUp_22 rfl ?_
      exact PW.iret cx hrt qX7_whyStaysUp_23 (le_ri hf)
  · refine PW.iconst (v := 1) cx qX7_whyStaysUp_9 rfl ?_
    exact PW.iret cx hrt qX7_whyStaysUp_10 (le_ri hf)
theorem lX7_looksTogether_11 {g : GT} {X : XT} {ex : Bool} {sh : List Shp} {post : Option Value → List Shp → Hp → Prop} (mx : Mx g X mX7_looksTogether 6 0 0) (hx : MSh sh) (h : Hp) (c1 : Int32) (c3 : Int32) : ∀ (n : Nat) (v2 : Int32) (v4 : Int32) (r : Int32) (hf : M_looksTogether_L11 h c1 c3 n v2 v4 = some r) (kx : ∀ (x2 : Int32), r = x2 → PW g X ex (QE g X ex post 0 0) 0 0 sh h 52 [some (.ref (gB g + 140)), some (.int c1), some (.int x2), some (.int c3), none] []), PW g X ex (QE g X ex post 0 0) 0 0 sh h 11 [some (.ref (gB g + 140)), some (.int c1), some (.int v2), some (.int c3), some (.int v4)] [] := by
  have mx0 := mx
  obtain ⟨cx, hR, hml, hrt, -⟩ := mx0
  have cx : Cx g X RX7 cX7_looksTogether := cx
  have hrt : X.2.2.2.2.2.2.2.1.sig.returnType = (some .int) := hrt
  have hi2 : 2 < X.2.2.2.2.2.2.2.2.maxLocals := by rw [hml]; exact Nat.le_of_ble_eq_true rfl
  have hi3 : 3 < X.2.2.2.2.2.2.2.2.maxLocals := by rw [hml]; exact Nat.le_of_ble_eq_true rfl
  have hi4 : 4 < X.2.2.2.2.2.2.2.2.maxLocals := by rw [hml]; exact Nat.le_of_ble_eq_true rfl
  intro n
  induction n with
  | zero =>
    intro v2 v4 r hf kx
    cases hf
  | succ n ih =>
    intro v2 v4 r hf kx
    unfold M_looksTogether_L11 at hf
    refine PW.iload cx qX7_looksTogether_11 rfl ?_
    refine PW.aload_n cx qX7_looksTogether_13 rfl ?_
    refine PW.getf (t := (2, 141)) (v := .ref (gB g + 141)) cx qX7_looksTogether_14 (sh_140 hx) rfl flX7_7 rfl ?_
    refine PW.iconst (v := 2) cx qX7_looksTogether_17 rfl ?_
    refine PW.iald cx qX7_looksTogether_18 (sh_141 hx) hf sne (fun t2 hf => ?_)
    refine PW.icmp_ge cx qX7_looksTogether_19 hf (fun hf => ?_) (fun hf => ?_)
    · exact PW.locs (Lsub.keep (Lsub.keep (Lsub.keep (Lsub.keep (Lsub.drop Lsub.nil))))) (kx v2 (Option.some.inj hf).symm)
    · refine PW.iload_n cx qX7_looksTogether_22 rfl ?_
      refine PW.iload_n cx qX7_looksTogether_23 rfl ?_
      refine PW.iload cx qX7_looksTogether_24 rfl ?_
      refine PW.ishr cx qX7_looksTogether_26 ?_
      refine PW.iconst (v := 1) cx qX7_looksTogether_27 rfl ?_
      refine PW.iand cx qX7_looksTogether_28 ?_
      refine PW.iconst (v := 1) cx qX7_looksTogether_29 rfl ?_
      refine PW.icmp_ne cx qX7_looksTogether_30 hf (fun hf => ?_) (fun hf => ?_)
      · refine PW.aload_n cx qX7_looksTogether_33 rfl ?_
        refine PW.iload cx qX7_looksTogether_34 rfl ?_
        refine PW.iload_n cx qX7_looksTogether_36 rfl ?_
        refine PW.callVRI (As := [.int v4, .int c1]) (st := [.int v2]) cx hR qX7_looksTogether_37 klX7_114 mvX7_looks (sh_140 hx) rfl rfl rfl rfl (Nat.le_of_ble_eq_true rfl) (Nat.le_of_ble_eq_true rfl) (Nat.le_of_ble_eq_true rfl) (Nat.zero_le _) (Nat.zero_le _) hf sne (fun t e => ctX7_looks hx h v4 c1 t e) (fun t3 hf => ?_)
        refine PW.goto cx qX7_looksTogether_40 ?_
        refine PW.iadd cx qX7_looksTogether_44 ?_
        refine PW.istore_n (L' := [some (.ref (gB g + 140)), some (.int c1), some (.int (v2 + t3)), some (.int c3), some (.int v4)]) cx qX7_looksTogether_45 hi2 rfl rfl ?_
        refine PW.iinc (v := 1) (L' := [some (.ref (gB g + 140)), some (.int c1), some (.int (v2 + t3)), some (.int c3), some (.int (v4 + 1))]) cx qX7_looksTogether_46 rfl rfl hi4 rfl rfl ?_
        refine PW.goto cx qX7_looksTogether_49 ?_
        exact PW.locs (Lsub.keep (Lsub.keep (Lsub.keep (Lsub.keep (Lsub.keep Lsub.nil))))) (ih (v2 + t3) (v4 + 1) _ hf kx)
      · refine PW.iconst (v := 0) cx qX7_looksTogether_43 rfl ?_
        refine PW.iadd cx qX7_looksTogether_44 ?_
        refine PW.istore_n (L' := [some (.ref (gB g + 140)), some (.int c1), some (.int (v2 + 0)), some (.int c3), some (.int v4)]) cx qX7_looksTogether_45 hi2 rfl rfl ?_
        refine PW.iinc (v := 1) (L' := [some (.ref (gB g + 140)), some (.int c1), some (.int (v2 + 0)), some (.int c3), some (.int (v4 + 1))]) cx qX7_looksTogether_46 rfl rfl hi4 rfl rfl ?_
        refine PW.goto cx qX7_looksTogether_49 ?_
        exact PW.locs (Lsub.keep (Lsub.keep (Lsub.keep (Lsub.keep (Lsub.keep Lsub.nil))))) (ih (v2 + 0) (v4 + 1) _ hf kx)
theorem ctX7_looksTogether {g : GT} {ex : Bool} {sh : List Shp} (hx : MSh sh) (h : Hp) (p1 : Int32) (r0 : Int32) (hf : M_looksTogether h p1 = some r0) : Ct g mX7_looksTogether 6 0 0 ex [.ref (gB g + 140), .int p1] sh h (PE (some (.int r0)) sh h) := by
  refine Ct.of (L := [some (.ref (gB g + 140)), some (.int p1), none, none, none]) (by decide) (by intro w hw; simp only [List.mem_cons, List.not_mem_nil, or_false] at hw; rcases hw with rfl | rfl <;> rfl) (Nat.le_of_ble_eq_true rfl) rfl (fun X mx => ?_)
  have mx0 := mx
  obtain ⟨cx, hR, hml, hrt, -⟩ := mx0
  have cx : Cx g X RX7 cX7_looksTogether := cx
  have hrt : X.2.2.2.2.2.2.2.1.sig.returnType = (some .int) := hrt
  have hi2 : 2 < X.2.2.2.2.2.2.2.2.maxLocals := by rw [hml]; exact Nat.le_of_ble_eq_true rfl
  have hi3 : 3 < X.2.2.2.2.2.2.2.2.maxLocals := by rw [hml]; exact Nat.le_of_ble_eq_true rfl
  have hi4 : 4 < X.2.2.2.2.2.2.2.2.maxLocals := by rw [hml]; exact Nat.le_of_ble_eq_true rfl
  unfold M_looksTogether at hf
  refine PW.iconst (v := 0) cx qX7_looksTogether_0 rfl ?_
  refine PW.istore_n (L' := [some (.ref (gB g + 140)), some (.int p1), some (.int 0), none, none]) cx qX7_looksTogether_1 hi2 rfl rfl ?_
  refine PW.aload_n cx qX7_looksTogether_2 rfl ?_
  refine PW.iload_n cx qX7_looksTogether_3 rfl ?_
  refine PW.callVRI (As := [.int p1]) (st := []) cx hR qX7_looksTogether_4 klX7_111 mvX7_sleepersIn (sh_140 hx) rfl rfl rfl rfl (Nat.le_of_ble_eq_true rfl) (Nat.le_of_ble_eq_true rfl) (Nat.le_of_ble_eq_true rfl) (Nat.zero_le _) (Nat.zero_le _) hf sne (fun t e => ctX7_sleepersIn hx h p1 t e) (fun t1 hf => ?_)
  refine PW.istore_n (L' := [some (.ref (gB g + 140)), some (.int p1), some (.int 0), some (.int t1), none]) cx qX7_looksTogether_7 hi3 rfl rfl ?_
  refine PW.iconst (v := 0) cx qX7_looksTogether_8 rfl ?_
  refine PW.istore (L' := [some (.ref (gB g + 140)), some (.int p1), some (.int 0), some (.int t1), some (.int 0)]) cx qX7_looksTogether_9 hi4 rfl rfl ?_
  obtain ⟨r4, er4, hf⟩ := bndO hf sne
  refine PW.locs (Lsub.keep (Lsub.keep (Lsub.keep (Lsub.keep (Lsub.keep Lsub.nil))))) (lX7_looksTogether_11 mx hx h p1 t1 FU 0 0 r4 er4 (fun xx_ e => ?_))
  subst e
  refine PW.iload_n cx qX7_looksTogether_52 rfl ?_
  exact PW.iret cx hrt qX7_looksTogether_53 (le_ri hf)
theorem ctX7_adds {g : GT} {ex : Bool} {sh : List Shp} (hx : MSh sh) (h : Hp) (p1 : Int32) (r0 : Int32 × Hp) (hf : M_adds h p1 = some r0) : Ct g mX7_adds 1 0 0 ex [.ref (gB g + 140), .int p1] sh h (PE (some (.int r0.1)) sh r0.2) := by
  refine Ct.of (L := [some (.ref (gB g + 140)), some (.int p1), none]) (by decide) (by intro w hw; simp only [List.mem_cons, List.not_mem_nil, or_false] at hw; rcases hw with rfl | rfl <;> rfl) (Nat.le_of_ble_eq_true rfl) rfl (fun X mx => ?_)
  obtain ⟨cx, hR, hml, hrt, -⟩ := mx
  have cx : Cx g X RX7 cX7_adds := cx
  have hrt : X.2.2.2.2.2.2.2.1.sig.returnType = (some .int) := hrt
  have hi2 : 2 < X.2.2.2.2.2.2.2.2.maxLocals := by rw [hml]; exact Nat.le_of_ble_eq_true rfl
  unfold M_adds at hf
  refine PW.aload_n cx qX7_adds_0 rfl ?_
  refine PW.getf (t := (2, 141)) (v := .ref (gB g + 141)) cx qX7_adds_1 (sh_140 hx) rfl flX7_7 rfl ?_
  refine PW.iconst (v := 2) cx qX7_adds_4 rfl ?_
  refine PW.iald cx qX7_adds_5 (sh_141 hx) hf sne (fun t1 hf => ?_)
  refine PW.istore_n (L' := [some (.ref (gB g + 140)), some (.int p1), some (.int t1)]) cx qX7_adds_6 hi2 rfl rfl ?_
  refine PW.aload_n cx qX7_adds_7 rfl ?_
  refine PW.getf (t := (2, 141)) (v := .ref (gB g + 141)) cx qX7_adds_8 (sh_140 hx) rfl flX7_7 rfl ?_
  refine PW.iconst (v := 2) cx qX7_adds_11 rfl ?_
  refine PW.dup2 cx qX7_adds_12 rfl rfl ?_
  refine PW.iald cx qX7_adds_13 (sh_141 hx) hf sne (fun t2 hf => ?_)
  refine PW.iconst (v := 1) cx qX7_adds_14 rfl ?_
  refine PW.iadd cx qX7_adds_15 ?_
  refine PW.iast cx qX7_adds_16 (sh_141 hx) hf sne (fun h3 hf => ?_)
  refine PW.aload_n cx qX7_adds_17 rfl ?_
  refine PW.iload_n cx qX7_adds_18 rfl ?_
  refine PW.iconst (v := 0) cx qX7_adds_19 rfl ?_
  refine PW.iload_n cx qX7_adds_20 rfl ?_
  refine PW.callVWV (As := [.int t1, .int 0, .int p1]) (st := []) cx hR qX7_adds_21 klX7_117 mvX7_to (sh_140 hx) rfl rfl rfl rfl (Nat.le_of_ble_eq_true rfl) (Nat.le_of_ble_eq_true rfl) (Nat.le_of_ble_eq_true rfl) (Nat.zero_le _) (Nat.zero_le _) hf sne (fun t e => ctX7_to hx h3 t1 0 p1 t e) (fun h5 hf => ?_)
  refine PW.aload_n cx qX7_adds_24 rfl ?_
  refine PW.iload_n cx qX7_adds_25 rfl ?_
  refine PW.iconst (v := 1) cx qX7_adds_26 rfl ?_
  refine PW.iconst (v := 0) cx qX7_adds_27 rfl ?_
  refine PW.callVWV (As := [.int t1, .int 1, .int 0]) (st := []) cx hR qX7_adds_28 klX7_117 mvX7_to (sh_140 hx) rfl rfl rfl rfl (Nat.le_of_ble_eq_true rfl) (Nat.le_of_ble_eq_true rfl) (Nat.le_of_ble_eq_true rfl) (Nat.zero_le _) (Nat.zero_le _) hf sne (fun t e => ctX7_to hx h5 t1 1 0 t e) (fun h7 hf => ?_)
  refine PW.aload_n cx qX7_adds_31 rfl ?_
  refine PW.iload_n cx qX7_adds_32 rfl ?_
  refine PW.iconst (v := 2) cx qX7_adds_33 rfl ?_
  refine PW.bipush (v := 40) cx qX7_adds_34 rfl ?_
  refine PW.callVWV (As := [.int t1, .int 2, .int 40]) (st := []) cx hR qX7_adds_36 klX7_117 mvX7_to (sh_140 hx) rfl rfl rfl rfl (Nat.le_of_ble_eq_true rfl) (Nat.le_of_ble_eq_true rfl) (Nat.le_of_ble_eq_true rfl) (Nat.zero_le _) (Nat.zero_le _) hf sne (fun t e => ctX7_to hx h7 t1 2 40 t e) (fun h9 hf => ?_)
  refine PW.aload_n cx qX7_adds_39 rfl ?_
  refine PW.iload_n cx qX7_adds_40 rfl ?_
  refine PW.iconst (v := 3) cx qX7_adds_41 rfl ?_
  refine PW.iconst (v := (-1)) cx qX7_adds_42 rfl ?_
  refine PW.callVWV (As := [.int t1, .int 3, .int (-1)]) (st := []) cx hR qX7_adds_43 klX7_117 mvX7_to (sh_140 hx) rfl rfl rfl rfl (Nat.le_of_ble_eq_true rfl) (Nat.le_of_ble_eq_true rfl) (Nat.le_of_ble_eq_true rfl) (Nat.zero_le _) (Nat.zero_le _) hf sne (fun t e => ctX7_to hx h9 t1 3 (-1) t e) (fun h11 hf => ?_)
  refine PW.iload_n cx qX7_adds_46 rfl ?_
  exact PW.iret cx hrt qX7_adds_47 (le_wi hf)
theorem lX7_hangs_29 {g : GT} {X : XT} {ex : Bool} {sh : List Shp} {post : Option Value → List Shp → Hp → Prop} (mx : Mx g X mX7_hangs 1 0 0) (hx : MSh sh) (c1 : Int32) (c2 : Int32) : ∀ (n : Nat) (v3 : Int32) (h : Hp) (r : Hp) (hf : M_hangs_L29 c1 c2 n v3 h = some r) (kx : ∀ (h1 : Hp), r = h1 → PW g X ex (QE g X ex post 0 0) 0 0 sh h1 47 [some (.ref (gB g + 140)), some (.int c1), some (.int c2), none] []), PW g X ex (QE g X ex post 0 0) 0 0 sh h 29 [some (.ref (gB g + 140)), some (.int c1), some (.int c2), some (.int v3)] [] := by
  have mx0 := mx
  obtain ⟨cx, hR, hml, hrt, -⟩ := mx0
  have cx : Cx g X RX7 cX7_hangs := cx
  have hrt : X.2.2.2.2.2.2.2.1.sig.returnType = (some .int) := hrt
  have hi2 : 2 < X.2.2.2.2.2.2.2.2.maxLocals := by rw [hml]; exact Nat.le_of_ble_eq_true rfl
  have hi3 : 3 < X.2.2.2.2.2.2.2.2.maxLocals := by rw [hml]; exact Nat.le_of_ble_eq_true rfl
  intro n
  induction n with
  | zero =>
    intro v3 h r hf kx
    cases hf
  | succ n ih =>
    intro v3 h r hf kx
    unfold M_hangs_L29 at hf
    refine PW.iload_n cx qX7_hangs_29 rfl ?_
    refine PW.iload_n cx qX7_hangs_30 rfl ?_
    refine PW.icmp_ge cx qX7_hangs_31 hf (fun hf => ?_) (fun hf => ?_)
    · exact PW.locs (Lsub.keep (Lsub.keep (Lsub.keep (Lsub.drop Lsub.nil)))) (kx h (Option.some.inj hf).symm)
    · refine PW.aload_n cx qX7_hangs_34 rfl ?_
      refine PW.iload_n cx qX7_hangs_35 rfl ?_
      refine PW.iload_n cx qX7_hangs_36 rfl ?_
      refine PW.iconst (v := (-1)) cx qX7_hangs_37 rfl ?_
      refine PW.callVWV (As := [.int c2, .int v3, .int (-1)]) (st := []) cx hR qX7_hangs_38 klX7_121 mvX7_setBed (sh_140 hx) rfl rfl rfl rfl (Nat.le_of_ble_eq_true rfl) (Nat.le_of_ble_eq_true rfl) (Nat.le_of_ble_eq_true rfl) (Nat.zero_le _) (Nat.zero_le _) hf sne (fun t e => ctX7_setBed hx h c2 v3 (-1) t e) (fun h6 hf => ?_)
      refine PW.iinc (v := 1) (L' := [some (.ref (gB g + 140)), some (.int c1), some (.int c2), some (.int (v3 + 1))]) cx qX7_hangs_41 rfl rfl hi3 rfl rfl ?_
      refine PW.goto cx qX7_hangs_44 ?_
      exact PW.locs (Lsub.keep (Lsub.keep (Lsub.keep (Lsub.keep Lsub.nil)))) (ih (v3 + 1) h6 _ hf kx)
theorem ctX7_hangs {g : GT} {ex : Bool} {sh : List Shp} (hx : MSh sh) (h : Hp) (p1 : Int32) (r0 : Int32 × Hp) (hf : M_hangs h p1 = some r0) : Ct g mX7_hangs 1 0 0 ex [.ref (gB g + 140), .int p1] sh h (PE (some (.int r0.1)) sh r0.2) := by
  refine Ct.of (L := [some (.ref (gB g + 140)), some (.int p1), none, none]) (by decide) (by intro w hw; simp only [List.mem_cons, List.not_mem_nil, or_false] at hw; rcases hw with rfl | rfl <;> rfl) (Nat.le_of_ble_eq_true rfl) rfl (fun X mx => ?_)
  have mx0 := mx
  obtain ⟨cx, hR, hml, hrt, -⟩ := mx0
  have cx : Cx g X RX7 cX7_hangs := cx
  have hrt : X.2.2.2.2.2.2.2.1.sig.returnType = (some .int) := hrt
  have hi2 : 2 < X.2.2.2.2.2.2.2.2.maxLocals := by rw [hml]; exact Nat.le_of_ble_eq_true rfl
  have hi3 : 3 < X.2.2.2.2.2.2.2.2.maxLocals := by rw [hml]; exact Nat.le_of_ble_eq_true rfl
  unfold M_hangs at hf
  refine PW.aload_n cx qX7_hangs_0 rfl ?_
  refine PW.getf (t := (2, 141)) (v := .ref (gB g + 141)) cx qX7_hangs_1 (sh_140 hx) rfl flX7_7 rfl ?_
  refine PW.iconst (v := 3) cx qX7_hangs_4 rfl ?_
  refine PW.iald cx qX7_hangs_5 (sh_141 hx) hf sne (fun t1 hf => ?_)
  refine PW.istore_n (L' := [some (.ref (gB g + 140)), some (.int p1), some (.int t1), none]) cx qX7_hangs_6 hi2 rfl rfl ?_
  refine PW.aload_n cx qX7_hangs_7 rfl ?_
  refine PW.getf (t := (2, 141)) (v := .ref (gB g + 141)) cx qX7_hangs_8 (sh_140 hx) rfl flX7_7 rfl ?_
  refine PW.iconst (v := 3) cx qX7_hangs_11 rfl ?_
  refine PW.dup2 cx qX7_hangs_12 rfl rfl ?_
  refine PW.iald cx qX7_hangs_13 (sh_141 hx) hf sne (fun t2 hf => ?_)
  refine PW.iconst (v := 1) cx qX7_hangs_14 rfl ?_
  refine PW.iadd cx qX7_hangs_15 ?_
  refine PW.iast cx qX7_hangs_16 (sh_141 hx) hf sne (fun h3 hf => ?_)
  refine PW.aload_n cx qX7_hangs_17 rfl ?_
  refine PW.getf (t := (2, 141)) (v := .ref (gB g + 141)) cx qX7_hangs_18 (sh_140 hx) rfl flX7_7 rfl ?_
  refine PW.bipush (v := 56) cx qX7_hangs_21 rfl ?_
  refine PW.iload_n cx qX7_hangs_23 rfl ?_
  refine PW.iadd cx qX7_hangs_24 ?_
  refine PW.iload_n cx qX7_hangs_25 rfl ?_
  refine PW.iast cx qX7_hangs_26 (sh_141 hx) hf sne (fun h4 hf => ?_)
  refine PW.iconst (v := 0) cx qX7_hangs_27 rfl ?_
  refine PW.istore_n (L' := [some (.ref (gB g + 140)), some (.int p1), some (.int t1), some (.int 0)]) cx qX7_hangs_28 hi3 rfl rfl ?_
  obtain ⟨r7, er7, hf⟩ := bndO hf sne
  refine PW.locs (Lsub.keep (Lsub.keep (Lsub.keep (Lsub.keep Lsub.nil)))) (lX7_hangs_29 mx hx p1 t1 FU 0 h4 r7 er7 (fun xx_ e => ?_))
  subst e
  refine PW.iload_n cx qX7_hangs_47 rfl ?_
  exact PW.iret cx hrt qX7_hangs_48 (le_wi hf)
theorem ctX7_opens {g : GT} {ex : Bool} {sh : List Shp} (hx : MSh sh) (h : Hp) (p1 : Int32) (r0 : Int32 × Hp) (hf : M_opens h p1 = some r0) : Ct g mX7_opens 0 0 0 ex [.ref (gB g + 140), .int p1] sh h (PE (some (.int r0.1)) sh r0.2) := by
  refine Ct.of (L := [some (.ref (gB g + 140)), some (.int p1), none]) (by decide) (by intro w hw; simp only [List.mem_cons, List.not_mem_nil, or_false] at hw; rcases hw with rfl | rfl <;> rfl) (Nat.le_of_ble_eq_true rfl) rfl (fun X mx => ?_)
  obtain ⟨cx, hR, hml, hrt, -⟩ := mx
  have cx : Cx g X RX7 cX7_opens := cx
  have hrt : X.2.2.2.2.2.2.2.1.sig.returnType = (some .int) := hrt
  have hi2 : 2 < X.2.2.2.2.2.2.2.2.maxLocals := by rw [hml]; exact Nat.le_of_ble_eq_true rfl
  unfold M_opens at hf
  refine PW.bipush (v := 96) cx qX7_opens_0 rfl ?_
  refine PW.iconst (v := 2) cx qX7_opens_2 rfl ?_
  refine PW.aload_n cx qX7_opens_3 rfl ?_
  refine PW.getf (t := (2, 141)) (v := .ref (gB g + 141)) cx qX7_opens_4 (sh_140 hx) rfl flX7_7 rfl ?_
  refine PW.iconst (v := 4) cx qX7_opens_7 rfl ?_
  refine PW.iald cx qX7_opens_8 (sh_141 hx) hf sne (fun t1 hf => ?_)
  refine PW.imul cx qX7_opens_9 ?_
  refine PW.iadd cx qX7_opens_10 ?_
  refine PW.istore_n (L' := [some (.ref (gB g + 140)), some (.int p1), some (.int (96 + (2 * t1)))]) cx qX7_opens_11 hi2 rfl rfl ?_
  refine PW.aload_n cx qX7_opens_12 rfl ?_
  refine PW.getf (t := (2, 141)) (v := .ref (gB g + 141)) cx qX7_opens_13 (sh_140 hx) rfl flX7_7 rfl ?_
  refine PW.iload_n cx qX7_opens_16 rfl ?_
  refine PW.iconst (v := 0) cx qX7_opens_17 rfl ?_
  refine PW.iadd cx qX7_opens_18 ?_
  refine PW.iload_n cx qX7_opens_19 rfl ?_
  refine PW.iast cx qX7_opens_20 (sh_141 hx) hf sne (fun h2 hf => ?_)
  refine PW.aload_n cx qX7_opens_21 rfl ?_
  refine PW.getf (t := (2, 141)) (v := .ref (gB g + 141)) cx qX7_opens_22 (sh_140 hx) rfl flX7_7 rfl ?_
  refine PW.iload_n cx qX7_opens_25 rfl ?_
  refine PW.iconst (v := 1) cx qX7_opens_26 rfl ?_
  refine PW.iadd cx qX7_opens_27 ?_
  refine PW.iload_n cx qX7_opens_28 rfl ?_
  refine PW.iast cx qX7_opens_29 (sh_141 hx) hf sne (fun h3 hf => ?_)
  refine PW.aload_n cx qX7_opens_30 rfl ?_
  refine PW.getf (t := (2, 141)) (v := .ref (gB g + 141)) cx qX7_opens_31 (sh_140 hx) rfl flX7_7 rfl ?_
  refine PW.iconst (v := 4) cx qX7_opens_34 rfl ?_
  refine PW.dup2 cx qX7_opens_35 rfl rfl ?_
  refine PW.iald cx qX7_opens_36 (sh_141 hx) hf sne (fun t4 hf => ?_)
  refine PW.iconst (v := 1) cx qX7_opens_37 rfl ?_
  refine PW.iadd cx qX7_opens_38 ?_
  refine PW.iast cx qX7_opens_39 (sh_141 hx) hf sne (fun h5 hf => ?_)
  refine PW.aload_n cx qX7_opens_40 rfl ?_
  refine PW.getf (t := (2, 141)) (v := .ref (gB g + 141)) cx qX7_opens_41 (sh_140 hx) rfl flX7_7 rfl ?_
  refine PW.iconst (v := 4) cx qX7_opens_44 rfl ?_
  refine PW.iald cx qX7_opens_45 (sh_141 hx) hf sne (fun t6 hf => ?_)
  refine PW.iconst (v := 1) cx qX7_opens_46 rfl ?_
  refine PW.isub cx qX7_opens_47 ?_
  exact PW.iret cx hrt qX7_opens_48 (le_wi hf)
theorem ctX7_liesDown {g : GT} {ex : Bool} {sh : List Shp} (hx : MSh sh) (h : Hp) (p1 : Int32) (p2 : Int32) (r0 : Int32 × Hp) (hf : M_liesDown h p1 p2 = some r0) : Ct g mX7_liesDown 6 0 0 ex [.ref (gB g + 140), .int p1, .int p2] sh h (PE (some (.int r0.1)) sh r0.2) := by
  refine Ct.of (L := [some (.ref (gB g + 140)), some (.int p1), some (.int p2), none]) (by decide) (by intro w hw; simp only [List.mem_cons, List.not_mem_nil, or_false] at hw; rcases hw with rfl | rfl | rfl <;> rfl) (Nat.le_of_ble_eq_true rfl) rfl (fun X mx => ?_)
  obtain ⟨cx, hR, hml, hrt, -⟩ := mx
  have cx : Cx g X RX7 cX7_liesDown := cx
  have hrt : X.2.2.2.2.2.2.2.1.sig.returnType = (some .int) := hrt
  have hi3 : 3 < X.2.2.2.2.2.2.2.2.maxLocals := by rw [hml]; exact Nat.le_of_ble_eq_true rfl
  unfold M_liesDown at hf
  refine PW.aload_n cx qX7_liesDown_0 rfl ?_
  refine PW.iload_n cx qX7_liesDown_1 rfl ?_
  refine PW.iload_n cx qX7_liesDown_2 rfl ?_
  refine PW.aload_n cx qX7_liesDown_3 rfl ?_
  refine PW.iload_n cx qX7_liesDown_4 rfl ?_
  refine PW.iload_n cx qX7_liesDown_5 rfl ?_
  refine PW.callVRI (As := [.int p1, .int p2]) (st := [.int p2, .int p1, .ref (gB g + 140)]) cx hR qX7_liesDown_6 klX7_108 mvX7_passedBy (sh_140 hx) rfl rfl rfl rfl (Nat.le_of_ble_eq_true rfl) (Nat.le_of_ble_eq_true rfl) (Nat.le_of_ble_eq_true rfl) (Nat.zero_le _) (Nat.zero_le _) hf sne (fun t e => ctX7_passedBy hx h p1 p2 t e) (fun t1 hf => ?_)
  refine PW.callVRI (As := [.int p1, .int p2, .int t1]) (st := []) cx hR qX7_liesDown_9 klX7_98 mvX7_onWay (sh_140 hx) rfl rfl rfl rfl (Nat.le_of_ble_eq_true rfl) (Nat.le_of_ble_eq_true rfl) (Nat.le_of_ble_eq_true rfl) (Nat.zero_le _) (Nat.zero_le _) hf sne (fun t e => ctX7_onWay hx h p1 p2 t1 t e) (fun t2 hf => ?_)
  refine PW.istore_n (L' := [some (.ref (gB g + 140)), some (.int p1), some (.int p2), some (.int t2)]) cx qX7_liesDown_12 hi3 rfl rfl ?_
  refine PW.aload_n cx qX7_liesDown_13 rfl ?_
  refine PW.iload_n cx qX7_liesDown_14 rfl ?_
  refine PW.iload_n cx qX7_liesDown_15 rfl ?_
  refine PW.iload_n cx qX7_liesDown_16 rfl ?_
  refine PW.callVWV (As := [.int p2, .int t2, .int p1]) (st := []) cx hR qX7_liesDown_17 klX7_121 mvX7_setBed (sh_140 hx) rfl rfl rfl rfl (Nat.le_of_ble_eq_true rfl) (Nat.le_of_ble_eq_true rfl) (Nat.le_of_ble_eq_true rfl) (Nat.zero_le _) (Nat.zero_le _) hf sne (fun t e => ctX7_setBed hx h p2 t2 p1 t e) (fun h4 hf => ?_)
  refine PW.aload_n cx qX7_liesDown_20 rfl ?_
  refine PW.iload_n cx qX7_liesDown_21 rfl ?_
  refine PW.iconst (v := 1) cx qX7_liesDown_22 rfl ?_
  refine PW.iconst (v := 1) cx qX7_liesDown_23 rfl ?_
  refine PW.callVWV (As := [.int p1, .int 1, .int 1]) (st := []) cx hR qX7_liesDown_24 klX7_117 mvX7_to (sh_140 hx) rfl rfl rfl rfl (Nat.le_of_ble_eq_true rfl) (Nat.le_of_ble_eq_true rfl) (Nat.le_of_ble_eq_true rfl) (Nat.zero_le _) (Nat.zero_le _) hf sne (fun t e => ctX7_to hx h4 p1 1 1 t e) (fun h6 hf => ?_)
  refine PW.iload_n cx qX7_liesDown_27 rfl ?_
  exact PW.iret cx hrt qX7_liesDown_28 (le_wi hf)
theorem ctX7_leaves {g : GT} {ex : Bool} {sh : List Shp} (hx : MSh sh) (h : Hp) (p1 : Int32) (p2 : Int32) (r0 : Int32 × Hp) (hf : M_leaves h p1 p2 = some r0) : Ct g mX7_leaves 3 0 0 ex [.ref (gB g + 140), .int p1, .int p2] sh h (PE (some (.int r0.1)) sh r0.2) := by
  refine Ct.of (L := [some (.ref (gB g + 140)), some (.int p1), some (.int p2), none]) (by decide) (by intro w hw; simp only [List.mem_cons, List.not_mem_nil, or_false] at hw; rcases hw with rfl | rfl | rfl <;> rfl) (Nat.le_of_ble_eq_true rfl) rfl (fun X mx => ?_)
  obtain ⟨cx, hR, hml, hrt, -⟩ := mx
  have cx : Cx g X RX7 cX7_leaves := cx
  have hrt : X.2.2.2.2.2.2.2.1.sig.returnType = (some .int) := hrt
  have hi3 : 3 < X.2.2.2.2.2.2.2.2.maxLocals := by rw [hml]; exact Nat.le_of_ble_eq_true rfl
  unfold M_leaves at hf
  refine PW.aload_n cx qX7_leaves_0 rfl ?_
  refine PW.iload_n cx qX7_leaves_1 rfl ?_
  refine PW.callVRI (As := [.int p1]) (st := []) cx hR qX7_leaves_2 klX7_124 mvX7_reelWith (sh_140 hx) rfl rfl rfl rfl (Nat.le_of_ble_eq_true rfl) (Nat.le_of_ble_eq_true rfl) (Nat.le_of_ble_eq_true rfl) (Nat.zero_le _) (Nat.zero_le _) hf sne (fun t e => ctX7_reelWith hx h p1 t e) (fun t1 hf => ?_)
  refine PW.istore_n (L' := [some (.ref (gB g + 140)), some (.int p1), some (.int p2), some (.int t1)]) cx qX7_leaves_5 hi3 rfl rfl ?_
  refine PW.iload_n cx qX7_leaves_6 rfl ?_
  refine PW.iconst (v := (-1)) cx qX7_leaves_7 rfl ?_
  obtain ⟨j24, ej24, hf⟩ := lt_split hf
  have hj24 : ∀ (h_24 : Hp), j24 h_24 = some r0 → PW g X ex (QE g X ex (PE (some (.int r0.1)) sh r0.2) 0 0) 0 0 sh h_24 24 [some (.ref (gB g + 140)), some (.int p1), some (.int p2), some (.int t1)] [] := by
    intro h_24 hf
    rw [ej24] at hf
    refine PW.aload_n cx qX7_leaves_24 rfl ?_
    refine PW.iload_n cx qX7_leaves_25 rfl ?_
    refine PW.iconst (v := 1) cx qX7_leaves_26 rfl ?_
    refine PW.iload_n cx qX7_leaves_27 rfl ?_
    refine PW.callVWV (As := [.int p1, .int 1, .int p2]) (st := []) cx hR qX7_leaves_28 klX7_117 mvX7_to (sh_140 hx) rfl rfl rfl rfl (Nat.le_of_ble_eq_true rfl) (Nat.le_of_ble_eq_true rfl) (Nat.le_of_ble_eq_true rfl) (Nat.zero_le _) (Nat.zero_le _) hf sne (fun t e => ctX7_to hx h_24 p1 1 p2 t e) (fun h3 hf => ?_)
    refine PW.iload_n cx qX7_leaves_31 rfl ?_
    exact PW.iret cx hrt qX7_leaves_32 (le_wi hf)
  refine PW.icmp_eq cx qX7_leaves_8 hf (fun hf => ?_) (fun hf => ?_)
  · exact PW.locs (Lsub.keep (Lsub.keep (Lsub.keep (Lsub.keep Lsub.nil)))) (hj24 h hf)
  · refine PW.aload_n cx qX7_leaves_11 rfl ?_
    refine PW.iload_n cx qX7_leaves_12 rfl ?_
    refine PW.aload_n cx qX7_leaves_13 rfl ?_
    refine PW.iload_n cx qX7_leaves_14 rfl ?_
    refine PW.iload_n cx qX7_leaves_15 rfl ?_
    refine PW.callVRI (As := [.int p1, .int t1]) (st := [.int t1, .ref (gB g + 140)]) cx hR qX7_leaves_16 klX7_105 mvX7_bedWith (sh_140 hx) rfl rfl rfl rfl (Nat.le_of_ble_eq_true rfl) (Nat.le_of_ble_eq_true rfl) (Nat.le_of_ble_eq_true rfl) (Nat.zero_le _) (Nat.zero_le _) hf sne (fun t e => ctX7_bedWith hx h p1 t1 t e) (fun t4 hf => ?_)
    refine PW.bipush (v := (-2)) cx qX7_leaves_19 rfl ?_
    refine PW.callVWV (As := [.int t1, .int t4, .int (-2)]) (st := []) cx hR qX7_leaves_21 klX7_121 mvX7_setBed (sh_140 hx) rfl rfl rfl rfl (Nat.le_of_ble_eq_true rfl) (Nat.le_of_ble_eq_true rfl) (Nat.le_of_ble_eq_true rfl) (Nat.zero_le _) (Nat.zero_le _) hf sne (fun t e => ctX7_setBed hx h t1 t4 (-2) t e) (fun h6 hf => ?_)
    exact PW.locs (Lsub.keep (Lsub.keep (Lsub.keep (Lsub.keep Lsub.nil)))) (hj24 h6 hf)
theorem lX7_cuts_19 {g : GT} {X : XT} {ex : Bool} {sh : List Shp} {post : Option Value → List Shp → Hp → Prop} (mx : Mx g X mX7_cuts 4 0 0) (hx : MSh sh) (c1 : Int32) (c2 : Int32) (c4 : Int32) : ∀ (n : Nat) (v3 : Int32) (v5 : Int32) (h : Hp) (r : Int32 × Hp) (hf : M_cuts_L19 c1 c2 c4 n v3 v5 h = some r) (kx : ∀ (x3 : Int32) (h1 : Hp), r = (x3, h1) → PW g X ex (QE g X ex post 0 0) 0 0 sh h1 122 [some (.ref (gB g + 140)), some (.int c1), some (.int c2), some (.int x3), some (.int c4), none, none] []), PW g X ex (QE g X ex post 0 0) 0 0 sh h 19 [some (.ref (gB g + 140)), some (.int c1), some (.int c2), some (.int v3), some (.int c4), some (.int v5), none] [] := by
  have mx0 := mx
  obtain ⟨cx, hR, hml, hrt, -⟩ := mx0
  have cx : Cx g X RX7 cX7_cuts := cx
  have hrt : X.2.2.2.2.2.2.2.1.sig.returnType = (some .int) := hrt
  have hi3 : 3 < X.2.2.2.2.2.2.2.2.maxLocals := by rw [hml]; exact Nat.le_of_ble_eq_true rfl
  have hi4 : 4 < X.2.2.2.2.2.2.2.2.maxLocals := by rw [hml]; exact Nat.le_of_ble_eq_true rfl
  have hi5 : 5 < X.2.2.2.2.2.2.2.2.maxLocals := by rw [hml]; exact Nat.le_of_ble_eq_true rfl
  have hi6 : 6 < X.2.2.2.2.2.2.2.2.maxLocals := by rw [hml]; exact Nat.le_of_ble_eq_true rfl
  intro n
  induction n with
  | zero =>
    intro v3 v5 h r hf kx
    cases hf
  | succ n ih =>
    intro v3 v5 h r hf kx
    unfold M_cuts_L19 at hf
    refine PW.iload cx qX7_cuts_19 rfl ?_
    refine PW.aload_n cx qX7_cuts_21 rfl ?_
    refine PW.iload cx qX7_cuts_22 rfl ?_
    refine PW.callVRI (As := [.int c4]) (st := [.int v5]) cx hR qX7_cuts_24 klX7_92 mvX7_beds (sh_140 hx) rfl rfl rfl rfl (Nat.le_of_ble_eq_true rfl) (Nat.le_of_ble_eq_true rfl) (Nat.le_of_ble_eq_true rfl) (Nat.zero_le _) (Nat.zero_le _) hf sne (fun t e => ctX7_beds hx h c4 t e) (fun t2 hf => ?_)
    refine PW.icmp_ge cx qX7_cuts_27 hf (fun hf => ?_) (fun hf => ?_)
    · exact PW.locs (Lsub.keep (Lsub.keep (Lsub.keep (Lsub.keep (Lsub.keep (Lsub.drop (Lsub.drop Lsub.nil))))))) (kx v3 h (Option.some.inj hf).symm)
    · refine PW.aload_n cx qX7_cuts_30 rfl ?_
      refine PW.iload cx qX7_cuts_31 rfl ?_
      refine PW.iload cx qX7_cuts_33 rfl ?_
      refine PW.callVRI (As := [.int c4, .int v5]) (st := []) cx hR qX7_cuts_35 klX7_102 mvX7_inBed (sh_140 hx) rfl rfl rfl rfl (Nat.le_of_ble_eq_true rfl) (Nat.le_of_ble_eq_true rfl) (Nat.le_of_ble_eq_true rfl) (Nat.zero_le _) (Nat.zero_le _) hf sne (fun t e => ctX7_inBed hx h c4 v5 t e) (fun t3 hf => ?_)
      refine PW.istore (L' := [some (.ref (gB g + 140)), some (.int c1), some (.int c2), some (.int v3), some (.int c4), some (.int v5), some (.int t3)]) cx qX7_cuts_38 hi6 rfl rfl ?_
      refine PW.iload cx qX7_cuts_40 rfl ?_
      refine PW.if_lt cx qX7_cuts_42 hf (fun hf => ?_) (fun hf => ?_)
      · refine PW.iinc (v := 1) (L' := [some (.ref (gB g + 140)), some (.int c1), some (.int c2), some (.int v3), some (.int c4), some (.int (v5 + 1)), some (.int t3)]) cx qX7_cuts_116 rfl rfl hi5 rfl rfl ?_
        refine PW.goto cx qX7_cuts_119 ?_
        exact PW.locs (Lsub.keep (Lsub.keep (Lsub.keep (Lsub.keep (Lsub.keep (Lsub.keep (Lsub.drop Lsub.nil))))))) (ih v3 (v5 + 1) h _ hf kx)
      · refine PW.aload_n cx qX7_cuts_45 rfl ?_
        refine PW.iload_n cx qX7_cuts_46 rfl ?_
        refine PW.iconst (v := 1) cx qX7_cuts_47 rfl ?_
        refine PW.callVRI (As := [.int c1, .int 1]) (st := []) cx hR qX7_cuts_48 klX7_127 mvX7_scene (sh_140 hx) rfl rfl rfl rfl (Nat.le_of_ble_eq_true rfl) (Nat.le_of_ble_eq_true rfl) (Nat.le_of_ble_eq_true rfl) (Nat.zero_le _) (Nat.zero_le _) hf sne (fun t e => ctX7_scene hx h c1 1 t e) (fun t4 hf => ?_)
        refine PW.if_le cx qX7_cuts_51 hf (fun hf => ?_) (fun hf => ?_)
        · refine PW.iinc (v := 1) (L' := [some (.ref (gB g + 140)), some (.int c1), some (.int c2), some (.int v3), some (.int c4), some (.int (v5 + 1)), some (.int t3)]) cx qX7_cuts_116 rfl rfl hi5 rfl rfl ?_
          refine PW.goto cx qX7_cuts_119 ?_
          exact PW.locs (Lsub.keep (Lsub.keep (Lsub.keep (Lsub.keep (Lsub.keep (Lsub.keep (Lsub.drop Lsub.nil))))))) (ih v3 (v5 + 1) h _ hf kx)
        · refine PW.aload_n cx qX7_cuts_54 rfl ?_
          refine PW.iload cx qX7_cuts_55 rfl ?_
          refine PW.iload_n cx qX7_cuts_57 rfl ?_
          refine PW.callVRI (As := [.int t3, .int c2]) (st := []) cx hR qX7_cuts_58 klX7_130 mvX7_matchOf (sh_140 hx) rfl rfl rfl rfl (Nat.le_of_ble_eq_true rfl) (Nat.le_of_ble_eq_true rfl) (Nat.le_of_ble_eq_true rfl) (Nat.zero_le _) (Nat.zero_le _) hf sne (fun t e => ctX7_matchOf hx h t3 c2 t e) (fun t5 hf => ?_)
          refine PW.iconst (v := (-1)) cx qX7_cuts_61 rfl ?_
          refine PW.icmp_eq cx qX7_cuts_62 hf (fun hf => ?_) (fun hf => ?_)
          · refine PW.iinc (v := 1) (L' := [some (.ref (gB g + 140)), some (.int c1), some (.int c2), some (.int v3), some (.int c4), some (.int (v5 + 1)), some (.int t3)]) cx qX7_cuts_116 rfl rfl hi5 rfl rfl ?_
            refine PW.goto cx qX7_cuts_119 ?_
            exact PW.locs (Lsub.keep (Lsub.keep (Lsub.keep (Lsub.keep (Lsub.keep (Lsub.keep (Lsub.drop Lsub.nil))))))) (ih v3 (v5 + 1) h _ hf kx)
          · refine PW.aload_n cx qX7_cuts_65 rfl ?_
            refine PW.iload cx qX7_cuts_66 rfl ?_
            refine PW.iconst (v := 0) cx qX7_cuts_68 rfl ?_
            refine PW.callVWI (As := [.int t3, .int 0]) (st := []) cx hR qX7_cuts_69 klX7_133 mvX7_leaves (sh_140 hx) rfl rfl rfl rfl (Nat.le_of_ble_eq_true rfl) (Nat.le_of_ble_eq_true rfl) (Nat.le_of_ble_eq_true rfl) (Nat.zero_le _) (Nat.zero_le _) hf sne (fun t e => ctX7_leaves hx h t3 0 t e) (fun ⟨t6, h7⟩ hf => ?_)
            refine PW.pop cx qX7_cuts_72 rfl ?_
            refine PW.aload_n cx qX7_cuts_73 rfl ?_
            refine PW.iload cx qX7_cuts_74 rfl ?_
            refine PW.iconst (v := 3) cx qX7_cuts_76 rfl ?_
            refine PW.iload_n cx qX7_cuts_77 rfl ?_
            refine PW.callVWV (As := [.int t3, .int 3, .int c1]) (st := []) cx hR qX7_cuts_78 klX7_117 mvX7_to (sh_140 hx) rfl rfl rfl rfl (Nat.le_of_ble_eq_true rfl) (Nat.le_of_ble_eq_true rfl) (Nat.le_of_ble_eq_true rfl) (Nat.zero_le _) (Nat.zero_le _) hf sne (fun t e => ctX7_to hx h7 t3 3 c1 t e) (fun h9 hf => ?_)
            refine PW.aload_n cx qX7_cuts_81 rfl ?_
            refine PW.getf (t := (2, 141)) (v := .ref (gB g + 141)) cx qX7_cuts_82 (sh_140 hx) rfl flX7_7 rfl ?_
            refine PW.bipush (v := 96) cx qX7_cuts_85 rfl ?_
            refine PW.iconst (v := 2) cx qX7_cuts_87 rfl ?_
            refine PW.iload_n cx qX7_cuts_88 rfl ?_
            refine PW.imul cx qX7_cuts_89 ?_
            refine PW.iadd cx qX7_cuts_90 ?_
            refine PW.iconst (v := 1) cx qX7_cuts_91 rfl ?_
            refine PW.iadd cx qX7_cuts_92 ?_
            refine PW.dup2 cx qX7_cuts_93 rfl rfl ?_
            refine PW.iald cx qX7_cuts_94 (sh_141 hx) hf sne (fun t10 hf => ?_)
            refine PW.iconst (v := 1) cx qX7_cuts_95 rfl ?_
            refine PW.isub cx qX7_cuts_96 ?_
            refine PW.iast cx qX7_cuts_97 (sh_141 hx) hf sne (fun h11 hf => ?_)
            refine PW.aload_n cx qX7_cuts_98 rfl ?_
            refine PW.getf (t := (2, 141)) (v := .ref (gB g + 141)) cx qX7_cuts_99 (sh_140 hx) rfl flX7_7 rfl ?_
            refine PW.bipush (v := 7) cx qX7_cuts_102 rfl ?_
            refine PW.dup2 cx qX7_cuts_104 rfl rfl ?_
            refine PW.iald cx qX7_cuts_105 (sh_141 hx) hf sne (fun t12 hf => ?_)
            refine PW.iconst (v := 1) cx qX7_cuts_106 rfl ?_
            refine PW.iadd cx qX7_cuts_107 ?_
            refine PW.iast cx qX7_cuts_108 (sh_141 hx) hf sne (fun h13 hf => ?_)
            refine PW.iload_n cx qX7_cuts_109 rfl ?_
            refine PW.iconst (v := 1) cx qX7_cuts_110 rfl ?_
            refine PW.iload cx qX7_cuts_111 rfl ?_
            refine PW.ishl cx qX7_cuts_113 ?_
            refine PW.ior cx qX7_cuts_114 ?_
            refine PW.istore_n (L' := [some (.ref (gB g + 140)), some (.int c1), some (.int c2), some (.int (v3 ||| (1 <<< (t3 &&& 31)))), some (.int c4), some (.int v5), some (.int t3)]) cx qX7_cuts_115 hi3 rfl rfl ?_
            refine PW.iinc (v := 1) (L' := [some (.ref (gB g + 140)), some (.int c1), some (.int c2), some (.int (v3 ||| (1 <<< (t3 &&& 31)))), some (.int c4), some (.int (v5 + 1)), some (.int t3)]) cx qX7_cuts_116 rfl rfl hi5 rfl rfl ?_
            refine PW.goto cx qX7_cuts_119 ?_
            exact PW.locs (Lsub.keep (Lsub.keep (Lsub.keep (Lsub.keep (Lsub.keep (Lsub.keep (Lsub.drop Lsub.nil))))))) (ih (v3 ||| (1 <<< (t3 &&& 31))) (v5 + 1) h13 _ hf kx)
theorem lX7_cuts_5 {g : GT} {X : XT} {ex : Bool} {sh : List Shp} {post : Option Value → List Shp → Hp → Prop} (mx : Mx g X mX7_cuts 4 0 0) (hx : MSh sh) (c1 : Int32) (c2 : Int32) : ∀ (n : Nat) (v3 : Int32) (v4 : Int32) (h : Hp) (r : Int32 × Hp) (hf : M_cuts_L5 c1 c2 n v3 v4 h = some r) (kx : ∀ (x3 : Int32) (h1 : Hp), r = (x3, h1) → PW g X ex (QE g X ex post 0 0) 0 0 sh h1 128 [some (.ref (gB g + 140)), some (.int c1), some (.int c2), some (.int x3), none, none, none] []), PW g X ex (QE g X ex post 0 0) 0 0 sh h 5 [some (.ref (gB g + 140)), some (.int c1), some (.int c2), some (.int v3), some (.int v4), none, none] [] := by
  have mx0 := mx
  obtain ⟨cx, hR, hml, hrt, -⟩ := mx0
  have cx : Cx g X RX7 cX7_cuts := cx
  have hrt : X.2.2.2.2.2.2.2.1.sig.returnType = (some .int) := hrt
  have hi3 : 3 < X.2.2.2.2.2.2.2.2.maxLocals := by rw [hml]; exact Nat.le_of_ble_eq_true rfl
  have hi4 : 4 < X.2.2.2.2.2.2.2.2.maxLocals := by rw [hml]; exact Nat.le_of_ble_eq_true rfl
  have hi5 : 5 < X.2.2.2.2.2.2.2.2.maxLocals := by rw [hml]; exact Nat.le_of_ble_eq_true rfl
  have hi6 : 6 < X.2.2.2.2.2.2.2.2.maxLocals := by rw [hml]; exact Nat.le_of_ble_eq_true rfl
  intro n
  induction n with
  | zero =>
    intro v3 v4 h r hf kx
    cases hf
  | succ n ih =>
    intro v3 v4 h r hf kx
    unfold M_cuts_L5 at hf
    refine PW.iload cx qX7_cuts_5 rfl ?_
    refine PW.aload_n cx qX7_cuts_7 rfl ?_
    refine PW.getf (t := (2, 141)) (v := .ref (gB g + 141)) cx qX7_cuts_8 (sh_140 hx) rfl flX7_7 rfl ?_
    refine PW.iconst (v := 3) cx qX7_cuts_11 rfl ?_
    refine PW.iald cx qX7_cuts_12 (sh_141 hx) hf sne (fun t1 hf => ?_)
    refine PW.icmp_ge cx qX7_cuts_13 hf (fun hf => ?_) (fun hf => ?_)
    · exact PW.locs (Lsub.keep (Lsub.keep (Lsub.keep (Lsub.keep (Lsub.drop (Lsub.drop (Lsub.drop Lsub.nil))))))) (kx v3 h (Option.some.inj hf).symm)
    · refine PW.iconst (v := 0) cx qX7_cuts_16 rfl ?_
      refine PW.istore (L' := [some (.ref (gB g + 140)), some (.int c1), some (.int c2), some (.int v3), some (.int v4), some (.int 0), none]) cx qX7_cuts_17 hi5 rfl rfl ?_
      obtain ⟨r14, er14, hf⟩ := bndO hf sne
      refine PW.locs (Lsub.keep (Lsub.keep (Lsub.keep (Lsub.keep (Lsub.keep (Lsub.keep (Lsub.drop Lsub.nil))))))) (lX7_cuts_19 mx hx c1 c2 v4 FU v3 0 h r14 er14 (fun x3_15 h16 e => ?_))
      subst e
      refine PW.iinc (v := 1) (L' := [some (.ref (gB g + 140)), some (.int c1), some (.int c2), some (.int x3_15), some (.int (v4 + 1)), none, none]) cx qX7_cuts_122 rfl rfl hi4 rfl rfl ?_
      refine PW.goto cx qX7_cuts_125 ?_
      exact PW.locs (Lsub.keep (Lsub.keep (Lsub.keep (Lsub.keep (Lsub.keep (Lsub.drop (Lsub.drop Lsub.nil))))))) (ih x3_15 (v4 + 1) h16 _ hf kx)
theorem ctX7_cuts {g : GT} {ex : Bool} {sh : List Shp} (hx : MSh sh) (h : Hp) (p1 : Int32) (p2 : Int32) (r0 : Int32 × Hp) (hf : M_cuts h p1 p2 = some r0) : Ct g mX7_cuts 4 0 0 ex [.ref (gB g + 140), .int p1, .int p2] sh h (PE (some (.int r0.1)) sh r0.2) := by
  refine Ct.of (L := [some (.ref (gB g + 140)), some (.int p1), some (.int p2), none, none, none, none]) (by decide) (by intro w hw; simp only [List.mem_cons, List.not_mem_nil, or_false] at hw; rcases hw with rfl | rfl | rfl <;> rfl) (Nat.le_of_ble_eq_true rfl) rfl (fun X mx => ?_)
  have mx0 := mx
  obtain ⟨cx, hR, hml, hrt, -⟩ := mx0
  have cx : Cx g X RX7 cX7_cuts := cx
  have hrt : X.2.2.2.2.2.2.2.1.sig.returnType = (some .int) := hrt
  have hi3 : 3 < X.2.2.2.2.2.2.2.2.maxLocals := by rw [hml]; exact Nat.le_of_ble_eq_true rfl
  have hi4 : 4 < X.2.2.2.2.2.2.2.2.maxLocals := by rw [hml]; exact Nat.le_of_ble_eq_true rfl
  have hi5 : 5 < X.2.2.2.2.2.2.2.2.maxLocals := by rw [hml]; exact Nat.le_of_ble_eq_true rfl
  have hi6 : 6 < X.2.2.2.2.2.2.2.2.maxLocals := by rw [hml]; exact Nat.le_of_ble_eq_true rfl
  unfold M_cuts at hf
  refine PW.iconst (v := 0) cx qX7_cuts_0 rfl ?_
  refine PW.istore_n (L' := [some (.ref (gB g + 140)), some (.int p1), some (.int p2), some (.int 0), none, none, none]) cx qX7_cuts_1 hi3 rfl rfl ?_
  refine PW.iconst (v := 0) cx qX7_cuts_2 rfl ?_
  refine PW.istore (L' := [some (.ref (gB g + 140)), some (.int p1), some (.int p2), some (.int 0), some (.int 0), none, none]) cx qX7_cuts_3 hi4 rfl rfl ?_
  obtain ⟨r17, er17, hf⟩ := bndO hf sne
  refine PW.locs (Lsub.keep (Lsub.keep (Lsub.keep (Lsub.keep (Lsub.keep (Lsub.drop (Lsub.drop Lsub.nil))))))) (lX7_cuts_5 mx hx p1 p2 FU 0 0 h r17 er17 (fun x3_18 h19 e => ?_))
  subst e
  refine PW.iload_n cx qX7_cuts_128 rfl ?_
  exact PW.iret cx hrt qX7_cuts_129 (le_wi hf)
theorem lX7_airs_11 {g : GT} {X : XT} {ex : Bool} {sh : List Shp} {post : Option Value → List Shp → Hp → Prop} (mx : Mx g X mX7_airs 7 0 0) (hx : MSh sh) (c1 : Int32) (d2 : Int32) : ∀ (n : Nat) (v3 : Int32) (v4 : Int32) (h : Hp) (r : Int32 × Hp) (hf : M_airs_L11 c1 n v3 v4 h = some r) (kx : ∀ (x3 : Int32) (h1 : Hp), r = (x3, h1) → PW g X ex (QE g X ex post 0 0) 0 0 sh h1 55 [some (.ref (gB g + 140)), some (.int c1), some (.int d2), some (.int x3), none] []), PW g X ex (QE g X ex post 0 0) 0 0 sh h 11 [some (.ref (gB g + 140)), some (.int c1), some (.int d2), some (.int v3), some (.int v4)] [] := by
  have mx0 := mx
  obtain ⟨cx, hR, hml, hrt, -⟩ := mx0
  have cx : Cx g X RX7 cX7_airs := cx
  have hrt : X.2.2.2.2.2.2.2.1.sig.returnType = (some .int) := hrt
  have hi2 : 2 < X.2.2.2.2.2.2.2.2.maxLocals := by rw [hml]; exact Nat.le_of_ble_eq_true rfl
  have hi3 : 3 < X.2.2.2.2.2.2.2.2.maxLocals := by rw [hml]; exact Nat.le_of_ble_eq_true rfl
  have hi4 : 4 < X.2.2.2.2.2.2.2.2.maxLocals := by rw [hml]; exact Nat.le_of_ble_eq_true rfl
  intro n
  induction n with
  | zero =>
    intro v3 v4 h r hf kx
    cases hf
  | succ n ih =>
    intro v3 v4 h r hf kx
    unfold M_airs_L11 at hf
    refine PW.iload cx qX7_airs_11 rfl ?_
    refine PW.aload_n cx qX7_airs_13 rfl ?_
    refine PW.iload_n cx qX7_airs_14 rfl ?_
    refine PW.callVRI (As := [.int c1]) (st := [.int v4]) cx hR qX7_airs_15 klX7_92 mvX7_beds (sh_140 hx) rfl rfl rfl rfl (Nat.le_of_ble_eq_true rfl) (Nat.le_of_ble_eq_true rfl) (Nat.le_of_ble_eq_true rfl) (Nat.zero_le _) (Nat.zero_le _) hf sne (fun t e => ctX7_beds hx h c1 t e) (fun t2 hf => ?_)
    refine PW.icmp_ge cx qX7_airs_18 hf (fun hf => ?_) (fun hf => ?_)
    · exact PW.locs (Lsub.keep (Lsub.keep (Lsub.keep (Lsub.keep (Lsub.drop Lsub.nil))))) (kx v3 h (Option.some.inj hf).symm)
    · refine PW.iload_n cx qX7_airs_21 rfl ?_
      refine PW.aload_n cx qX7_airs_22 rfl ?_
      refine PW.iload_n cx qX7_airs_23 rfl ?_
      refine PW.iload cx qX7_airs_24 rfl ?_
      refine PW.callVRI (As := [.int c1, .int v4]) (st := [.int v3]) cx hR qX7_airs_26 klX7_102 mvX7_inBed (sh_140 hx) rfl rfl rfl rfl (Nat.le_of_ble_eq_true rfl) (Nat.le_of_ble_eq_true rfl) (Nat.le_of_ble_eq_true rfl) (Nat.zero_le _) (Nat.zero_le _) hf sne (fun t e => ctX7_inBed hx h c1 v4 t e) (fun t3 hf => ?_)
      refine PW.bipush (v := (-2)) cx qX7_airs_29 rfl ?_
      obtain ⟨j39, ej39, hf⟩ := lt_split hf
      have hj39 : ∀ (z0_39 : Bool), j39 z0_39 = some r → PW g X ex (QE g X ex post 0 0) 0 0 sh h 39 [some (.ref (gB g + 140)), some (.int c1), some (.int d2), none, some (.int v4)] [.int (b2i z0_39), .int v3] := by
        intro z0_39 hf
        rw [ej39] at hf
        refine PW.iadd cx qX7_airs_39 ?_
        refine PW.istore_n (L' := [some (.ref (gB g + 140)), some (.int c1), some (.int d2), some (.int (v3 + (b2i z0_39))), some (.int v4)]) cx qX7_airs_40 hi3 rfl rfl ?_
        refine PW.aload_n cx qX7_airs_41 rfl ?_
        refine PW.iload_n cx qX7_airs_42 rfl ?_
        refine PW.iload cx qX7_airs_43 rfl ?_
        refine PW.iconst (v := (-1)) cx qX7_airs_45 rfl ?_
        refine PW.callVWV (As := [.int c1, .int v4, .int (-1)]) (st := []) cx hR qX7_airs_46 klX7_121 mvX7_setBed (sh_140 hx) rfl rfl rfl rfl (Nat.le_of_ble_eq_true rfl) (Nat.le_of_ble_eq_true rfl) (Nat.le_of_ble_eq_true rfl) (Nat.zero_le _) (Nat.zero_le _) hf sne (fun t e => ctX7_setBed hx h c1 v4 (-1) t e) (fun h5 hf => ?_)
        refine PW.iinc (v := 1) (L' := [some (.ref (gB g + 140)), some (.int c1), some (.int d2), some (.int (v3 + (b2i z0_39))), some (.int (v4 + 1))]) cx qX7_airs_49 rfl rfl hi4 rfl rfl ?_
        refine PW.goto cx qX7_airs_52 ?_
        exact PW.locs (Lsub.keep (Lsub.keep (Lsub.keep (Lsub.keep (Lsub.keep Lsub.nil))))) (ih (v3 + (b2i z0_39)) (v4 + 1) h5 _ hf kx)
      refine PW.icmp_ne cx qX7_airs_31 hf (fun hf => ?_) (fun hf => ?_)
      · refine PW.iconst (v := 1) cx qX7_airs_34 rfl ?_
        refine PW.goto cx qX7_airs_35 ?_
        exact PW.locs (Lsub.keep (Lsub.keep (Lsub.keep (Lsub.drop (Lsub.keep Lsub.nil))))) (hj39 true hf)
      · refine PW.iconst (v := 0) cx qX7_airs_38 rfl ?_
        exact PW.locs (Lsub.keep (Lsub.keep (Lsub.keep (Lsub.drop (Lsub.keep Lsub.nil))))) (hj39 false hf)
theorem lX7_airs_58 {g : GT} {X : XT} {ex : Bool} {sh : List Shp} {post : Option Value → List Shp → Hp → Prop} (mx : Mx g X mX7_airs 7 0 0) (hx : MSh sh) (c1 : Int32) (c2 : Int32) (d3 : Int32) : ∀ (n : Nat) (v4 : Int32) (h : Hp) (r : Hp) (hf : M_airs_L58 c1 c2 n v4 h = some r) (kx : ∀ (h1 : Hp), r = h1 → PW g X ex (QE g X ex post 0 0) 0 0 sh h1 93 [some (.ref (gB g + 140)), some (.int c1), some (.int c2), some (.int d3), none] []), PW g X ex (QE g X ex post 0 0) 0 0 sh h 58 [some (.ref (gB g + 140)), some (.int c1), some (.int c2), some (.int d3), some (.int v4)] [] := by
  have mx0 := mx
  obtain ⟨cx, hR, hml, hrt, -⟩ := mx0
  have cx : Cx g X RX7 cX7_airs := cx
  have hrt : X.2.2.2.2.2.2.2.1.sig.returnType = (some .int) := hrt
  have hi2 : 2 < X.2.2.2.2.2.2.2.2.maxLocals := by rw [hml]; exact Nat.le_of_ble_eq_true rfl
  have hi3 : 3 < X.2.2.2.2.2.2.2.2.maxLocals := by rw [hml]; exact Nat.le_of_ble_eq_true rfl
  have hi4 : 4 < X.2.2.2.2.2.2.2.2.maxLocals := by rw [hml]; exact Nat.le_of_ble_eq_true rfl
  intro n
  induction n with
  | zero =>
    intro v4 h r hf kx
    cases hf
  | succ n ih =>
    intro v4 h r hf kx
    unfold M_airs_L58 at hf
    refine PW.iload cx qX7_airs_58 rfl ?_
    refine PW.aload_n cx qX7_airs_60 rfl ?_
    refine PW.getf (t := (2, 141)) (v := .ref (gB g + 141)) cx qX7_airs_61 (sh_140 hx) rfl flX7_7 rfl ?_
    refine PW.iconst (v := 2) cx qX7_airs_64 rfl ?_
    refine PW.iald cx qX7_airs_65 (sh_141 hx) hf sne (fun t9 hf => ?_)
    refine PW.icmp_ge cx qX7_airs_66 hf (fun hf => ?_) (fun hf => ?_)
    · exact PW.locs (Lsub.keep (Lsub.keep (Lsub.keep (Lsub.keep (Lsub.drop Lsub.nil))))) (kx h (Option.some.inj hf).symm)
    · refine PW.iload_n cx qX7_airs_69 rfl ?_
      refine PW.iload cx qX7_airs_70 rfl ?_
      refine PW.ishr cx qX7_airs_72 ?_
      refine PW.iconst (v := 1) cx qX7_airs_73 rfl ?_
      refine PW.iand cx qX7_airs_74 ?_
      refine PW.iconst (v := 1) cx qX7_airs_75 rfl ?_
      refine PW.icmp_ne cx qX7_airs_76 hf (fun hf => ?_) (fun hf => ?_)
      · refine PW.aload_n cx qX7_airs_79 rfl ?_
        refine PW.iload cx qX7_airs_80 rfl ?_
        refine PW.iload_n cx qX7_airs_82 rfl ?_
        refine PW.callVWI (As := [.int v4, .int c1]) (st := []) cx hR qX7_airs_83 klX7_136 mvX7_liesDown (sh_140 hx) rfl rfl rfl rfl (Nat.le_of_ble_eq_true rfl) (Nat.le_of_ble_eq_true rfl) (Nat.le_of_ble_eq_true rfl) (Nat.zero_le _) (Nat.zero_le _) hf sne (fun t e => ctX7_liesDown hx h v4 c1 t e) (fun ⟨t10, h11⟩ hf => ?_)
        refine PW.pop cx qX7_airs_86 rfl ?_
        refine PW.iinc (v := 1) (L' := [some (.ref (gB g + 140)), some (.int c1), some (.int c2), some (.int d3), some (.int (v4 + 1))]) cx qX7_airs_87 rfl rfl hi4 rfl rfl ?_
        refine PW.goto cx qX7_airs_90 ?_
        exact PW.locs (Lsub.keep (Lsub.keep (Lsub.keep (Lsub.keep (Lsub.keep Lsub.nil))))) (ih (v4 + 1) h11 _ hf kx)
      · refine PW.iinc (v := 1) (L' := [some (.ref (gB g + 140)), some (.int c1), some (.int c2), some (.int d3), some (.int (v4 + 1))]) cx qX7_airs_87 rfl rfl hi4 rfl rfl ?_
        refine PW.goto cx qX7_airs_90 ?_
        exact PW.locs (Lsub.keep (Lsub.keep (Lsub.keep (Lsub.keep (Lsub.keep Lsub.nil))))) (ih (v4 + 1) h _ hf kx)
theorem ctX7_airs {g : GT} {ex : Bool} {sh : List Shp} (hx : MSh sh) (h : Hp) (p1 : Int32) (r0 : Int32 × Hp) (hf : M_airs h p1 = some r0) : Ct g mX7_airs 7 0 0 ex [.ref (gB g + 140), .int p1] sh h (PE (some (.int r0.1)) sh r0.2) := by
  refine Ct.of (L := [some (.ref (gB g + 140)), some (.int p1), none, none, none]) (by decide) (by intro w hw; simp only [List.mem_cons, List.not_mem_nil, or_false] at hw; rcases hw with rfl | rfl <;> rfl) (Nat.le_of_ble_eq_true rfl) rfl (fun X mx => ?_)
  have mx0 := mx
  obtain ⟨cx, hR, hml, hrt, -⟩ := mx0
  have cx : Cx g X RX7 cX7_airs := cx
  have hrt : X.2.2.2.2.2.2.2.1.sig.returnType = (some .int) := hrt
  have hi2 : 2 < X.2.2.2.2.2.2.2.2.maxLocals := by rw [hml]; exact Nat.le_of_ble_eq_true rfl
  have hi3 : 3 < X.2.2.2.2.2.2.2.2.maxLocals := by rw [hml]; exact Nat.le_of_ble_eq_true rfl
  have hi4 : 4 < X.2.2.2.2.2.2.2.2.maxLocals := by rw [hml]; exact Nat.le_of_ble_eq_true rfl
  unfold M_airs at hf
  refine PW.aload_n cx qX7_airs_0 rfl ?_
  refine PW.iload_n cx qX7_airs_1 rfl ?_
  refine PW.callVRI (As := [.int p1]) (st := []) cx hR qX7_airs_2 klX7_111 mvX7_sleepersIn (sh_140 hx) rfl rfl rfl rfl (Nat.le_of_ble_eq_true rfl) (Nat.le_of_ble_eq_true rfl) (Nat.le_of_ble_eq_true rfl) (Nat.zero_le _) (Nat.zero_le _) hf sne (fun t e => ctX7_sleepersIn hx h p1 t e) (fun t1 hf => ?_)
  refine PW.istore_n (L' := [some (.ref (gB g + 140)), some (.int p1), some (.int t1), none, none]) cx qX7_airs_5 hi2 rfl rfl ?_
  refine PW.iconst (v := 0) cx qX7_airs_6 rfl ?_
  refine PW.istore_n (L' := [some (.ref (gB g + 140)), some (.int p1), some (.int t1), some (.int 0), none]) cx qX7_airs_7 hi3 rfl rfl ?_
  refine PW.iconst (v := 0) cx qX7_airs_8 rfl ?_
  refine PW.istore (L' := [some (.ref (gB g + 140)), some (.int p1), some (.int t1), some (.int 0), some (.int 0)]) cx qX7_airs_9 hi4 rfl rfl ?_
  obtain ⟨r6, er6, hf⟩ := bndO hf sne
  refine PW.locs (Lsub.keep (Lsub.keep (Lsub.keep (Lsub.keep (Lsub.keep Lsub.nil))))) (lX7_airs_11 mx hx p1 t1 FU 0 0 h r6 er6 (fun x3_7 h8 e => ?_))
  subst e
  refine PW.iconst (v := 0) cx qX7_airs_55 rfl ?_
  refine PW.istore (L' := [some (.ref (gB g + 140)), some (.int p1), some (.int t1), some (.int x3_7), some (.int 0)]) cx qX7_airs_56 hi4 rfl rfl ?_
  obtain ⟨r12, er12, hf⟩ := bndO hf sne
  refine PW.locs (Lsub.keep (Lsub.keep (Lsub.keep (Lsub.keep (Lsub.keep Lsub.nil))))) (lX7_airs_58 mx hx p1 t1 x3_7 FU 0 h8 r12 er12 (fun xx_ e => ?_))
  subst e
  refine PW.iload_n cx qX7_airs_93 rfl ?_
  exact PW.iret cx hrt qX7_airs_94 (le_wi hf)
theorem ctX7_canFeed {g : GT} {ex : Bool} {sh : List Shp} (hx : MSh sh) (h : Hp) (p1 : Int32) (p2 : Int32) (r0 : Bool) (hf : M_canFeed h p1 p2 = some r0) : Ct g mX7_canFeed 1 0 0 ex [.ref (gB g + 140), .int p1, .int p2] sh h (PE (some (.int (b2i r0))) sh h) := by
  refine Ct.of (L := [some (.ref (gB g + 140)), some (.int p1), some (.int p2)]) (by decide) (by intro w hw; simp only [List.mem_cons, List.not_mem_nil, or_false] at hw; rcases hw with rfl | rfl | rfl <;> rfl) (Nat.le_of_ble_eq_true rfl) rfl (fun X mx => ?_)
  obtain ⟨cx, hR, hml, hrt, -⟩ := mx
  have cx : Cx g X RX7 cX7_canFeed := cx
  have hrt : X.2.2.2.2.2.2.2.1.sig.returnType = (some .boolean) := hrt
  unfold M_canFeed at hf
  refine PW.aload_n cx qX7_canFeed_0 rfl ?_
  refine PW.iload_n cx qX7_canFeed_1 rfl ?_
  refine PW.iconst (v := 1) cx qX7_canFeed_2 rfl ?_
  refine PW.callVRI (As := [.int p1, .int 1]) (st := []) cx hR qX7_canFeed_3 klX7_70 mvX7_of (sh_140 hx) rfl rfl rfl rfl (Nat.le_of_ble_eq_true rfl) (Nat.le_of_ble_eq_true rfl) (Nat.le_of_ble_eq_true rfl) (Nat.zero_le _) (Nat.zero_le _) hf sne (fun t e => ctX7_of hx h p1 1 t e) (fun t1 hf => ?_)
  refine PW.if_ne cx qX7_canFeed_6 hf (fun hf => ?_) (fun hf => ?_)
  · refine PW.aload_n cx qX7_canFeed_9 rfl ?_
    refine PW.getf (t := (2, 141)) (v := .ref (gB g + 141)) cx qX7_canFeed_10 (sh_140 hx) rfl flX7_7 rfl ?_
    refine PW.iconst (v := 1) cx qX7_canFeed_13 rfl ?_
    refine PW.iald cx qX7_canFeed_14 (sh_141 hx) hf sne (fun t2 hf => ?_)
    refine PW.iload_n cx qX7_canFeed_15 rfl ?_
    refine PW.icmp_lt cx qX7_canFeed_16 hf (fun hf => ?_) (fun hf => ?_)
    · refine PW.iconst (v := 0) cx qX7_canFeed_36 rfl ?_
      exact PW.zret cx hrt nb0 qX7_canFeed_37 (le_rz hf)
    · refine PW.aload_n cx qX7_canFeed_19 rfl ?_
      refine PW.iload_n cx qX7_canFeed_20 rfl ?_
      refine PW.iconst (v := 2) cx qX7_canFeed_21 rfl ?_
      refine PW.callVRI (As := [.int p1, .int 2]) (st := []) cx hR qX7_canFeed_22 klX7_70 mvX7_of (sh_140 hx) rfl rfl rfl rfl (Nat.le_of_ble_eq_true rfl) (Nat.le_of_ble_eq_true rfl) (Nat.le_of_ble_eq_true rfl) (Nat.zero_le _) (Nat.zero_le _) hf sne (fun t e => ctX7_of hx h p1 2 t e) (fun t3 hf => ?_)
      refine PW.iload_n cx qX7_canFeed_25 rfl ?_
      refine PW.iadd cx qX7_canFeed_26 ?_
      refine PW.bipush (v := 99) cx qX7_canFeed_27 rfl ?_
      refine PW.icmp_gt cx qX7_canFeed_29 hf (fun hf => ?_) (fun hf => ?_)
      · refine PW.iconst (v := 0) cx qX7_canFeed_36 rfl ?_
        exact PW.zret cx hrt nb0 qX7_canFeed_37 (le_rz hf)
      · refine PW.iconst (v := 1) cx qX7_canFeed_32 rfl ?_
        refine PW.goto cx qX7_canFeed_33 ?_
        exact PW.zret cx hrt nb1 qX7_canFeed_37 (le_rz hf)
  · refine PW.iconst (v := 0) cx qX7_canFeed_36 rfl ?_
    exact PW.zret cx hrt nb0 qX7_canFeed_37 (le_rz hf)
theorem ctX7_feeds {g : GT} {ex : Bool} {sh : List Shp} (hx : MSh sh) (h : Hp) (p1 : Int32) (p2 : Int32) (r0 : Int32 × Hp) (hf : M_feeds h p1 p2 = some r0) : Ct g mX7_feeds 1 0 0 ex [.ref (gB g + 140), .int p1, .int p2] sh h (PE (some (.int r0.1)) sh r0.2) := by
  refine Ct.of (L := [some (.ref (gB g + 140)), some (.int p1), some (.int p2)]) (by decide) (by intro w hw; simp only [List.mem_cons, List.not_mem_nil, or_false] at hw; rcases hw with rfl | rfl | rfl <;> rfl) (Nat.le_of_ble_eq_true rfl) rfl (fun X mx => ?_)
  obtain ⟨cx, hR, hml, hrt, -⟩ := mx
  have cx : Cx g X RX7 cX7_feeds := cx
  have hrt : X.2.2.2.2.2.2.2.1.sig.returnType = (some .int) := hrt
  unfold M_feeds at hf
  refine PW.aload_n cx qX7_feeds_0 rfl ?_
  refine PW.iload_n cx qX7_feeds_1 rfl ?_
  refine PW.iconst (v := 2) cx qX7_feeds_2 rfl ?_
  refine PW.aload_n cx qX7_feeds_3 rfl ?_
  refine PW.iload_n cx qX7_feeds_4 rfl ?_
  refine PW.iconst (v := 2) cx qX7_feeds_5 rfl ?_
  refine PW.callVRI (As := [.int p1, .int 2]) (st := [.int 2, .int p1, .ref (gB g + 140)]) cx hR qX7_feeds_6 klX7_70 mvX7_of (sh_140 hx) rfl rfl rfl rfl (Nat.le_of_ble_eq_true rfl) (Nat.le_of_ble_eq_true rfl) (Nat.le_of_ble_eq_true rfl) (Nat.zero_le _) (Nat.zero_le _) hf sne (fun t e => ctX7_of hx h p1 2 t e) (fun t1 hf => ?_)
  refine PW.iload_n cx qX7_feeds_9 rfl ?_
  refine PW.iadd cx qX7_feeds_10 ?_
  refine PW.callVWV (As := [.int p1, .int 2, .int (t1 + p2)]) (st := []) cx hR qX7_feeds_11 klX7_117 mvX7_to (sh_140 hx) rfl rfl rfl rfl (Nat.le_of_ble_eq_true rfl) (Nat.le_of_ble_eq_true rfl) (Nat.le_of_ble_eq_true rfl) (Nat.zero_le _) (Nat.zero_le _) hf sne (fun t e => ctX7_to hx h p1 2 (t1 + p2) t e) (fun h3 hf => ?_)
  refine PW.aload_n cx qX7_feeds_14 rfl ?_
  refine PW.getf (t := (2, 141)) (v := .ref (gB g + 141)) cx qX7_feeds_15 (sh_140 hx) rfl flX7_7 rfl ?_
  refine PW.iconst (v := 1) cx qX7_feeds_18 rfl ?_
  refine PW.dup2 cx qX7_feeds_19 rfl rfl ?_
  refine PW.iald cx qX7_feeds_20 (sh_141 hx) hf sne (fun t4 hf => ?_)
  refine PW.iload_n cx qX7_feeds_21 rfl ?_
  refine PW.isub cx qX7_feeds_22 ?_
  refine PW.iast cx qX7_feeds_23 (sh_141 hx) hf sne (fun h5 hf => ?_)
  refine PW.aload_n cx qX7_feeds_24 rfl ?_
  refine PW.getf (t := (2, 141)) (v := .ref (gB g + 141)) cx qX7_feeds_25 (sh_140 hx) rfl flX7_7 rfl ?_
  refine PW.bipush (v := 6) cx qX7_feeds_28 rfl ?_
  refine PW.dup2 cx qX7_feeds_30 rfl rfl ?_
  refine PW.iald cx qX7_feeds_31 (sh_141 hx) hf sne (fun t6 hf => ?_)
  refine PW.iload_n cx qX7_feeds_32 rfl ?_
  refine PW.iadd cx qX7_feeds_33 ?_
  refine PW.iast cx qX7_feeds_34 (sh_141 hx) hf sne (fun h7 hf => ?_)
  refine PW.aload_n cx qX7_feeds_35 rfl ?_
  refine PW.iload_n cx qX7_feeds_36 rfl ?_
  refine PW.iconst (v := 2) cx qX7_feeds_37 rfl ?_
  refine PW.callVRI (As := [.int p1, .int 2]) (st := []) cx hR qX7_feeds_38 klX7_70 mvX7_of (sh_140 hx) rfl rfl rfl rfl (Nat.le_of_ble_eq_true rfl) (Nat.le_of_ble_eq_true rfl) (Nat.le_of_ble_eq_true rfl) (Nat.zero_le _) (Nat.zero_le _) hf sne (fun t e => ctX7_of hx h7 p1 2 t e) (fun t8 hf => ?_)
  exact PW.iret cx hrt qX7_feeds_41 (le_wi hf)
theorem lX7_paints_6 {g : GT} {X : XT} {ex : Bool} {sh : List Shp} {post : Option Value → List Shp → Hp → Prop} (mx : Mx g X mX7_paints 3 0 0) (hx : MSh sh) (h : Hp) (c1 : Int32) (c2 : Int32) (c3 : Int32) : ∀ (n : Nat) (v4 : Int32) (v5 : Int32) (r : Int32) (hf : M_paints_L6 h c1 c2 c3 n v4 v5 = some r) (kx : ∀ (x4 : Int32), r = x4 → PW g X ex (QE g X ex post 0 0) 0 0 sh h 55 [some (.ref (gB g + 140)), some (.int c1), some (.int c2), some (.int c3), some (.int x4), none] []), PW g X ex (QE g X ex post 0 0) 0 0 sh h 6 [some (.ref (gB g + 140)), some (.int c1), some (.int c2), some (.int c3), some (.int v4), some (.int v5)] [] := by
  have mx0 := mx
  obtain ⟨cx, hR, hml, hrt, -⟩ := mx0
  have cx : Cx g X RX7 cX7_paints := cx
  have hrt : X.2.2.2.2.2.2.2.1.sig.returnType = (some .int) := hrt
  have hi4 : 4 < X.2.2.2.2.2.2.2.2.maxLocals := by rw [hml]; exact Nat.le_of_ble_eq_true rfl
  have hi5 : 5 < X.2.2.2.2.2.2.2.2.maxLocals := by rw [hml]; exact Nat.le_of_ble_eq_true rfl
  intro n
  induction n with
  | zero =>
    intro v4 v5 r hf kx
    cases hf
  | succ n ih =>
    intro v4 v5 r hf kx
    unfold M_paints_L6 at hf
    refine PW.iload cx qX7_paints_6 rfl ?_
    refine PW.aload_n cx qX7_paints_8 rfl ?_
    refine PW.iload_n cx qX7_paints_9 rfl ?_
    refine PW.iconst (v := 0) cx qX7_paints_10 rfl ?_
    refine PW.callVRI (As := [.int c1, .int 0]) (st := [.int v5]) cx hR qX7_paints_11 klX7_70 mvX7_of (sh_140 hx) rfl rfl rfl rfl (Nat.le_of_ble_eq_true rfl) (Nat.le_of_ble_eq_true rfl) (Nat.le_of_ble_eq_true rfl) (Nat.zero_le _) (Nat.zero_le _) hf sne (fun t e => ctX7_of hx h c1 0 t e) (fun t1 hf => ?_)
    refine PW.callSRI (As := [.int t1]) (st := [.int v5]) cx hR qX7_paints_14 klX7_61 miX7_digits rfl rfl (Nat.le_of_ble_eq_true rfl) (Nat.le_of_ble_eq_true rfl) (Nat.le_of_ble_eq_true rfl) (Nat.zero_le _) (Nat.zero_le _) hf sne (fun t e => ctX7_digits h t1 t e) (fun t2 hf => ?_)
    refine PW.icmp_ge cx qX7_paints_17 hf (fun hf => ?_) (fun hf => ?_)
    · exact PW.locs (Lsub.keep (Lsub.keep (Lsub.keep (Lsub.keep (Lsub.keep (Lsub.drop Lsub.nil)))))) (kx v4 (Option.some.inj hf).symm)
    · refine PW.bipush (v := 10) cx qX7_paints_20 rfl ?_
      refine PW.iload cx qX7_paints_22 rfl ?_
      refine PW.imul cx qX7_paints_24 ?_
      refine PW.iload cx qX7_paints_25 rfl ?_
      refine PW.iload_n cx qX7_paints_27 rfl ?_
      refine PW.icmp_ne cx qX7_paints_28 hf (fun hf => ?_) (fun hf => ?_)
      · refine PW.iload_n cx qX7_paints_31 rfl ?_
        refine PW.goto cx qX7_paints_32 ?_
        refine PW.iadd cx qX7_paints_46 ?_
        refine PW.istore (L' := [some (.ref (gB g + 140)), some (.int c1), some (.int c2), some (.int c3), some (.int ((10 * v4) + c3)), some (.int v5)]) cx qX7_paints_47 hi4 rfl rfl ?_
        refine PW.iinc (v := 1) (L' := [some (.ref (gB g + 140)), some (.int c1), some (.int c2), some (.int c3), some (.int ((10 * v4) + c3)), some (.int (v5 + 1))]) cx qX7_paints_49 rfl rfl hi5 rfl rfl ?_
        refine PW.goto cx qX7_paints_52 ?_
        exact PW.locs (Lsub.keep (Lsub.keep (Lsub.keep (Lsub.keep (Lsub.keep (Lsub.keep Lsub.nil)))))) (ih ((10 * v4) + c3) (v5 + 1) _ hf kx)
      · refine PW.aload_n cx qX7_paints_35 rfl ?_
        refine PW.iload_n cx qX7_paints_36 rfl ?_
        refine PW.iconst (v := 0) cx qX7_paints_37 rfl ?_
        refine PW.callVRI (As := [.int c1, .int 0]) (st := [.int (10 * v4)]) cx hR qX7_paints_38 klX7_70 mvX7_of (sh_140 hx) rfl rfl rfl rfl (Nat.le_of_ble_eq_true rfl) (Nat.le_of_ble_eq_true rfl) (Nat.le_of_ble_eq_true rfl) (Nat.zero_le _) (Nat.zero_le _) hf sne (fun t e => ctX7_of hx h c1 0 t e) (fun t3 hf => ?_)
        refine PW.iload cx qX7_paints_41 rfl ?_
        refine PW.callSRI (As := [.int t3, .int v5]) (st := [.int (10 * v4)]) cx hR qX7_paints_43 klX7_74 miX7_digit rfl rfl (Nat.le_of_ble_eq_true rfl) (Nat.le_of_ble_eq_true rfl) (Nat.le_of_ble_eq_true rfl) (Nat.zero_le _) (Nat.zero_le _) hf sne (fun t e => ctX7_digit h t3 v5 t e) (fun t4 hf => ?_)
        refine PW.iadd cx qX7_paints_46 ?_
        refine PW.istore (L' := [some (.ref (gB g + 140)), some (.int c1), some (.int c2), some (.int c3), some (.int ((10 * v4) + t4)), some (.int v5)]) cx qX7_paints_47 hi4 rfl rfl ?_
        refine PW.iinc (v := 1) (L' := [some (.ref (gB g + 140)), some (.int c1), some (.int c2), some (.int c3), some (.int ((10 * v4) + t4)), some (.int (v5 + 1))]) cx qX7_paints_49 rfl rfl hi5 rfl rfl ?_
        refine PW.goto cx qX7_paints_52 ?_
        exact PW.locs (Lsub.keep (Lsub.keep (Lsub.keep (Lsub.keep (Lsub.keep (Lsub.keep Lsub.nil)))))) (ih ((10 * v4) + t4) (v5 + 1) _ hf kx)
theorem ctX7_paints {g : GT} {ex : Bool} {sh : List Shp} (hx : MSh sh) (h : Hp) (p1 : Int32) (p2 : Int32) (p3 : Int32) (r0 : Int32 × Hp) (hf : M_paints h p1 p2 p3 = some r0) : Ct g mX7_paints 3 0 0 ex [.ref (gB g + 140), .int p1, .int p2, .int p3] sh h (PE (some (.int r0.1)) sh r0.2) := by
  refine Ct.of (L := [some (.ref (gB g + 140)), some (.int p1), some (.int p2), some (.int p3), none, none]) (by decide) (by intro w hw; simp only [List.mem_cons, List.not_mem_nil, or_false] at hw; rcases hw with rfl | rfl | rfl | rfl <;> rfl) (Nat.le_of_ble_eq_true rfl) rfl (fun X mx => ?_)
  have mx0 := mx
  obtain ⟨cx, hR, hml, hrt, -⟩ := mx0
  have cx : Cx g X RX7 cX7_paints := cx
  have hrt : X.2.2.2.2.2.2.2.1.sig.returnType = (some .int) := hrt
  have hi4 : 4 < X.2.2.2.2.2.2.2.2.maxLocals := by rw [hml]; exact Nat.le_of_ble_eq_true rfl
  have hi5 : 5 < X.2.2.2.2.2.2.2.2.maxLocals := by rw [hml]; exact Nat.le_of_ble_eq_true rfl
  unfold M_paints at hf
  refine PW.iconst (v := 0) cx qX7_paints_0 rfl ?_
  refine PW.istore (L' := [some (.ref (gB g + 140)), some (.int p1), some (.int p2), some (.int p3), some (.int 0), none]) cx qX7_paints_1 hi4 rfl rfl ?_
  refine PW.iconst (v := 0) cx qX7_paints_3 rfl ?_
  refine PW.istore (L' := [some (.ref (gB g + 140)), some (.int p1), some (.int p2), some (.int p3), some (.int 0), some (.int 0)]) cx qX7_paints_4 hi5 rfl rfl ?_
  obtain ⟨r5, er5, hf⟩ := bndO hf sne
  refine PW.locs (Lsub.keep (Lsub.keep (Lsub.keep (Lsub.keep (Lsub.keep (Lsub.keep Lsub.nil)))))) (lX7_paints_6 mx hx h p1 p2 p3 FU 0 0 r5 er5 (fun xx_ e => ?_))
  subst e
  refine PW.aload_n cx qX7_paints_55 rfl ?_
  refine PW.iload_n cx qX7_paints_56 rfl ?_
  refine PW.iconst (v := 0) cx qX7_paints_57 rfl ?_
  refine PW.iload cx qX7_paints_58 rfl ?_
  refine PW.callVWV (As := [.int p1, .int 0, .int r5]) (st := []) cx hR qX7_paints_60 klX7_117 mvX7_to (sh_140 hx) rfl rfl rfl rfl (Nat.le_of_ble_eq_true rfl) (Nat.le_of_ble_eq_true rfl) (Nat.le_of_ble_eq_true rfl) (Nat.zero_le _) (Nat.zero_le _) hf sne (fun t e => ctX7_to hx h p1 0 r5 t e) (fun h7 hf => ?_)
  refine PW.aload_n cx qX7_paints_63 rfl ?_
  refine PW.iload_n cx qX7_paints_64 rfl ?_
  refine PW.callVRI (As := [.int p1]) (st := []) cx hR qX7_paints_65 klX7_89 mvX7_hashOf (sh_140 hx) rfl rfl rfl rfl (Nat.le_of_ble_eq_true rfl) (Nat.le_of_ble_eq_true rfl) (Nat.le_of_ble_eq_true rfl) (Nat.zero_le _) (Nat.zero_le _) hf sne (fun t e => ctX7_hashOf hx h7 p1 t e) (fun t8 hf => ?_)
  exact PW.iret cx hrt qX7_paints_68 (le_wi hf)
theorem ctX7_burns {g : GT} {ex : Bool} {sh : List Shp} (hx : MSh sh) (h : Hp) (p1 : Int32) (r0 : Bool × Hp) (hf : M_burns h p1 = some r0) : Ct g mX7_burns 4 0 0 ex [.ref (gB g + 140), .int p1] sh h (PE (some (.int (b2i r0.1))) sh r0.2) := by
  refine Ct.of (L := [some (.ref (gB g + 140)), some (.int p1), none]) (by decide) (by intro w hw; simp only [List.mem_cons, List.not_mem_nil, or_false] at hw; rcases hw with rfl | rfl <;> rfl) (Nat.le_of_ble_eq_true rfl) rfl (fun X mx => ?_)
  obtain ⟨cx, hR, hml, hrt, -⟩ := mx
  have cx : Cx g X RX7 cX7_burns := cx
  have hrt : X.2.2.2.2.2.2.2.1.sig.returnType = (some .boolean) := hrt
  have hi2 : 2 < X.2.2.2.2.2.2.2.2.maxLocals := by rw [hml]; exact Nat.le_of_ble_eq_true rfl
  unfold M_burns at hf
  refine PW.aload_n cx qX7_burns_0 rfl ?_
  refine PW.iload_n cx qX7_burns_1 rfl ?_
  refine PW.iconst (v := 1) cx qX7_burns_2 rfl ?_
  refine PW.callVRI (As := [.int p1, .int 1]) (st := []) cx hR qX7_burns_3 klX7_70 mvX7_of (sh_140 hx) rfl rfl rfl rfl (Nat.le_of_ble_eq_true rfl) (Nat.le_of_ble_eq_true rfl) (Nat.le_of_ble_eq_true rfl) (Nat.zero_le _) (Nat.zero_le _) hf sne (fun t e => ctX7_of hx h p1 1 t e) (fun t1 hf => ?_)
  refine PW.iconst (v := 2) cx qX7_burns_6 rfl ?_
  refine PW.icmp_ne cx qX7_burns_7 hf (fun hf => ?_) (fun hf => ?_)
  · refine PW.iconst (v := 0) cx qX7_burns_10 rfl ?_
    exact PW.zret cx hrt nb0 qX7_burns_11 (le_wz hf)
  · refine PW.aload_n cx qX7_burns_12 rfl ?_
    refine PW.iload_n cx qX7_burns_13 rfl ?_
    refine PW.iconst (v := 2) cx qX7_burns_14 rfl ?_
    refine PW.callVRI (As := [.int p1, .int 2]) (st := []) cx hR qX7_burns_15 klX7_70 mvX7_of (sh_140 hx) rfl rfl rfl rfl (Nat.le_of_ble_eq_true rfl) (Nat.le_of_ble_eq_true rfl) (Nat.le_of_ble_eq_true rfl) (Nat.zero_le _) (Nat.zero_le _) hf sne (fun t e => ctX7_of hx h p1 2 t e) (fun t2 hf => ?_)
    refine PW.aload_n cx qX7_burns_18 rfl ?_
    refine PW.iload_n cx qX7_burns_19 rfl ?_
    refine PW.iconst (v := 1) cx qX7_burns_20 rfl ?_
    refine PW.callVRI (As := [.int p1, .int 1]) (st := [.int t2]) cx hR qX7_burns_21 klX7_70 mvX7_of (sh_140 hx) rfl rfl rfl rfl (Nat.le_of_ble_eq_true rfl) (Nat.le_of_ble_eq_true rfl) (Nat.le_of_ble_eq_true rfl) (Nat.zero_le _) (Nat.zero_le _) hf sne (fun t e => ctX7_of hx h p1 1 t e) (fun t3 hf => ?_)
    refine PW.iconst (v := 1) cx qX7_burns_24 rfl ?_
    obtain ⟨j33, ej33, hf⟩ := lt_split hf
    have hj33 : ∀ (z0_33 : Int32), j33 z0_33 = some r0 → PW g X ex (QE g X ex (PE (some (.int (b2i r0.1))) sh r0.2) 0 0) 0 0 sh h 33 [some (.ref (gB g + 140)), some (.int p1), none] [.int z0_33, .int t2] := by
      intro z0_33 hf
      rw [ej33] at hf
      refine PW.mmin cx hR qX7_burns_33 klX7_139 (Nat.le_of_ble_eq_true rfl) (Nat.le_of_ble_eq_true rfl) (Nat.zero_le _) (Nat.zero_le _) ?_
      refine PW.istore_n (L' := [some (.ref (gB g + 140)), some (.int p1), some (.int (mnI t2 z0_33))]) cx qX7_burns_36 hi2 rfl rfl ?_
      refine PW.aload_n cx qX7_burns_37 rfl ?_
      refine PW.iload_n cx qX7_burns_38 rfl ?_
      refine PW.iconst (v := 2) cx qX7_burns_39 rfl ?_
      refine PW.aload_n cx qX7_burns_40 rfl ?_
      refine PW.iload_n cx qX7_burns_41 rfl ?_
      refine PW.iconst (v := 2) cx qX7_burns_42 rfl ?_
      refine PW.callVRI (As := [.int p1, .int 2]) (st := [.int 2, .int p1, .ref (gB g + 140)]) cx hR qX7_burns_43 klX7_70 mvX7_of (sh_140 hx) rfl rfl rfl rfl (Nat.le_of_ble_eq_true rfl) (Nat.le_of_ble_eq_true rfl) (Nat.le_of_ble_eq_true rfl) (Nat.zero_le _) (Nat.zero_le _) hf sne (fun t e => ctX7_of hx h p1 2 t e) (fun t4 hf => ?_)
      refine PW.iload_n cx qX7_burns_46 rfl ?_
      refine PW.isub cx qX7_burns_47 ?_
      refine PW.callVWV (As := [.int p1, .int 2, .int (t4 - (mnI t2 z0_33))]) (st := []) cx hR qX7_burns_48 klX7_117 mvX7_to (sh_140 hx) rfl rfl rfl rfl (Nat.le_of_ble_eq_true rfl) (Nat.le_of_ble_eq_true rfl) (Nat.le_of_ble_eq_true rfl) (Nat.zero_le _) (Nat.zero_le _) hf sne (fun t e => ctX7_to hx h p1 2 (t4 - (mnI t2 z0_33)) t e) (fun h6 hf => ?_)
      refine PW.aload_n cx qX7_burns_51 rfl ?_
      refine PW.getf (t := (2, 141)) (v := .ref (gB g + 141)) cx qX7_burns_52 (sh_140 hx) rfl flX7_7 rfl ?_
      refine PW.iconst (v := 5) cx qX7_burns_55 rfl ?_
      refine PW.dup2 cx qX7_burns_56 rfl rfl ?_
      refine PW.iald cx qX7_burns_57 (sh_141 hx) hf sne (fun t7 hf => ?_)
      refine PW.iload_n cx qX7_burns_58 rfl ?_
      refine PW.iadd cx qX7_burns_59 ?_
      refine PW.iast cx qX7_burns_60 (sh_141 hx) hf sne (fun h8 hf => ?_)
      refine PW.aload_n cx qX7_burns_61 rfl ?_
      refine PW.iload_n cx qX7_burns_62 rfl ?_
      refine PW.iconst (v := 2) cx qX7_burns_63 rfl ?_
      refine PW.callVRI (As := [.int p1, .int 2]) (st := []) cx hR qX7_burns_64 klX7_70 mvX7_of (sh_140 hx) rfl rfl rfl rfl (Nat.le_of_ble_eq_true rfl) (Nat.le_of_ble_eq_true rfl) (Nat.le_of_ble_eq_true rfl) (Nat.zero_le _) (Nat.zero_le _) hf sne (fun t e => ctX7_of hx h8 p1 2 t e) (fun t9 hf => ?_)
      obtain ⟨j77, ej77, hf⟩ := lt_split hf
      have hj77 : ∀ (h_77 : Hp), j77 h_77 = some r0 → PW g X ex (QE g X ex (PE (some (.int (b2i r0.1))) sh r0.2) 0 0) 0 0 sh h_77 77 [some (.ref (gB g + 140)), some (.int p1), none] [] := by
        intro h_77 hf
        rw [ej77] at hf
        refine PW.aload_n cx qX7_burns_77 rfl ?_
        refine PW.iload_n cx qX7_burns_78 rfl ?_
        refine PW.iconst (v := 2) cx qX7_burns_79 rfl ?_
        refine PW.callVRI (As := [.int p1, .int 2]) (st := []) cx hR qX7_burns_80 klX7_70 mvX7_of (sh_140 hx) rfl rfl rfl rfl (Nat.le_of_ble_eq_true rfl) (Nat.le_of_ble_eq_true rfl) (Nat.le_of_ble_eq_true rfl) (Nat.zero_le _) (Nat.zero_le _) hf sne (fun t e => ctX7_of hx h_77 p1 2 t e) (fun t10 hf => ?_)
        refine PW.if_ne cx qX7_burns_83 hf (fun hf => ?_) (fun hf => ?_)
        · refine PW.iconst (v := 1) cx qX7_burns_86 rfl ?_
          refine PW.goto cx qX7_burns_87 ?_
          exact PW.zret cx hrt nb1 qX7_burns_91 (le_wz hf)
        · refine PW.iconst (v := 0) cx qX7_burns_90 rfl ?_
          exact PW.zret cx hrt nb0 qX7_burns_91 (le_wz hf)
      refine PW.if_ne cx qX7_burns_67 hf (fun hf => ?_) (fun hf => ?_)
      · refine PW.aload_n cx qX7_burns_70 rfl ?_
        refine PW.iload_n cx qX7_burns_71 rfl ?_
        refine PW.iconst (v := 2) cx qX7_burns_72 rfl ?_
        refine PW.callVWI (As := [.int p1, .int 2]) (st := []) cx hR qX7_burns_73 klX7_133 mvX7_leaves (sh_140 hx) rfl rfl rfl rfl (Nat.le_of_ble_eq_true rfl) (Nat.le_of_ble_eq_true rfl) (Nat.le_of_ble_eq_true rfl) (Nat.zero_le _) (Nat.zero_le _) hf sne (fun t e => ctX7_leaves hx h8 p1 2 t e) (fun ⟨t11, h12⟩ hf => ?_)
        refine PW.pop cx qX7_burns_76 rfl ?_
        exact PW.locs (Lsub.keep (Lsub.keep (Lsub.drop Lsub.nil))) (hj77 h12 hf)
      · exact PW.locs (Lsub.keep (Lsub.keep (Lsub.drop Lsub.nil))) (hj77 h8 hf)
    refine PW.icmp_ne cx qX7_burns_25 hf (fun hf => ?_) (fun hf => ?_)
    · refine PW.iconst (v := 1) cx qX7_burns_28 rfl ?_
      refine PW.goto cx qX7_burns_29 ?_
      exact PW.locs (Lsub.keep (Lsub.keep (Lsub.drop Lsub.nil))) (hj33 1 hf)
    · refine PW.iconst (v := 4) cx qX7_burns_32 rfl ?_
      exact PW.locs (Lsub.keep (Lsub.keep (Lsub.drop Lsub.nil))) (hj33 4 hf)
theorem lX7_passes_22 {g : GT} {X : XT} {ex : Bool} {sh : List Shp} {post : Option Value → List Shp → Hp → Prop} (mx : Mx g X mX7_passes 5 0 0) (hx : MSh sh) (d1 : Int32) (d3 : Int32) : ∀ (n : Nat) (v2 : Int32) (v4 : Int32) (h : Hp) (r : Int32 × Hp) (hf : M_passes_L22 n v2 v4 h = some r) (kx : ∀ (x2 : Int32) (h1 : Hp), r = (x2, h1) → PW g X ex (QE g X ex post 0 0) 0 0 sh h1 56 [some (.ref (gB g + 140)), some (.int d1), some (.int x2), some (.int d3), none, none] []), PW g X ex (QE g X ex post 0 0) 0 0 sh h 22 [some (.ref (gB g + 140)), some (.int d1), some (.int v2), some (.int d3), some (.int v4), none] [] := by
  have mx0 := mx
  obtain ⟨cx, hR, hml, hrt, -⟩ := mx0
  have cx : Cx g X RX7 cX7_passes := cx
  have hrt : X.2.2.2.2.2.2.2.1.sig.returnType = (some .int) := hrt
  have hi2 : 2 < X.2.2.2.2.2.2.2.2.maxLocals := by rw [hml]; exact Nat.le_of_ble_eq_true rfl
  have hi3 : 3 < X.2.2.2.2.2.2.2.2.maxLocals := by rw [hml]; exact Nat.le_of_ble_eq_true rfl
  have hi4 : 4 < X.2.2.2.2.2.2.2.2.maxLocals := by rw [hml]; exact Nat.le_of_ble_eq_true rfl
  have hi5 : 5 < X.2.2.2.2.2.2.2.2.maxLocals := by rw [hml]; exact Nat.le_of_ble_eq_true rfl
  intro n
  induction n with
  | zero =>
    intro v2 v4 h r hf kx
    cases hf
  | succ n ih =>
    intro v2 v4 h r hf kx
    unfold M_passes_L22 at hf
    refine PW.iload cx qX7_passes_22 rfl ?_
    refine PW.aload_n cx qX7_passes_24 rfl ?_
    refine PW.getf (t := (2, 141)) (v := .ref (gB g + 141)) cx qX7_passes_25 (sh_140 hx) rfl flX7_7 rfl ?_
    refine PW.iconst (v := 2) cx qX7_passes_28 rfl ?_
    refine PW.iald cx qX7_passes_29 (sh_141 hx) hf sne (fun t3 hf => ?_)
    refine PW.icmp_ge cx qX7_passes_30 hf (fun hf => ?_) (fun hf => ?_)
    · exact PW.locs (Lsub.keep (Lsub.keep (Lsub.keep (Lsub.keep (Lsub.drop (Lsub.drop Lsub.nil)))))) (kx v2 h (Option.some.inj hf).symm)
    · refine PW.iload_n cx qX7_passes_33 rfl ?_
      refine PW.aload_n cx qX7_passes_34 rfl ?_
      refine PW.iload cx qX7_passes_35 rfl ?_
      refine PW.callVWB (As := [.int v4]) (st := [.int v2]) cx hR qX7_passes_37 klX7_142 mvX7_burns (sh_140 hx) rfl rfl rfl rfl (Nat.le_of_ble_eq_true rfl) (Nat.le_of_ble_eq_true rfl) (Nat.le_of_ble_eq_true rfl) (Nat.zero_le _) (Nat.zero_le _) hf sne (fun t e => ctX7_burns hx h v4 t e) (fun ⟨t4, h5⟩ hf => ?_)
      refine PW.if_eq cx qX7_passes_40 hf (fun hf => ?_) (fun hf => ?_)
      · refine PW.iconst (v := 0) cx qX7_passes_47 rfl ?_
        refine PW.iadd cx qX7_passes_48 ?_
        refine PW.istore_n (L' := [some (.ref (gB g + 140)), some (.int d1), some (.int (v2 + 0)), some (.int d3), some (.int v4), none]) cx qX7_passes_49 hi2 rfl rfl ?_
        refine PW.iinc (v := 1) (L' := [some (.ref (gB g + 140)), some (.int d1), some (.int (v2 + 0)), some (.int d3), some (.int (v4 + 1)), none]) cx qX7_passes_50 rfl rfl hi4 rfl rfl ?_
        refine PW.goto cx qX7_passes_53 ?_
        exact PW.locs (Lsub.keep (Lsub.keep (Lsub.keep (Lsub.keep (Lsub.keep (Lsub.drop Lsub.nil)))))) (ih (v2 + 0) (v4 + 1) h5 _ hf kx)
      · refine PW.iconst (v := 1) cx qX7_passes_43 rfl ?_
        refine PW.goto cx qX7_passes_44 ?_
        refine PW.iadd cx qX7_passes_48 ?_
        refine PW.istore_n (L' := [some (.ref (gB g + 140)), some (.int d1), some (.int (v2 + 1)), some (.int d3), some (.int v4), none]) cx qX7_passes_49 hi2 rfl rfl ?_
        refine PW.iinc (v := 1) (L' := [some (.ref (gB g + 140)), some (.int d1), some (.int (v2 + 1)), some (.int d3), some (.int (v4 + 1)), none]) cx qX7_passes_50 rfl rfl hi4 rfl rfl ?_
        refine PW.goto cx qX7_passes_53 ?_
        exact PW.locs (Lsub.keep (Lsub.keep (Lsub.keep (Lsub.keep (Lsub.keep (Lsub.drop Lsub.nil)))))) (ih (v2 + 1) (v4 + 1) h5 _ hf kx)
theorem lX7_passes_59 {g : GT} {X : XT} {ex : Bool} {sh : List Shp} {post : Option Value → List Shp → Hp → Prop} (mx : Mx g X mX7_passes 5 0 0) (hx : MSh sh) (d1 : Int32) (d2 : Int32) (d3 : Int32) : ∀ (n : Nat) (v4 : Int32) (h : Hp) (r : Hp) (hf : M_passes_L59 n v4 h = some r) (kx : ∀ (h1 : Hp), r = h1 → PW g X ex (QE g X ex post 0 0) 0 0 sh h1 117 [some (.ref (gB g + 140)), some (.int d1), some (.int d2), some (.int d3), none, none] []), PW g X ex (QE g X ex post 0 0) 0 0 sh h 59 [some (.ref (gB g + 140)), some (.int d1), some (.int d2), some (.int d3), some (.int v4), none] [] := by
  have mx0 := mx
  obtain ⟨cx, hR, hml, hrt, -⟩ := mx0
  have cx : Cx g X RX7 cX7_passes := cx
  have hrt : X.2.2.2.2.2.2.2.1.sig.returnType = (some .int) := hrt
  have hi2 : 2 < X.2.2.2.2.2.2.2.2.maxLocals := by rw [hml]; exact Nat.le_of_ble_eq_true rfl
  have hi3 : 3 < X.2.2.2.2.2.2.2.2.maxLocals := by rw [hml]; exact Nat.le_of_ble_eq_true rfl
  have hi4 : 4 < X.2.2.2.2.2.2.2.2.maxLocals := by rw [hml]; exact Nat.le_of_ble_eq_true rfl
  have hi5 : 5 < X.2.2.2.2.2.2.2.2.maxLocals := by rw [hml]; exact Nat.le_of_ble_eq_true rfl
  intro n
  induction n with
  | zero =>
    intro v4 h r hf kx
    cases hf
  | succ n ih =>
    intro v4 h r hf kx
    unfold M_passes_L59 at hf
    refine PW.iload cx qX7_passes_59 rfl ?_
    refine PW.aload_n cx qX7_passes_61 rfl ?_
    refine PW.getf (t := (2, 141)) (v := .ref (gB g + 141)) cx qX7_passes_62 (sh_140 hx) rfl flX7_7 rfl ?_
    refine PW.iconst (v := 4) cx qX7_passes_65 rfl ?_
    refine PW.iald cx qX7_passes_66 (sh_141 hx) hf sne (fun t9 hf => ?_)
    refine PW.icmp_ge cx qX7_passes_67 hf (fun hf => ?_) (fun hf => ?_)
    · exact PW.locs (Lsub.keep (Lsub.keep (Lsub.keep (Lsub.keep (Lsub.drop (Lsub.drop Lsub.nil)))))) (kx h (Option.some.inj hf).symm)
    · refine PW.bipush (v := 96) cx qX7_passes_70 rfl ?_
      refine PW.iconst (v := 2) cx qX7_passes_72 rfl ?_
      refine PW.iload cx qX7_passes_73 rfl ?_
      refine PW.imul cx qX7_passes_75 ?_
      refine PW.iadd cx qX7_passes_76 ?_
      refine PW.istore (L' := [some (.ref (gB g + 140)), some (.int d1), some (.int d2), some (.int d3), some (.int v4), some (.int (96 + (2 * v4)))]) cx qX7_passes_77 hi5 rfl rfl ?_
      refine PW.aload_n cx qX7_passes_79 rfl ?_
      refine PW.getf (t := (2, 141)) (v := .ref (gB g + 141)) cx qX7_passes_80 (sh_140 hx) rfl flX7_7 rfl ?_
      refine PW.iload cx qX7_passes_83 rfl ?_
      refine PW.iconst (v := 1) cx qX7_passes_85 rfl ?_
      refine PW.iadd cx qX7_passes_86 ?_
      refine PW.aload_n cx qX7_passes_87 rfl ?_
      refine PW.getf (t := (2, 141)) (v := .ref (gB g + 141)) cx qX7_passes_88 (sh_140 hx) rfl flX7_7 rfl ?_
      refine PW.iload cx qX7_passes_91 rfl ?_
      refine PW.iconst (v := 0) cx qX7_passes_93 rfl ?_
      refine PW.iadd cx qX7_passes_94 ?_
      refine PW.iald cx qX7_passes_95 (sh_141 hx) hf sne (fun t10 hf => ?_)
      refine PW.aload_n cx qX7_passes_96 rfl ?_
      refine PW.getf (t := (2, 141)) (v := .ref (gB g + 141)) cx qX7_passes_97 (sh_140 hx) rfl flX7_7 rfl ?_
      refine PW.iload cx qX7_passes_100 rfl ?_
      refine PW.iconst (v := 1) cx qX7_passes_102 rfl ?_
      refine PW.iadd cx qX7_passes_103 ?_
      refine PW.iald cx qX7_passes_104 (sh_141 hx) hf sne (fun t11 hf => ?_)
      refine PW.iconst (v := 1) cx qX7_passes_105 rfl ?_
      refine PW.iadd cx qX7_passes_106 ?_
      refine PW.mmin cx hR qX7_passes_107 klX7_139 (Nat.le_of_ble_eq_true rfl) (Nat.le_of_ble_eq_true rfl) (Nat.zero_le _) (Nat.zero_le _) ?_
      refine PW.iast cx qX7_passes_110 (sh_141 hx) hf sne (fun h12 hf => ?_)
      refine PW.iinc (v := 1) (L' := [some (.ref (gB g + 140)), some (.int d1), some (.int d2), some (.int d3), some (.int (v4 + 1)), some (.int (96 + (2 * v4)))]) cx qX7_passes_111 rfl rfl hi4 rfl rfl ?_
      refine PW.goto cx qX7_passes_114 ?_
      exact PW.locs (Lsub.keep (Lsub.keep (Lsub.keep (Lsub.keep (Lsub.keep (Lsub.drop Lsub.nil)))))) (ih (v4 + 1) h12 _ hf kx)
theorem lX7_passes_4 {g : GT} {X : XT} {ex : Bool} {sh : List Shp} {post : Option Value → List Shp → Hp → Prop} (mx : Mx g X mX7_passes 5 0 0) (hx : MSh sh) (c1 : Int32) : ∀ (n : Nat) (v2 : Int32) (v3 : Int32) (h : Hp) (r : Int32 × Hp) (hf : M_passes_L4 c1 n v2 v3 h = some r) (kx : ∀ (x2 : Int32) (h1 : Hp), r = (x2, h1) → PW g X ex (QE g X ex post 0 0) 0 0 sh h1 123 [some (.ref (gB g + 140)), some (.int c1), some (.int x2), none, none, none] []), PW g X ex (QE g X ex post 0 0) 0 0 sh h 4 [some (.ref (gB g + 140)), some (.int c1), some (.int v2), some (.int v3), none, none] [] := by
  have mx0 := mx
  obtain ⟨cx, hR, hml, hrt, -⟩ := mx0
  have cx : Cx g X RX7 cX7_passes := cx
  have hrt : X.2.2.2.2.2.2.2.1.sig.returnType = (some .int) := hrt
  have hi2 : 2 < X.2.2.2.2.2.2.2.2.maxLocals := by rw [hml]; exact Nat.le_of_ble_eq_true rfl
  have hi3 : 3 < X.2.2.2.2.2.2.2.2.maxLocals := by rw [hml]; exact Nat.le_of_ble_eq_true rfl
  have hi4 : 4 < X.2.2.2.2.2.2.2.2.maxLocals := by rw [hml]; exact Nat.le_of_ble_eq_true rfl
  have hi5 : 5 < X.2.2.2.2.2.2.2.2.maxLocals := by rw [hml]; exact Nat.le_of_ble_eq_true rfl
  intro n
  induction n with
  | zero =>
    intro v2 v3 h r hf kx
    cases hf
  | succ n ih =>
    intro v2 v3 h r hf kx
    unfold M_passes_L4 at hf
    refine PW.iload_n cx qX7_passes_4 rfl ?_
    refine PW.iload_n cx qX7_passes_5 rfl ?_
    refine PW.icmp_ge cx qX7_passes_6 hf (fun hf => ?_) (fun hf => ?_)
    · exact PW.locs (Lsub.keep (Lsub.keep (Lsub.keep (Lsub.drop (Lsub.drop (Lsub.drop Lsub.nil)))))) (kx v2 h (Option.some.inj hf).symm)
    · refine PW.aload_n cx qX7_passes_9 rfl ?_
      refine PW.getf (t := (2, 141)) (v := .ref (gB g + 141)) cx qX7_passes_10 (sh_140 hx) rfl flX7_7 rfl ?_
      refine PW.iconst (v := 0) cx qX7_passes_13 rfl ?_
      refine PW.dup2 cx qX7_passes_14 rfl rfl ?_
      refine PW.iald cx qX7_passes_15 (sh_141 hx) hf sne (fun t1 hf => ?_)
      refine PW.iconst (v := 1) cx qX7_passes_16 rfl ?_
      refine PW.iadd cx qX7_passes_17 ?_
      refine PW.iast cx qX7_passes_18 (sh_141 hx) hf sne (fun h2 hf => ?_)
      refine PW.iconst (v := 0) cx qX7_passes_19 rfl ?_
      refine PW.istore (L' := [some (.ref (gB g + 140)), some (.int c1), some (.int v2), some (.int v3), some (.int 0), none]) cx qX7_passes_20 hi4 rfl rfl ?_
      obtain ⟨r6, er6, hf⟩ := bndO hf sne
      refine PW.locs (Lsub.keep (Lsub.keep (Lsub.keep (Lsub.keep (Lsub.keep (Lsub.drop Lsub.nil)))))) (lX7_passes_22 mx hx c1 v3 FU v2 0 h2 r6 er6 (fun x2_7 h8 e => ?_))
      subst e
      refine PW.iconst (v := 0) cx qX7_passes_56 rfl ?_
      refine PW.istore (L' := [some (.ref (gB g + 140)), some (.int c1), some (.int x2_7), some (.int v3), some (.int 0), none]) cx qX7_passes_57 hi4 rfl rfl ?_
      obtain ⟨r13, er13, hf⟩ := bndO hf sne
      refine PW.locs (Lsub.keep (Lsub.keep (Lsub.keep (Lsub.keep (Lsub.keep (Lsub.drop Lsub.nil)))))) (lX7_passes_59 mx hx c1 x2_7 v3 FU 0 h8 r13 er13 (fun xx_ e => ?_))
      subst e
      refine PW.iinc (v := 1) (L' := [some (.ref (gB g + 140)), some (.int c1), some (.int x2_7), some (.int (v3 + 1)), none, none]) cx qX7_passes_117 rfl rfl hi3 rfl rfl ?_
      refine PW.goto cx qX7_passes_120 ?_
      exact PW.locs (Lsub.keep (Lsub.keep (Lsub.keep (Lsub.keep (Lsub.drop (Lsub.drop Lsub.nil)))))) (ih x2_7 (v3 + 1) r13 _ hf kx)
theorem ctX7_passes {g : GT} {ex : Bool} {sh : List Shp} (hx : MSh sh) (h : Hp) (p1 : Int32) (r0 : Int32 × Hp) (hf : M_passes h p1 = some r0) : Ct g mX7_passes 5 0 0 ex [.ref (gB g + 140), .int p1] sh h (PE (some (.int r0.1)) sh r0.2) := by
  refine Ct.of (L := [some (.ref (gB g + 140)), some (.int p1), none, none, none, none]) (by decide) (by intro w hw; simp only [List.mem_cons, List.not_mem_nil, or_false] at hw; rcases hw with rfl | rfl <;> rfl) (Nat.le_of_ble_eq_true rfl) rfl (fun X mx => ?_)
  have mx0 := mx
  obtain ⟨cx, hR, hml, hrt, -⟩ := mx0
  have cx : Cx g X RX7 cX7_passes := cx
  have hrt : X.2.2.2.2.2.2.2.1.sig.returnType = (some .int) := hrt
  have hi2 : 2 < X.2.2.2.2.2.2.2.2.maxLocals := by rw [hml]; exact Nat.le_of_ble_eq_true rfl
  have hi3 : 3 < X.2.2.2.2.2.2.2.2.maxLocals := by rw [hml]; exact Nat.le_of_ble_eq_true rfl
  have hi4 : 4 < X.2.2.2.2.2.2.2.2.maxLocals := by rw [hml]; exact Nat.le_of_ble_eq_true rfl
  have hi5 : 5 < X.2.2.2.2.2.2.2.2.maxLocals := by rw [hml]; exact Nat.le_of_ble_eq_true rfl
  unfold M_passes at hf
  refine PW.iconst (v := 0) cx qX7_passes_0 rfl ?_
  refine PW.istore_n (L' := [some (.ref (gB g + 140)), some (.int p1), some (.int 0), none, none, none]) cx qX7_passes_1 hi2 rfl rfl ?_
  refine PW.iconst (v := 0) cx qX7_passes_2 rfl ?_
  refine PW.istore_n (L' := [some (.ref (gB g + 140)), some (.int p1), some (.int 0), some (.int 0), none, none]) cx qX7_passes_3 hi3 rfl rfl ?_
  obtain ⟨r14, er14, hf⟩ := bndO hf sne
  refine PW.locs (Lsub.keep (Lsub.keep (Lsub.keep (Lsub.keep (Lsub.drop (Lsub.drop Lsub.nil)))))) (lX7_passes_4 mx hx p1 FU 0 0 h r14 er14 (fun x2_15 h16 e => ?_))
  subst e
  refine PW.iload_n cx qX7_passes_123 rfl ?_
  exact PW.iret cx hrt qX7_passes_124 (le_wi hf)
theorem lX7_setAside_2 {g : GT} {X : XT} {ex : Bool} {sh : List Shp} {post : Option Value → List Shp → Hp → Prop} (mx : Mx g X mX7_setAside 0 0 0) (hx : MSh sh) : ∀ (n : Nat) (v1 : Int32) (h : Hp) (r : Hp) (hf : M_setAside_L2 n v1 h = some r) (kx : ∀ (h1 : Hp), r = h1 → PW g X ex (QE g X ex post 0 0) 0 0 sh h1 26 [some (.ref (gB g + 140)), none] []), PW g X ex (QE g X ex post 0 0) 0 0 sh h 2 [some (.ref (gB g + 140)), some (.int v1)] [] := by
  have mx0 := mx
  obtain ⟨cx, hR, hml, hrt, -⟩ := mx0
  have cx : Cx g X RX7 cX7_setAside := cx
  have hrt : X.2.2.2.2.2.2.2.1.sig.returnType = none := hrt
  have hi1 : 1 < X.2.2.2.2.2.2.2.2.maxLocals := by rw [hml]; exact Nat.le_of_ble_eq_true rfl
  intro n
  induction n with
  | zero =>
    intro v1 h r hf kx
    cases hf
  | succ n ih =>
    intro v1 h r hf kx
    unfold M_setAside_L2 at hf
    refine PW.iload_n cx qX7_setAside_2 rfl ?_
    refine PW.bipush (v := 106) cx qX7_setAside_3 rfl ?_
    refine PW.icmp_ge cx qX7_setAside_5 hf (fun hf => ?_) (fun hf => ?_)
    · exact PW.locs (Lsub.keep (Lsub.drop Lsub.nil)) (kx h (Option.some.inj hf).symm)
    · refine PW.aload_n cx qX7_setAside_8 rfl ?_
      refine PW.getf (t := (2, 143)) (v := .ref (gB g + 143)) cx qX7_setAside_9 (sh_140 hx) rfl flX7_16 rfl ?_
      refine PW.iload_n cx qX7_setAside_12 rfl ?_
      refine PW.aload_n cx qX7_setAside_13 rfl ?_
      refine PW.getf (t := (2, 141)) (v := .ref (gB g + 141)) cx qX7_setAside_14 (sh_140 hx) rfl flX7_7 rfl ?_
      refine PW.iload_n cx qX7_setAside_17 rfl ?_
      refine PW.iald cx qX7_setAside_18 (sh_141 hx) hf sne (fun t1 hf => ?_)
      refine PW.iast cx qX7_setAside_19 (sh_143 hx) hf sne (fun h2 hf => ?_)
      refine PW.iinc (v := 1) (L' := [some (.ref (gB g + 140)), some (.int (v1 + 1))]) cx qX7_setAside_20 rfl rfl hi1 rfl rfl ?_
      refine PW.goto cx qX7_setAside_23 ?_
      exact PW.locs (Lsub.keep (Lsub.keep Lsub.nil)) (ih (v1 + 1) h2 _ hf kx)
theorem ctX7_setAside {g : GT} {ex : Bool} {sh : List Shp} (hx : MSh sh) (h : Hp) (r0 : Hp) (hf : M_setAside h = some r0) : Ct g mX7_setAside 0 0 0 ex [.ref (gB g + 140)] sh h (PE none sh r0) := by
  refine Ct.of (L := [some (.ref (gB g + 140)), none]) (by decide) (by intro w hw; simp only [List.mem_cons, List.not_mem_nil, or_false] at hw; rcases hw with rfl <;> rfl) (Nat.le_of_ble_eq_true rfl) rfl (fun X mx => ?_)
  have mx0 := mx
  obtain ⟨cx, hR, hml, hrt, -⟩ := mx0
  have cx : Cx g X RX7 cX7_setAside := cx
  have hrt : X.2.2.2.2.2.2.2.1.sig.returnType = none := hrt
  have hi1 : 1 < X.2.2.2.2.2.2.2.2.maxLocals := by rw [hml]; exact Nat.le_of_ble_eq_true rfl
  unfold M_setAside at hf
  refine PW.iconst (v := 0) cx qX7_setAside_0 rfl ?_
  refine PW.istore_n (L' := [some (.ref (gB g + 140)), some (.int 0)]) cx qX7_setAside_1 hi1 rfl rfl ?_
  obtain ⟨r3, er3, hf⟩ := bndO hf sne
  refine PW.locs (Lsub.keep (Lsub.keep Lsub.nil)) (lX7_setAside_2 mx hx FU 0 h r3 er3 (fun xx_ e => ?_))
  subst e
  exact PW.vret cx hrt qX7_setAside_26 (le_wv hf)
theorem lX7_bringBack_2 {g : GT} {X : XT} {ex : Bool} {sh : List Shp} {post : Option Value → List Shp → Hp → Prop} (mx : Mx g X mX7_bringBack 0 0 0) (hx : MSh sh) : ∀ (n : Nat) (v1 : Int32) (h : Hp) (r : Hp) (hf : M_bringBack_L2 n v1 h = some r) (kx : ∀ (h1 : Hp), r = h1 → PW g X ex (QE g X ex post 0 0) 0 0 sh h1 26 [some (.ref (gB g + 140)), none] []), PW g X ex (QE g X ex post 0 0) 0 0 sh h 2 [some (.ref (gB g + 140)), some (.int v1)] [] := by
  have mx0 := mx
  obtain ⟨cx, hR, hml, hrt, -⟩ := mx0
  have cx : Cx g X RX7 cX7_bringBack := cx
  have hrt : X.2.2.2.2.2.2.2.1.sig.returnType = none := hrt
  have hi1 : 1 < X.2.2.2.2.2.2.2.2.maxLocals := by rw [hml]; exact Nat.le_of_ble_eq_true rfl
  intro n
  induction n with
  | zero =>
    intro v1 h r hf kx
    cases hf
  | succ n ih =>
    intro v1 h r hf kx
    unfold M_bringBack_L2 at hf
    refine PW.iload_n cx qX7_bringBack_2 rfl ?_
    refine PW.bipush (v := 106) cx qX7_bringBack_3 rfl ?_
    refine PW.icmp_ge cx qX7_bringBack_5 hf (fun hf => ?_) (fun hf => ?_)
    · exact PW.locs (Lsub.keep (Lsub.drop Lsub.nil)) (kx h (Option.some.inj hf).symm)
    · refine PW.aload_n cx qX7_bringBack_8 rfl ?_
      refine PW.getf (t := (2, 141)) (v := .ref (gB g + 141)) cx qX7_bringBack_9 (sh_140 hx) rfl flX7_7 rfl ?_
      refine PW.iload_n cx qX7_bringBack_12 rfl ?_
      refine PW.aload_n cx qX7_bringBack_13 rfl ?_
      refine PW.getf (t := (2, 143)) (v := .ref (gB g + 143)) cx qX7_bringBack_14 (sh_140 hx) rfl flX7_16 rfl ?_
      refine PW.iload_n cx qX7_bringBack_17 rfl ?_
      refine PW.iald cx qX7_bringBack_18 (sh_143 hx) hf sne (fun t1 hf => ?_)
      refine PW.iast cx qX7_bringBack_19 (sh_141 hx) hf sne (fun h2 hf => ?_)
      refine PW.iinc (v := 1) (L' := [some (.ref (gB g + 140)), some (.int (v1 + 1))]) cx qX7_bringBack_20 rfl rfl hi1 rfl rfl ?_
      refine PW.goto cx qX7_bringBack_23 ?_
      exact PW.locs (Lsub.keep (Lsub.keep Lsub.nil)) (ih (v1 + 1) h2 _ hf kx)
theorem ctX7_bringBack {g : GT} {ex : Bool} {sh : List Shp} (hx : MSh sh) (h : Hp) (r0 : Hp) (hf : M_bringBack h = some r0) : Ct g mX7_bringBack 0 0 0 ex [.ref (gB g + 140)] sh h (PE none sh r0) := by
  refine Ct.of (L := [some (.ref (gB g + 140)), none]) (by decide) (by intro w hw; simp only [List.mem_cons, List.not_mem_nil, or_false] at hw; rcases hw with rfl <;> rfl) (Nat.le_of_ble_eq_true rfl) rfl (fun X mx => ?_)
  have mx0 := mx
  obtain ⟨cx, hR, hml, hrt, -⟩ := mx0
  have cx : Cx g X RX7 cX7_bringBack := cx
  have hrt : X.2.2.2.2.2.2.2.1.sig.returnType = none := hrt
  have hi1 : 1 < X.2.2.2.2.2.2.2.2.maxLocals := by rw [hml]; exact Nat.le_of_ble_eq_true rfl
  unfold M_bringBack at hf
  refine PW.iconst (v := 0) cx qX7_bringBack_0 rfl ?_
  refine PW.istore_n (L' := [some (.ref (gB g + 140)), some (.int 0)]) cx qX7_bringBack_1 hi1 rfl rfl ?_
  obtain ⟨r3, er3, hf⟩ := bndO hf sne
  refine PW.locs (Lsub.keep (Lsub.keep Lsub.nil)) (lX7_bringBack_2 mx hx FU 0 h r3 er3 (fun xx_ e => ?_))
  subst e
  exact PW.vret cx hrt qX7_bringBack_26 (le_wv hf)
theorem ctX7_sortOf {g : GT} {ex : Bool} {sh : List Shp} (h : Hp) (p1 : Int32) (r0 : Int32) (hf : M_sortOf p1 = some r0) : Ct g mX7_sortOf 0 0 0 ex [.int p1] sh h (PE (some (.int r0)) sh h) := by
  refine Ct.of (L := [some (.int p1)]) (by decide) (by intro w hw; simp only [List.mem_cons, List.not_mem_nil, or_false] at hw; rcases hw with rfl <;> rfl) (Nat.le_of_ble_eq_true rfl) rfl (fun X mx => ?_)
  obtain ⟨cx, hR, hml, hrt, -⟩ := mx
  have cx : Cx g X RX7 cX7_sortOf := cx
  have hrt : X.2.2.2.2.2.2.2.1.sig.returnType = (some .int) := hrt
  unfold M_sortOf at hf
  refine PW.iload_n cx qX7_sortOf_0 rfl ?_
  refine PW.bipush (v := 59) cx qX7_sortOf_1 rfl ?_
  refine PW.icmp_ne cx qX7_sortOf_3 hf (fun hf => ?_) (fun hf => ?_)
  · refine PW.iconst (v := 1) cx qX7_sortOf_6 rfl ?_
    refine PW.goto cx qX7_sortOf_7 ?_
    exact PW.iret cx hrt qX7_sortOf_64 (le_ri hf)
  · refine PW.iload_n cx qX7_sortOf_10 rfl ?_
    refine PW.bipush (v := 97) cx qX7_sortOf_11 rfl ?_
    obtain ⟨j26, ej26, hf⟩ := lt_split hf
    have hj26 : ∀ (u_26 : Unit), j26 u_26 = some r0 → PW g X ex (QE g X ex (PE (some (.int r0)) sh h) 0 0) 0 0 sh h 26 [some (.int p1)] [] := by
      intro u_26 hf
      rw [ej26] at hf
      refine PW.iload_n cx qX7_sortOf_26 rfl ?_
      refine PW.bipush (v := 48) cx qX7_sortOf_27 rfl ?_
      obtain ⟨j42, ej42, hf⟩ := lt_split hf
      have hj42 : ∀ (u_42 : Unit), j42 u_42 = some r0 → PW g X ex (QE g X ex (PE (some (.int r0)) sh h) 0 0) 0 0 sh h 42 [some (.int p1)] [] := by
        intro u_42 hf
        rw [ej42] at hf
        refine PW.iload_n cx qX7_sortOf_42 rfl ?_
        refine PW.bipush (v := 40) cx qX7_sortOf_43 rfl ?_
        refine PW.icmp_ne cx qX7_sortOf_45 hf (fun hf => ?_) (fun hf => ?_)
        · refine PW.iconst (v := 4) cx qX7_sortOf_48 rfl ?_
          refine PW.goto cx qX7_sortOf_49 ?_
          exact PW.iret cx hrt qX7_sortOf_64 (le_ri hf)
        · refine PW.iload_n cx qX7_sortOf_52 rfl ?_
          refine PW.bipush (v := 41) cx qX7_sortOf_53 rfl ?_
          refine PW.icmp_ne cx qX7_sortOf_55 hf (fun hf => ?_) (fun hf => ?_)
          · refine PW.iconst (v := 5) cx qX7_sortOf_58 rfl ?_
            refine PW.goto cx qX7_sortOf_59 ?_
            exact PW.iret cx hrt qX7_sortOf_64 (le_ri hf)
          · refine PW.bipush (v := 6) cx qX7_sortOf_62 rfl ?_
            exact PW.iret cx hrt qX7_sortOf_64 (le_ri hf)
      refine PW.icmp_lt cx qX7_sortOf_29 hf (fun hf => ?_) (fun hf => ?_)
      · exact PW.locs (Lsub.keep Lsub.nil) (hj42 () hf)
      · refine PW.iload_n cx qX7_sortOf_32 rfl ?_
        refine PW.bipush (v := 57) cx qX7_sortOf_33 rfl ?_
        refine PW.icmp_gt cx qX7_sortOf_35 hf (fun hf => ?_) (fun hf => ?_)
        · exact PW.locs (Lsub.keep Lsub.nil) (hj42 () hf)
        · refine PW.iconst (v := 3) cx qX7_sortOf_38 rfl ?_
          refine PW.goto cx qX7_sortOf_39 ?_
          exact PW.iret cx hrt qX7_sortOf_64 (le_ri hf)
    refine PW.icmp_lt cx qX7_sortOf_13 hf (fun hf => ?_) (fun hf => ?_)
    · exact PW.locs (Lsub.keep Lsub.nil) (hj26 () hf)
    · refine PW.iload_n cx qX7_sortOf_16 rfl ?_
      refine PW.bipush (v := 122) cx qX7_sortOf_17 rfl ?_
      refine PW.icmp_gt cx qX7_sortOf_19 hf (fun hf => ?_) (fun hf => ?_)
      · exact PW.locs (Lsub.keep Lsub.nil) (hj26 () hf)
      · refine PW.iconst (v := 2) cx qX7_sortOf_22 rfl ?_
        refine PW.goto cx qX7_sortOf_23 ?_
        exact PW.iret cx hrt qX7_sortOf_64 (le_ri hf)
theorem lX7_next_8 {g : GT} {X : XT} {ex : Bool} {sh : List Shp} {post : Option Value → List Shp → Hp → Prop} (mx : Mx g X mX7_next 1 0 0) (hx : MSh sh) : ∀ (n : Nat) (h : Hp) (r : Hp) (hf : M_next_L8 n h = some r) (kx : ∀ (h1 : Hp), r = h1 → PW g X ex (QE g X ex post 0 0) 0 0 sh h1 60 [some (.ref (gB g + 140)), none] []), PW g X ex (QE g X ex post 0 0) 0 0 sh h 8 [some (.ref (gB g + 140)), none] [] := by
  have mx0 := mx
  obtain ⟨cx, hR, hml, hrt, -⟩ := mx0
  have cx : Cx g X RX7 cX7_next := cx
  have hrt : X.2.2.2.2.2.2.2.1.sig.returnType = none := hrt
  have hi1 : 1 < X.2.2.2.2.2.2.2.2.maxLocals := by rw [hml]; exact Nat.le_of_ble_eq_true rfl
  intro n
  induction n with
  | zero =>
    intro h r hf kx
    cases hf
  | succ n ih =>
    intro h r hf kx
    unfold M_next_L8 at hf
    refine PW.aload_n cx qX7_next_8 rfl ?_
    refine PW.getf (t := (0, 0)) (v := .int (h 140 17)) cx qX7_next_9 (sh_140 hx) rfl flX7_161 rfl ?_
    refine PW.aload_n cx qX7_next_12 rfl ?_
    refine PW.getf (t := (0, 0)) (v := .int (h 140 10)) cx qX7_next_13 (sh_140 hx) rfl flX7_151 rfl ?_
    refine PW.icmp_ge cx qX7_next_16 hf (fun hf => ?_) (fun hf => ?_)
    · exact PW.locs (Lsub.keep (Lsub.drop Lsub.nil)) (kx h (Option.some.inj hf).symm)
    · refine PW.aload_n cx qX7_next_19 rfl ?_
      refine PW.getf (t := (2, 147)) (v := .ref (gB g + 147)) cx qX7_next_20 (sh_140 hx) rfl flX7_28 rfl ?_
      refine PW.aload_n cx qX7_next_23 rfl ?_
      refine PW.getf (t := (0, 0)) (v := .int (h 140 17)) cx qX7_next_24 (sh_140 hx) rfl flX7_161 rfl ?_
      refine PW.iald cx qX7_next_27 (sh_147 hx) hf sne (fun t2 hf => ?_)
      refine PW.bipush (v := 32) cx qX7_next_28 rfl ?_
      obtain ⟨j47, ej47, hf⟩ := lt_split hf
      have hj47 : ∀ (u_47 : Unit), j47 u_47 = some r → PW g X ex (QE g X ex post 0 0) 0 0 sh h 47 [some (.ref (gB g + 140)), none] [] := by
        intro u_47 hf
        rw [ej47] at hf
        refine PW.aload_n cx qX7_next_47 rfl ?_
        refine PW.dup cx qX7_next_48 rfl ?_
        refine PW.getf (t := (0, 0)) (v := .int (h 140 17)) cx qX7_next_49 (sh_140 hx) rfl flX7_161 rfl ?_
        refine PW.iconst (v := 1) cx qX7_next_52 rfl ?_
        refine PW.iadd cx qX7_next_53 ?_
        refine PW.putiN cx qX7_next_54 (sh_140 hx) rfl fpX7_161 hf (fun h3 hf => ?_)
        refine PW.goto cx qX7_next_57 ?_
        exact PW.locs (Lsub.keep (Lsub.drop Lsub.nil)) (ih h3 _ hf kx)
      refine PW.icmp_eq cx qX7_next_30 hf (fun hf => ?_) (fun hf => ?_)
      · exact PW.locs (Lsub.keep (Lsub.drop Lsub.nil)) (hj47 () hf)
      · refine PW.aload_n cx qX7_next_33 rfl ?_
        refine PW.getf (t := (2, 147)) (v := .ref (gB g + 147)) cx qX7_next_34 (sh_140 hx) rfl flX7_28 rfl ?_
        refine PW.aload_n cx qX7_next_37 rfl ?_
        refine PW.getf (t := (0, 0)) (v := .int (h 140 17)) cx qX7_next_38 (sh_140 hx) rfl flX7_161 rfl ?_
        refine PW.iald cx qX7_next_41 (sh_147 hx) hf sne (fun t4 hf => ?_)
        refine PW.bipush (v := 10) cx qX7_next_42 rfl ?_
        refine PW.icmp_ne cx qX7_next_44 hf (fun hf => ?_) (fun hf => ?_)
        · exact PW.locs (Lsub.keep (Lsub.drop Lsub.nil)) (hj47 () hf)
        · exact PW.locs (Lsub.keep (Lsub.drop Lsub.nil)) (kx h (Option.some.inj hf).symm)
theorem lX7_next_111 {g : GT} {X : XT} {ex : Bool} {sh : List Shp} {post : Option Value → List Shp → Hp → Prop} (mx : Mx g X mX7_next 1 0 0) (hx : MSh sh) : ∀ (n : Nat) (h : Hp) (r : Hp) (hf : M_next_L111 n h = some r) (kx : ∀ (h1 : Hp), r = h1 → PW g X ex (QE g X ex post 0 0) 0 0 sh h1 170 [some (.ref (gB g + 140)), none] []), PW g X ex (QE g X ex post 0 0) 0 0 sh h 111 [some (.ref (gB g + 140)), none] [] := by
  have mx0 := mx
  obtain ⟨cx, hR, hml, hrt, -⟩ := mx0
  have cx : Cx g X RX7 cX7_next := cx
  have hrt : X.2.2.2.2.2.2.2.1.sig.returnType = none := hrt
  have hi1 : 1 < X.2.2.2.2.2.2.2.2.maxLocals := by rw [hml]; exact Nat.le_of_ble_eq_true rfl
  intro n
  induction n with
  | zero =>
    intro h r hf kx
    cases hf
  | succ n ih =>
    intro h r hf kx
    unfold M_next_L111 at hf
    refine PW.aload_n cx qX7_next_111 rfl ?_
    refine PW.getf (t := (0, 0)) (v := .int (h 140 16)) cx qX7_next_112 (sh_140 hx) rfl flX7_164 rfl ?_
    refine PW.iconst (v := 2) cx qX7_next_115 rfl ?_
    obtain ⟨j127, ej127, hf⟩ := lt_split hf
    have hj127 : ∀ (u_127 : Unit), j127 u_127 = some r → PW g X ex (QE g X ex post 0 0) 0 0 sh h 127 [some (.ref (gB g + 140)), none] [] := by
      intro u_127 hf
      rw [ej127] at hf
      refine PW.aload_n cx qX7_next_127 rfl ?_
      refine PW.getf (t := (0, 0)) (v := .int (h 140 18)) cx qX7_next_128 (sh_140 hx) rfl flX7_158 rfl ?_
      refine PW.aload_n cx qX7_next_131 rfl ?_
      refine PW.getf (t := (0, 0)) (v := .int (h 140 10)) cx qX7_next_132 (sh_140 hx) rfl flX7_151 rfl ?_
      refine PW.icmp_ge cx qX7_next_135 hf (fun hf => ?_) (fun hf => ?_)
      · exact PW.locs (Lsub.keep (Lsub.drop Lsub.nil)) (kx h (Option.some.inj hf).symm)
      · refine PW.aload_n cx qX7_next_138 rfl ?_
        refine PW.getf (t := (2, 147)) (v := .ref (gB g + 147)) cx qX7_next_139 (sh_140 hx) rfl flX7_28 rfl ?_
        refine PW.aload_n cx qX7_next_142 rfl ?_
        refine PW.getf (t := (0, 0)) (v := .int (h 140 18)) cx qX7_next_143 (sh_140 hx) rfl flX7_158 rfl ?_
        refine PW.iald cx qX7_next_146 (sh_147 hx) hf sne (fun t12 hf => ?_)
        refine PW.callSRI (As := [.int t12]) (st := []) cx hR qX7_next_147 klX7_167 miX7_sortOf rfl rfl (Nat.le_of_ble_eq_true rfl) (Nat.le_of_ble_eq_true rfl) (Nat.le_of_ble_eq_true rfl) (Nat.zero_le _) (Nat.zero_le _) hf sne (fun t e => ctX7_sortOf h t12 t e) (fun t13 hf => ?_)
        refine PW.aload_n cx qX7_next_150 rfl ?_
        refine PW.getf (t := (0, 0)) (v := .int (h 140 16)) cx qX7_next_151 (sh_140 hx) rfl flX7_164 rfl ?_
        refine PW.icmp_ne cx qX7_next_154 hf (fun hf => ?_) (fun hf => ?_)
        · refine PW.aload_n cx qX7_next_157 rfl ?_
          refine PW.dup cx qX7_next_158 rfl ?_
          refine PW.getf (t := (0, 0)) (v := .int (h 140 18)) cx qX7_next_159 (sh_140 hx) rfl flX7_158 rfl ?_
          refine PW.iconst (v := 1) cx qX7_next_162 rfl ?_
          refine PW.iadd cx qX7_next_163 ?_
          refine PW.putiN cx qX7_next_164 (sh_140 hx) rfl fpX7_158 hf (fun h14 hf => ?_)
          refine PW.goto cx qX7_next_167 ?_
          exact PW.locs (Lsub.keep (Lsub.drop Lsub.nil)) (ih h14 _ hf kx)
        · exact PW.locs (Lsub.keep (Lsub.drop Lsub.nil)) (kx h (Option.some.inj hf).symm)
    refine PW.icmp_eq cx qX7_next_116 hf (fun hf => ?_) (fun hf => ?_)
    · exact PW.locs (Lsub.keep (Lsub.drop Lsub.nil)) (hj127 () hf)
    · refine PW.aload_n cx qX7_next_119 rfl ?_
      refine PW.getf (t := (0, 0)) (v := .int (h 140 16)) cx qX7_next_120 (sh_140 hx) rfl flX7_164 rfl ?_
      refine PW.iconst (v := 3) cx qX7_next_123 rfl ?_
      refine PW.icmp_ne cx qX7_next_124 hf (fun hf => ?_) (fun hf => ?_)
      · exact PW.locs (Lsub.keep (Lsub.drop Lsub.nil)) (hj127 () hf)
      · exact PW.locs (Lsub.keep (Lsub.drop Lsub.nil)) (kx h (Option.some.inj hf).symm)
theorem lX7_next_208 {g : GT} {X : XT} {ex : Bool} {sh : List Shp} {post : Option Value → List Shp → Hp → Prop} (mx : Mx g X mX7_next 1 0 0) (hx : MSh sh) : ∀ (n : Nat) (v1 : Int32) (h : Hp) (r : Hp) (hf : M_next_L208 n v1 h = some r) (kx : ∀ (h1 : Hp), r = h1 → PW g X ex (QE g X ex post 0 0) 0 0 sh h1 251 [some (.ref (gB g + 140)), none] []), PW g X ex (QE g X ex post 0 0) 0 0 sh h 208 [some (.ref (gB g + 140)), some (.int v1)] [] := by
  have mx0 := mx
  obtain ⟨cx, hR, hml, hrt, -⟩ := mx0
  have cx : Cx g X RX7 cX7_next := cx
  have hrt : X.2.2.2.2.2.2.2.1.sig.returnType = none := hrt
  have hi1 : 1 < X.2.2.2.2.2.2.2.2.maxLocals := by rw [hml]; exact Nat.le_of_ble_eq_true rfl
  intro n
  induction n with
  | zero =>
    intro v1 h r hf kx
    cases hf
  | succ n ih =>
    intro v1 h r hf kx
    unfold M_next_L208 at hf
    refine PW.iload_n cx qX7_next_208 rfl ?_
    refine PW.aload_n cx qX7_next_209 rfl ?_
    refine PW.getf (t := (0, 0)) (v := .int (h 140 18)) cx qX7_next_210 (sh_140 hx) rfl flX7_158 rfl ?_
    refine PW.icmp_ge cx qX7_next_213 hf (fun hf => ?_) (fun hf => ?_)
    · exact PW.locs (Lsub.keep (Lsub.drop Lsub.nil)) (kx h (Option.some.inj hf).symm)
    · refine PW.aload_n cx qX7_next_216 rfl ?_
      refine PW.getf (t := (0, 0)) (v := .int (h 140 16)) cx qX7_next_217 (sh_140 hx) rfl flX7_164 rfl ?_
      refine PW.iconst (v := 3) cx qX7_next_220 rfl ?_
      refine PW.icmp_ne cx qX7_next_221 hf (fun hf => ?_) (fun hf => ?_)
      · refine PW.aload_n cx qX7_next_224 rfl ?_
        refine PW.bipush (v := 10) cx qX7_next_225 rfl ?_
        refine PW.aload_n cx qX7_next_227 rfl ?_
        refine PW.getf (t := (0, 0)) (v := .int (h 140 19)) cx qX7_next_228 (sh_140 hx) rfl flX7_170 rfl ?_
        refine PW.imul cx qX7_next_231 ?_
        refine PW.aload_n cx qX7_next_232 rfl ?_
        refine PW.getf (t := (2, 147)) (v := .ref (gB g + 147)) cx qX7_next_233 (sh_140 hx) rfl flX7_28 rfl ?_
        refine PW.iload_n cx qX7_next_236 rfl ?_
        refine PW.iald cx qX7_next_237 (sh_147 hx) hf sne (fun t17 hf => ?_)
        refine PW.iadd cx qX7_next_238 ?_
        refine PW.bipush (v := 48) cx qX7_next_239 rfl ?_
        refine PW.isub cx qX7_next_241 ?_
        refine PW.putiN cx qX7_next_242 (sh_140 hx) rfl fpX7_170 hf (fun h18 hf => ?_)
        refine PW.iinc (v := 1) (L' := [some (.ref (gB g + 140)), some (.int (v1 + 1))]) cx qX7_next_245 rfl rfl hi1 rfl rfl ?_
        refine PW.goto cx qX7_next_248 ?_
        exact PW.locs (Lsub.keep (Lsub.keep Lsub.nil)) (ih (v1 + 1) h18 _ hf kx)
      · exact PW.locs (Lsub.keep (Lsub.drop Lsub.nil)) (kx h (Option.some.inj hf).symm)
theorem ctX7_next {g : GT} {ex : Bool} {sh : List Shp} (hx : MSh sh) (h : Hp) (r0 : Hp) (hf : M_next h = some r0) : Ct g mX7_next 1 0 0 ex [.ref (gB g + 140)] sh h (PE none sh r0) := by
  refine Ct.of (L := [some (.ref (gB g + 140)), none]) (by decide) (by intro w hw; simp only [List.mem_cons, List.not_mem_nil, or_false] at hw; rcases hw with rfl <;> rfl) (Nat.le_of_ble_eq_true rfl) rfl (fun X mx => ?_)
  have mx0 := mx
  obtain ⟨cx, hR, hml, hrt, -⟩ := mx0
  have cx : Cx g X RX7 cX7_next := cx
  have hrt : X.2.2.2.2.2.2.2.1.sig.returnType = none := hrt
  have hi1 : 1 < X.2.2.2.2.2.2.2.2.maxLocals := by rw [hml]; exact Nat.le_of_ble_eq_true rfl
  unfold M_next at hf
  refine PW.aload_n cx qX7_next_0 rfl ?_
  refine PW.aload_n cx qX7_next_1 rfl ?_
  refine PW.getf (t := (0, 0)) (v := .int (h 140 18)) cx qX7_next_2 (sh_140 hx) rfl flX7_158 rfl ?_
  refine PW.putiN cx qX7_next_5 (sh_140 hx) rfl fpX7_161 hf (fun h1 hf => ?_)
  obtain ⟨r5, er5, hf⟩ := bndO hf sne
  refine PW.locs (Lsub.keep (Lsub.drop Lsub.nil)) (lX7_next_8 mx hx FU h1 r5 er5 (fun xx_ e => ?_))
  subst e
  refine PW.aload_n cx qX7_next_60 rfl ?_
  refine PW.aload_n cx qX7_next_61 rfl ?_
  refine PW.getf (t := (0, 0)) (v := .int (r5 140 17)) cx qX7_next_62 (sh_140 hx) rfl flX7_161 rfl ?_
  refine PW.putiN cx qX7_next_65 (sh_140 hx) rfl fpX7_158 hf (fun h6 hf => ?_)
  refine PW.aload_n cx qX7_next_68 rfl ?_
  refine PW.getf (t := (0, 0)) (v := .int (h6 140 17)) cx qX7_next_69 (sh_140 hx) rfl flX7_161 rfl ?_
  refine PW.aload_n cx qX7_next_72 rfl ?_
  refine PW.getf (t := (0, 0)) (v := .int (h6 140 10)) cx qX7_next_73 (sh_140 hx) rfl flX7_151 rfl ?_
  refine PW.icmp_ne cx qX7_next_76 hf (fun hf => ?_) (fun hf => ?_)
  · refine PW.aload_n cx qX7_next_79 rfl ?_
    refine PW.iconst (v := 0) cx qX7_next_80 rfl ?_
    refine PW.putiN cx qX7_next_81 (sh_140 hx) rfl fpX7_164 hf (fun h7 hf => ?_)
    exact PW.vret cx hrt qX7_next_84 (le_wv hf)
  · refine PW.aload_n cx qX7_next_85 rfl ?_
    refine PW.aload_n cx qX7_next_86 rfl ?_
    refine PW.getf (t := (2, 147)) (v := .ref (gB g + 147)) cx qX7_next_87 (sh_140 hx) rfl flX7_28 rfl ?_
    refine PW.aload_n cx qX7_next_90 rfl ?_
    refine PW.getf (t := (0, 0)) (v := .int (h6 140 17)) cx qX7_next_91 (sh_140 hx) rfl flX7_161 rfl ?_
    refine PW.iald cx qX7_next_94 (sh_147 hx) hf sne (fun t8 hf => ?_)
    refine PW.callSRI (As := [.int t8]) (st := [.ref (gB g + 140)]) cx hR qX7_next_95 klX7_167 miX7_sortOf rfl rfl (Nat.le_of_ble_eq_true rfl) (Nat.le_of_ble_eq_true rfl) (Nat.le_of_ble_eq_true rfl) (Nat.zero_le _) (Nat.zero_le _) hf sne (fun t e => ctX7_sortOf h6 t8 t e) (fun t9 hf => ?_)
    refine PW.putiN cx qX7_next_98 (sh_140 hx) rfl fpX7_164 hf (fun h10 hf => ?_)
    refine PW.aload_n cx qX7_next_101 rfl ?_
    refine PW.dup cx qX7_next_102 rfl ?_
    refine PW.getf (t := (0, 0)) (v := .int (h10 140 18)) cx qX7_next_103 (sh_140 hx) rfl flX7_158 rfl ?_
    refine PW.iconst (v := 1) cx qX7_next_106 rfl ?_
    refine PW.iadd cx qX7_next_107 ?_
    refine PW.putiN cx qX7_next_108 (sh_140 hx) rfl fpX7_158 hf (fun h11 hf => ?_)
    obtain ⟨r15, er15, hf⟩ := bndO hf sne
    refine PW.locs (Lsub.keep (Lsub.drop Lsub.nil)) (lX7_next_111 mx hx FU h11 r15 er15 (fun xx_ e => ?_))
    subst e
    refine PW.aload_n cx qX7_next_170 rfl ?_
    refine PW.getf (t := (0, 0)) (v := .int (r15 140 16)) cx qX7_next_171 (sh_140 hx) rfl flX7_164 rfl ?_
    refine PW.iconst (v := 3) cx qX7_next_174 rfl ?_
    obtain ⟨j198, ej198, hf⟩ := lt_split hf
    have hj198 : ∀ (h_198 : Hp), j198 h_198 = some r0 → PW g X ex (QE g X ex (PE none sh r0) 0 0) 0 0 sh h_198 198 [some (.ref (gB g + 140)), none] [] := by
      intro h_198 hf
      rw [ej198] at hf
      refine PW.aload_n cx qX7_next_198 rfl ?_
      refine PW.iconst (v := 0) cx qX7_next_199 rfl ?_
      refine PW.putiN cx qX7_next_200 (sh_140 hx) rfl fpX7_170 hf (fun h16 hf => ?_)
      refine PW.aload_n cx qX7_next_203 rfl ?_
      refine PW.getf (t := (0, 0)) (v := .int (h16 140 17)) cx qX7_next_204 (sh_140 hx) rfl flX7_161 rfl ?_
      refine PW.istore_n (L' := [some (.ref (gB g + 140)), some (.int (h16 140 17))]) cx qX7_next_207 hi1 rfl rfl ?_
      obtain ⟨r19, er19, hf⟩ := bndO hf sne
      refine PW.locs (Lsub.keep (Lsub.keep Lsub.nil)) (lX7_next_208 mx hx FU (h16 140 17) h16 r19 er19 (fun xx_ e => ?_))
      subst e
      exact PW.vret cx hrt qX7_next_251 (le_wv hf)
    refine PW.icmp_ne cx qX7_next_175 hf (fun hf => ?_) (fun hf => ?_)
    · refine PW.aload_n cx qX7_next_178 rfl ?_
      refine PW.getf (t := (0, 0)) (v := .int (r15 140 18)) cx qX7_next_179 (sh_140 hx) rfl flX7_158 rfl ?_
      refine PW.aload_n cx qX7_next_182 rfl ?_
      refine PW.getf (t := (0, 0)) (v := .int (r15 140 17)) cx qX7_next_183 (sh_140 hx) rfl flX7_161 rfl ?_
      refine PW.isub cx qX7_next_186 ?_
      refine PW.bipush (v := 8) cx qX7_next_187 rfl ?_
      refine PW.icmp_le cx qX7_next_189 hf (fun hf => ?_) (fun hf => ?_)
      · exact PW.locs (Lsub.keep (Lsub.drop Lsub.nil)) (hj198 r15 hf)
      · refine PW.aload_n cx qX7_next_192 rfl ?_
        refine PW.bipush (v := 6) cx qX7_next_193 rfl ?_
        refine PW.putiN cx qX7_next_195 (sh_140 hx) rfl fpX7_164 hf (fun h20 hf => ?_)
        exact PW.locs (Lsub.keep (Lsub.drop Lsub.nil)) (hj198 h20 hf)
    · exact PW.locs (Lsub.keep (Lsub.drop Lsub.nil)) (hj198 r15 hf)
theorem ctX7_fail {g : GT} {ex : Bool} {sh : List Shp} (hx : MSh sh) (h : Hp) (p1 : Int32) (r0 : Bool × Hp) (hf : M_fail h p1 = some r0) : Ct g mX7_fail 0 0 0 ex [.ref (gB g + 140), .int p1] sh h (PE (some (.int (b2i r0.1))) sh r0.2) := by
  refine Ct.of (L := [some (.ref (gB g + 140)), some (.int p1)]) (by decide) (by intro w hw; simp only [List.mem_cons, List.not_mem_nil, or_false] at hw; rcases hw with rfl | rfl <;> rfl) (Nat.le_of_ble_eq_true rfl) rfl (fun X mx => ?_)
  obtain ⟨cx, hR, hml, hrt, -⟩ := mx
  have cx : Cx g X RX7 cX7_fail := cx
  have hrt : X.2.2.2.2.2.2.2.1.sig.returnType = (some .boolean) := hrt
  unfold M_fail at hf
  refine PW.aload_n cx qX7_fail_0 rfl ?_
  refine PW.getf (t := (0, 0)) (v := .int (h 140 11)) cx qX7_fail_1 (sh_140 hx) rfl flX7_173 rfl ?_
  refine PW.if_ne cx qX7_fail_4 hf (fun hf => ?_) (fun hf => ?_)
  · refine PW.aload_n cx qX7_fail_7 rfl ?_
    refine PW.iload_n cx qX7_fail_8 rfl ?_
    refine PW.putiN cx qX7_fail_9 (sh_140 hx) rfl fpX7_173 hf (fun h1 hf => ?_)
    refine PW.aload_n cx qX7_fail_12 rfl ?_
    refine PW.aload_n cx qX7_fail_13 rfl ?_
    refine PW.getf (t := (0, 0)) (v := .int (h1 140 17)) cx qX7_fail_14 (sh_140 hx) rfl flX7_161 rfl ?_
    refine PW.putiN cx qX7_fail_17 (sh_140 hx) rfl fpX7_31 hf (fun h2 hf => ?_)
    refine PW.iconst (v := 0) cx qX7_fail_20 rfl ?_
    exact PW.zret cx hrt nb0 qX7_fail_21 (le_wz hf)
  · refine PW.iconst (v := 0) cx qX7_fail_20 rfl ?_
    exact PW.zret cx hrt nb0 qX7_fail_21 (le_wz hf)
theorem ctX7_is {g : GT} {ex : Bool} {sh : List Shp} (hx : MSh sh) (h : Hp) (p1 : Int32) (r0 : Bool × Hp) (hf : M_is h p1 = some r0) : Ct g mX7_is 1 0 0 ex [.ref (gB g + 140), .int p1] sh h (PE (some (.int (b2i r0.1))) sh r0.2) := by
  refine Ct.of (L := [some (.ref (gB g + 140)), some (.int p1)]) (by decide) (by intro w hw; simp only [List.mem_cons, List.not_mem_nil, or_false] at hw; rcases hw with rfl | rfl <;> rfl) (Nat.le_of_ble_eq_true rfl) rfl (fun X mx => ?_)
  obtain ⟨cx, hR, hml, hrt, -⟩ := mx
  have cx : Cx g X RX7 cX7_is := cx
  have hrt : X.2.2.2.2.2.2.2.1.sig.returnType = (some .boolean) := hrt
  unfold M_is at hf
  refine PW.aload_n cx qX7_is_0 rfl ?_
  refine PW.getf (t := (0, 0)) (v := .int (h 140 16)) cx qX7_is_1 (sh_140 hx) rfl flX7_164 rfl ?_
  refine PW.iload_n cx qX7_is_4 rfl ?_
  refine PW.icmp_eq cx qX7_is_5 hf (fun hf => ?_) (fun hf => ?_)
  · refine PW.iconst (v := 1) cx qX7_is_16 rfl ?_
    refine PW.goto cx qX7_is_17 ?_
    exact PW.zret cx hrt nb1 qX7_is_21 (le_wz hf)
  · refine PW.aload_n cx qX7_is_8 rfl ?_
    refine PW.iconst (v := 1) cx qX7_is_9 rfl ?_
    refine PW.callVWB (As := [.int 1]) (st := []) cx hR qX7_is_10 klX7_176 mvX7_fail (sh_140 hx) rfl rfl rfl rfl (Nat.le_of_ble_eq_true rfl) (Nat.le_of_ble_eq_true rfl) (Nat.le_of_ble_eq_true rfl) (Nat.zero_le _) (Nat.zero_le _) hf sne (fun t e => ctX7_fail hx h 1 t e) (fun ⟨t1, h2⟩ hf => ?_)
    refine PW.if_eq cx qX7_is_13 hf (fun hf => ?_) (fun hf => ?_)
    · refine PW.iconst (v := 0) cx qX7_is_20 rfl ?_
      exact PW.zret cx hrt nb0 qX7_is_21 (le_wz hf)
    · refine PW.iconst (v := 1) cx qX7_is_16 rfl ?_
      refine PW.goto cx qX7_is_17 ?_
      exact PW.zret cx hrt nb1 qX7_is_21 (le_wz hf)
theorem ctX7_number {g : GT} {ex : Bool} {sh : List Shp} (hx : MSh sh) (h : Hp) (p1 : Int32) (p2 : Int32) (p3 : Int32) (r0 : Bool × Hp) (hf : M_number h p1 p2 p3 = some r0) : Ct g mX7_number 2 0 0 ex [.ref (gB g + 140), .int p1, .int p2, .int p3] sh h (PE (some (.int (b2i r0.1))) sh r0.2) := by
  refine Ct.of (L := [some (.ref (gB g + 140)), some (.int p1), some (.int p2), some (.int p3)]) (by decide) (by intro w hw; simp only [List.mem_cons, List.not_mem_nil, or_false] at hw; rcases hw with rfl | rfl | rfl | rfl <;> rfl) (Nat.le_of_ble_eq_true rfl) rfl (fun X mx => ?_)
  obtain ⟨cx, hR, hml, hrt, -⟩ := mx
  have cx : Cx g X RX7 cX7_number := cx
  have hrt : X.2.2.2.2.2.2.2.1.sig.returnType = (some .boolean) := hrt
  unfold M_number at hf
  refine PW.aload_n cx qX7_number_0 rfl ?_
  refine PW.iconst (v := 3) cx qX7_number_1 rfl ?_
  refine PW.callVWB (As := [.int 3]) (st := []) cx hR qX7_number_2 klX7_179 mvX7_is (sh_140 hx) rfl rfl rfl rfl (Nat.le_of_ble_eq_true rfl) (Nat.le_of_ble_eq_true rfl) (Nat.le_of_ble_eq_true rfl) (Nat.zero_le _) (Nat.zero_le _) hf sne (fun t e => ctX7_is hx h 3 t e) (fun ⟨t1, h2⟩ hf => ?_)
  refine PW.if_ne cx qX7_number_5 hf (fun hf => ?_) (fun hf => ?_)
  · refine PW.iconst (v := 0) cx qX7_number_8 rfl ?_
    exact PW.zret cx hrt nb0 qX7_number_9 (le_wz hf)
  · refine PW.aload_n cx qX7_number_10 rfl ?_
    refine PW.getf (t := (0, 0)) (v := .int (h2 140 19)) cx qX7_number_11 (sh_140 hx) rfl flX7_170 rfl ?_
    refine PW.iload_n cx qX7_number_14 rfl ?_
    refine PW.iload_n cx qX7_number_15 rfl ?_
    refine PW.callSRB (As := [.int (h2 140 19), .int p2, .int p3]) (st := []) cx hR qX7_number_16 klX7_57 miX7_in rfl rfl (Nat.le_of_ble_eq_true rfl) (Nat.le_of_ble_eq_true rfl) (Nat.le_of_ble_eq_true rfl) (Nat.zero_le _) (Nat.zero_le _) hf sne (fun t e => ctX7_in h2 (h2 140 19) p2 p3 t e) (fun t3 hf => ?_)
    refine PW.if_ne cx qX7_number_19 hf (fun hf => ?_) (fun hf => ?_)
    · refine PW.aload_n cx qX7_number_22 rfl ?_
      refine PW.iconst (v := 2) cx qX7_number_23 rfl ?_
      refine PW.callVWB (As := [.int 2]) (st := []) cx hR qX7_number_24 klX7_176 mvX7_fail (sh_140 hx) rfl rfl rfl rfl (Nat.le_of_ble_eq_true rfl) (Nat.le_of_ble_eq_true rfl) (Nat.le_of_ble_eq_true rfl) (Nat.zero_le _) (Nat.zero_le _) hf sne (fun t e => ctX7_fail hx h2 2 t e) (fun ⟨t4, h5⟩ hf => ?_)
      exact PW.zret cx hrt (nbb _) qX7_number_27 (le_wz hf)
    · refine PW.aload_n cx qX7_number_28 rfl ?_
      refine PW.getf (t := (2, 149)) (v := .ref (gB g + 149)) cx qX7_number_29 (sh_140 hx) rfl flX7_39 rfl ?_
      refine PW.iload_n cx qX7_number_32 rfl ?_
      refine PW.aload_n cx qX7_number_33 rfl ?_
      refine PW.getf (t := (0, 0)) (v := .int (h2 140 19)) cx qX7_number_34 (sh_140 hx) rfl flX7_170 rfl ?_
      refine PW.iast cx qX7_number_37 (sh_149 hx) hf sne (fun h6 hf => ?_)
      refine PW.aload_n cx qX7_number_38 rfl ?_
      refine PW.callVWV (As := []) (st := []) cx hR qX7_number_39 klX7_182 mvX7_next (sh_140 hx) rfl rfl rfl rfl (Nat.le_of_ble_eq_true rfl) (Nat.le_of_ble_eq_true rfl) (Nat.le_of_ble_eq_true rfl) (Nat.zero_le _) (Nat.zero_le _) hf sne (fun t e => ctX7_next hx h6 t e) (fun h8 hf => ?_)
      refine PW.iconst (v := 1) cx qX7_number_42 rfl ?_
      exact PW.zret cx hrt nb1 qX7_number_43 (le_wz hf)
theorem ctX7_clipAt {g : GT} {ex : Bool} {sh : List Shp} (hx : MSh sh) (h : Hp) (p1 : Int32) (r0 : Bool × Hp) (hf : M_clipAt h p1 = some r0) : Ct g mX7_clipAt 3 0 0 ex [.ref (gB g + 140), .int p1] sh h (PE (some (.int (b2i r0.1))) sh r0.2) := by
  refine Ct.of (L := [some (.ref (gB g + 140)), some (.int p1)]) (by decide) (by intro w hw; simp only [List.mem_cons, List.not_mem_nil, or_false] at hw; rcases hw with rfl | rfl <;> rfl) (Nat.le_of_ble_eq_true rfl) rfl (fun X mx => ?_)
  obtain ⟨cx, hR, hml, hrt, -⟩ := mx
  have cx : Cx g X RX7 cX7_clipAt := cx
  have hrt : X.2.2.2.2.2.2.2.1.sig.returnType = (some .boolean) := hrt
  unfold M_clipAt at hf
  refine PW.aload_n cx qX7_clipAt_0 rfl ?_
  refine PW.iload_n cx qX7_clipAt_1 rfl ?_
  refine PW.iconst (v := 0) cx qX7_clipAt_2 rfl ?_
  refine PW.aload_n cx qX7_clipAt_3 rfl ?_
  refine PW.getf (t := (2, 141)) (v := .ref (gB g + 141)) cx qX7_clipAt_4 (sh_140 hx) rfl flX7_7 rfl ?_
  refine PW.iconst (v := 2) cx qX7_clipAt_7 rfl ?_
  refine PW.iald cx qX7_clipAt_8 (sh_141 hx) hf sne (fun t1 hf => ?_)
  refine PW.iconst (v := 1) cx qX7_clipAt_9 rfl ?_
  refine PW.isub cx qX7_clipAt_10 ?_
  refine PW.callVWB (As := [.int p1, .int 0, .int (t1 - 1)]) (st := []) cx hR qX7_clipAt_11 klX7_185 mvX7_number (sh_140 hx) rfl rfl rfl rfl (Nat.le_of_ble_eq_true rfl) (Nat.le_of_ble_eq_true rfl) (Nat.le_of_ble_eq_true rfl) (Nat.zero_le _) (Nat.zero_le _) hf sne (fun t e => ctX7_number hx h p1 0 (t1 - 1) t e) (fun ⟨t2, h3⟩ hf => ?_)
  exact PW.zret cx hrt (nbb _) qX7_clipAt_14 (le_wz hf)
theorem ctX7_stops {g : GT} {ex : Bool} {sh : List Shp} (hx : MSh sh) (h : Hp) (p1 : Bool) (r0 : Bool × Hp) (hf : M_stops h p1 = some r0) : Ct g mX7_stops 2 0 0 ex [.ref (gB g + 140), .int (b2i p1)] sh h (PE (some (.int (b2i r0.1))) sh r0.2) := by
  refine Ct.of (L := [some (.ref (gB g + 140)), some (.int (b2i p1))]) (by decide) (by intro w hw; simp only [List.mem_cons, List.not_mem_nil, or_false] at hw; rcases hw with rfl | rfl <;> rfl) (Nat.le_of_ble_eq_true rfl) rfl (fun X mx => ?_)
  obtain ⟨cx, hR, hml, hrt, -⟩ := mx
  have cx : Cx g X RX7 cX7_stops := cx
  have hrt : X.2.2.2.2.2.2.2.1.sig.returnType = (some .boolean) := hrt
  unfold M_stops at hf
  refine PW.aload_n cx qX7_stops_0 rfl ?_
  refine PW.iconst (v := 1) cx qX7_stops_1 rfl ?_
  refine PW.callVWB (As := [.int 1]) (st := []) cx hR qX7_stops_2 klX7_179 mvX7_is (sh_140 hx) rfl rfl rfl rfl (Nat.le_of_ble_eq_true rfl) (Nat.le_of_ble_eq_true rfl) (Nat.le_of_ble_eq_true rfl) (Nat.zero_le _) (Nat.zero_le _) hf sne (fun t e => ctX7_is hx h 1 t e) (fun ⟨t1, h2⟩ hf => ?_)
  refine PW.if_eq cx qX7_stops_5 hf (fun hf => ?_) (fun hf => ?_)
  · refine PW.iconst (v := 0) cx qX7_stops_24 rfl ?_
    exact PW.zret cx hrt nb0 qX7_stops_25 (le_wz hf)
  · refine PW.iload_n cx qX7_stops_8 rfl ?_
    refine PW.if_ne cx qX7_stops_9 hf (fun hf => ?_) (fun hf => ?_)
    · refine PW.aload_n cx qX7_stops_12 rfl ?_
      refine PW.iconst (v := 3) cx qX7_stops_13 rfl ?_
      refine PW.callVWB (As := [.int 3]) (st := []) cx hR qX7_stops_14 klX7_176 mvX7_fail (sh_140 hx) rfl rfl rfl rfl (Nat.le_of_ble_eq_true rfl) (Nat.le_of_ble_eq_true rfl) (Nat.le_of_ble_eq_true rfl) (Nat.zero_le _) (Nat.zero_le _) hf sne (fun t e => ctX7_fail hx h2 3 t e) (fun ⟨t3, h4⟩ hf => ?_)
      refine PW.if_eq cx qX7_stops_17 hf (fun hf => ?_) (fun hf => ?_)
      · refine PW.iconst (v := 0) cx qX7_stops_24 rfl ?_
        exact PW.zret cx hrt nb0 qX7_stops_25 (le_wz hf)
      · refine PW.iconst (v := 1) cx qX7_stops_20 rfl ?_
        refine PW.goto cx qX7_stops_21 ?_
        exact PW.zret cx hrt nb1 qX7_stops_25 (le_wz hf)
    · refine PW.iconst (v := 1) cx qX7_stops_20 rfl ?_
      refine PW.goto cx qX7_stops_21 ?_
      exact PW.zret cx hrt nb1 qX7_stops_25 (le_wz hf)
theorem ctX7_readsClip {g : GT} {ex : Bool} {sh : List Shp} (hx : MSh sh) (h : Hp) (r0 : Bool × Hp) (hf : M_readsClip h = some r0) : Ct g mX7_readsClip 3 0 0 ex [.ref (gB g + 140)] sh h (PE (some (.int (b2i r0.1))) sh r0.2) := by
  refine Ct.of (L := [some (.ref (gB g + 140))]) (by decide) (by intro w hw; simp only [List.mem_cons, List.not_mem_nil, or_false] at hw; rcases hw with rfl <;> rfl) (Nat.le_of_ble_eq_true rfl) rfl (fun X mx => ?_)
  obtain ⟨cx, hR, hml, hrt, -⟩ := mx
  have cx : Cx g X RX7 cX7_readsClip := cx
  have hrt : X.2.2.2.2.2.2.2.1.sig.returnType = (some .boolean) := hrt
  unfold M_readsClip at hf
  refine PW.aload_n cx qX7_readsClip_0 rfl ?_
  refine PW.getf (t := (0, 0)) (v := .int (h 140 16)) cx qX7_readsClip_1 (sh_140 hx) rfl flX7_164 rfl ?_
  refine PW.iconst (v := 3) cx qX7_readsClip_4 rfl ?_
  obtain ⟨j24, ej24, hf⟩ := lt_split hf
  have hj24 : ∀ (u_24 : Unit), j24 u_24 = some r0 → PW g X ex (QE g X ex (PE (some (.int (b2i r0.1))) sh r0.2) 0 0) 0 0 sh h 24 [some (.ref (gB g + 140))] [] := by
    intro u_24 hf
    rw [ej24] at hf
    refine PW.aload_n cx qX7_readsClip_24 rfl ?_
    refine PW.iconst (v := 0) cx qX7_readsClip_25 rfl ?_
    refine PW.iconst (v := 1) cx qX7_readsClip_26 rfl ?_
    refine PW.ldc (v := 99999999) cx qX7_readsClip_27 kcX7_65 ?_
    refine PW.callVWB (As := [.int 0, .int 1, .int 99999999]) (st := []) cx hR qX7_readsClip_29 klX7_185 mvX7_number (sh_140 hx) rfl rfl rfl rfl (Nat.le_of_ble_eq_true rfl) (Nat.le_of_ble_eq_true rfl) (Nat.le_of_ble_eq_true rfl) (Nat.zero_le _) (Nat.zero_le _) hf sne (fun t e => ctX7_number hx h 0 1 99999999 t e) (fun ⟨t1, h2⟩ hf => ?_)
    refine PW.if_eq cx qX7_readsClip_32 hf (fun hf => ?_) (fun hf => ?_)
    · refine PW.iconst (v := 0) cx qX7_readsClip_58 rfl ?_
      exact PW.zret cx hrt nb0 qX7_readsClip_59 (le_wz hf)
    · refine PW.aload_n cx qX7_readsClip_35 rfl ?_
      refine PW.aload_n cx qX7_readsClip_36 rfl ?_
      refine PW.getf (t := (2, 141)) (v := .ref (gB g + 141)) cx qX7_readsClip_37 (sh_140 hx) rfl flX7_7 rfl ?_
      refine PW.iconst (v := 2) cx qX7_readsClip_40 rfl ?_
      refine PW.iald cx qX7_readsClip_41 (sh_141 hx) hf sne (fun t3 hf => ?_)
      refine PW.bipush (v := 12) cx qX7_readsClip_42 rfl ?_
      obtain ⟨j52, ej52, hf⟩ := lt_split hf
      have hj52 : ∀ (z0_52 : Bool), j52 z0_52 = some r0 → PW g X ex (QE g X ex (PE (some (.int (b2i r0.1))) sh r0.2) 0 0) 0 0 sh h2 52 [some (.ref (gB g + 140))] [.int (b2i z0_52), .ref (gB g + 140)] := by
        intro z0_52 hf
        rw [ej52] at hf
        refine PW.callVWB (As := [.int (b2i z0_52)]) (st := []) cx hR qX7_readsClip_52 klX7_191 mvX7_stops (sh_140 hx) rfl rfl rfl rfl (Nat.le_of_ble_eq_true rfl) (Nat.le_of_ble_eq_true rfl) (Nat.le_of_ble_eq_true rfl) (Nat.zero_le _) (Nat.zero_le _) hf sne (fun t e => ctX7_stops hx h2 z0_52 t e) (fun ⟨t4, h5⟩ hf => ?_)
        refine PW.if_ne cx qX7_readsClip_55 hf (fun hf => ?_) (fun hf => ?_)
        · refine PW.iconst (v := 0) cx qX7_readsClip_58 rfl ?_
          exact PW.zret cx hrt nb0 qX7_readsClip_59 (le_wz hf)
        · refine PW.aload_n cx qX7_readsClip_60 rfl ?_
          refine PW.aload_n cx qX7_readsClip_61 rfl ?_
          refine PW.getf (t := (2, 149)) (v := .ref (gB g + 149)) cx qX7_readsClip_62 (sh_140 hx) rfl flX7_39 rfl ?_
          refine PW.iconst (v := 0) cx qX7_readsClip_65 rfl ?_
          refine PW.iald cx qX7_readsClip_66 (sh_149 hx) hf sne (fun t6 hf => ?_)
          refine PW.callVWI (As := [.int t6]) (st := []) cx hR qX7_readsClip_67 klX7_195 mvX7_adds (sh_140 hx) rfl rfl rfl rfl (Nat.le_of_ble_eq_true rfl) (Nat.le_of_ble_eq_true rfl) (Nat.le_of_ble_eq_true rfl) (Nat.zero_le _) (Nat.zero_le _) hf sne (fun t e => ctX7_adds hx h5 t6 t e) (fun ⟨t7, h8⟩ hf => ?_)
          refine PW.pop cx qX7_readsClip_70 rfl ?_
          refine PW.iconst (v := 1) cx qX7_readsClip_71 rfl ?_
          exact PW.zret cx hrt nb1 qX7_readsClip_72 (le_wz hf)
      refine PW.icmp_ge cx qX7_readsClip_44 hf (fun hf => ?_) (fun hf => ?_)
      · refine PW.iconst (v := 0) cx qX7_readsClip_51 rfl ?_
        exact PW.locs (Lsub.keep Lsub.nil) (hj52 false hf)
      · refine PW.iconst (v := 1) cx qX7_readsClip_47 rfl ?_
        refine PW.goto cx qX7_readsClip_48 ?_
        exact PW.locs (Lsub.keep Lsub.nil) (hj52 true hf)
  refine PW.icmp_ne cx qX7_readsClip_5 hf (fun hf => ?_) (fun hf => ?_)
  · refine PW.aload_n cx qX7_readsClip_8 rfl ?_
    refine PW.getf (t := (0, 0)) (v := .int (h 140 19)) cx qX7_readsClip_9 (sh_140 hx) rfl flX7_170 rfl ?_
    refine PW.callSRB (As := [.int (h 140 19)]) (st := []) cx hR qX7_readsClip_12 klX7_188 miX7_areColours rfl rfl (Nat.le_of_ble_eq_true rfl) (Nat.le_of_ble_eq_true rfl) (Nat.le_of_ble_eq_true rfl) (Nat.zero_le _) (Nat.zero_le _) hf sne (fun t e => ctX7_areColours h (h 140 19) t e) (fun t9 hf => ?_)
    refine PW.if_ne cx qX7_readsClip_15 hf (fun hf => ?_) (fun hf => ?_)
    · refine PW.aload_n cx qX7_readsClip_18 rfl ?_
      refine PW.iconst (v := 2) cx qX7_readsClip_19 rfl ?_
      refine PW.callVWB (As := [.int 2]) (st := []) cx hR qX7_readsClip_20 klX7_176 mvX7_fail (sh_140 hx) rfl rfl rfl rfl (Nat.le_of_ble_eq_true rfl) (Nat.le_of_ble_eq_true rfl) (Nat.le_of_ble_eq_true rfl) (Nat.zero_le _) (Nat.zero_le _) hf sne (fun t e => ctX7_fail hx h 2 t e) (fun ⟨t10, h11⟩ hf => ?_)
      exact PW.zret cx hrt (nbb _) qX7_readsClip_23 (le_wz hf)
    · exact PW.locs (Lsub.keep Lsub.nil) (hj24 () hf)
  · exact PW.locs (Lsub.keep Lsub.nil) (hj24 () hf)
theorem ctX7_readsReel {g : GT} {ex : Bool} {sh : List Shp} (hx : MSh sh) (h : Hp) (r0 : Bool × Hp) (hf : M_readsReel h = some r0) : Ct g mX7_readsReel 3 0 0 ex [.ref (gB g + 140)] sh h (PE (some (.int (b2i r0.1))) sh r0.2) := by
  refine Ct.of (L := [some (.ref (gB g + 140))]) (by decide) (by intro w hw; simp only [List.mem_cons, List.not_mem_nil, or_false] at hw; rcases hw with rfl <;> rfl) (Nat.le_of_ble_eq_true rfl) rfl (fun X mx => ?_)
  obtain ⟨cx, hR, hml, hrt, -⟩ := mx
  have cx : Cx g X RX7 cX7_readsReel := cx
  have hrt : X.2.2.2.2.2.2.2.1.sig.returnType = (some .boolean) := hrt
  unfold M_readsReel at hf
  refine PW.aload_n cx qX7_readsReel_0 rfl ?_
  refine PW.iconst (v := 0) cx qX7_readsReel_1 rfl ?_
  refine PW.iconst (v := 1) cx qX7_readsReel_2 rfl ?_
  refine PW.bipush (v := 9) cx qX7_readsReel_3 rfl ?_
  refine PW.callVWB (As := [.int 0, .int 1, .int 9]) (st := []) cx hR qX7_readsReel_5 klX7_185 mvX7_number (sh_140 hx) rfl rfl rfl rfl (Nat.le_of_ble_eq_true rfl) (Nat.le_of_ble_eq_true rfl) (Nat.le_of_ble_eq_true rfl) (Nat.zero_le _) (Nat.zero_le _) hf sne (fun t e => ctX7_number hx h 0 1 9 t e) (fun ⟨t1, h2⟩ hf => ?_)
  refine PW.if_eq cx qX7_readsReel_8 hf (fun hf => ?_) (fun hf => ?_)
  · refine PW.iconst (v := 0) cx qX7_readsReel_33 rfl ?_
    exact PW.zret cx hrt nb0 qX7_readsReel_34 (le_wz hf)
  · refine PW.aload_n cx qX7_readsReel_11 rfl ?_
    refine PW.aload_n cx qX7_readsReel_12 rfl ?_
    refine PW.getf (t := (2, 141)) (v := .ref (gB g + 141)) cx qX7_readsReel_13 (sh_140 hx) rfl flX7_7 rfl ?_
    refine PW.iconst (v := 3) cx qX7_readsReel_16 rfl ?_
    refine PW.iald cx qX7_readsReel_17 (sh_141 hx) hf sne (fun t3 hf => ?_)
    refine PW.iconst (v := 4) cx qX7_readsReel_18 rfl ?_
    obtain ⟨j27, ej27, hf⟩ := lt_split hf
    have hj27 : ∀ (z0_27 : Bool), j27 z0_27 = some r0 → PW g X ex (QE g X ex (PE (some (.int (b2i r0.1))) sh r0.2) 0 0) 0 0 sh h2 27 [some (.ref (gB g + 140))] [.int (b2i z0_27), .ref (gB g + 140)] := by
      intro z0_27 hf
      rw [ej27] at hf
      refine PW.callVWB (As := [.int (b2i z0_27)]) (st := []) cx hR qX7_readsReel_27 klX7_191 mvX7_stops (sh_140 hx) rfl rfl rfl rfl (Nat.le_of_ble_eq_true rfl) (Nat.le_of_ble_eq_true rfl) (Nat.le_of_ble_eq_true rfl) (Nat.zero_le _) (Nat.zero_le _) hf sne (fun t e => ctX7_stops hx h2 z0_27 t e) (fun ⟨t4, h5⟩ hf => ?_)
      refine PW.if_ne cx qX7_readsReel_30 hf (fun hf => ?_) (fun hf => ?_)
      · refine PW.iconst (v := 0) cx qX7_readsReel_33 rfl ?_
        exact PW.zret cx hrt nb0 qX7_readsReel_34 (le_wz hf)
      · refine PW.aload_n cx qX7_readsReel_35 rfl ?_
        refine PW.aload_n cx qX7_readsReel_36 rfl ?_
        refine PW.getf (t := (2, 149)) (v := .ref (gB g + 149)) cx qX7_readsReel_37 (sh_140 hx) rfl flX7_39 rfl ?_
        refine PW.iconst (v := 0) cx qX7_readsReel_40 rfl ?_
        refine PW.iald cx qX7_readsReel_41 (sh_149 hx) hf sne (fun t6 hf => ?_)
        refine PW.callVWI (As := [.int t6]) (st := []) cx hR qX7_readsReel_42 klX7_198 mvX7_hangs (sh_140 hx) rfl rfl rfl rfl (Nat.le_of_ble_eq_true rfl) (Nat.le_of_ble_eq_true rfl) (Nat.le_of_ble_eq_true rfl) (Nat.zero_le _) (Nat.zero_le _) hf sne (fun t e => ctX7_hangs hx h5 t6 t e) (fun ⟨t7, h8⟩ hf => ?_)
        refine PW.pop cx qX7_readsReel_45 rfl ?_
        refine PW.iconst (v := 1) cx qX7_readsReel_46 rfl ?_
        exact PW.zret cx hrt nb1 qX7_readsReel_47 (le_wz hf)
    refine PW.icmp_ge cx qX7_readsReel_19 hf (fun hf => ?_) (fun hf => ?_)
    · refine PW.iconst (v := 0) cx qX7_readsReel_26 rfl ?_
      exact PW.locs (Lsub.keep Lsub.nil) (hj27 false hf)
    · refine PW.iconst (v := 1) cx qX7_readsReel_22 rfl ?_
      refine PW.goto cx qX7_readsReel_23 ?_
      exact PW.locs (Lsub.keep Lsub.nil) (hj27 true hf)
theorem ctX7_readsScene {g : GT} {ex : Bool} {sh : List Shp} (hx : MSh sh) (h : Hp) (r0 : Bool × Hp) (hf : M_readsScene h = some r0) : Ct g mX7_readsScene 3 0 0 ex [.ref (gB g + 140)] sh h (PE (some (.int (b2i r0.1))) sh r0.2) := by
  refine Ct.of (L := [some (.ref (gB g + 140))]) (by decide) (by intro w hw; simp only [List.mem_cons, List.not_mem_nil, or_false] at hw; rcases hw with rfl <;> rfl) (Nat.le_of_ble_eq_true rfl) rfl (fun X mx => ?_)
  obtain ⟨cx, hR, hml, hrt, -⟩ := mx
  have cx : Cx g X RX7 cX7_readsScene := cx
  have hrt : X.2.2.2.2.2.2.2.1.sig.returnType = (some .boolean) := hrt
  unfold M_readsScene at hf
  refine PW.aload_n cx qX7_readsScene_0 rfl ?_
  refine PW.iconst (v := 0) cx qX7_readsScene_1 rfl ?_
  refine PW.iconst (v := 1) cx qX7_readsScene_2 rfl ?_
  refine PW.bipush (v := 9) cx qX7_readsScene_3 rfl ?_
  refine PW.callVWB (As := [.int 0, .int 1, .int 9]) (st := []) cx hR qX7_readsScene_5 klX7_185 mvX7_number (sh_140 hx) rfl rfl rfl rfl (Nat.le_of_ble_eq_true rfl) (Nat.le_of_ble_eq_true rfl) (Nat.le_of_ble_eq_true rfl) (Nat.zero_le _) (Nat.zero_le _) hf sne (fun t e => ctX7_number hx h 0 1 9 t e) (fun ⟨t1, h2⟩ hf => ?_)
  refine PW.if_eq cx qX7_readsScene_8 hf (fun hf => ?_) (fun hf => ?_)
  · refine PW.iconst (v := 0) cx qX7_readsScene_33 rfl ?_
    exact PW.zret cx hrt nb0 qX7_readsScene_34 (le_wz hf)
  · refine PW.aload_n cx qX7_readsScene_11 rfl ?_
    refine PW.aload_n cx qX7_readsScene_12 rfl ?_
    refine PW.getf (t := (2, 141)) (v := .ref (gB g + 141)) cx qX7_readsScene_13 (sh_140 hx) rfl flX7_7 rfl ?_
    refine PW.iconst (v := 4) cx qX7_readsScene_16 rfl ?_
    refine PW.iald cx qX7_readsScene_17 (sh_141 hx) hf sne (fun t3 hf => ?_)
    refine PW.iconst (v := 5) cx qX7_readsScene_18 rfl ?_
    obtain ⟨j27, ej27, hf⟩ := lt_split hf
    have hj27 : ∀ (z0_27 : Bool), j27 z0_27 = some r0 → PW g X ex (QE g X ex (PE (some (.int (b2i r0.1))) sh r0.2) 0 0) 0 0 sh h2 27 [some (.ref (gB g + 140))] [.int (b2i z0_27), .ref (gB g + 140)] := by
      intro z0_27 hf
      rw [ej27] at hf
      refine PW.callVWB (As := [.int (b2i z0_27)]) (st := []) cx hR qX7_readsScene_27 klX7_191 mvX7_stops (sh_140 hx) rfl rfl rfl rfl (Nat.le_of_ble_eq_true rfl) (Nat.le_of_ble_eq_true rfl) (Nat.le_of_ble_eq_true rfl) (Nat.zero_le _) (Nat.zero_le _) hf sne (fun t e => ctX7_stops hx h2 z0_27 t e) (fun ⟨t4, h5⟩ hf => ?_)
      refine PW.if_ne cx qX7_readsScene_30 hf (fun hf => ?_) (fun hf => ?_)
      · refine PW.iconst (v := 0) cx qX7_readsScene_33 rfl ?_
        exact PW.zret cx hrt nb0 qX7_readsScene_34 (le_wz hf)
      · refine PW.aload_n cx qX7_readsScene_35 rfl ?_
        refine PW.aload_n cx qX7_readsScene_36 rfl ?_
        refine PW.getf (t := (2, 149)) (v := .ref (gB g + 149)) cx qX7_readsScene_37 (sh_140 hx) rfl flX7_39 rfl ?_
        refine PW.iconst (v := 0) cx qX7_readsScene_40 rfl ?_
        refine PW.iald cx qX7_readsScene_41 (sh_149 hx) hf sne (fun t6 hf => ?_)
        refine PW.callVWI (As := [.int t6]) (st := []) cx hR qX7_readsScene_42 klX7_201 mvX7_opens (sh_140 hx) rfl rfl rfl rfl (Nat.le_of_ble_eq_true rfl) (Nat.le_of_ble_eq_true rfl) (Nat.le_of_ble_eq_true rfl) (Nat.zero_le _) (Nat.zero_le _) hf sne (fun t e => ctX7_opens hx h5 t6 t e) (fun ⟨t7, h8⟩ hf => ?_)
        refine PW.pop cx qX7_readsScene_45 rfl ?_
        refine PW.iconst (v := 1) cx qX7_readsScene_46 rfl ?_
        exact PW.zret cx hrt nb1 qX7_readsScene_47 (le_wz hf)
    refine PW.icmp_ge cx qX7_readsScene_19 hf (fun hf => ?_) (fun hf => ?_)
    · refine PW.iconst (v := 0) cx qX7_readsScene_26 rfl ?_
      exact PW.locs (Lsub.keep Lsub.nil) (hj27 false hf)
    · refine PW.iconst (v := 1) cx qX7_readsScene_22 rfl ?_
      refine PW.goto cx qX7_readsScene_23 ?_
      exact PW.locs (Lsub.keep Lsub.nil) (hj27 true hf)
theorem ctX7_readsSleep {g : GT} {ex : Bool} {sh : List Shp} (hx : MSh sh) (h : Hp) (r0 : Bool × Hp) (hf : M_readsSleep h = some r0) : Ct g mX7_readsSleep 7 0 0 ex [.ref (gB g + 140)] sh h (PE (some (.int (b2i r0.1))) sh r0.2) := by
  refine Ct.of (L := [some (.ref (gB g + 140))]) (by decide) (by intro w hw; simp only [List.mem_cons, List.not_mem_nil, or_false] at hw; rcases hw with rfl <;> rfl) (Nat.le_of_ble_eq_true rfl) rfl (fun X mx => ?_)
  obtain ⟨cx, hR, hml, hrt, -⟩ := mx
  have cx : Cx g X RX7 cX7_readsSleep := cx
  have hrt : X.2.2.2.2.2.2.2.1.sig.returnType = (some .boolean) := hrt
  unfold M_readsSleep at hf
  refine PW.aload_n cx qX7_readsSleep_0 rfl ?_
  refine PW.iconst (v := 0) cx qX7_readsSleep_1 rfl ?_
  refine PW.callVWB (As := [.int 0]) (st := []) cx hR qX7_readsSleep_2 klX7_204 mvX7_clipAt (sh_140 hx) rfl rfl rfl rfl (Nat.le_of_ble_eq_true rfl) (Nat.le_of_ble_eq_true rfl) (Nat.le_of_ble_eq_true rfl) (Nat.zero_le _) (Nat.zero_le _) hf sne (fun t e => ctX7_clipAt hx h 0 t e) (fun ⟨t1, h2⟩ hf => ?_)
  refine PW.if_eq cx qX7_readsSleep_5 hf (fun hf => ?_) (fun hf => ?_)
  · refine PW.iconst (v := 0) cx qX7_readsSleep_56 rfl ?_
    exact PW.zret cx hrt nb0 qX7_readsSleep_57 (le_wz hf)
  · refine PW.aload_n cx qX7_readsSleep_8 rfl ?_
    refine PW.iconst (v := 1) cx qX7_readsSleep_9 rfl ?_
    refine PW.iconst (v := 0) cx qX7_readsSleep_10 rfl ?_
    refine PW.aload_n cx qX7_readsSleep_11 rfl ?_
    refine PW.getf (t := (2, 141)) (v := .ref (gB g + 141)) cx qX7_readsSleep_12 (sh_140 hx) rfl flX7_7 rfl ?_
    refine PW.iconst (v := 3) cx qX7_readsSleep_15 rfl ?_
    refine PW.iald cx qX7_readsSleep_16 (sh_141 hx) hf sne (fun t3 hf => ?_)
    refine PW.iconst (v := 1) cx qX7_readsSleep_17 rfl ?_
    refine PW.isub cx qX7_readsSleep_18 ?_
    refine PW.callVWB (As := [.int 1, .int 0, .int (t3 - 1)]) (st := []) cx hR qX7_readsSleep_19 klX7_185 mvX7_number (sh_140 hx) rfl rfl rfl rfl (Nat.le_of_ble_eq_true rfl) (Nat.le_of_ble_eq_true rfl) (Nat.le_of_ble_eq_true rfl) (Nat.zero_le _) (Nat.zero_le _) hf sne (fun t e => ctX7_number hx h2 1 0 (t3 - 1) t e) (fun ⟨t4, h5⟩ hf => ?_)
    refine PW.if_eq cx qX7_readsSleep_22 hf (fun hf => ?_) (fun hf => ?_)
    · refine PW.iconst (v := 0) cx qX7_readsSleep_56 rfl ?_
      exact PW.zret cx hrt nb0 qX7_readsSleep_57 (le_wz hf)
    · refine PW.aload_n cx qX7_readsSleep_25 rfl ?_
      refine PW.aload_n cx qX7_readsSleep_26 rfl ?_
      refine PW.aload_n cx qX7_readsSleep_27 rfl ?_
      refine PW.getf (t := (2, 149)) (v := .ref (gB g + 149)) cx qX7_readsSleep_28 (sh_140 hx) rfl flX7_39 rfl ?_
      refine PW.iconst (v := 0) cx qX7_readsSleep_31 rfl ?_
      refine PW.iald cx qX7_readsSleep_32 (sh_149 hx) hf sne (fun t6 hf => ?_)
      refine PW.aload_n cx qX7_readsSleep_33 rfl ?_
      refine PW.getf (t := (2, 149)) (v := .ref (gB g + 149)) cx qX7_readsSleep_34 (sh_140 hx) rfl flX7_39 rfl ?_
      refine PW.iconst (v := 1) cx qX7_readsSleep_37 rfl ?_
      refine PW.iald cx qX7_readsSleep_38 (sh_149 hx) hf sne (fun t7 hf => ?_)
      refine PW.callVRI (As := [.int t6, .int t7]) (st := [.ref (gB g + 140)]) cx hR qX7_readsSleep_39 klX7_207 mvX7_whyStaysUp (sh_140 hx) rfl rfl rfl rfl (Nat.le_of_ble_eq_true rfl) (Nat.le_of_ble_eq_true rfl) (Nat.le_of_ble_eq_true rfl) (Nat.zero_le _) (Nat.zero_le _) hf sne (fun t e => ctX7_whyStaysUp hx h5 t6 t7 t e) (fun t8 hf => ?_)
      obtain ⟨j50, ej50, hf⟩ := lt_split hf
      have hj50 : ∀ (z0_50 : Bool), j50 z0_50 = some r0 → PW g X ex (QE g X ex (PE (some (.int (b2i r0.1))) sh r0.2) 0 0) 0 0 sh h5 50 [some (.ref (gB g + 140))] [.int (b2i z0_50), .ref (gB g + 140)] := by
        intro z0_50 hf
        rw [ej50] at hf
        refine PW.callVWB (As := [.int (b2i z0_50)]) (st := []) cx hR qX7_readsSleep_50 klX7_191 mvX7_stops (sh_140 hx) rfl rfl rfl rfl (Nat.le_of_ble_eq_true rfl) (Nat.le_of_ble_eq_true rfl) (Nat.le_of_ble_eq_true rfl) (Nat.zero_le _) (Nat.zero_le _) hf sne (fun t e => ctX7_stops hx h5 z0_50 t e) (fun ⟨t9, h10⟩ hf => ?_)
        refine PW.if_ne cx qX7_readsSleep_53 hf (fun hf => ?_) (fun hf => ?_)
        · refine PW.iconst (v := 0) cx qX7_readsSleep_56 rfl ?_
          exact PW.zret cx hrt nb0 qX7_readsSleep_57 (le_wz hf)
        · refine PW.aload_n cx qX7_readsSleep_58 rfl ?_
          refine PW.aload_n cx qX7_readsSleep_59 rfl ?_
          refine PW.getf (t := (2, 149)) (v := .ref (gB g + 149)) cx qX7_readsSleep_60 (sh_140 hx) rfl flX7_39 rfl ?_
          refine PW.iconst (v := 0) cx qX7_readsSleep_63 rfl ?_
          refine PW.iald cx qX7_readsSleep_64 (sh_149 hx) hf sne (fun t11 hf => ?_)
          refine PW.aload_n cx qX7_readsSleep_65 rfl ?_
          refine PW.getf (t := (2, 149)) (v := .ref (gB g + 149)) cx qX7_readsSleep_66 (sh_140 hx) rfl flX7_39 rfl ?_
          refine PW.iconst (v := 1) cx qX7_readsSleep_69 rfl ?_
          refine PW.iald cx qX7_readsSleep_70 (sh_149 hx) hf sne (fun t12 hf => ?_)
          refine PW.callVWI (As := [.int t11, .int t12]) (st := []) cx hR qX7_readsSleep_71 klX7_136 mvX7_liesDown (sh_140 hx) rfl rfl rfl rfl (Nat.le_of_ble_eq_true rfl) (Nat.le_of_ble_eq_true rfl) (Nat.le_of_ble_eq_true rfl) (Nat.zero_le _) (Nat.zero_le _) hf sne (fun t e => ctX7_liesDown hx h10 t11 t12 t e) (fun ⟨t13, h14⟩ hf => ?_)
          refine PW.pop cx qX7_readsSleep_74 rfl ?_
          refine PW.iconst (v := 1) cx qX7_readsSleep_75 rfl ?_
          exact PW.zret cx hrt nb1 qX7_readsSleep_76 (le_wz hf)
      refine PW.if_ne cx qX7_readsSleep_42 hf (fun hf => ?_) (fun hf => ?_)
      · refine PW.iconst (v := 1) cx qX7_readsSleep_45 rfl ?_
        refine PW.goto cx qX7_readsSleep_46 ?_
        exact PW.locs (Lsub.keep Lsub.nil) (hj50 true hf)
      · refine PW.iconst (v := 0) cx qX7_readsSleep_49 rfl ?_
        exact PW.locs (Lsub.keep Lsub.nil) (hj50 false hf)
theorem ctX7_readsWake {g : GT} {ex : Bool} {sh : List Shp} (hx : MSh sh) (h : Hp) (r0 : Bool × Hp) (hf : M_readsWake h = some r0) : Ct g mX7_readsWake 4 0 0 ex [.ref (gB g + 140)] sh h (PE (some (.int (b2i r0.1))) sh r0.2) := by
  refine Ct.of (L := [some (.ref (gB g + 140))]) (by decide) (by intro w hw; simp only [List.mem_cons, List.not_mem_nil, or_false] at hw; rcases hw with rfl <;> rfl) (Nat.le_of_ble_eq_true rfl) rfl (fun X mx => ?_)
  obtain ⟨cx, hR, hml, hrt, -⟩ := mx
  have cx : Cx g X RX7 cX7_readsWake := cx
  have hrt : X.2.2.2.2.2.2.2.1.sig.returnType = (some .boolean) := hrt
  unfold M_readsWake at hf
  refine PW.aload_n cx qX7_readsWake_0 rfl ?_
  refine PW.iconst (v := 0) cx qX7_readsWake_1 rfl ?_
  refine PW.callVWB (As := [.int 0]) (st := []) cx hR qX7_readsWake_2 klX7_204 mvX7_clipAt (sh_140 hx) rfl rfl rfl rfl (Nat.le_of_ble_eq_true rfl) (Nat.le_of_ble_eq_true rfl) (Nat.le_of_ble_eq_true rfl) (Nat.zero_le _) (Nat.zero_le _) hf sne (fun t e => ctX7_clipAt hx h 0 t e) (fun ⟨t1, h2⟩ hf => ?_)
  refine PW.if_eq cx qX7_readsWake_5 hf (fun hf => ?_) (fun hf => ?_)
  · refine PW.iconst (v := 0) cx qX7_readsWake_35 rfl ?_
    exact PW.zret cx hrt nb0 qX7_readsWake_36 (le_wz hf)
  · refine PW.aload_n cx qX7_readsWake_8 rfl ?_
    refine PW.aload_n cx qX7_readsWake_9 rfl ?_
    refine PW.aload_n cx qX7_readsWake_10 rfl ?_
    refine PW.getf (t := (2, 149)) (v := .ref (gB g + 149)) cx qX7_readsWake_11 (sh_140 hx) rfl flX7_39 rfl ?_
    refine PW.iconst (v := 0) cx qX7_readsWake_14 rfl ?_
    refine PW.iald cx qX7_readsWake_15 (sh_149 hx) hf sne (fun t3 hf => ?_)
    refine PW.iconst (v := 1) cx qX7_readsWake_16 rfl ?_
    refine PW.callVRI (As := [.int t3, .int 1]) (st := [.ref (gB g + 140)]) cx hR qX7_readsWake_17 klX7_70 mvX7_of (sh_140 hx) rfl rfl rfl rfl (Nat.le_of_ble_eq_true rfl) (Nat.le_of_ble_eq_true rfl) (Nat.le_of_ble_eq_true rfl) (Nat.zero_le _) (Nat.zero_le _) hf sne (fun t e => ctX7_of hx h2 t3 1 t e) (fun t4 hf => ?_)
    refine PW.iconst (v := 1) cx qX7_readsWake_20 rfl ?_
    obtain ⟨j29, ej29, hf⟩ := lt_split hf
    have hj29 : ∀ (z0_29 : Bool), j29 z0_29 = some r0 → PW g X ex (QE g X ex (PE (some (.int (b2i r0.1))) sh r0.2) 0 0) 0 0 sh h2 29 [some (.ref (gB g + 140))] [.int (b2i z0_29), .ref (gB g + 140)] := by
      intro z0_29 hf
      rw [ej29] at hf
      refine PW.callVWB (As := [.int (b2i z0_29)]) (st := []) cx hR qX7_readsWake_29 klX7_191 mvX7_stops (sh_140 hx) rfl rfl rfl rfl (Nat.le_of_ble_eq_true rfl) (Nat.le_of_ble_eq_true rfl) (Nat.le_of_ble_eq_true rfl) (Nat.zero_le _) (Nat.zero_le _) hf sne (fun t e => ctX7_stops hx h2 z0_29 t e) (fun ⟨t5, h6⟩ hf => ?_)
      refine PW.if_ne cx qX7_readsWake_32 hf (fun hf => ?_) (fun hf => ?_)
      · refine PW.iconst (v := 0) cx qX7_readsWake_35 rfl ?_
        exact PW.zret cx hrt nb0 qX7_readsWake_36 (le_wz hf)
      · refine PW.aload_n cx qX7_readsWake_37 rfl ?_
        refine PW.aload_n cx qX7_readsWake_38 rfl ?_
        refine PW.getf (t := (2, 149)) (v := .ref (gB g + 149)) cx qX7_readsWake_39 (sh_140 hx) rfl flX7_39 rfl ?_
        refine PW.iconst (v := 0) cx qX7_readsWake_42 rfl ?_
        refine PW.iald cx qX7_readsWake_43 (sh_149 hx) hf sne (fun t7 hf => ?_)
        refine PW.iconst (v := 0) cx qX7_readsWake_44 rfl ?_
        refine PW.callVWI (As := [.int t7, .int 0]) (st := []) cx hR qX7_readsWake_45 klX7_133 mvX7_leaves (sh_140 hx) rfl rfl rfl rfl (Nat.le_of_ble_eq_true rfl) (Nat.le_of_ble_eq_true rfl) (Nat.le_of_ble_eq_true rfl) (Nat.zero_le _) (Nat.zero_le _) hf sne (fun t e => ctX7_leaves hx h6 t7 0 t e) (fun ⟨t8, h9⟩ hf => ?_)
        refine PW.pop cx qX7_readsWake_48 rfl ?_
        refine PW.iconst (v := 1) cx qX7_readsWake_49 rfl ?_
        exact PW.zret cx hrt nb1 qX7_readsWake_50 (le_wz hf)
    refine PW.icmp_ne cx qX7_readsWake_21 hf (fun hf => ?_) (fun hf => ?_)
    · refine PW.iconst (v := 1) cx qX7_readsWake_24 rfl ?_
      refine PW.goto cx qX7_readsWake_25 ?_
      exact PW.locs (Lsub.keep Lsub.nil) (hj29 true hf)
    · refine PW.iconst (v := 0) cx qX7_readsWake_28 rfl ?_
      exact PW.locs (Lsub.keep Lsub.nil) (hj29 false hf)
theorem ctX7_readsCut {g : GT} {ex : Bool} {sh : List Shp} (hx : MSh sh) (h : Hp) (r0 : Bool × Hp) (hf : M_readsCut h = some r0) : Ct g mX7_readsCut 5 0 0 ex [.ref (gB g + 140)] sh h (PE (some (.int (b2i r0.1))) sh r0.2) := by
  refine Ct.of (L := [some (.ref (gB g + 140))]) (by decide) (by intro w hw; simp only [List.mem_cons, List.not_mem_nil, or_false] at hw; rcases hw with rfl <;> rfl) (Nat.le_of_ble_eq_true rfl) rfl (fun X mx => ?_)
  obtain ⟨cx, hR, hml, hrt, -⟩ := mx
  have cx : Cx g X RX7 cX7_readsCut := cx
  have hrt : X.2.2.2.2.2.2.2.1.sig.returnType = (some .boolean) := hrt
  unfold M_readsCut at hf
  refine PW.aload_n cx qX7_readsCut_0 rfl ?_
  refine PW.iconst (v := 0) cx qX7_readsCut_1 rfl ?_
  refine PW.iconst (v := 0) cx qX7_readsCut_2 rfl ?_
  refine PW.aload_n cx qX7_readsCut_3 rfl ?_
  refine PW.getf (t := (2, 141)) (v := .ref (gB g + 141)) cx qX7_readsCut_4 (sh_140 hx) rfl flX7_7 rfl ?_
  refine PW.iconst (v := 4) cx qX7_readsCut_7 rfl ?_
  refine PW.iald cx qX7_readsCut_8 (sh_141 hx) hf sne (fun t1 hf => ?_)
  refine PW.iconst (v := 1) cx qX7_readsCut_9 rfl ?_
  refine PW.isub cx qX7_readsCut_10 ?_
  refine PW.callVWB (As := [.int 0, .int 0, .int (t1 - 1)]) (st := []) cx hR qX7_readsCut_11 klX7_185 mvX7_number (sh_140 hx) rfl rfl rfl rfl (Nat.le_of_ble_eq_true rfl) (Nat.le_of_ble_eq_true rfl) (Nat.le_of_ble_eq_true rfl) (Nat.zero_le _) (Nat.zero_le _) hf sne (fun t e => ctX7_number hx h 0 0 (t1 - 1) t e) (fun ⟨t2, h3⟩ hf => ?_)
  refine PW.if_eq cx qX7_readsCut_14 hf (fun hf => ?_) (fun hf => ?_)
  · refine PW.iconst (v := 0) cx qX7_readsCut_37 rfl ?_
    exact PW.zret cx hrt nb0 qX7_readsCut_38 (le_wz hf)
  · refine PW.aload_n cx qX7_readsCut_17 rfl ?_
    refine PW.iconst (v := 1) cx qX7_readsCut_18 rfl ?_
    refine PW.iconst (v := 1) cx qX7_readsCut_19 rfl ?_
    refine PW.sipush (v := 9999) cx qX7_readsCut_20 rfl ?_
    refine PW.callVWB (As := [.int 1, .int 1, .int 9999]) (st := []) cx hR qX7_readsCut_23 klX7_185 mvX7_number (sh_140 hx) rfl rfl rfl rfl (Nat.le_of_ble_eq_true rfl) (Nat.le_of_ble_eq_true rfl) (Nat.le_of_ble_eq_true rfl) (Nat.zero_le _) (Nat.zero_le _) hf sne (fun t e => ctX7_number hx h3 1 1 9999 t e) (fun ⟨t4, h5⟩ hf => ?_)
    refine PW.if_eq cx qX7_readsCut_26 hf (fun hf => ?_) (fun hf => ?_)
    · refine PW.iconst (v := 0) cx qX7_readsCut_37 rfl ?_
      exact PW.zret cx hrt nb0 qX7_readsCut_38 (le_wz hf)
    · refine PW.aload_n cx qX7_readsCut_29 rfl ?_
      refine PW.iconst (v := 1) cx qX7_readsCut_30 rfl ?_
      refine PW.callVWB (As := [.int 1]) (st := []) cx hR qX7_readsCut_31 klX7_191 mvX7_stops (sh_140 hx) rfl rfl rfl rfl (Nat.le_of_ble_eq_true rfl) (Nat.le_of_ble_eq_true rfl) (Nat.le_of_ble_eq_true rfl) (Nat.zero_le _) (Nat.zero_le _) hf sne (fun t e => ctX7_stops hx h5 true t e) (fun ⟨t6, h7⟩ hf => ?_)
      refine PW.if_ne cx qX7_readsCut_34 hf (fun hf => ?_) (fun hf => ?_)
      · refine PW.iconst (v := 0) cx qX7_readsCut_37 rfl ?_
        exact PW.zret cx hrt nb0 qX7_readsCut_38 (le_wz hf)
      · refine PW.aload_n cx qX7_readsCut_39 rfl ?_
        refine PW.aload_n cx qX7_readsCut_40 rfl ?_
        refine PW.getf (t := (2, 149)) (v := .ref (gB g + 149)) cx qX7_readsCut_41 (sh_140 hx) rfl flX7_39 rfl ?_
        refine PW.iconst (v := 0) cx qX7_readsCut_44 rfl ?_
        refine PW.iald cx qX7_readsCut_45 (sh_149 hx) hf sne (fun t8 hf => ?_)
        refine PW.aload_n cx qX7_readsCut_46 rfl ?_
        refine PW.getf (t := (2, 149)) (v := .ref (gB g + 149)) cx qX7_readsCut_47 (sh_140 hx) rfl flX7_39 rfl ?_
        refine PW.iconst (v := 1) cx qX7_readsCut_50 rfl ?_
        refine PW.iald cx qX7_readsCut_51 (sh_149 hx) hf sne (fun t9 hf => ?_)
        refine PW.callVWI (As := [.int t8, .int t9]) (st := []) cx hR qX7_readsCut_52 klX7_210 mvX7_cuts (sh_140 hx) rfl rfl rfl rfl (Nat.le_of_ble_eq_true rfl) (Nat.le_of_ble_eq_true rfl) (Nat.le_of_ble_eq_true rfl) (Nat.zero_le _) (Nat.zero_le _) hf sne (fun t e => ctX7_cuts hx h7 t8 t9 t e) (fun ⟨t10, h11⟩ hf => ?_)
        refine PW.pop cx qX7_readsCut_55 rfl ?_
        refine PW.iconst (v := 1) cx qX7_readsCut_56 rfl ?_
        exact PW.zret cx hrt nb1 qX7_readsCut_57 (le_wz hf)
theorem ctX7_readsAir {g : GT} {ex : Bool} {sh : List Shp} (hx : MSh sh) (h : Hp) (r0 : Bool × Hp) (hf : M_readsAir h = some r0) : Ct g mX7_readsAir 8 0 0 ex [.ref (gB g + 140)] sh h (PE (some (.int (b2i r0.1))) sh r0.2) := by
  refine Ct.of (L := [some (.ref (gB g + 140))]) (by decide) (by intro w hw; simp only [List.mem_cons, List.not_mem_nil, or_false] at hw; rcases hw with rfl <;> rfl) (Nat.le_of_ble_eq_true rfl) rfl (fun X mx => ?_)
  obtain ⟨cx, hR, hml, hrt, -⟩ := mx
  have cx : Cx g X RX7 cX7_readsAir := cx
  have hrt : X.2.2.2.2.2.2.2.1.sig.returnType = (some .boolean) := hrt
  unfold M_readsAir at hf
  refine PW.aload_n cx qX7_readsAir_0 rfl ?_
  refine PW.iconst (v := 0) cx qX7_readsAir_1 rfl ?_
  refine PW.iconst (v := 0) cx qX7_readsAir_2 rfl ?_
  refine PW.aload_n cx qX7_readsAir_3 rfl ?_
  refine PW.getf (t := (2, 141)) (v := .ref (gB g + 141)) cx qX7_readsAir_4 (sh_140 hx) rfl flX7_7 rfl ?_
  refine PW.iconst (v := 3) cx qX7_readsAir_7 rfl ?_
  refine PW.iald cx qX7_readsAir_8 (sh_141 hx) hf sne (fun t1 hf => ?_)
  refine PW.iconst (v := 1) cx qX7_readsAir_9 rfl ?_
  refine PW.isub cx qX7_readsAir_10 ?_
  refine PW.callVWB (As := [.int 0, .int 0, .int (t1 - 1)]) (st := []) cx hR qX7_readsAir_11 klX7_185 mvX7_number (sh_140 hx) rfl rfl rfl rfl (Nat.le_of_ble_eq_true rfl) (Nat.le_of_ble_eq_true rfl) (Nat.le_of_ble_eq_true rfl) (Nat.zero_le _) (Nat.zero_le _) hf sne (fun t e => ctX7_number hx h 0 0 (t1 - 1) t e) (fun ⟨t2, h3⟩ hf => ?_)
  refine PW.if_eq cx qX7_readsAir_14 hf (fun hf => ?_) (fun hf => ?_)
  · refine PW.iconst (v := 0) cx qX7_readsAir_25 rfl ?_
    exact PW.zret cx hrt nb0 qX7_readsAir_26 (le_wz hf)
  · refine PW.aload_n cx qX7_readsAir_17 rfl ?_
    refine PW.iconst (v := 1) cx qX7_readsAir_18 rfl ?_
    refine PW.callVWB (As := [.int 1]) (st := []) cx hR qX7_readsAir_19 klX7_191 mvX7_stops (sh_140 hx) rfl rfl rfl rfl (Nat.le_of_ble_eq_true rfl) (Nat.le_of_ble_eq_true rfl) (Nat.le_of_ble_eq_true rfl) (Nat.zero_le _) (Nat.zero_le _) hf sne (fun t e => ctX7_stops hx h3 true t e) (fun ⟨t4, h5⟩ hf => ?_)
    refine PW.if_ne cx qX7_readsAir_22 hf (fun hf => ?_) (fun hf => ?_)
    · refine PW.iconst (v := 0) cx qX7_readsAir_25 rfl ?_
      exact PW.zret cx hrt nb0 qX7_readsAir_26 (le_wz hf)
    · refine PW.aload_n cx qX7_readsAir_27 rfl ?_
      refine PW.aload_n cx qX7_readsAir_28 rfl ?_
      refine PW.getf (t := (2, 149)) (v := .ref (gB g + 149)) cx qX7_readsAir_29 (sh_140 hx) rfl flX7_39 rfl ?_
      refine PW.iconst (v := 0) cx qX7_readsAir_32 rfl ?_
      refine PW.iald cx qX7_readsAir_33 (sh_149 hx) hf sne (fun t6 hf => ?_)
      refine PW.callVWI (As := [.int t6]) (st := []) cx hR qX7_readsAir_34 klX7_213 mvX7_airs (sh_140 hx) rfl rfl rfl rfl (Nat.le_of_ble_eq_true rfl) (Nat.le_of_ble_eq_true rfl) (Nat.le_of_ble_eq_true rfl) (Nat.zero_le _) (Nat.zero_le _) hf sne (fun t e => ctX7_airs hx h5 t6 t e) (fun ⟨t7, h8⟩ hf => ?_)
      refine PW.pop cx qX7_readsAir_37 rfl ?_
      refine PW.iconst (v := 1) cx qX7_readsAir_38 rfl ?_
      exact PW.zret cx hrt nb1 qX7_readsAir_39 (le_wz hf)
theorem ctX7_readsFeed {g : GT} {ex : Bool} {sh : List Shp} (hx : MSh sh) (h : Hp) (r0 : Bool × Hp) (hf : M_readsFeed h = some r0) : Ct g mX7_readsFeed 4 0 0 ex [.ref (gB g + 140)] sh h (PE (some (.int (b2i r0.1))) sh r0.2) := by
  refine Ct.of (L := [some (.ref (gB g + 140))]) (by decide) (by intro w hw; simp only [List.mem_cons, List.not_mem_nil, or_false] at hw; rcases hw with rfl <;> rfl) (Nat.le_of_ble_eq_true rfl) rfl (fun X mx => ?_)
  obtain ⟨cx, hR, hml, hrt, -⟩ := mx
  have cx : Cx g X RX7 cX7_readsFeed := cx
  have hrt : X.2.2.2.2.2.2.2.1.sig.returnType = (some .boolean) := hrt
  unfold M_readsFeed at hf
  refine PW.aload_n cx qX7_readsFeed_0 rfl ?_
  refine PW.iconst (v := 0) cx qX7_readsFeed_1 rfl ?_
  refine PW.callVWB (As := [.int 0]) (st := []) cx hR qX7_readsFeed_2 klX7_204 mvX7_clipAt (sh_140 hx) rfl rfl rfl rfl (Nat.le_of_ble_eq_true rfl) (Nat.le_of_ble_eq_true rfl) (Nat.le_of_ble_eq_true rfl) (Nat.zero_le _) (Nat.zero_le _) hf sne (fun t e => ctX7_clipAt hx h 0 t e) (fun ⟨t1, h2⟩ hf => ?_)
  refine PW.if_eq cx qX7_readsFeed_5 hf (fun hf => ?_) (fun hf => ?_)
  · refine PW.iconst (v := 0) cx qX7_readsFeed_42 rfl ?_
    exact PW.zret cx hrt nb0 qX7_readsFeed_43 (le_wz hf)
  · refine PW.aload_n cx qX7_readsFeed_8 rfl ?_
    refine PW.iconst (v := 1) cx qX7_readsFeed_9 rfl ?_
    refine PW.iconst (v := 1) cx qX7_readsFeed_10 rfl ?_
    refine PW.bipush (v := 50) cx qX7_readsFeed_11 rfl ?_
    refine PW.callVWB (As := [.int 1, .int 1, .int 50]) (st := []) cx hR qX7_readsFeed_13 klX7_185 mvX7_number (sh_140 hx) rfl rfl rfl rfl (Nat.le_of_ble_eq_true rfl) (Nat.le_of_ble_eq_true rfl) (Nat.le_of_ble_eq_true rfl) (Nat.zero_le _) (Nat.zero_le _) hf sne (fun t e => ctX7_number hx h2 1 1 50 t e) (fun ⟨t3, h4⟩ hf => ?_)
    refine PW.if_eq cx qX7_readsFeed_16 hf (fun hf => ?_) (fun hf => ?_)
    · refine PW.iconst (v := 0) cx qX7_readsFeed_42 rfl ?_
      exact PW.zret cx hrt nb0 qX7_readsFeed_43 (le_wz hf)
    · refine PW.aload_n cx qX7_readsFeed_19 rfl ?_
      refine PW.aload_n cx qX7_readsFeed_20 rfl ?_
      refine PW.aload_n cx qX7_readsFeed_21 rfl ?_
      refine PW.getf (t := (2, 149)) (v := .ref (gB g + 149)) cx qX7_readsFeed_22 (sh_140 hx) rfl flX7_39 rfl ?_
      refine PW.iconst (v := 0) cx qX7_readsFeed_25 rfl ?_
      refine PW.iald cx qX7_readsFeed_26 (sh_149 hx) hf sne (fun t5 hf => ?_)
      refine PW.aload_n cx qX7_readsFeed_27 rfl ?_
      refine PW.getf (t := (2, 149)) (v := .ref (gB g + 149)) cx qX7_readsFeed_28 (sh_140 hx) rfl flX7_39 rfl ?_
      refine PW.iconst (v := 1) cx qX7_readsFeed_31 rfl ?_
      refine PW.iald cx qX7_readsFeed_32 (sh_149 hx) hf sne (fun t6 hf => ?_)
      refine PW.callVRB (As := [.int t5, .int t6]) (st := [.ref (gB g + 140)]) cx hR qX7_readsFeed_33 klX7_216 mvX7_canFeed (sh_140 hx) rfl rfl rfl rfl (Nat.le_of_ble_eq_true rfl) (Nat.le_of_ble_eq_true rfl) (Nat.le_of_ble_eq_true rfl) (Nat.zero_le _) (Nat.zero_le _) hf sne (fun t e => ctX7_canFeed hx h4 t5 t6 t e) (fun t7 hf => ?_)
      refine PW.callVWB (As := [.int (b2i t7)]) (st := []) cx hR qX7_readsFeed_36 klX7_191 mvX7_stops (sh_140 hx) rfl rfl rfl rfl (Nat.le_of_ble_eq_true rfl) (Nat.le_of_ble_eq_true rfl) (Nat.le_of_ble_eq_true rfl) (Nat.zero_le _) (Nat.zero_le _) hf sne (fun t e => ctX7_stops hx h4 t7 t e) (fun ⟨t8, h9⟩ hf => ?_)
      refine PW.if_ne cx qX7_readsFeed_39 hf (fun hf => ?_) (fun hf => ?_)
      · refine PW.iconst (v := 0) cx qX7_readsFeed_42 rfl ?_
        exact PW.zret cx hrt nb0 qX7_readsFeed_43 (le_wz hf)
      · refine PW.aload_n cx qX7_readsFeed_44 rfl ?_
        refine PW.aload_n cx qX7_readsFeed_45 rfl ?_
        refine PW.getf (t := (2, 149)) (v := .ref (gB g + 149)) cx qX7_readsFeed_46 (sh_140 hx) rfl flX7_39 rfl ?_
        refine PW.iconst (v := 0) cx qX7_readsFeed_49 rfl ?_
        refine PW.iald cx qX7_readsFeed_50 (sh_149 hx) hf sne (fun t10 hf => ?_)
        refine PW.aload_n cx qX7_readsFeed_51 rfl ?_
        refine PW.getf (t := (2, 149)) (v := .ref (gB g + 149)) cx qX7_readsFeed_52 (sh_140 hx) rfl flX7_39 rfl ?_
        refine PW.iconst (v := 1) cx qX7_readsFeed_55 rfl ?_
        refine PW.iald cx qX7_readsFeed_56 (sh_149 hx) hf sne (fun t11 hf => ?_)
        refine PW.callVWI (As := [.int t10, .int t11]) (st := []) cx hR qX7_readsFeed_57 klX7_220 mvX7_feeds (sh_140 hx) rfl rfl rfl rfl (Nat.le_of_ble_eq_true rfl) (Nat.le_of_ble_eq_true rfl) (Nat.le_of_ble_eq_true rfl) (Nat.zero_le _) (Nat.zero_le _) hf sne (fun t e => ctX7_feeds hx h9 t10 t11 t e) (fun ⟨t12, h13⟩ hf => ?_)
        refine PW.pop cx qX7_readsFeed_60 rfl ?_
        refine PW.iconst (v := 1) cx qX7_readsFeed_61 rfl ?_
        exact PW.zret cx hrt nb1 qX7_readsFeed_62 (le_wz hf)
theorem ctX7_readsFood {g : GT} {ex : Bool} {sh : List Shp} (hx : MSh sh) (h : Hp) (r0 : Bool × Hp) (hf : M_readsFood h = some r0) : Ct g mX7_readsFood 3 0 0 ex [.ref (gB g + 140)] sh h (PE (some (.int (b2i r0.1))) sh r0.2) := by
  refine Ct.of (L := [some (.ref (gB g + 140))]) (by decide) (by intro w hw; simp only [List.mem_cons, List.not_mem_nil, or_false] at hw; rcases hw with rfl <;> rfl) (Nat.le_of_ble_eq_true rfl) rfl (fun X mx => ?_)
  obtain ⟨cx, hR, hml, hrt, -⟩ := mx
  have cx : Cx g X RX7 cX7_readsFood := cx
  have hrt : X.2.2.2.2.2.2.2.1.sig.returnType = (some .boolean) := hrt
  unfold M_readsFood at hf
  refine PW.aload_n cx qX7_readsFood_0 rfl ?_
  refine PW.iconst (v := 0) cx qX7_readsFood_1 rfl ?_
  refine PW.iconst (v := 1) cx qX7_readsFood_2 rfl ?_
  refine PW.sipush (v := 999) cx qX7_readsFood_3 rfl ?_
  refine PW.callVWB (As := [.int 0, .int 1, .int 999]) (st := []) cx hR qX7_readsFood_6 klX7_185 mvX7_number (sh_140 hx) rfl rfl rfl rfl (Nat.le_of_ble_eq_true rfl) (Nat.le_of_ble_eq_true rfl) (Nat.le_of_ble_eq_true rfl) (Nat.zero_le _) (Nat.zero_le _) hf sne (fun t e => ctX7_number hx h 0 1 999 t e) (fun ⟨t1, h2⟩ hf => ?_)
  refine PW.if_eq cx qX7_readsFood_9 hf (fun hf => ?_) (fun hf => ?_)
  · refine PW.iconst (v := 0) cx qX7_readsFood_43 rfl ?_
    exact PW.zret cx hrt nb0 qX7_readsFood_44 (le_wz hf)
  · refine PW.aload_n cx qX7_readsFood_12 rfl ?_
    refine PW.aload_n cx qX7_readsFood_13 rfl ?_
    refine PW.getf (t := (2, 141)) (v := .ref (gB g + 141)) cx qX7_readsFood_14 (sh_140 hx) rfl flX7_7 rfl ?_
    refine PW.iconst (v := 1) cx qX7_readsFood_17 rfl ?_
    refine PW.iald cx qX7_readsFood_18 (sh_141 hx) hf sne (fun t3 hf => ?_)
    refine PW.aload_n cx qX7_readsFood_19 rfl ?_
    refine PW.getf (t := (2, 149)) (v := .ref (gB g + 149)) cx qX7_readsFood_20 (sh_140 hx) rfl flX7_39 rfl ?_
    refine PW.iconst (v := 0) cx qX7_readsFood_23 rfl ?_
    refine PW.iald cx qX7_readsFood_24 (sh_149 hx) hf sne (fun t4 hf => ?_)
    refine PW.iadd cx qX7_readsFood_25 ?_
    refine PW.sipush (v := 9999) cx qX7_readsFood_26 rfl ?_
    obtain ⟨j37, ej37, hf⟩ := lt_split hf
    have hj37 : ∀ (z0_37 : Bool), j37 z0_37 = some r0 → PW g X ex (QE g X ex (PE (some (.int (b2i r0.1))) sh r0.2) 0 0) 0 0 sh h2 37 [some (.ref (gB g + 140))] [.int (b2i z0_37), .ref (gB g + 140)] := by
      intro z0_37 hf
      rw [ej37] at hf
      refine PW.callVWB (As := [.int (b2i z0_37)]) (st := []) cx hR qX7_readsFood_37 klX7_191 mvX7_stops (sh_140 hx) rfl rfl rfl rfl (Nat.le_of_ble_eq_true rfl) (Nat.le_of_ble_eq_true rfl) (Nat.le_of_ble_eq_true rfl) (Nat.zero_le _) (Nat.zero_le _) hf sne (fun t e => ctX7_stops hx h2 z0_37 t e) (fun ⟨t5, h6⟩ hf => ?_)
      refine PW.if_ne cx qX7_readsFood_40 hf (fun hf => ?_) (fun hf => ?_)
      · refine PW.iconst (v := 0) cx qX7_readsFood_43 rfl ?_
        exact PW.zret cx hrt nb0 qX7_readsFood_44 (le_wz hf)
      · refine PW.aload_n cx qX7_readsFood_45 rfl ?_
        refine PW.getf (t := (2, 141)) (v := .ref (gB g + 141)) cx qX7_readsFood_46 (sh_140 hx) rfl flX7_7 rfl ?_
        refine PW.iconst (v := 1) cx qX7_readsFood_49 rfl ?_
        refine PW.dup2 cx qX7_readsFood_50 rfl rfl ?_
        refine PW.iald cx qX7_readsFood_51 (sh_141 hx) hf sne (fun t7 hf => ?_)
        refine PW.aload_n cx qX7_readsFood_52 rfl ?_
        refine PW.getf (t := (2, 149)) (v := .ref (gB g + 149)) cx qX7_readsFood_53 (sh_140 hx) rfl flX7_39 rfl ?_
        refine PW.iconst (v := 0) cx qX7_readsFood_56 rfl ?_
        refine PW.iald cx qX7_readsFood_57 (sh_149 hx) hf sne (fun t8 hf => ?_)
        refine PW.iadd cx qX7_readsFood_58 ?_
        refine PW.iast cx qX7_readsFood_59 (sh_141 hx) hf sne (fun h9 hf => ?_)
        refine PW.iconst (v := 1) cx qX7_readsFood_60 rfl ?_
        exact PW.zret cx hrt nb1 qX7_readsFood_61 (le_wz hf)
    refine PW.icmp_gt cx qX7_readsFood_29 hf (fun hf => ?_) (fun hf => ?_)
    · refine PW.iconst (v := 0) cx qX7_readsFood_36 rfl ?_
      exact PW.locs (Lsub.keep Lsub.nil) (hj37 false hf)
    · refine PW.iconst (v := 1) cx qX7_readsFood_32 rfl ?_
      refine PW.goto cx qX7_readsFood_33 ?_
      exact PW.locs (Lsub.keep Lsub.nil) (hj37 true hf)
theorem ctX7_readsPaint {g : GT} {ex : Bool} {sh : List Shp} (hx : MSh sh) (h : Hp) (r0 : Bool × Hp) (hf : M_readsPaint h = some r0) : Ct g mX7_readsPaint 4 0 0 ex [.ref (gB g + 140)] sh h (PE (some (.int (b2i r0.1))) sh r0.2) := by
  refine Ct.of (L := [some (.ref (gB g + 140))]) (by decide) (by intro w hw; simp only [List.mem_cons, List.not_mem_nil, or_false] at hw; rcases hw with rfl <;> rfl) (Nat.le_of_ble_eq_true rfl) rfl (fun X mx => ?_)
  obtain ⟨cx, hR, hml, hrt, -⟩ := mx
  have cx : Cx g X RX7 cX7_readsPaint := cx
  have hrt : X.2.2.2.2.2.2.2.1.sig.returnType = (some .boolean) := hrt
  unfold M_readsPaint at hf
  refine PW.aload_n cx qX7_readsPaint_0 rfl ?_
  refine PW.iconst (v := 0) cx qX7_readsPaint_1 rfl ?_
  refine PW.callVWB (As := [.int 0]) (st := []) cx hR qX7_readsPaint_2 klX7_204 mvX7_clipAt (sh_140 hx) rfl rfl rfl rfl (Nat.le_of_ble_eq_true rfl) (Nat.le_of_ble_eq_true rfl) (Nat.le_of_ble_eq_true rfl) (Nat.zero_le _) (Nat.zero_le _) hf sne (fun t e => ctX7_clipAt hx h 0 t e) (fun ⟨t1, h2⟩ hf => ?_)
  refine PW.if_eq cx qX7_readsPaint_5 hf (fun hf => ?_) (fun hf => ?_)
  · refine PW.iconst (v := 0) cx qX7_readsPaint_70 rfl ?_
    exact PW.zret cx hrt nb0 qX7_readsPaint_71 (le_wz hf)
  · refine PW.aload_n cx qX7_readsPaint_8 rfl ?_
    refine PW.iconst (v := 1) cx qX7_readsPaint_9 rfl ?_
    refine PW.iconst (v := 0) cx qX7_readsPaint_10 rfl ?_
    refine PW.aload_n cx qX7_readsPaint_11 rfl ?_
    refine PW.aload_n cx qX7_readsPaint_12 rfl ?_
    refine PW.getf (t := (2, 149)) (v := .ref (gB g + 149)) cx qX7_readsPaint_13 (sh_140 hx) rfl flX7_39 rfl ?_
    refine PW.iconst (v := 0) cx qX7_readsPaint_16 rfl ?_
    refine PW.iald cx qX7_readsPaint_17 (sh_149 hx) hf sne (fun t3 hf => ?_)
    refine PW.iconst (v := 0) cx qX7_readsPaint_18 rfl ?_
    refine PW.callVRI (As := [.int t3, .int 0]) (st := [.int 0, .int 1, .ref (gB g + 140)]) cx hR qX7_readsPaint_19 klX7_70 mvX7_of (sh_140 hx) rfl rfl rfl rfl (Nat.le_of_ble_eq_true rfl) (Nat.le_of_ble_eq_true rfl) (Nat.le_of_ble_eq_true rfl) (Nat.zero_le _) (Nat.zero_le _) hf sne (fun t e => ctX7_of hx h2 t3 0 t e) (fun t4 hf => ?_)
    refine PW.callSRI (As := [.int t4]) (st := [.int 0, .int 1, .ref (gB g + 140)]) cx hR qX7_readsPaint_22 klX7_61 miX7_digits rfl rfl (Nat.le_of_ble_eq_true rfl) (Nat.le_of_ble_eq_true rfl) (Nat.le_of_ble_eq_true rfl) (Nat.zero_le _) (Nat.zero_le _) hf sne (fun t e => ctX7_digits h2 t4 t e) (fun t5 hf => ?_)
    refine PW.iconst (v := 1) cx qX7_readsPaint_25 rfl ?_
    refine PW.isub cx qX7_readsPaint_26 ?_
    refine PW.callVWB (As := [.int 1, .int 0, .int (t5 - 1)]) (st := []) cx hR qX7_readsPaint_27 klX7_185 mvX7_number (sh_140 hx) rfl rfl rfl rfl (Nat.le_of_ble_eq_true rfl) (Nat.le_of_ble_eq_true rfl) (Nat.le_of_ble_eq_true rfl) (Nat.zero_le _) (Nat.zero_le _) hf sne (fun t e => ctX7_number hx h2 1 0 (t5 - 1) t e) (fun ⟨t6, h7⟩ hf => ?_)
    refine PW.if_eq cx qX7_readsPaint_30 hf (fun hf => ?_) (fun hf => ?_)
    · refine PW.iconst (v := 0) cx qX7_readsPaint_70 rfl ?_
      exact PW.zret cx hrt nb0 qX7_readsPaint_71 (le_wz hf)
    · refine PW.aload_n cx qX7_readsPaint_33 rfl ?_
      refine PW.iconst (v := 2) cx qX7_readsPaint_34 rfl ?_
      refine PW.iconst (v := 1) cx qX7_readsPaint_35 rfl ?_
      refine PW.bipush (v := 9) cx qX7_readsPaint_36 rfl ?_
      refine PW.callVWB (As := [.int 2, .int 1, .int 9]) (st := []) cx hR qX7_readsPaint_38 klX7_185 mvX7_number (sh_140 hx) rfl rfl rfl rfl (Nat.le_of_ble_eq_true rfl) (Nat.le_of_ble_eq_true rfl) (Nat.le_of_ble_eq_true rfl) (Nat.zero_le _) (Nat.zero_le _) hf sne (fun t e => ctX7_number hx h7 2 1 9 t e) (fun ⟨t8, h9⟩ hf => ?_)
      refine PW.if_eq cx qX7_readsPaint_41 hf (fun hf => ?_) (fun hf => ?_)
      · refine PW.iconst (v := 0) cx qX7_readsPaint_70 rfl ?_
        exact PW.zret cx hrt nb0 qX7_readsPaint_71 (le_wz hf)
      · refine PW.aload_n cx qX7_readsPaint_44 rfl ?_
        refine PW.aload_n cx qX7_readsPaint_45 rfl ?_
        refine PW.aload_n cx qX7_readsPaint_46 rfl ?_
        refine PW.getf (t := (2, 149)) (v := .ref (gB g + 149)) cx qX7_readsPaint_47 (sh_140 hx) rfl flX7_39 rfl ?_
        refine PW.iconst (v := 0) cx qX7_readsPaint_50 rfl ?_
        refine PW.iald cx qX7_readsPaint_51 (sh_149 hx) hf sne (fun t10 hf => ?_)
        refine PW.iconst (v := 1) cx qX7_readsPaint_52 rfl ?_
        refine PW.callVRI (As := [.int t10, .int 1]) (st := [.ref (gB g + 140)]) cx hR qX7_readsPaint_53 klX7_70 mvX7_of (sh_140 hx) rfl rfl rfl rfl (Nat.le_of_ble_eq_true rfl) (Nat.le_of_ble_eq_true rfl) (Nat.le_of_ble_eq_true rfl) (Nat.zero_le _) (Nat.zero_le _) hf sne (fun t e => ctX7_of hx h9 t10 1 t e) (fun t11 hf => ?_)
        obtain ⟨j64, ej64, hf⟩ := lt_split hf
        have hj64 : ∀ (z0_64 : Bool), j64 z0_64 = some r0 → PW g X ex (QE g X ex (PE (some (.int (b2i r0.1))) sh r0.2) 0 0) 0 0 sh h9 64 [some (.ref (gB g + 140))] [.int (b2i z0_64), .ref (gB g + 140)] := by
          intro z0_64 hf
          rw [ej64] at hf
          refine PW.callVWB (As := [.int (b2i z0_64)]) (st := []) cx hR qX7_readsPaint_64 klX7_191 mvX7_stops (sh_140 hx) rfl rfl rfl rfl (Nat.le_of_ble_eq_true rfl) (Nat.le_of_ble_eq_true rfl) (Nat.le_of_ble_eq_true rfl) (Nat.zero_le _) (Nat.zero_le _) hf sne (fun t e => ctX7_stops hx h9 z0_64 t e) (fun ⟨t12, h13⟩ hf => ?_)
          refine PW.if_ne cx qX7_readsPaint_67 hf (fun hf => ?_) (fun hf => ?_)
          · refine PW.iconst (v := 0) cx qX7_readsPaint_70 rfl ?_
            exact PW.zret cx hrt nb0 qX7_readsPaint_71 (le_wz hf)
          · refine PW.aload_n cx qX7_readsPaint_72 rfl ?_
            refine PW.aload_n cx qX7_readsPaint_73 rfl ?_
            refine PW.getf (t := (2, 149)) (v := .ref (gB g + 149)) cx qX7_readsPaint_74 (sh_140 hx) rfl flX7_39 rfl ?_
            refine PW.iconst (v := 0) cx qX7_readsPaint_77 rfl ?_
            refine PW.iald cx qX7_readsPaint_78 (sh_149 hx) hf sne (fun t14 hf => ?_)
            refine PW.aload_n cx qX7_readsPaint_79 rfl ?_
            refine PW.getf (t := (2, 149)) (v := .ref (gB g + 149)) cx qX7_readsPaint_80 (sh_140 hx) rfl flX7_39 rfl ?_
            refine PW.iconst (v := 1) cx qX7_readsPaint_83 rfl ?_
            refine PW.iald cx qX7_readsPaint_84 (sh_149 hx) hf sne (fun t15 hf => ?_)
            refine PW.aload_n cx qX7_readsPaint_85 rfl ?_
            refine PW.getf (t := (2, 149)) (v := .ref (gB g + 149)) cx qX7_readsPaint_86 (sh_140 hx) rfl flX7_39 rfl ?_
            refine PW.iconst (v := 2) cx qX7_readsPaint_89 rfl ?_
            refine PW.iald cx qX7_readsPaint_90 (sh_149 hx) hf sne (fun t16 hf => ?_)
            refine PW.callVWI (As := [.int t14, .int t15, .int t16]) (st := []) cx hR qX7_readsPaint_91 klX7_223 mvX7_paints (sh_140 hx) rfl rfl rfl rfl (Nat.le_of_ble_eq_true rfl) (Nat.le_of_ble_eq_true rfl) (Nat.le_of_ble_eq_true rfl) (Nat.zero_le _) (Nat.zero_le _) hf sne (fun t e => ctX7_paints hx h13 t14 t15 t16 t e) (fun ⟨t17, h18⟩ hf => ?_)
            refine PW.pop cx qX7_readsPaint_94 rfl ?_
            refine PW.iconst (v := 1) cx qX7_readsPaint_95 rfl ?_
            exact PW.zret cx hrt nb1 qX7_readsPaint_96 (le_wz hf)
        refine PW.if_ne cx qX7_readsPaint_56 hf (fun hf => ?_) (fun hf => ?_)
        · refine PW.iconst (v := 1) cx qX7_readsPaint_59 rfl ?_
          refine PW.goto cx qX7_readsPaint_60 ?_
          exact PW.locs (Lsub.keep Lsub.nil) (hj64 true hf)
        · refine PW.iconst (v := 0) cx qX7_readsPaint_63 rfl ?_
          exact PW.locs (Lsub.keep Lsub.nil) (hj64 false hf)
theorem ctX7_readsWeeks {g : GT} {ex : Bool} {sh : List Shp} (hx : MSh sh) (h : Hp) (r0 : Bool × Hp) (hf : M_readsWeeks h = some r0) : Ct g mX7_readsWeeks 6 0 0 ex [.ref (gB g + 140)] sh h (PE (some (.int (b2i r0.1))) sh r0.2) := by
  refine Ct.of (L := [some (.ref (gB g + 140))]) (by decide) (by intro w hw; simp only [List.mem_cons, List.not_mem_nil, or_false] at hw; rcases hw with rfl <;> rfl) (Nat.le_of_ble_eq_true rfl) rfl (fun X mx => ?_)
  obtain ⟨cx, hR, hml, hrt, -⟩ := mx
  have cx : Cx g X RX7 cX7_readsWeeks := cx
  have hrt : X.2.2.2.2.2.2.2.1.sig.returnType = (some .boolean) := hrt
  unfold M_readsWeeks at hf
  refine PW.aload_n cx qX7_readsWeeks_0 rfl ?_
  refine PW.iconst (v := 0) cx qX7_readsWeeks_1 rfl ?_
  refine PW.iconst (v := 1) cx qX7_readsWeeks_2 rfl ?_
  refine PW.bipush (v := 50) cx qX7_readsWeeks_3 rfl ?_
  refine PW.callVWB (As := [.int 0, .int 1, .int 50]) (st := []) cx hR qX7_readsWeeks_5 klX7_185 mvX7_number (sh_140 hx) rfl rfl rfl rfl (Nat.le_of_ble_eq_true rfl) (Nat.le_of_ble_eq_true rfl) (Nat.le_of_ble_eq_true rfl) (Nat.zero_le _) (Nat.zero_le _) hf sne (fun t e => ctX7_number hx h 0 1 50 t e) (fun ⟨t1, h2⟩ hf => ?_)
  refine PW.if_eq cx qX7_readsWeeks_8 hf (fun hf => ?_) (fun hf => ?_)
  · refine PW.iconst (v := 0) cx qX7_readsWeeks_42 rfl ?_
    exact PW.zret cx hrt nb0 qX7_readsWeeks_43 (le_wz hf)
  · refine PW.aload_n cx qX7_readsWeeks_11 rfl ?_
    refine PW.aload_n cx qX7_readsWeeks_12 rfl ?_
    refine PW.getf (t := (2, 141)) (v := .ref (gB g + 141)) cx qX7_readsWeeks_13 (sh_140 hx) rfl flX7_7 rfl ?_
    refine PW.iconst (v := 0) cx qX7_readsWeeks_16 rfl ?_
    refine PW.iald cx qX7_readsWeeks_17 (sh_141 hx) hf sne (fun t3 hf => ?_)
    refine PW.aload_n cx qX7_readsWeeks_18 rfl ?_
    refine PW.getf (t := (2, 149)) (v := .ref (gB g + 149)) cx qX7_readsWeeks_19 (sh_140 hx) rfl flX7_39 rfl ?_
    refine PW.iconst (v := 0) cx qX7_readsWeeks_22 rfl ?_
    refine PW.iald cx qX7_readsWeeks_23 (sh_149 hx) hf sne (fun t4 hf => ?_)
    refine PW.iadd cx qX7_readsWeeks_24 ?_
    refine PW.sipush (v := 999) cx qX7_readsWeeks_25 rfl ?_
    obtain ⟨j36, ej36, hf⟩ := lt_split hf
    have hj36 : ∀ (z0_36 : Bool), j36 z0_36 = some r0 → PW g X ex (QE g X ex (PE (some (.int (b2i r0.1))) sh r0.2) 0 0) 0 0 sh h2 36 [some (.ref (gB g + 140))] [.int (b2i z0_36), .ref (gB g + 140)] := by
      intro z0_36 hf
      rw [ej36] at hf
      refine PW.callVWB (As := [.int (b2i z0_36)]) (st := []) cx hR qX7_readsWeeks_36 klX7_191 mvX7_stops (sh_140 hx) rfl rfl rfl rfl (Nat.le_of_ble_eq_true rfl) (Nat.le_of_ble_eq_true rfl) (Nat.le_of_ble_eq_true rfl) (Nat.zero_le _) (Nat.zero_le _) hf sne (fun t e => ctX7_stops hx h2 z0_36 t e) (fun ⟨t5, h6⟩ hf => ?_)
      refine PW.if_ne cx qX7_readsWeeks_39 hf (fun hf => ?_) (fun hf => ?_)
      · refine PW.iconst (v := 0) cx qX7_readsWeeks_42 rfl ?_
        exact PW.zret cx hrt nb0 qX7_readsWeeks_43 (le_wz hf)
      · refine PW.aload_n cx qX7_readsWeeks_44 rfl ?_
        refine PW.aload_n cx qX7_readsWeeks_45 rfl ?_
        refine PW.getf (t := (2, 149)) (v := .ref (gB g + 149)) cx qX7_readsWeeks_46 (sh_140 hx) rfl flX7_39 rfl ?_
        refine PW.iconst (v := 0) cx qX7_readsWeeks_49 rfl ?_
        refine PW.iald cx qX7_readsWeeks_50 (sh_149 hx) hf sne (fun t7 hf => ?_)
        refine PW.callVWI (As := [.int t7]) (st := []) cx hR qX7_readsWeeks_51 klX7_226 mvX7_passes (sh_140 hx) rfl rfl rfl rfl (Nat.le_of_ble_eq_true rfl) (Nat.le_of_ble_eq_true rfl) (Nat.le_of_ble_eq_true rfl) (Nat.zero_le _) (Nat.zero_le _) hf sne (fun t e => ctX7_passes hx h6 t7 t e) (fun ⟨t8, h9⟩ hf => ?_)
        refine PW.pop cx qX7_readsWeeks_54 rfl ?_
        refine PW.iconst (v := 1) cx qX7_readsWeeks_55 rfl ?_
        exact PW.zret cx hrt nb1 qX7_readsWeeks_56 (le_wz hf)
    refine PW.icmp_gt cx qX7_readsWeeks_28 hf (fun hf => ?_) (fun hf => ?_)
    · refine PW.iconst (v := 0) cx qX7_readsWeeks_35 rfl ?_
      exact PW.locs (Lsub.keep Lsub.nil) (hj36 false hf)
    · refine PW.iconst (v := 1) cx qX7_readsWeeks_31 rfl ?_
      refine PW.goto cx qX7_readsWeeks_32 ?_
      exact PW.locs (Lsub.keep Lsub.nil) (hj36 true hf)
theorem lX7_type_3 {g : GT} {X : XT} {ex : Bool} {sh : List Shp} {post : Option Value → List Shp → Hp → Prop} (mx : Mx g X mX7_type 0 0 0) (hx : MSh sh) (c1 : Int32) : ∀ (n : Nat) (v2 : Int32) (h : Hp) (r : Hp) (hf : M_type_L3 c1 n v2 h = some r) (kx : ∀ (h1 : Hp), r = h1 → PW g X ex (QE g X ex post 0 0) 0 0 sh h1 39 [some (.ref (gB g + 140)), some (.int c1), none] []), PW g X ex (QE g X ex post 0 0) 0 0 sh h 3 [some (.ref (gB g + 140)), some (.int c1), some (.int v2)] [] := by
  have mx0 := mx
  obtain ⟨cx, hR, hml, hrt, -⟩ := mx0
  have cx : Cx g X RX7 cX7_type := cx
  have hrt : X.2.2.2.2.2.2.2.1.sig.returnType = none := hrt
  have hi2 : 2 < X.2.2.2.2.2.2.2.2.maxLocals := by rw [hml]; exact Nat.le_of_ble_eq_true rfl
  intro n
  induction n with
  | zero =>
    intro v2 h r hf kx
    cases hf
  | succ n ih =>
    intro v2 h r hf kx
    unfold M_type_L3 at hf
    refine PW.iload_n cx qX7_type_3 rfl ?_
    refine PW.if_lt cx qX7_type_4 hf (fun hf => ?_) (fun hf => ?_)
    · exact PW.locs (Lsub.keep (Lsub.keep (Lsub.drop Lsub.nil))) (kx h (Option.some.inj hf).symm)
    · refine PW.aload_n cx qX7_type_7 rfl ?_
      refine PW.getf (t := (2, 146)) (v := .ref (gB g + 146)) cx qX7_type_8 (sh_140 hx) rfl flX7_25 rfl ?_
      refine PW.aload_n cx qX7_type_11 rfl ?_
      refine PW.getf (t := (0, 0)) (v := .int (h 140 9)) cx qX7_type_12 (sh_140 hx) rfl flX7_312 rfl ?_
      refine PW.iload_n cx qX7_type_15 rfl ?_
      refine PW.iload_n cx qX7_type_16 rfl ?_
      refine PW.ishr cx qX7_type_17 ?_
      refine PW.sipush (v := 255) cx qX7_type_18 rfl ?_
      refine PW.iand cx qX7_type_21 ?_
      refine PW.iast cx qX7_type_22 (sh_146 hx) hf sne (fun h1 hf => ?_)
      refine PW.aload_n cx qX7_type_23 rfl ?_
      refine PW.dup cx qX7_type_24 rfl ?_
      refine PW.getf (t := (0, 0)) (v := .int (h1 140 9)) cx qX7_type_25 (sh_140 hx) rfl flX7_312 rfl ?_
      refine PW.iconst (v := 1) cx qX7_type_28 rfl ?_
      refine PW.iadd cx qX7_type_29 ?_
      refine PW.putiN cx qX7_type_30 (sh_140 hx) rfl fpX7_312 hf (fun h2 hf => ?_)
      refine PW.iinc (v := (-8)) (L' := [some (.ref (gB g + 140)), some (.int c1), some (.int (v2 + (-8)))]) cx qX7_type_33 rfl rfl hi2 rfl rfl ?_
      refine PW.goto cx qX7_type_36 ?_
      exact PW.locs (Lsub.keep (Lsub.keep (Lsub.keep Lsub.nil))) (ih (v2 + (-8)) h2 _ hf kx)
theorem ctX7_type {g : GT} {ex : Bool} {sh : List Shp} (hx : MSh sh) (h : Hp) (p1 : Int32) (r0 : Hp) (hf : M_type h p1 = some r0) : Ct g mX7_type 0 0 0 ex [.ref (gB g + 140), .int p1] sh h (PE none sh r0) := by
  refine Ct.of (L := [some (.ref (gB g + 140)), some (.int p1), none]) (by decide) (by intro w hw; simp only [List.mem_cons, List.not_mem_nil, or_false] at hw; rcases hw with rfl | rfl <;> rfl) (Nat.le_of_ble_eq_true rfl) rfl (fun X mx => ?_)
  have mx0 := mx
  obtain ⟨cx, hR, hml, hrt, -⟩ := mx0
  have cx : Cx g X RX7 cX7_type := cx
  have hrt : X.2.2.2.2.2.2.2.1.sig.returnType = none := hrt
  have hi2 : 2 < X.2.2.2.2.2.2.2.2.maxLocals := by rw [hml]; exact Nat.le_of_ble_eq_true rfl
  unfold M_type at hf
  refine PW.bipush (v := 24) cx qX7_type_0 rfl ?_
  refine PW.istore_n (L' := [some (.ref (gB g + 140)), some (.int p1), some (.int 24)]) cx qX7_type_2 hi2 rfl rfl ?_
  obtain ⟨r3, er3, hf⟩ := bndO hf sne
  refine PW.locs (Lsub.keep (Lsub.keep (Lsub.keep Lsub.nil))) (lX7_type_3 mx hx p1 FU 24 h r3 er3 (fun xx_ e => ?_))
  subst e
  exact PW.vret cx hrt qX7_type_39 (le_wv hf)
theorem ctX7_append {g : GT} {ex : Bool} {sh : List Shp} (hx : MSh sh) (h : Hp) (p1 : Int32) (p2 : Int32) (p3 : Int32) (p4 : Int32) (p5 : Int32) (r0 : Int32 × Hp) (hf : M_append h p1 p2 p3 p4 p5 = some r0) : Ct g mX7_append 1 0 0 ex [.ref (gB g + 140), .int p1, .int p2, .int p3, .int p4, .int p5] sh h (PE (some (.int r0.1)) sh r0.2) := by
  refine Ct.of (L := [some (.ref (gB g + 140)), some (.int p1), some (.int p2), some (.int p3), some (.int p4), some (.int p5)]) (by decide) (by intro w hw; simp only [List.mem_cons, List.not_mem_nil, or_false] at hw; rcases hw with rfl | rfl | rfl | rfl | rfl | rfl <;> rfl) (Nat.le_of_ble_eq_true rfl) rfl (fun X mx => ?_)
  obtain ⟨cx, hR, hml, hrt, -⟩ := mx
  have cx : Cx g X RX7 cX7_append := cx
  have hrt : X.2.2.2.2.2.2.2.1.sig.returnType = (some .int) := hrt
  unfold M_append at hf
  refine PW.aload_n cx qX7_append_0 rfl ?_
  refine PW.iconst (v := 0) cx qX7_append_1 rfl ?_
  refine PW.putiN cx qX7_append_2 (sh_140 hx) rfl fpX7_54 hf (fun h1 hf => ?_)
  refine PW.aload_n cx qX7_append_5 rfl ?_
  refine PW.getf (t := (0, 0)) (v := .int (h1 140 9)) cx qX7_append_6 (sh_140 hx) rfl flX7_312 rfl ?_
  refine PW.bipush (v := 20) cx qX7_append_9 rfl ?_
  refine PW.iadd cx qX7_append_11 ?_
  refine PW.sipush (v := 600) cx qX7_append_12 rfl ?_
  refine PW.icmp_le cx qX7_append_15 hf (fun hf => ?_) (fun hf => ?_)
  · refine PW.aload_n cx qX7_append_20 rfl ?_
    refine PW.iload_n cx qX7_append_21 rfl ?_
    refine PW.callVWV (As := [.int p1]) (st := []) cx hR qX7_append_22 klX7_315 mvX7_type (sh_140 hx) rfl rfl rfl rfl (Nat.le_of_ble_eq_true rfl) (Nat.le_of_ble_eq_true rfl) (Nat.le_of_ble_eq_true rfl) (Nat.zero_le _) (Nat.zero_le _) hf sne (fun t e => ctX7_type hx h1 p1 t e) (fun h3 hf => ?_)
    refine PW.aload_n cx qX7_append_25 rfl ?_
    refine PW.iload_n cx qX7_append_26 rfl ?_
    refine PW.callVWV (As := [.int p2]) (st := []) cx hR qX7_append_27 klX7_315 mvX7_type (sh_140 hx) rfl rfl rfl rfl (Nat.le_of_ble_eq_true rfl) (Nat.le_of_ble_eq_true rfl) (Nat.le_of_ble_eq_true rfl) (Nat.zero_le _) (Nat.zero_le _) hf sne (fun t e => ctX7_type hx h3 p2 t e) (fun h5 hf => ?_)
    refine PW.aload_n cx qX7_append_30 rfl ?_
    refine PW.iload_n cx qX7_append_31 rfl ?_
    refine PW.callVWV (As := [.int p3]) (st := []) cx hR qX7_append_32 klX7_315 mvX7_type (sh_140 hx) rfl rfl rfl rfl (Nat.le_of_ble_eq_true rfl) (Nat.le_of_ble_eq_true rfl) (Nat.le_of_ble_eq_true rfl) (Nat.zero_le _) (Nat.zero_le _) hf sne (fun t e => ctX7_type hx h5 p3 t e) (fun h7 hf => ?_)
    refine PW.aload_n cx qX7_append_35 rfl ?_
    refine PW.iload cx qX7_append_36 rfl ?_
    refine PW.callVWV (As := [.int p4]) (st := []) cx hR qX7_append_38 klX7_315 mvX7_type (sh_140 hx) rfl rfl rfl rfl (Nat.le_of_ble_eq_true rfl) (Nat.le_of_ble_eq_true rfl) (Nat.le_of_ble_eq_true rfl) (Nat.zero_le _) (Nat.zero_le _) hf sne (fun t e => ctX7_type hx h7 p4 t e) (fun h9 hf => ?_)
    refine PW.aload_n cx qX7_append_41 rfl ?_
    refine PW.iload cx qX7_append_42 rfl ?_
    refine PW.callVWV (As := [.int p5]) (st := []) cx hR qX7_append_44 klX7_315 mvX7_type (sh_140 hx) rfl rfl rfl rfl (Nat.le_of_ble_eq_true rfl) (Nat.le_of_ble_eq_true rfl) (Nat.le_of_ble_eq_true rfl) (Nat.zero_le _) (Nat.zero_le _) hf sne (fun t e => ctX7_type hx h9 p5 t e) (fun h11 hf => ?_)
    refine PW.aload_n cx qX7_append_47 rfl ?_
    refine PW.getf (t := (0, 0)) (v := .int (h11 140 9)) cx qX7_append_48 (sh_140 hx) rfl flX7_312 rfl ?_
    exact PW.iret cx hrt qX7_append_51 (le_wi hf)
  · refine PW.iconst (v := (-1)) cx qX7_append_18 rfl ?_
    exact PW.iret cx hrt qX7_append_19 (le_wi hf)
theorem ctX7_truncateInput {g : GT} {ex : Bool} {sh : List Shp} (hx : MSh sh) (h : Hp) (p1 : Int32) (r0 : Int32 × Hp) (hf : M_truncateInput h p1 = some r0) : Ct g mX7_truncateInput 1 0 0 ex [.ref (gB g + 140), .int p1] sh h (PE (some (.int r0.1)) sh r0.2) := by
  refine Ct.of (L := [some (.ref (gB g + 140)), some (.int p1)]) (by decide) (by intro w hw; simp only [List.mem_cons, List.not_mem_nil, or_false] at hw; rcases hw with rfl | rfl <;> rfl) (Nat.le_of_ble_eq_true rfl) rfl (fun X mx => ?_)
  obtain ⟨cx, hR, hml, hrt, -⟩ := mx
  have cx : Cx g X RX7 cX7_truncateInput := cx
  have hrt : X.2.2.2.2.2.2.2.1.sig.returnType = (some .int) := hrt
  unfold M_truncateInput at hf
  refine PW.aload_n cx qX7_truncateInput_0 rfl ?_
  refine PW.iload_n cx qX7_truncateInput_1 rfl ?_
  refine PW.iconst (v := 0) cx qX7_truncateInput_2 rfl ?_
  refine PW.aload_n cx qX7_truncateInput_3 rfl ?_
  refine PW.getf (t := (0, 0)) (v := .int (h 140 9)) cx qX7_truncateInput_4 (sh_140 hx) rfl flX7_312 rfl ?_
  refine PW.callSRB (As := [.int p1, .int 0, .int (h 140 9)]) (st := [.ref (gB g + 140)]) cx hR qX7_truncateInput_7 klX7_57 miX7_in rfl rfl (Nat.le_of_ble_eq_true rfl) (Nat.le_of_ble_eq_true rfl) (Nat.le_of_ble_eq_true rfl) (Nat.zero_le _) (Nat.zero_le _) hf sne (fun t e => ctX7_in h p1 0 (h 140 9) t e) (fun t1 hf => ?_)
  obtain ⟨j18, ej18, hf⟩ := lt_split hf
  have hj18 : ∀ (z0_18 : Bool), j18 z0_18 = some r0 → PW g X ex (QE g X ex (PE (some (.int r0.1)) sh r0.2) 0 0) 0 0 sh h 18 [some (.ref (gB g + 140)), some (.int p1)] [.int (b2i z0_18), .ref (gB g + 140)] := by
    intro z0_18 hf
    rw [ej18] at hf
    refine PW.callVWB (As := [.int (b2i z0_18)]) (st := []) cx hR qX7_truncateInput_18 klX7_319 mvX7_throwsOne (sh_140 hx) rfl rfl rfl rfl (Nat.le_of_ble_eq_true rfl) (Nat.le_of_ble_eq_true rfl) (Nat.le_of_ble_eq_true rfl) (Nat.zero_le _) (Nat.zero_le _) hf sne (fun t e => ctX7_throwsOne hx h z0_18 t e) (fun ⟨t2, h3⟩ hf => ?_)
    refine PW.if_eq cx qX7_truncateInput_21 hf (fun hf => ?_) (fun hf => ?_)
    · refine PW.aload_n cx qX7_truncateInput_26 rfl ?_
      refine PW.iload_n cx qX7_truncateInput_27 rfl ?_
      refine PW.putiN cx qX7_truncateInput_28 (sh_140 hx) rfl fpX7_312 hf (fun h4 hf => ?_)
      refine PW.iload_n cx qX7_truncateInput_31 rfl ?_
      exact PW.iret cx hrt qX7_truncateInput_32 (le_wi hf)
    · refine PW.iconst (v := 0) cx qX7_truncateInput_24 rfl ?_
      exact PW.iret cx hrt qX7_truncateInput_25 (le_wi hf)
  refine PW.if_ne cx qX7_truncateInput_10 hf (fun hf => ?_) (fun hf => ?_)
  · refine PW.iconst (v := 1) cx qX7_truncateInput_13 rfl ?_
    refine PW.goto cx qX7_truncateInput_14 ?_
    exact PW.locs (Lsub.keep (Lsub.keep Lsub.nil)) (hj18 true hf)
  · refine PW.iconst (v := 0) cx qX7_truncateInput_17 rfl ?_
    exact PW.locs (Lsub.keep (Lsub.keep Lsub.nil)) (hj18 false hf)
theorem lX7_begins_2 {g : GT} {X : XT} {ex : Bool} {sh : List Shp} {post : Option Value → List Shp → Hp → Prop} (mx : Mx g X mX7_begins 0 0 0) (hx : MSh sh) : ∀ (n : Nat) (v1 : Int32) (h : Hp) (r : Hp) (hf : M_begins_L2 n v1 h = some r) (kx : ∀ (h1 : Hp), r = h1 → PW g X ex (QE g X ex post 0 0) 0 0 sh h1 26 [some (.ref (gB g + 140)), none] []), PW g X ex (QE g X ex post 0 0) 0 0 sh h 2 [some (.ref (gB g + 140)), some (.int v1)] [] := by
  have mx0 := mx
  obtain ⟨cx, hR, hml, hrt, -⟩ := mx0
  have cx : Cx g X RX7 cX7_begins := cx
  have hrt : X.2.2.2.2.2.2.2.1.sig.returnType = none := hrt
  have hi1 : 1 < X.2.2.2.2.2.2.2.2.maxLocals := by rw [hml]; exact Nat.le_of_ble_eq_true rfl
  intro n
  induction n with
  | zero =>
    intro v1 h r hf kx
    cases hf
  | succ n ih =>
    intro v1 h r hf kx
    unfold M_begins_L2 at hf
    refine PW.iload_n cx qX7_begins_2 rfl ?_
    refine PW.bipush (v := 106) cx qX7_begins_3 rfl ?_
    refine PW.icmp_ge cx qX7_begins_5 hf (fun hf => ?_) (fun hf => ?_)
    · exact PW.locs (Lsub.keep (Lsub.drop Lsub.nil)) (kx h (Option.some.inj hf).symm)
    · refine PW.aload_n cx qX7_begins_8 rfl ?_
      refine PW.getf (t := (2, 142)) (v := .ref (gB g + 142)) cx qX7_begins_9 (sh_140 hx) rfl flX7_13 rfl ?_
      refine PW.iload_n cx qX7_begins_12 rfl ?_
      refine PW.aload_n cx qX7_begins_13 rfl ?_
      refine PW.getf (t := (2, 141)) (v := .ref (gB g + 141)) cx qX7_begins_14 (sh_140 hx) rfl flX7_7 rfl ?_
      refine PW.iload_n cx qX7_begins_17 rfl ?_
      refine PW.iald cx qX7_begins_18 (sh_141 hx) hf sne (fun t1 hf => ?_)
      refine PW.iast cx qX7_begins_19 (sh_142 hx) hf sne (fun h2 hf => ?_)
      refine PW.iinc (v := 1) (L' := [some (.ref (gB g + 140)), some (.int (v1 + 1))]) cx qX7_begins_20 rfl rfl hi1 rfl rfl ?_
      refine PW.goto cx qX7_begins_23 ?_
      exact PW.locs (Lsub.keep (Lsub.keep Lsub.nil)) (ih (v1 + 1) h2 _ hf kx)
theorem ctX7_begins {g : GT} {ex : Bool} {sh : List Shp} (hx : MSh sh) (h : Hp) (r0 : Hp) (hf : M_begins h = some r0) : Ct g mX7_begins 0 0 0 ex [.ref (gB g + 140)] sh h (PE none sh r0) := by
  refine Ct.of (L := [some (.ref (gB g + 140)), none]) (by decide) (by intro w hw; simp only [List.mem_cons, List.not_mem_nil, or_false] at hw; rcases hw with rfl <;> rfl) (Nat.le_of_ble_eq_true rfl) rfl (fun X mx => ?_)
  have mx0 := mx
  obtain ⟨cx, hR, hml, hrt, -⟩ := mx0
  have cx : Cx g X RX7 cX7_begins := cx
  have hrt : X.2.2.2.2.2.2.2.1.sig.returnType = none := hrt
  have hi1 : 1 < X.2.2.2.2.2.2.2.2.maxLocals := by rw [hml]; exact Nat.le_of_ble_eq_true rfl
  unfold M_begins at hf
  refine PW.iconst (v := 0) cx qX7_begins_0 rfl ?_
  refine PW.istore_n (L' := [some (.ref (gB g + 140)), some (.int 0)]) cx qX7_begins_1 hi1 rfl rfl ?_
  obtain ⟨r3, er3, hf⟩ := bndO hf sne
  refine PW.locs (Lsub.keep (Lsub.keep Lsub.nil)) (lX7_begins_2 mx hx FU 0 h r3 er3 (fun xx_ e => ?_))
  subst e
  exact PW.vret cx hrt qX7_begins_26 (le_wv hf)
theorem lX7_remember_52 {g : GT} {X : XT} {ex : Bool} {sh : List Shp} {post : Option Value → List Shp → Hp → Prop} (mx : Mx g X mX7_remember 0 0 0) (hx : MSh sh) (d1 : Int32) : ∀ (n : Nat) (v2 : Int32) (h : Hp) (r : Hp) (hf : M_remember_L52 n v2 h = some r) (kx : ∀ (h1 : Hp), r = h1 → PW g X ex (QE g X ex post 0 0) 0 0 sh h1 84 [some (.ref (gB g + 140)), some (.int d1), none] []), PW g X ex (QE g X ex post 0 0) 0 0 sh h 52 [some (.ref (gB g + 140)), some (.int d1), some (.int v2)] [] := by
  have mx0 := mx
  obtain ⟨cx, hR, hml, hrt, -⟩ := mx0
  have cx : Cx g X RX7 cX7_remember := cx
  have hrt : X.2.2.2.2.2.2.2.1.sig.returnType = (some .int) := hrt
  have hi2 : 2 < X.2.2.2.2.2.2.2.2.maxLocals := by rw [hml]; exact Nat.le_of_ble_eq_true rfl
  intro n
  induction n with
  | zero =>
    intro v2 h r hf kx
    cases hf
  | succ n ih =>
    intro v2 h r hf kx
    unfold M_remember_L52 at hf
    refine PW.iload_n cx qX7_remember_52 rfl ?_
    refine PW.bipush (v := 106) cx qX7_remember_53 rfl ?_
    refine PW.icmp_ge cx qX7_remember_55 hf (fun hf => ?_) (fun hf => ?_)
    · exact PW.locs (Lsub.keep (Lsub.keep (Lsub.drop Lsub.nil))) (kx h (Option.some.inj hf).symm)
    · refine PW.aload_n cx qX7_remember_58 rfl ?_
      refine PW.getf (t := (2, 144)) (v := .ref (gB g + 144)) cx qX7_remember_59 (sh_140 hx) rfl flX7_19 rfl ?_
      refine PW.bipush (v := 106) cx qX7_remember_62 rfl ?_
      refine PW.aload_n cx qX7_remember_64 rfl ?_
      refine PW.getf (t := (0, 0)) (v := .int (h 140 5)) cx qX7_remember_65 (sh_140 hx) rfl flX7_322 rfl ?_
      refine PW.imul cx qX7_remember_68 ?_
      refine PW.iload_n cx qX7_remember_69 rfl ?_
      refine PW.iadd cx qX7_remember_70 ?_
      refine PW.aload_n cx qX7_remember_71 rfl ?_
      refine PW.getf (t := (2, 142)) (v := .ref (gB g + 142)) cx qX7_remember_72 (sh_140 hx) rfl flX7_13 rfl ?_
      refine PW.iload_n cx qX7_remember_75 rfl ?_
      refine PW.iald cx qX7_remember_76 (sh_142 hx) hf sne (fun t1 hf => ?_)
      refine PW.iast cx qX7_remember_77 (sh_144 hx) hf sne (fun h2 hf => ?_)
      refine PW.iinc (v := 1) (L' := [some (.ref (gB g + 140)), some (.int d1), some (.int (v2 + 1))]) cx qX7_remember_78 rfl rfl hi2 rfl rfl ?_
      refine PW.goto cx qX7_remember_81 ?_
      exact PW.locs (Lsub.keep (Lsub.keep (Lsub.keep Lsub.nil))) (ih (v2 + 1) h2 _ hf kx)
theorem lX7_remember_12 {g : GT} {X : XT} {ex : Bool} {sh : List Shp} {post : Option Value → List Shp → Hp → Prop} (mx : Mx g X mX7_remember 0 0 0) (hx : MSh sh) (d1 : Int32) : ∀ (n : Nat) (v2 : Int32) (h : Hp) (r : Hp) (hf : M_remember_L12 n v2 h = some r) (kx : ∀ (h1 : Hp), r = h1 → PW g X ex (QE g X ex post 0 0) 0 0 sh h1 40 [some (.ref (gB g + 140)), some (.int d1), none] []), PW g X ex (QE g X ex post 0 0) 0 0 sh h 12 [some (.ref (gB g + 140)), some (.int d1), some (.int v2)] [] := by
  have mx0 := mx
  obtain ⟨cx, hR, hml, hrt, -⟩ := mx0
  have cx : Cx g X RX7 cX7_remember := cx
  have hrt : X.2.2.2.2.2.2.2.1.sig.returnType = (some .int) := hrt
  have hi2 : 2 < X.2.2.2.2.2.2.2.2.maxLocals := by rw [hml]; exact Nat.le_of_ble_eq_true rfl
  intro n
  induction n with
  | zero =>
    intro v2 h r hf kx
    cases hf
  | succ n ih =>
    intro v2 h r hf kx
    unfold M_remember_L12 at hf
    refine PW.iload_n cx qX7_remember_12 rfl ?_
    refine PW.sipush (v := 848) cx qX7_remember_13 rfl ?_
    refine PW.icmp_ge cx qX7_remember_16 hf (fun hf => ?_) (fun hf => ?_)
    · exact PW.locs (Lsub.keep (Lsub.keep (Lsub.drop Lsub.nil))) (kx h (Option.some.inj hf).symm)
    · refine PW.aload_n cx qX7_remember_19 rfl ?_
      refine PW.getf (t := (2, 144)) (v := .ref (gB g + 144)) cx qX7_remember_20 (sh_140 hx) rfl flX7_19 rfl ?_
      refine PW.iload_n cx qX7_remember_23 rfl ?_
      refine PW.bipush (v := 106) cx qX7_remember_24 rfl ?_
      refine PW.isub cx qX7_remember_26 ?_
      refine PW.aload_n cx qX7_remember_27 rfl ?_
      refine PW.getf (t := (2, 144)) (v := .ref (gB g + 144)) cx qX7_remember_28 (sh_140 hx) rfl flX7_19 rfl ?_
      refine PW.iload_n cx qX7_remember_31 rfl ?_
      refine PW.iald cx qX7_remember_32 (sh_144 hx) hf sne (fun t5 hf => ?_)
      refine PW.iast cx qX7_remember_33 (sh_144 hx) hf sne (fun h6 hf => ?_)
      refine PW.iinc (v := 1) (L' := [some (.ref (gB g + 140)), some (.int d1), some (.int (v2 + 1))]) cx qX7_remember_34 rfl rfl hi2 rfl rfl ?_
      refine PW.goto cx qX7_remember_37 ?_
      exact PW.locs (Lsub.keep (Lsub.keep (Lsub.keep Lsub.nil))) (ih (v2 + 1) h6 _ hf kx)
theorem ctX7_remember {g : GT} {ex : Bool} {sh : List Shp} (hx : MSh sh) (h : Hp) (p1 : Int32) (r0 : Int32 × Hp) (hf : M_remember h p1 = some r0) : Ct g mX7_remember 0 0 0 ex [.ref (gB g + 140), .int p1] sh h (PE (some (.int r0.1)) sh r0.2) := by
  refine Ct.of (L := [some (.ref (gB g + 140)), some (.int p1), none]) (by decide) (by intro w hw; simp only [List.mem_cons, List.not_mem_nil, or_false] at hw; rcases hw with rfl | rfl <;> rfl) (Nat.le_of_ble_eq_true rfl) rfl (fun X mx => ?_)
  have mx0 := mx
  obtain ⟨cx, hR, hml, hrt, -⟩ := mx0
  have cx : Cx g X RX7 cX7_remember := cx
  have hrt : X.2.2.2.2.2.2.2.1.sig.returnType = (some .int) := hrt
  have hi2 : 2 < X.2.2.2.2.2.2.2.2.maxLocals := by rw [hml]; exact Nat.le_of_ble_eq_true rfl
  unfold M_remember at hf
  refine PW.aload_n cx qX7_remember_0 rfl ?_
  refine PW.getf (t := (0, 0)) (v := .int (h 140 5)) cx qX7_remember_1 (sh_140 hx) rfl flX7_322 rfl ?_
  refine PW.bipush (v := 8) cx qX7_remember_4 rfl ?_
  obtain ⟨j50, ej50, hf⟩ := lt_split hf
  have hj50 : ∀ (h_50 : Hp), j50 h_50 = some r0 → PW g X ex (QE g X ex (PE (some (.int r0.1)) sh r0.2) 0 0) 0 0 sh h_50 50 [some (.ref (gB g + 140)), some (.int p1), none] [] := by
    intro h_50 hf
    rw [ej50] at hf
    refine PW.iconst (v := 0) cx qX7_remember_50 rfl ?_
    refine PW.istore_n (L' := [some (.ref (gB g + 140)), some (.int p1), some (.int 0)]) cx qX7_remember_51 hi2 rfl rfl ?_
    obtain ⟨r3, er3, hf⟩ := bndO hf sne
    refine PW.locs (Lsub.keep (Lsub.keep (Lsub.keep Lsub.nil))) (lX7_remember_52 mx hx p1 FU 0 h_50 r3 er3 (fun xx_ e => ?_))
    subst e
    refine PW.aload_n cx qX7_remember_84 rfl ?_
    refine PW.dup cx qX7_remember_85 rfl ?_
    refine PW.getf (t := (0, 0)) (v := .int (r3 140 5)) cx qX7_remember_86 (sh_140 hx) rfl flX7_322 rfl ?_
    refine PW.iconst (v := 1) cx qX7_remember_89 rfl ?_
    refine PW.iadd cx qX7_remember_90 ?_
    refine PW.putiN cx qX7_remember_91 (sh_140 hx) rfl fpX7_322 hf (fun h4 hf => ?_)
    refine PW.iload_n cx qX7_remember_94 rfl ?_
    exact PW.iret cx hrt qX7_remember_95 (le_wi hf)
  refine PW.icmp_ne cx qX7_remember_6 hf (fun hf => ?_) (fun hf => ?_)
  · refine PW.bipush (v := 106) cx qX7_remember_9 rfl ?_
    refine PW.istore_n (L' := [some (.ref (gB g + 140)), some (.int p1), some (.int 106)]) cx qX7_remember_11 hi2 rfl rfl ?_
    obtain ⟨r7, er7, hf⟩ := bndO hf sne
    refine PW.locs (Lsub.keep (Lsub.keep (Lsub.keep Lsub.nil))) (lX7_remember_12 mx hx p1 FU 106 h r7 er7 (fun xx_ e => ?_))
    subst e
    refine PW.aload_n cx qX7_remember_40 rfl ?_
    refine PW.dup cx qX7_remember_41 rfl ?_
    refine PW.getf (t := (0, 0)) (v := .int (r7 140 5)) cx qX7_remember_42 (sh_140 hx) rfl flX7_322 rfl ?_
    refine PW.iconst (v := 1) cx qX7_remember_45 rfl ?_
    refine PW.isub cx qX7_remember_46 ?_
    refine PW.putiN cx qX7_remember_47 (sh_140 hx) rfl fpX7_322 hf (fun h8 hf => ?_)
    exact PW.locs (Lsub.keep (Lsub.keep (Lsub.drop Lsub.nil))) (hj50 h8 hf)
  · exact PW.locs (Lsub.keep (Lsub.keep (Lsub.drop Lsub.nil))) (hj50 h hf)
theorem ctX7_addClip {g : GT} {ex : Bool} {sh : List Shp} (hx : MSh sh) (h : Hp) (p1 : Int32) (r0 : Int32 × Hp) (hf : M_addClip h p1 = some r0) : Ct g mX7_addClip 2 0 0 ex [.ref (gB g + 140), .int p1] sh h (PE (some (.int r0.1)) sh r0.2) := by
  refine Ct.of (L := [some (.ref (gB g + 140)), some (.int p1)]) (by decide) (by intro w hw; simp only [List.mem_cons, List.not_mem_nil, or_false] at hw; rcases hw with rfl | rfl <;> rfl) (Nat.le_of_ble_eq_true rfl) rfl (fun X mx => ?_)
  obtain ⟨cx, hR, hml, hrt, -⟩ := mx
  have cx : Cx g X RX7 cX7_addClip := cx
  have hrt : X.2.2.2.2.2.2.2.1.sig.returnType = (some .int) := hrt
  unfold M_addClip at hf
  refine PW.aload_n cx qX7_addClip_0 rfl ?_
  refine PW.iload_n cx qX7_addClip_1 rfl ?_
  refine PW.callSRB (As := [.int p1]) (st := [.ref (gB g + 140)]) cx hR qX7_addClip_2 klX7_188 miX7_areColours rfl rfl (Nat.le_of_ble_eq_true rfl) (Nat.le_of_ble_eq_true rfl) (Nat.le_of_ble_eq_true rfl) (Nat.zero_le _) (Nat.zero_le _) hf sne (fun t e => ctX7_areColours h p1 t e) (fun t1 hf => ?_)
  obtain ⟨j13, ej13, hf⟩ := lt_split hf
  have hj13 : ∀ (z0_13 : Bool), j13 z0_13 = some r0 → PW g X ex (QE g X ex (PE (some (.int r0.1)) sh r0.2) 0 0) 0 0 sh h 13 [some (.ref (gB g + 140)), some (.int p1)] [.int (b2i z0_13), .ref (gB g + 140)] := by
    intro z0_13 hf
    rw [ej13] at hf
    refine PW.aload_n cx qX7_addClip_13 rfl ?_
    refine PW.getf (t := (2, 141)) (v := .ref (gB g + 141)) cx qX7_addClip_14 (sh_140 hx) rfl flX7_7 rfl ?_
    refine PW.iconst (v := 2) cx qX7_addClip_17 rfl ?_
    refine PW.iald cx qX7_addClip_18 (sh_141 hx) hf sne (fun t2 hf => ?_)
    refine PW.bipush (v := 12) cx qX7_addClip_19 rfl ?_
    obtain ⟨j29, ej29, hf⟩ := lt_split hf
    have hj29 : ∀ (z0_29 : Bool), j29 z0_29 = some r0 → PW g X ex (QE g X ex (PE (some (.int r0.1)) sh r0.2) 0 0) 0 0 sh h 29 [some (.ref (gB g + 140)), some (.int p1)] [.int (b2i z0_29), .int (b2i z0_13), .ref (gB g + 140)] := by
      intro z0_29 hf
      rw [ej29] at hf
      refine PW.callVWB (As := [.int (b2i z0_13), .int (b2i z0_29)]) (st := []) cx hR qX7_addClip_29 klX7_331 mvX7_throwsOne_ (sh_140 hx) rfl rfl rfl rfl (Nat.le_of_ble_eq_true rfl) (Nat.le_of_ble_eq_true rfl) (Nat.le_of_ble_eq_true rfl) (Nat.zero_le _) (Nat.zero_le _) hf sne (fun t e => ctX7_throwsOne_ hx h z0_13 z0_29 t e) (fun ⟨t3, h4⟩ hf => ?_)
      refine PW.if_eq cx qX7_addClip_32 hf (fun hf => ?_) (fun hf => ?_)
      · refine PW.aload_n cx qX7_addClip_37 rfl ?_
        refine PW.callVWV (As := []) (st := []) cx hR qX7_addClip_38 klX7_325 mvX7_begins (sh_140 hx) rfl rfl rfl rfl (Nat.le_of_ble_eq_true rfl) (Nat.le_of_ble_eq_true rfl) (Nat.le_of_ble_eq_true rfl) (Nat.zero_le _) (Nat.zero_le _) hf sne (fun t e => ctX7_begins hx h4 t e) (fun h6 hf => ?_)
        refine PW.aload_n cx qX7_addClip_41 rfl ?_
        refine PW.aload_n cx qX7_addClip_42 rfl ?_
        refine PW.iload_n cx qX7_addClip_43 rfl ?_
        refine PW.callVWI (As := [.int p1]) (st := [.ref (gB g + 140)]) cx hR qX7_addClip_44 klX7_195 mvX7_adds (sh_140 hx) rfl rfl rfl rfl (Nat.le_of_ble_eq_true rfl) (Nat.le_of_ble_eq_true rfl) (Nat.le_of_ble_eq_true rfl) (Nat.zero_le _) (Nat.zero_le _) hf sne (fun t e => ctX7_adds hx h6 p1 t e) (fun ⟨t7, h8⟩ hf => ?_)
        refine PW.callVWI (As := [.int t7]) (st := []) cx hR qX7_addClip_47 klX7_328 mvX7_remember (sh_140 hx) rfl rfl rfl rfl (Nat.le_of_ble_eq_true rfl) (Nat.le_of_ble_eq_true rfl) (Nat.le_of_ble_eq_true rfl) (Nat.zero_le _) (Nat.zero_le _) hf sne (fun t e => ctX7_remember hx h8 t7 t e) (fun ⟨t9, h10⟩ hf => ?_)
        exact PW.iret cx hrt qX7_addClip_50 (le_wi hf)
      · refine PW.iconst (v := 0) cx qX7_addClip_35 rfl ?_
        exact PW.iret cx hrt qX7_addClip_36 (le_wi hf)
    refine PW.icmp_ne cx qX7_addClip_21 hf (fun hf => ?_) (fun hf => ?_)
    · refine PW.iconst (v := 1) cx qX7_addClip_24 rfl ?_
      refine PW.goto cx qX7_addClip_25 ?_
      exact PW.locs (Lsub.keep (Lsub.keep Lsub.nil)) (hj29 true hf)
    · refine PW.iconst (v := 0) cx qX7_addClip_28 rfl ?_
      exact PW.locs (Lsub.keep (Lsub.keep Lsub.nil)) (hj29 false hf)
  refine PW.if_ne cx qX7_addClip_5 hf (fun hf => ?_) (fun hf => ?_)
  · refine PW.iconst (v := 1) cx qX7_addClip_8 rfl ?_
    refine PW.goto cx qX7_addClip_9 ?_
    exact PW.locs (Lsub.keep (Lsub.keep Lsub.nil)) (hj13 true hf)
  · refine PW.iconst (v := 0) cx qX7_addClip_12 rfl ?_
    exact PW.locs (Lsub.keep (Lsub.keep Lsub.nil)) (hj13 false hf)
theorem ctX7_addReel {g : GT} {ex : Bool} {sh : List Shp} (hx : MSh sh) (h : Hp) (p1 : Int32) (r0 : Int32 × Hp) (hf : M_addReel h p1 = some r0) : Ct g mX7_addReel 2 0 0 ex [.ref (gB g + 140), .int p1] sh h (PE (some (.int r0.1)) sh r0.2) := by
  refine Ct.of (L := [some (.ref (gB g + 140)), some (.int p1)]) (by decide) (by intro w hw; simp only [List.mem_cons, List.not_mem_nil, or_false] at hw; rcases hw with rfl | rfl <;> rfl) (Nat.le_of_ble_eq_true rfl) rfl (fun X mx => ?_)
  obtain ⟨cx, hR, hml, hrt, -⟩ := mx
  have cx : Cx g X RX7 cX7_addReel := cx
  have hrt : X.2.2.2.2.2.2.2.1.sig.returnType = (some .int) := hrt
  unfold M_addReel at hf
  refine PW.aload_n cx qX7_addReel_0 rfl ?_
  refine PW.iload_n cx qX7_addReel_1 rfl ?_
  refine PW.iconst (v := 1) cx qX7_addReel_2 rfl ?_
  refine PW.bipush (v := 9) cx qX7_addReel_3 rfl ?_
  refine PW.callSRB (As := [.int p1, .int 1, .int 9]) (st := [.ref (gB g + 140)]) cx hR qX7_addReel_5 klX7_57 miX7_in rfl rfl (Nat.le_of_ble_eq_true rfl) (Nat.le_of_ble_eq_true rfl) (Nat.le_of_ble_eq_true rfl) (Nat.zero_le _) (Nat.zero_le _) hf sne (fun t e => ctX7_in h p1 1 9 t e) (fun t1 hf => ?_)
  obtain ⟨j16, ej16, hf⟩ := lt_split hf
  have hj16 : ∀ (z0_16 : Bool), j16 z0_16 = some r0 → PW g X ex (QE g X ex (PE (some (.int r0.1)) sh r0.2) 0 0) 0 0 sh h 16 [some (.ref (gB g + 140)), some (.int p1)] [.int (b2i z0_16), .ref (gB g + 140)] := by
    intro z0_16 hf
    rw [ej16] at hf
    refine PW.aload_n cx qX7_addReel_16 rfl ?_
    refine PW.getf (t := (2, 141)) (v := .ref (gB g + 141)) cx qX7_addReel_17 (sh_140 hx) rfl flX7_7 rfl ?_
    refine PW.iconst (v := 3) cx qX7_addReel_20 rfl ?_
    refine PW.iald cx qX7_addReel_21 (sh_141 hx) hf sne (fun t2 hf => ?_)
    refine PW.iconst (v := 4) cx qX7_addReel_22 rfl ?_
    obtain ⟨j31, ej31, hf⟩ := lt_split hf
    have hj31 : ∀ (z0_31 : Bool), j31 z0_31 = some r0 → PW g X ex (QE g X ex (PE (some (.int r0.1)) sh r0.2) 0 0) 0 0 sh h 31 [some (.ref (gB g + 140)), some (.int p1)] [.int (b2i z0_31), .int (b2i z0_16), .ref (gB g + 140)] := by
      intro z0_31 hf
      rw [ej31] at hf
      refine PW.callVWB (As := [.int (b2i z0_16), .int (b2i z0_31)]) (st := []) cx hR qX7_addReel_31 klX7_331 mvX7_throwsOne_ (sh_140 hx) rfl rfl rfl rfl (Nat.le_of_ble_eq_true rfl) (Nat.le_of_ble_eq_true rfl) (Nat.le_of_ble_eq_true rfl) (Nat.zero_le _) (Nat.zero_le _) hf sne (fun t e => ctX7_throwsOne_ hx h z0_16 z0_31 t e) (fun ⟨t3, h4⟩ hf => ?_)
      refine PW.if_eq cx qX7_addReel_34 hf (fun hf => ?_) (fun hf => ?_)
      · refine PW.aload_n cx qX7_addReel_39 rfl ?_
        refine PW.callVWV (As := []) (st := []) cx hR qX7_addReel_40 klX7_325 mvX7_begins (sh_140 hx) rfl rfl rfl rfl (Nat.le_of_ble_eq_true rfl) (Nat.le_of_ble_eq_true rfl) (Nat.le_of_ble_eq_true rfl) (Nat.zero_le _) (Nat.zero_le _) hf sne (fun t e => ctX7_begins hx h4 t e) (fun h6 hf => ?_)
        refine PW.aload_n cx qX7_addReel_43 rfl ?_
        refine PW.aload_n cx qX7_addReel_44 rfl ?_
        refine PW.iload_n cx qX7_addReel_45 rfl ?_
        refine PW.callVWI (As := [.int p1]) (st := [.ref (gB g + 140)]) cx hR qX7_addReel_46 klX7_198 mvX7_hangs (sh_140 hx) rfl rfl rfl rfl (Nat.le_of_ble_eq_true rfl) (Nat.le_of_ble_eq_true rfl) (Nat.le_of_ble_eq_true rfl) (Nat.zero_le _) (Nat.zero_le _) hf sne (fun t e => ctX7_hangs hx h6 p1 t e) (fun ⟨t7, h8⟩ hf => ?_)
        refine PW.callVWI (As := [.int t7]) (st := []) cx hR qX7_addReel_49 klX7_328 mvX7_remember (sh_140 hx) rfl rfl rfl rfl (Nat.le_of_ble_eq_true rfl) (Nat.le_of_ble_eq_true rfl) (Nat.le_of_ble_eq_true rfl) (Nat.zero_le _) (Nat.zero_le _) hf sne (fun t e => ctX7_remember hx h8 t7 t e) (fun ⟨t9, h10⟩ hf => ?_)
        exact PW.iret cx hrt qX7_addReel_52 (le_wi hf)
      · refine PW.iconst (v := 0) cx qX7_addReel_37 rfl ?_
        exact PW.iret cx hrt qX7_addReel_38 (le_wi hf)
    refine PW.icmp_ne cx qX7_addReel_23 hf (fun hf => ?_) (fun hf => ?_)
    · refine PW.iconst (v := 1) cx qX7_addReel_26 rfl ?_
      refine PW.goto cx qX7_addReel_27 ?_
      exact PW.locs (Lsub.keep (Lsub.keep Lsub.nil)) (hj31 true hf)
    · refine PW.iconst (v := 0) cx qX7_addReel_30 rfl ?_
      exact PW.locs (Lsub.keep (Lsub.keep Lsub.nil)) (hj31 false hf)
  refine PW.if_ne cx qX7_addReel_8 hf (fun hf => ?_) (fun hf => ?_)
  · refine PW.iconst (v := 1) cx qX7_addReel_11 rfl ?_
    refine PW.goto cx qX7_addReel_12 ?_
    exact PW.locs (Lsub.keep (Lsub.keep Lsub.nil)) (hj16 true hf)
  · refine PW.iconst (v := 0) cx qX7_addReel_15 rfl ?_
    exact PW.locs (Lsub.keep (Lsub.keep Lsub.nil)) (hj16 false hf)
theorem ctX7_addScene {g : GT} {ex : Bool} {sh : List Shp} (hx : MSh sh) (h : Hp) (p1 : Int32) (r0 : Int32 × Hp) (hf : M_addScene h p1 = some r0) : Ct g mX7_addScene 1 0 0 ex [.ref (gB g + 140), .int p1] sh h (PE (some (.int r0.1)) sh r0.2) := by
  refine Ct.of (L := [some (.ref (gB g + 140)), some (.int p1)]) (by decide) (by intro w hw; simp only [List.mem_cons, List.not_mem_nil, or_false] at hw; rcases hw with rfl | rfl <;> rfl) (Nat.le_of_ble_eq_true rfl) rfl (fun X mx => ?_)
  obtain ⟨cx, hR, hml, hrt, -⟩ := mx
  have cx : Cx g X RX7 cX7_addScene := cx
  have hrt : X.2.2.2.2.2.2.2.1.sig.returnType = (some .int) := hrt
  unfold M_addScene at hf
  refine PW.aload_n cx qX7_addScene_0 rfl ?_
  refine PW.iload_n cx qX7_addScene_1 rfl ?_
  refine PW.iconst (v := 1) cx qX7_addScene_2 rfl ?_
  refine PW.bipush (v := 9) cx qX7_addScene_3 rfl ?_
  refine PW.callSRB (As := [.int p1, .int 1, .int 9]) (st := [.ref (gB g + 140)]) cx hR qX7_addScene_5 klX7_57 miX7_in rfl rfl (Nat.le_of_ble_eq_true rfl) (Nat.le_of_ble_eq_true rfl) (Nat.le_of_ble_eq_true rfl) (Nat.zero_le _) (Nat.zero_le _) hf sne (fun t e => ctX7_in h p1 1 9 t e) (fun t1 hf => ?_)
  obtain ⟨j16, ej16, hf⟩ := lt_split hf
  have hj16 : ∀ (z0_16 : Bool), j16 z0_16 = some r0 → PW g X ex (QE g X ex (PE (some (.int r0.1)) sh r0.2) 0 0) 0 0 sh h 16 [some (.ref (gB g + 140)), some (.int p1)] [.int (b2i z0_16), .ref (gB g + 140)] := by
    intro z0_16 hf
    rw [ej16] at hf
    refine PW.aload_n cx qX7_addScene_16 rfl ?_
    refine PW.getf (t := (2, 141)) (v := .ref (gB g + 141)) cx qX7_addScene_17 (sh_140 hx) rfl flX7_7 rfl ?_
    refine PW.iconst (v := 4) cx qX7_addScene_20 rfl ?_
    refine PW.iald cx qX7_addScene_21 (sh_141 hx) hf sne (fun t2 hf => ?_)
    refine PW.iconst (v := 5) cx qX7_addScene_22 rfl ?_
    obtain ⟨j31, ej31, hf⟩ := lt_split hf
    have hj31 : ∀ (z0_31 : Bool), j31 z0_31 = some r0 → PW g X ex (QE g X ex (PE (some (.int r0.1)) sh r0.2) 0 0) 0 0 sh h 31 [some (.ref (gB g + 140)), some (.int p1)] [.int (b2i z0_31), .int (b2i z0_16), .ref (gB g + 140)] := by
      intro z0_31 hf
      rw [ej31] at hf
      refine PW.callVWB (As := [.int (b2i z0_16), .int (b2i z0_31)]) (st := []) cx hR qX7_addScene_31 klX7_331 mvX7_throwsOne_ (sh_140 hx) rfl rfl rfl rfl (Nat.le_of_ble_eq_true rfl) (Nat.le_of_ble_eq_true rfl) (Nat.le_of_ble_eq_true rfl) (Nat.zero_le _) (Nat.zero_le _) hf sne (fun t e => ctX7_throwsOne_ hx h z0_16 z0_31 t e) (fun ⟨t3, h4⟩ hf => ?_)
      refine PW.if_eq cx qX7_addScene_34 hf (fun hf => ?_) (fun hf => ?_)
      · refine PW.aload_n cx qX7_addScene_39 rfl ?_
        refine PW.callVWV (As := []) (st := []) cx hR qX7_addScene_40 klX7_325 mvX7_begins (sh_140 hx) rfl rfl rfl rfl (Nat.le_of_ble_eq_true rfl) (Nat.le_of_ble_eq_true rfl) (Nat.le_of_ble_eq_true rfl) (Nat.zero_le _) (Nat.zero_le _) hf sne (fun t e => ctX7_begins hx h4 t e) (fun h6 hf => ?_)
        refine PW.aload_n cx qX7_addScene_43 rfl ?_
        refine PW.aload_n cx qX7_addScene_44 rfl ?_
        refine PW.iload_n cx qX7_addScene_45 rfl ?_
        refine PW.callVWI (As := [.int p1]) (st := [.ref (gB g + 140)]) cx hR qX7_addScene_46 klX7_201 mvX7_opens (sh_140 hx) rfl rfl rfl rfl (Nat.le_of_ble_eq_true rfl) (Nat.le_of_ble_eq_true rfl) (Nat.le_of_ble_eq_true rfl) (Nat.zero_le _) (Nat.zero_le _) hf sne (fun t e => ctX7_opens hx h6 p1 t e) (fun ⟨t7, h8⟩ hf => ?_)
        refine PW.callVWI (As := [.int t7]) (st := []) cx hR qX7_addScene_49 klX7_328 mvX7_remember (sh_140 hx) rfl rfl rfl rfl (Nat.le_of_ble_eq_true rfl) (Nat.le_of_ble_eq_true rfl) (Nat.le_of_ble_eq_true rfl) (Nat.zero_le _) (Nat.zero_le _) hf sne (fun t e => ctX7_remember hx h8 t7 t e) (fun ⟨t9, h10⟩ hf => ?_)
        exact PW.iret cx hrt qX7_addScene_52 (le_wi hf)
      · refine PW.iconst (v := 0) cx qX7_addScene_37 rfl ?_
        exact PW.iret cx hrt qX7_addScene_38 (le_wi hf)
    refine PW.icmp_ne cx qX7_addScene_23 hf (fun hf => ?_) (fun hf => ?_)
    · refine PW.iconst (v := 1) cx qX7_addScene_26 rfl ?_
      refine PW.goto cx qX7_addScene_27 ?_
      exact PW.locs (Lsub.keep (Lsub.keep Lsub.nil)) (hj31 true hf)
    · refine PW.iconst (v := 0) cx qX7_addScene_30 rfl ?_
      exact PW.locs (Lsub.keep (Lsub.keep Lsub.nil)) (hj31 false hf)
  refine PW.if_ne cx qX7_addScene_8 hf (fun hf => ?_) (fun hf => ?_)
  · refine PW.iconst (v := 1) cx qX7_addScene_11 rfl ?_
    refine PW.goto cx qX7_addScene_12 ?_
    exact PW.locs (Lsub.keep (Lsub.keep Lsub.nil)) (hj16 true hf)
  · refine PW.iconst (v := 0) cx qX7_addScene_15 rfl ?_
    exact PW.locs (Lsub.keep (Lsub.keep Lsub.nil)) (hj16 false hf)
theorem ctX7_sleep {g : GT} {ex : Bool} {sh : List Shp} (hx : MSh sh) (h : Hp) (p1 : Int32) (p2 : Int32) (r0 : Int32 × Hp) (hf : M_sleep h p1 p2 = some r0) : Ct g mX7_sleep 7 0 0 ex [.ref (gB g + 140), .int p1, .int p2] sh h (PE (some (.int r0.1)) sh r0.2) := by
  refine Ct.of (L := [some (.ref (gB g + 140)), some (.int p1), some (.int p2), none]) (by decide) (by intro w hw; simp only [List.mem_cons, List.not_mem_nil, or_false] at hw; rcases hw with rfl | rfl | rfl <;> rfl) (Nat.le_of_ble_eq_true rfl) rfl (fun X mx => ?_)
  obtain ⟨cx, hR, hml, hrt, -⟩ := mx
  have cx : Cx g X RX7 cX7_sleep := cx
  have hrt : X.2.2.2.2.2.2.2.1.sig.returnType = (some .int) := hrt
  have hi3 : 3 < X.2.2.2.2.2.2.2.2.maxLocals := by rw [hml]; exact Nat.le_of_ble_eq_true rfl
  unfold M_sleep at hf
  refine PW.aload_n cx qX7_sleep_0 rfl ?_
  refine PW.iload_n cx qX7_sleep_1 rfl ?_
  refine PW.callVRB (As := [.int p1]) (st := []) cx hR qX7_sleep_2 klX7_334 mvX7_isClip (sh_140 hx) rfl rfl rfl rfl (Nat.le_of_ble_eq_true rfl) (Nat.le_of_ble_eq_true rfl) (Nat.le_of_ble_eq_true rfl) (Nat.zero_le _) (Nat.zero_le _) hf sne (fun t e => ctX7_isClip hx h p1 t e) (fun t1 hf => ?_)
  obtain ⟨j21, ej21, hf⟩ := lt_split hf
  have hj21 : ∀ (z0_21 : Bool), j21 z0_21 = some r0 → PW g X ex (QE g X ex (PE (some (.int r0.1)) sh r0.2) 0 0) 0 0 sh h 21 [some (.ref (gB g + 140)), some (.int p1), some (.int p2), none] [.int (b2i z0_21)] := by
    intro z0_21 hf
    rw [ej21] at hf
    refine PW.istore_n (L' := [some (.ref (gB g + 140)), some (.int p1), some (.int p2), some (.int (b2i z0_21))]) cx qX7_sleep_21 hi3 rfl rfl ?_
    refine PW.aload_n cx qX7_sleep_22 rfl ?_
    refine PW.iload_n cx qX7_sleep_23 rfl ?_
    obtain ⟨j32, ej32, hf⟩ := lt_split hf
    have hj32 : ∀ (z0_32 : Bool), j32 z0_32 = some r0 → PW g X ex (QE g X ex (PE (some (.int r0.1)) sh r0.2) 0 0) 0 0 sh h 32 [some (.ref (gB g + 140)), some (.int p1), some (.int p2), some (.int (b2i z0_21))] [.int (b2i z0_32), .ref (gB g + 140)] := by
      intro z0_32 hf
      rw [ej32] at hf
      refine PW.iload_n cx qX7_sleep_32 rfl ?_
      obtain ⟨j50, ej50, hf⟩ := lt_split hf
      have hj50 : ∀ (z0_50 : Bool), j50 z0_50 = some r0 → PW g X ex (QE g X ex (PE (some (.int r0.1)) sh r0.2) 0 0) 0 0 sh h 50 [some (.ref (gB g + 140)), some (.int p1), some (.int p2), none] [.int (b2i z0_50), .int (b2i z0_32), .ref (gB g + 140)] := by
        intro z0_50 hf
        rw [ej50] at hf
        refine PW.callVWB (As := [.int (b2i z0_32), .int (b2i z0_50)]) (st := []) cx hR qX7_sleep_50 klX7_331 mvX7_throwsOne_ (sh_140 hx) rfl rfl rfl rfl (Nat.le_of_ble_eq_true rfl) (Nat.le_of_ble_eq_true rfl) (Nat.le_of_ble_eq_true rfl) (Nat.zero_le _) (Nat.zero_le _) hf sne (fun t e => ctX7_throwsOne_ hx h z0_32 z0_50 t e) (fun ⟨t2, h3⟩ hf => ?_)
        refine PW.if_eq cx qX7_sleep_53 hf (fun hf => ?_) (fun hf => ?_)
        · refine PW.aload_n cx qX7_sleep_58 rfl ?_
          refine PW.callVWV (As := []) (st := []) cx hR qX7_sleep_59 klX7_325 mvX7_begins (sh_140 hx) rfl rfl rfl rfl (Nat.le_of_ble_eq_true rfl) (Nat.le_of_ble_eq_true rfl) (Nat.le_of_ble_eq_true rfl) (Nat.zero_le _) (Nat.zero_le _) hf sne (fun t e => ctX7_begins hx h3 t e) (fun h5 hf => ?_)
          refine PW.aload_n cx qX7_sleep_62 rfl ?_
          refine PW.aload_n cx qX7_sleep_63 rfl ?_
          refine PW.iload_n cx qX7_sleep_64 rfl ?_
          refine PW.iload_n cx qX7_sleep_65 rfl ?_
          refine PW.callVWI (As := [.int p1, .int p2]) (st := [.ref (gB g + 140)]) cx hR qX7_sleep_66 klX7_136 mvX7_liesDown (sh_140 hx) rfl rfl rfl rfl (Nat.le_of_ble_eq_true rfl) (Nat.le_of_ble_eq_true rfl) (Nat.le_of_ble_eq_true rfl) (Nat.zero_le _) (Nat.zero_le _) hf sne (fun t e => ctX7_liesDown hx h5 p1 p2 t e) (fun ⟨t6, h7⟩ hf => ?_)
          refine PW.callVWI (As := [.int t6]) (st := []) cx hR qX7_sleep_69 klX7_328 mvX7_remember (sh_140 hx) rfl rfl rfl rfl (Nat.le_of_ble_eq_true rfl) (Nat.le_of_ble_eq_true rfl) (Nat.le_of_ble_eq_true rfl) (Nat.zero_le _) (Nat.zero_le _) hf sne (fun t e => ctX7_remember hx h7 t6 t e) (fun ⟨t8, h9⟩ hf => ?_)
          exact PW.iret cx hrt qX7_sleep_72 (le_wi hf)
        · refine PW.iconst (v := 0) cx qX7_sleep_56 rfl ?_
          exact PW.iret cx hrt qX7_sleep_57 (le_wi hf)
      obtain ⟨j49, ej49, hf⟩ := lt_split hf
      have hj49 : ∀ (u_49 : Unit), j49 u_49 = some r0 → PW g X ex (QE g X ex (PE (some (.int r0.1)) sh r0.2) 0 0) 0 0 sh h 49 [some (.ref (gB g + 140)), some (.int p1), some (.int p2), none] [.int (b2i z0_32), .ref (gB g + 140)] := by
        intro u_49 hf
        rw [ej49] at hf
        refine PW.iconst (v := 0) cx qX7_sleep_49 rfl ?_
        exact PW.locs (Lsub.keep (Lsub.keep (Lsub.keep (Lsub.drop Lsub.nil)))) (hj50 false hf)
      refine PW.if_eq cx qX7_sleep_33 hf (fun hf => ?_) (fun hf => ?_)
      · exact PW.locs (Lsub.keep (Lsub.keep (Lsub.keep (Lsub.drop Lsub.nil)))) (hj49 () hf)
      · refine PW.aload_n cx qX7_sleep_36 rfl ?_
        refine PW.iload_n cx qX7_sleep_37 rfl ?_
        refine PW.iload_n cx qX7_sleep_38 rfl ?_
        refine PW.callVRI (As := [.int p1, .int p2]) (st := [.int (b2i z0_32), .ref (gB g + 140)]) cx hR qX7_sleep_39 klX7_207 mvX7_whyStaysUp (sh_140 hx) rfl rfl rfl rfl (Nat.le_of_ble_eq_true rfl) (Nat.le_of_ble_eq_true rfl) (Nat.le_of_ble_eq_true rfl) (Nat.zero_le _) (Nat.zero_le _) hf sne (fun t e => ctX7_whyStaysUp hx h p1 p2 t e) (fun t10 hf => ?_)
        refine PW.if_eq cx qX7_sleep_42 hf (fun hf => ?_) (fun hf => ?_)
        · exact PW.locs (Lsub.keep (Lsub.keep (Lsub.keep (Lsub.drop Lsub.nil)))) (hj49 () hf)
        · refine PW.iconst (v := 1) cx qX7_sleep_45 rfl ?_
          refine PW.goto cx qX7_sleep_46 ?_
          exact PW.locs (Lsub.keep (Lsub.keep (Lsub.keep (Lsub.drop Lsub.nil)))) (hj50 true hf)
    refine PW.if_ne cx qX7_sleep_24 hf (fun hf => ?_) (fun hf => ?_)
    · refine PW.iconst (v := 1) cx qX7_sleep_27 rfl ?_
      refine PW.goto cx qX7_sleep_28 ?_
      exact PW.locs (Lsub.keep (Lsub.keep (Lsub.keep (Lsub.keep Lsub.nil)))) (hj32 true hf)
    · refine PW.iconst (v := 0) cx qX7_sleep_31 rfl ?_
      exact PW.locs (Lsub.keep (Lsub.keep (Lsub.keep (Lsub.keep Lsub.nil)))) (hj32 false hf)
  obtain ⟨j20, ej20, hf⟩ := lt_split hf
  have hj20 : ∀ (u_20 : Unit), j20 u_20 = some r0 → PW g X ex (QE g X ex (PE (some (.int r0.1)) sh r0.2) 0 0) 0 0 sh h 20 [some (.ref (gB g + 140)), some (.int p1), some (.int p2), none] [] := by
    intro u_20 hf
    rw [ej20] at hf
    refine PW.iconst (v := 0) cx qX7_sleep_20 rfl ?_
    exact PW.locs (Lsub.keep (Lsub.keep (Lsub.keep (Lsub.drop Lsub.nil)))) (hj21 false hf)
  refine PW.if_eq cx qX7_sleep_5 hf (fun hf => ?_) (fun hf => ?_)
  · exact PW.locs (Lsub.keep (Lsub.keep (Lsub.keep (Lsub.drop Lsub.nil)))) (hj20 () hf)
  · refine PW.aload_n cx qX7_sleep_8 rfl ?_
    refine PW.iload_n cx qX7_sleep_9 rfl ?_
    refine PW.callVRB (As := [.int p2]) (st := []) cx hR qX7_sleep_10 klX7_337 mvX7_isReel (sh_140 hx) rfl rfl rfl rfl (Nat.le_of_ble_eq_true rfl) (Nat.le_of_ble_eq_true rfl) (Nat.le_of_ble_eq_true rfl) (Nat.zero_le _) (Nat.zero_le _) hf sne (fun t e => ctX7_isReel hx h p2 t e) (fun t11 hf => ?_)
    refine PW.if_eq cx qX7_sleep_13 hf (fun hf => ?_) (fun hf => ?_)
    · exact PW.locs (Lsub.keep (Lsub.keep (Lsub.keep (Lsub.drop Lsub.nil)))) (hj20 () hf)
    · refine PW.iconst (v := 1) cx qX7_sleep_16 rfl ?_
      refine PW.goto cx qX7_sleep_17 ?_
      exact PW.locs (Lsub.keep (Lsub.keep (Lsub.keep (Lsub.drop Lsub.nil)))) (hj21 true hf)
theorem ctX7_wake {g : GT} {ex : Bool} {sh : List Shp} (hx : MSh sh) (h : Hp) (p1 : Int32) (r0 : Int32 × Hp) (hf : M_wake h p1 = some r0) : Ct g mX7_wake 4 0 0 ex [.ref (gB g + 140), .int p1] sh h (PE (some (.int r0.1)) sh r0.2) := by
  refine Ct.of (L := [some (.ref (gB g + 140)), some (.int p1), none]) (by decide) (by intro w hw; simp only [List.mem_cons, List.not_mem_nil, or_false] at hw; rcases hw with rfl | rfl <;> rfl) (Nat.le_of_ble_eq_true rfl) rfl (fun X mx => ?_)
  obtain ⟨cx, hR, hml, hrt, -⟩ := mx
  have cx : Cx g X RX7 cX7_wake := cx
  have hrt : X.2.2.2.2.2.2.2.1.sig.returnType = (some .int) := hrt
  have hi2 : 2 < X.2.2.2.2.2.2.2.2.maxLocals := by rw [hml]; exact Nat.le_of_ble_eq_true rfl
  unfold M_wake at hf
  refine PW.aload_n cx qX7_wake_0 rfl ?_
  refine PW.iload_n cx qX7_wake_1 rfl ?_
  refine PW.callVRB (As := [.int p1]) (st := []) cx hR qX7_wake_2 klX7_334 mvX7_isClip (sh_140 hx) rfl rfl rfl rfl (Nat.le_of_ble_eq_true rfl) (Nat.le_of_ble_eq_true rfl) (Nat.le_of_ble_eq_true rfl) (Nat.zero_le _) (Nat.zero_le _) hf sne (fun t e => ctX7_isClip hx h p1 t e) (fun t1 hf => ?_)
  refine PW.istore_n (L' := [some (.ref (gB g + 140)), some (.int p1), some (.int (b2i t1))]) cx qX7_wake_5 hi2 rfl rfl ?_
  refine PW.aload_n cx qX7_wake_6 rfl ?_
  refine PW.iload_n cx qX7_wake_7 rfl ?_
  obtain ⟨j16, ej16, hf⟩ := lt_split hf
  have hj16 : ∀ (z0_16 : Bool), j16 z0_16 = some r0 → PW g X ex (QE g X ex (PE (some (.int r0.1)) sh r0.2) 0 0) 0 0 sh h 16 [some (.ref (gB g + 140)), some (.int p1), some (.int (b2i t1))] [.int (b2i z0_16), .ref (gB g + 140)] := by
    intro z0_16 hf
    rw [ej16] at hf
    refine PW.iload_n cx qX7_wake_16 rfl ?_
    obtain ⟨j35, ej35, hf⟩ := lt_split hf
    have hj35 : ∀ (z0_35 : Bool), j35 z0_35 = some r0 → PW g X ex (QE g X ex (PE (some (.int r0.1)) sh r0.2) 0 0) 0 0 sh h 35 [some (.ref (gB g + 140)), some (.int p1), none] [.int (b2i z0_35), .int (b2i z0_16), .ref (gB g + 140)] := by
      intro z0_35 hf
      rw [ej35] at hf
      refine PW.callVWB (As := [.int (b2i z0_16), .int (b2i z0_35)]) (st := []) cx hR qX7_wake_35 klX7_331 mvX7_throwsOne_ (sh_140 hx) rfl rfl rfl rfl (Nat.le_of_ble_eq_true rfl) (Nat.le_of_ble_eq_true rfl) (Nat.le_of_ble_eq_true rfl) (Nat.zero_le _) (Nat.zero_le _) hf sne (fun t e => ctX7_throwsOne_ hx h z0_16 z0_35 t e) (fun ⟨t2, h3⟩ hf => ?_)
      refine PW.if_eq cx qX7_wake_38 hf (fun hf => ?_) (fun hf => ?_)
      · refine PW.aload_n cx qX7_wake_43 rfl ?_
        refine PW.callVWV (As := []) (st := []) cx hR qX7_wake_44 klX7_325 mvX7_begins (sh_140 hx) rfl rfl rfl rfl (Nat.le_of_ble_eq_true rfl) (Nat.le_of_ble_eq_true rfl) (Nat.le_of_ble_eq_true rfl) (Nat.zero_le _) (Nat.zero_le _) hf sne (fun t e => ctX7_begins hx h3 t e) (fun h5 hf => ?_)
        refine PW.aload_n cx qX7_wake_47 rfl ?_
        refine PW.aload_n cx qX7_wake_48 rfl ?_
        refine PW.iload_n cx qX7_wake_49 rfl ?_
        refine PW.iconst (v := 0) cx qX7_wake_50 rfl ?_
        refine PW.callVWI (As := [.int p1, .int 0]) (st := [.ref (gB g + 140)]) cx hR qX7_wake_51 klX7_133 mvX7_leaves (sh_140 hx) rfl rfl rfl rfl (Nat.le_of_ble_eq_true rfl) (Nat.le_of_ble_eq_true rfl) (Nat.le_of_ble_eq_true rfl) (Nat.zero_le _) (Nat.zero_le _) hf sne (fun t e => ctX7_leaves hx h5 p1 0 t e) (fun ⟨t6, h7⟩ hf => ?_)
        refine PW.callVWI (As := [.int t6]) (st := []) cx hR qX7_wake_54 klX7_328 mvX7_remember (sh_140 hx) rfl rfl rfl rfl (Nat.le_of_ble_eq_true rfl) (Nat.le_of_ble_eq_true rfl) (Nat.le_of_ble_eq_true rfl) (Nat.zero_le _) (Nat.zero_le _) hf sne (fun t e => ctX7_remember hx h7 t6 t e) (fun ⟨t8, h9⟩ hf => ?_)
        exact PW.iret cx hrt qX7_wake_57 (le_wi hf)
      · refine PW.iconst (v := 0) cx qX7_wake_41 rfl ?_
        exact PW.iret cx hrt qX7_wake_42 (le_wi hf)
    obtain ⟨j34, ej34, hf⟩ := lt_split hf
    have hj34 : ∀ (u_34 : Unit), j34 u_34 = some r0 → PW g X ex (QE g X ex (PE (some (.int r0.1)) sh r0.2) 0 0) 0 0 sh h 34 [some (.ref (gB g + 140)), some (.int p1), none] [.int (b2i z0_16), .ref (gB g + 140)] := by
      intro u_34 hf
      rw [ej34] at hf
      refine PW.iconst (v := 0) cx qX7_wake_34 rfl ?_
      exact PW.locs (Lsub.keep (Lsub.keep (Lsub.drop Lsub.nil))) (hj35 false hf)
    refine PW.if_eq cx qX7_wake_17 hf (fun hf => ?_) (fun hf => ?_)
    · exact PW.locs (Lsub.keep (Lsub.keep (Lsub.drop Lsub.nil))) (hj34 () hf)
    · refine PW.aload_n cx qX7_wake_20 rfl ?_
      refine PW.iload_n cx qX7_wake_21 rfl ?_
      refine PW.iconst (v := 1) cx qX7_wake_22 rfl ?_
      refine PW.callVRI (As := [.int p1, .int 1]) (st := [.int (b2i z0_16), .ref (gB g + 140)]) cx hR qX7_wake_23 klX7_70 mvX7_of (sh_140 hx) rfl rfl rfl rfl (Nat.le_of_ble_eq_true rfl) (Nat.le_of_ble_eq_true rfl) (Nat.le_of_ble_eq_true rfl) (Nat.zero_le _) (Nat.zero_le _) hf sne (fun t e => ctX7_of hx h p1 1 t e) (fun t10 hf => ?_)
      refine PW.iconst (v := 1) cx qX7_wake_26 rfl ?_
      refine PW.icmp_eq cx qX7_wake_27 hf (fun hf => ?_) (fun hf => ?_)
      · exact PW.locs (Lsub.keep (Lsub.keep (Lsub.drop Lsub.nil))) (hj34 () hf)
      · refine PW.iconst (v := 1) cx qX7_wake_30 rfl ?_
        refine PW.goto cx qX7_wake_31 ?_
        exact PW.locs (Lsub.keep (Lsub.keep (Lsub.drop Lsub.nil))) (hj35 true hf)
  refine PW.if_ne cx qX7_wake_8 hf (fun hf => ?_) (fun hf => ?_)
  · refine PW.iconst (v := 1) cx qX7_wake_11 rfl ?_
    refine PW.goto cx qX7_wake_12 ?_
    exact PW.locs (Lsub.keep (Lsub.keep (Lsub.keep Lsub.nil))) (hj16 true hf)
  · refine PW.iconst (v := 0) cx qX7_wake_15 rfl ?_
    exact PW.locs (Lsub.keep (Lsub.keep (Lsub.keep Lsub.nil))) (hj16 false hf)
theorem ctX7_cut {g : GT} {ex : Bool} {sh : List Shp} (hx : MSh sh) (h : Hp) (p1 : Int32) (p2 : Int32) (r0 : Int32 × Hp) (hf : M_cut h p1 p2 = some r0) : Ct g mX7_cut 5 0 0 ex [.ref (gB g + 140), .int p1, .int p2] sh h (PE (some (.int r0.1)) sh r0.2) := by
  refine Ct.of (L := [some (.ref (gB g + 140)), some (.int p1), some (.int p2)]) (by decide) (by intro w hw; simp only [List.mem_cons, List.not_mem_nil, or_false] at hw; rcases hw with rfl | rfl | rfl <;> rfl) (Nat.le_of_ble_eq_true rfl) rfl (fun X mx => ?_)
  obtain ⟨cx, hR, hml, hrt, -⟩ := mx
  have cx : Cx g X RX7 cX7_cut := cx
  have hrt : X.2.2.2.2.2.2.2.1.sig.returnType = (some .int) := hrt
  unfold M_cut at hf
  refine PW.aload_n cx qX7_cut_0 rfl ?_
  refine PW.aload_n cx qX7_cut_1 rfl ?_
  refine PW.iload_n cx qX7_cut_2 rfl ?_
  refine PW.callVRB (As := [.int p1]) (st := [.ref (gB g + 140)]) cx hR qX7_cut_3 klX7_340 mvX7_isScene (sh_140 hx) rfl rfl rfl rfl (Nat.le_of_ble_eq_true rfl) (Nat.le_of_ble_eq_true rfl) (Nat.le_of_ble_eq_true rfl) (Nat.zero_le _) (Nat.zero_le _) hf sne (fun t e => ctX7_isScene hx h p1 t e) (fun t1 hf => ?_)
  obtain ⟨j14, ej14, hf⟩ := lt_split hf
  have hj14 : ∀ (z0_14 : Bool), j14 z0_14 = some r0 → PW g X ex (QE g X ex (PE (some (.int r0.1)) sh r0.2) 0 0) 0 0 sh h 14 [some (.ref (gB g + 140)), some (.int p1), some (.int p2)] [.int (b2i z0_14), .ref (gB g + 140)] := by
    intro z0_14 hf
    rw [ej14] at hf
    refine PW.iload_n cx qX7_cut_14 rfl ?_
    refine PW.callSRB (As := [.int p2]) (st := [.int (b2i z0_14), .ref (gB g + 140)]) cx hR qX7_cut_15 klX7_343 miX7_isPattern rfl rfl (Nat.le_of_ble_eq_true rfl) (Nat.le_of_ble_eq_true rfl) (Nat.le_of_ble_eq_true rfl) (Nat.zero_le _) (Nat.zero_le _) hf sne (fun t e => ctX7_isPattern h p2 t e) (fun t2 hf => ?_)
    obtain ⟨j26, ej26, hf⟩ := lt_split hf
    have hj26 : ∀ (z0_26 : Bool), j26 z0_26 = some r0 → PW g X ex (QE g X ex (PE (some (.int r0.1)) sh r0.2) 0 0) 0 0 sh h 26 [some (.ref (gB g + 140)), some (.int p1), some (.int p2)] [.int (b2i z0_26), .int (b2i z0_14), .ref (gB g + 140)] := by
      intro z0_26 hf
      rw [ej26] at hf
      refine PW.callVWB (As := [.int (b2i z0_14), .int (b2i z0_26)]) (st := []) cx hR qX7_cut_26 klX7_331 mvX7_throwsOne_ (sh_140 hx) rfl rfl rfl rfl (Nat.le_of_ble_eq_true rfl) (Nat.le_of_ble_eq_true rfl) (Nat.le_of_ble_eq_true rfl) (Nat.zero_le _) (Nat.zero_le _) hf sne (fun t e => ctX7_throwsOne_ hx h z0_14 z0_26 t e) (fun ⟨t3, h4⟩ hf => ?_)
      refine PW.if_eq cx qX7_cut_29 hf (fun hf => ?_) (fun hf => ?_)
      · refine PW.aload_n cx qX7_cut_34 rfl ?_
        refine PW.callVWV (As := []) (st := []) cx hR qX7_cut_35 klX7_325 mvX7_begins (sh_140 hx) rfl rfl rfl rfl (Nat.le_of_ble_eq_true rfl) (Nat.le_of_ble_eq_true rfl) (Nat.le_of_ble_eq_true rfl) (Nat.zero_le _) (Nat.zero_le _) hf sne (fun t e => ctX7_begins hx h4 t e) (fun h6 hf => ?_)
        refine PW.aload_n cx qX7_cut_38 rfl ?_
        refine PW.aload_n cx qX7_cut_39 rfl ?_
        refine PW.iload_n cx qX7_cut_40 rfl ?_
        refine PW.iload_n cx qX7_cut_41 rfl ?_
        refine PW.callVWI (As := [.int p1, .int p2]) (st := [.ref (gB g + 140)]) cx hR qX7_cut_42 klX7_210 mvX7_cuts (sh_140 hx) rfl rfl rfl rfl (Nat.le_of_ble_eq_true rfl) (Nat.le_of_ble_eq_true rfl) (Nat.le_of_ble_eq_true rfl) (Nat.zero_le _) (Nat.zero_le _) hf sne (fun t e => ctX7_cuts hx h6 p1 p2 t e) (fun ⟨t7, h8⟩ hf => ?_)
        refine PW.callVWI (As := [.int t7]) (st := []) cx hR qX7_cut_45 klX7_328 mvX7_remember (sh_140 hx) rfl rfl rfl rfl (Nat.le_of_ble_eq_true rfl) (Nat.le_of_ble_eq_true rfl) (Nat.le_of_ble_eq_true rfl) (Nat.zero_le _) (Nat.zero_le _) hf sne (fun t e => ctX7_remember hx h8 t7 t e) (fun ⟨t9, h10⟩ hf => ?_)
        exact PW.iret cx hrt qX7_cut_48 (le_wi hf)
      · refine PW.iconst (v := 0) cx qX7_cut_32 rfl ?_
        exact PW.iret cx hrt qX7_cut_33 (le_wi hf)
    refine PW.if_ne cx qX7_cut_18 hf (fun hf => ?_) (fun hf => ?_)
    · refine PW.iconst (v := 1) cx qX7_cut_21 rfl ?_
      refine PW.goto cx qX7_cut_22 ?_
      exact PW.locs (Lsub.keep (Lsub.keep (Lsub.keep Lsub.nil))) (hj26 true hf)
    · refine PW.iconst (v := 0) cx qX7_cut_25 rfl ?_
      exact PW.locs (Lsub.keep (Lsub.keep (Lsub.keep Lsub.nil))) (hj26 false hf)
  refine PW.if_ne cx qX7_cut_6 hf (fun hf => ?_) (fun hf => ?_)
  · refine PW.iconst (v := 1) cx qX7_cut_9 rfl ?_
    refine PW.goto cx qX7_cut_10 ?_
    exact PW.locs (Lsub.keep (Lsub.keep (Lsub.keep Lsub.nil))) (hj14 true hf)
  · refine PW.iconst (v := 0) cx qX7_cut_13 rfl ?_
    exact PW.locs (Lsub.keep (Lsub.keep (Lsub.keep Lsub.nil))) (hj14 false hf)
theorem ctX7_air {g : GT} {ex : Bool} {sh : List Shp} (hx : MSh sh) (h : Hp) (p1 : Int32) (r0 : Int32 × Hp) (hf : M_air h p1 = some r0) : Ct g mX7_air 8 0 0 ex [.ref (gB g + 140), .int p1] sh h (PE (some (.int r0.1)) sh r0.2) := by
  refine Ct.of (L := [some (.ref (gB g + 140)), some (.int p1)]) (by decide) (by intro w hw; simp only [List.mem_cons, List.not_mem_nil, or_false] at hw; rcases hw with rfl | rfl <;> rfl) (Nat.le_of_ble_eq_true rfl) rfl (fun X mx => ?_)
  obtain ⟨cx, hR, hml, hrt, -⟩ := mx
  have cx : Cx g X RX7 cX7_air := cx
  have hrt : X.2.2.2.2.2.2.2.1.sig.returnType = (some .int) := hrt
  unfold M_air at hf
  refine PW.aload_n cx qX7_air_0 rfl ?_
  refine PW.aload_n cx qX7_air_1 rfl ?_
  refine PW.iload_n cx qX7_air_2 rfl ?_
  refine PW.callVRB (As := [.int p1]) (st := [.ref (gB g + 140)]) cx hR qX7_air_3 klX7_337 mvX7_isReel (sh_140 hx) rfl rfl rfl rfl (Nat.le_of_ble_eq_true rfl) (Nat.le_of_ble_eq_true rfl) (Nat.le_of_ble_eq_true rfl) (Nat.zero_le _) (Nat.zero_le _) hf sne (fun t e => ctX7_isReel hx h p1 t e) (fun t1 hf => ?_)
  obtain ⟨j14, ej14, hf⟩ := lt_split hf
  have hj14 : ∀ (z0_14 : Bool), j14 z0_14 = some r0 → PW g X ex (QE g X ex (PE (some (.int r0.1)) sh r0.2) 0 0) 0 0 sh h 14 [some (.ref (gB g + 140)), some (.int p1)] [.int (b2i z0_14), .ref (gB g + 140)] := by
    intro z0_14 hf
    rw [ej14] at hf
    refine PW.callVWB (As := [.int (b2i z0_14)]) (st := []) cx hR qX7_air_14 klX7_319 mvX7_throwsOne (sh_140 hx) rfl rfl rfl rfl (Nat.le_of_ble_eq_true rfl) (Nat.le_of_ble_eq_true rfl) (Nat.le_of_ble_eq_true rfl) (Nat.zero_le _) (Nat.zero_le _) hf sne (fun t e => ctX7_throwsOne hx h z0_14 t e) (fun ⟨t2, h3⟩ hf => ?_)
    refine PW.if_eq cx qX7_air_17 hf (fun hf => ?_) (fun hf => ?_)
    · refine PW.aload_n cx qX7_air_22 rfl ?_
      refine PW.callVWV (As := []) (st := []) cx hR qX7_air_23 klX7_325 mvX7_begins (sh_140 hx) rfl rfl rfl rfl (Nat.le_of_ble_eq_true rfl) (Nat.le_of_ble_eq_true rfl) (Nat.le_of_ble_eq_true rfl) (Nat.zero_le _) (Nat.zero_le _) hf sne (fun t e => ctX7_begins hx h3 t e) (fun h5 hf => ?_)
      refine PW.aload_n cx qX7_air_26 rfl ?_
      refine PW.aload_n cx qX7_air_27 rfl ?_
      refine PW.iload_n cx qX7_air_28 rfl ?_
      refine PW.callVWI (As := [.int p1]) (st := [.ref (gB g + 140)]) cx hR qX7_air_29 klX7_213 mvX7_airs (sh_140 hx) rfl rfl rfl rfl (Nat.le_of_ble_eq_true rfl) (Nat.le_of_ble_eq_true rfl) (Nat.le_of_ble_eq_true rfl) (Nat.zero_le _) (Nat.zero_le _) hf sne (fun t e => ctX7_airs hx h5 p1 t e) (fun ⟨t6, h7⟩ hf => ?_)
      refine PW.callVWI (As := [.int t6]) (st := []) cx hR qX7_air_32 klX7_328 mvX7_remember (sh_140 hx) rfl rfl rfl rfl (Nat.le_of_ble_eq_true rfl) (Nat.le_of_ble_eq_true rfl) (Nat.le_of_ble_eq_true rfl) (Nat.zero_le _) (Nat.zero_le _) hf sne (fun t e => ctX7_remember hx h7 t6 t e) (fun ⟨t8, h9⟩ hf => ?_)
      exact PW.iret cx hrt qX7_air_35 (le_wi hf)
    · refine PW.iconst (v := 0) cx qX7_air_20 rfl ?_
      exact PW.iret cx hrt qX7_air_21 (le_wi hf)
  refine PW.if_ne cx qX7_air_6 hf (fun hf => ?_) (fun hf => ?_)
  · refine PW.iconst (v := 1) cx qX7_air_9 rfl ?_
    refine PW.goto cx qX7_air_10 ?_
    exact PW.locs (Lsub.keep (Lsub.keep Lsub.nil)) (hj14 true hf)
  · refine PW.iconst (v := 0) cx qX7_air_13 rfl ?_
    exact PW.locs (Lsub.keep (Lsub.keep Lsub.nil)) (hj14 false hf)
theorem ctX7_feed {g : GT} {ex : Bool} {sh : List Shp} (hx : MSh sh) (h : Hp) (p1 : Int32) (p2 : Int32) (r0 : Int32 × Hp) (hf : M_feed h p1 p2 = some r0) : Ct g mX7_feed 2 0 0 ex [.ref (gB g + 140), .int p1, .int p2] sh h (PE (some (.int r0.1)) sh r0.2) := by
  refine Ct.of (L := [some (.ref (gB g + 140)), some (.int p1), some (.int p2), none, none]) (by decide) (by intro w hw; simp only [List.mem_cons, List.not_mem_nil, or_false] at hw; rcases hw with rfl | rfl | rfl <;> rfl) (Nat.le_of_ble_eq_true rfl) rfl (fun X mx => ?_)
  obtain ⟨cx, hR, hml, hrt, -⟩ := mx
  have cx : Cx g X RX7 cX7_feed := cx
  have hrt : X.2.2.2.2.2.2.2.1.sig.returnType = (some .int) := hrt
  have hi3 : 3 < X.2.2.2.2.2.2.2.2.maxLocals := by rw [hml]; exact Nat.le_of_ble_eq_true rfl
  have hi4 : 4 < X.2.2.2.2.2.2.2.2.maxLocals := by rw [hml]; exact Nat.le_of_ble_eq_true rfl
  unfold M_feed at hf
  refine PW.aload_n cx qX7_feed_0 rfl ?_
  refine PW.iload_n cx qX7_feed_1 rfl ?_
  refine PW.callVRB (As := [.int p1]) (st := []) cx hR qX7_feed_2 klX7_334 mvX7_isClip (sh_140 hx) rfl rfl rfl rfl (Nat.le_of_ble_eq_true rfl) (Nat.le_of_ble_eq_true rfl) (Nat.le_of_ble_eq_true rfl) (Nat.zero_le _) (Nat.zero_le _) hf sne (fun t e => ctX7_isClip hx h p1 t e) (fun t1 hf => ?_)
  refine PW.istore_n (L' := [some (.ref (gB g + 140)), some (.int p1), some (.int p2), some (.int (b2i t1)), none]) cx qX7_feed_5 hi3 rfl rfl ?_
  refine PW.iload_n cx qX7_feed_6 rfl ?_
  refine PW.iconst (v := 1) cx qX7_feed_7 rfl ?_
  refine PW.bipush (v := 50) cx qX7_feed_8 rfl ?_
  refine PW.callSRB (As := [.int p2, .int 1, .int 50]) (st := []) cx hR qX7_feed_10 klX7_57 miX7_in rfl rfl (Nat.le_of_ble_eq_true rfl) (Nat.le_of_ble_eq_true rfl) (Nat.le_of_ble_eq_true rfl) (Nat.zero_le _) (Nat.zero_le _) hf sne (fun t e => ctX7_in h p2 1 50 t e) (fun t2 hf => ?_)
  obtain ⟨j21, ej21, hf⟩ := lt_split hf
  have hj21 : ∀ (z0_21 : Bool), j21 z0_21 = some r0 → PW g X ex (QE g X ex (PE (some (.int r0.1)) sh r0.2) 0 0) 0 0 sh h 21 [some (.ref (gB g + 140)), some (.int p1), some (.int p2), some (.int (b2i t1)), none] [.int (b2i z0_21)] := by
    intro z0_21 hf
    rw [ej21] at hf
    refine PW.istore (L' := [some (.ref (gB g + 140)), some (.int p1), some (.int p2), some (.int (b2i t1)), some (.int (b2i z0_21))]) cx qX7_feed_21 hi4 rfl rfl ?_
    refine PW.aload_n cx qX7_feed_23 rfl ?_
    refine PW.iload_n cx qX7_feed_24 rfl ?_
    obtain ⟨j33, ej33, hf⟩ := lt_split hf
    have hj33 : ∀ (z0_33 : Bool), j33 z0_33 = some r0 → PW g X ex (QE g X ex (PE (some (.int r0.1)) sh r0.2) 0 0) 0 0 sh h 33 [some (.ref (gB g + 140)), some (.int p1), some (.int p2), some (.int (b2i t1)), some (.int (b2i z0_21))] [.int (b2i z0_33), .ref (gB g + 140)] := by
      intro z0_33 hf
      rw [ej33] at hf
      refine PW.iload cx qX7_feed_33 rfl ?_
      refine PW.iload_n cx qX7_feed_35 rfl ?_
      obtain ⟨j58, ej58, hf⟩ := lt_split hf
      have hj58 : ∀ (z0_58 : Bool), j58 z0_58 = some r0 → PW g X ex (QE g X ex (PE (some (.int r0.1)) sh r0.2) 0 0) 0 0 sh h 58 [some (.ref (gB g + 140)), some (.int p1), some (.int p2), none, none] [.int (b2i z0_58), .int (b2i z0_21), .int (b2i z0_33), .ref (gB g + 140)] := by
        intro z0_58 hf
        rw [ej58] at hf
        refine PW.callVWB (As := [.int (b2i z0_33), .int (b2i z0_21), .int (b2i z0_58)]) (st := []) cx hR qX7_feed_58 klX7_346 mvX7_throwsOne__ (sh_140 hx) rfl rfl rfl rfl (Nat.le_of_ble_eq_true rfl) (Nat.le_of_ble_eq_true rfl) (Nat.le_of_ble_eq_true rfl) (Nat.zero_le _) (Nat.zero_le _) hf sne (fun t e => ctX7_throwsOne__ hx h z0_33 z0_21 z0_58 t e) (fun ⟨t3, h4⟩ hf => ?_)
        refine PW.if_eq cx qX7_feed_61 hf (fun hf => ?_) (fun hf => ?_)
        · refine PW.aload_n cx qX7_feed_66 rfl ?_
          refine PW.callVWV (As := []) (st := []) cx hR qX7_feed_67 klX7_325 mvX7_begins (sh_140 hx) rfl rfl rfl rfl (Nat.le_of_ble_eq_true rfl) (Nat.le_of_ble_eq_true rfl) (Nat.le_of_ble_eq_true rfl) (Nat.zero_le _) (Nat.zero_le _) hf sne (fun t e => ctX7_begins hx h4 t e) (fun h6 hf => ?_)
          refine PW.aload_n cx qX7_feed_70 rfl ?_
          refine PW.aload_n cx qX7_feed_71 rfl ?_
          refine PW.iload_n cx qX7_feed_72 rfl ?_
          refine PW.iload_n cx qX7_feed_73 rfl ?_
          refine PW.callVWI (As := [.int p1, .int p2]) (st := [.ref (gB g + 140)]) cx hR qX7_feed_74 klX7_220 mvX7_feeds (sh_140 hx) rfl rfl rfl rfl (Nat.le_of_ble_eq_true rfl) (Nat.le_of_ble_eq_true rfl) (Nat.le_of_ble_eq_true rfl) (Nat.zero_le _) (Nat.zero_le _) hf sne (fun t e => ctX7_feeds hx h6 p1 p2 t e) (fun ⟨t7, h8⟩ hf => ?_)
          refine PW.callVWI (As := [.int t7]) (st := []) cx hR qX7_feed_77 klX7_328 mvX7_remember (sh_140 hx) rfl rfl rfl rfl (Nat.le_of_ble_eq_true rfl) (Nat.le_of_ble_eq_true rfl) (Nat.le_of_ble_eq_true rfl) (Nat.zero_le _) (Nat.zero_le _) hf sne (fun t e => ctX7_remember hx h8 t7 t e) (fun ⟨t9, h10⟩ hf => ?_)
          exact PW.iret cx hrt qX7_feed_80 (le_wi hf)
        · refine PW.iconst (v := 0) cx qX7_feed_64 rfl ?_
          exact PW.iret cx hrt qX7_feed_65 (le_wi hf)
      obtain ⟨j57, ej57, hf⟩ := lt_split hf
      have hj57 : ∀ (u_57 : Unit), j57 u_57 = some r0 → PW g X ex (QE g X ex (PE (some (.int r0.1)) sh r0.2) 0 0) 0 0 sh h 57 [some (.ref (gB g + 140)), some (.int p1), some (.int p2), none, none] [.int (b2i z0_21), .int (b2i z0_33), .ref (gB g + 140)] := by
        intro u_57 hf
        rw [ej57] at hf
        refine PW.iconst (v := 0) cx qX7_feed_57 rfl ?_
        exact PW.locs (Lsub.keep (Lsub.keep (Lsub.keep (Lsub.drop (Lsub.drop Lsub.nil))))) (hj58 false hf)
      refine PW.if_eq cx qX7_feed_36 hf (fun hf => ?_) (fun hf => ?_)
      · exact PW.locs (Lsub.keep (Lsub.keep (Lsub.keep (Lsub.drop (Lsub.drop Lsub.nil))))) (hj57 () hf)
      · refine PW.iload cx qX7_feed_39 rfl ?_
        refine PW.if_ne cx qX7_feed_41 hf (fun hf => ?_) (fun hf => ?_)
        · refine PW.aload_n cx qX7_feed_44 rfl ?_
          refine PW.iload_n cx qX7_feed_45 rfl ?_
          refine PW.iload_n cx qX7_feed_46 rfl ?_
          refine PW.callVRB (As := [.int p1, .int p2]) (st := [.int (b2i z0_21), .int (b2i z0_33), .ref (gB g + 140)]) cx hR qX7_feed_47 klX7_216 mvX7_canFeed (sh_140 hx) rfl rfl rfl rfl (Nat.le_of_ble_eq_true rfl) (Nat.le_of_ble_eq_true rfl) (Nat.le_of_ble_eq_true rfl) (Nat.zero_le _) (Nat.zero_le _) hf sne (fun t e => ctX7_canFeed hx h p1 p2 t e) (fun t11 hf => ?_)
          refine PW.if_ne cx qX7_feed_50 hf (fun hf => ?_) (fun hf => ?_)
          · refine PW.iconst (v := 1) cx qX7_feed_53 rfl ?_
            refine PW.goto cx qX7_feed_54 ?_
            exact PW.locs (Lsub.keep (Lsub.keep (Lsub.keep (Lsub.drop (Lsub.drop Lsub.nil))))) (hj58 true hf)
          · exact PW.locs (Lsub.keep (Lsub.keep (Lsub.keep (Lsub.drop (Lsub.drop Lsub.nil))))) (hj57 () hf)
        · exact PW.locs (Lsub.keep (Lsub.keep (Lsub.keep (Lsub.drop (Lsub.drop Lsub.nil))))) (hj57 () hf)
    refine PW.if_ne cx qX7_feed_25 hf (fun hf => ?_) (fun hf => ?_)
    · refine PW.iconst (v := 1) cx qX7_feed_28 rfl ?_
      refine PW.goto cx qX7_feed_29 ?_
      exact PW.locs (Lsub.keep (Lsub.keep (Lsub.keep (Lsub.keep (Lsub.keep Lsub.nil))))) (hj33 true hf)
    · refine PW.iconst (v := 0) cx qX7_feed_32 rfl ?_
      exact PW.locs (Lsub.keep (Lsub.keep (Lsub.keep (Lsub.keep (Lsub.keep Lsub.nil))))) (hj33 false hf)
  refine PW.if_ne cx qX7_feed_13 hf (fun hf => ?_) (fun hf => ?_)
  · refine PW.iconst (v := 1) cx qX7_feed_16 rfl ?_
    refine PW.goto cx qX7_feed_17 ?_
    exact PW.locs (Lsub.keep (Lsub.keep (Lsub.keep (Lsub.keep (Lsub.drop Lsub.nil))))) (hj21 true hf)
  · refine PW.iconst (v := 0) cx qX7_feed_20 rfl ?_
    exact PW.locs (Lsub.keep (Lsub.keep (Lsub.keep (Lsub.keep (Lsub.drop Lsub.nil))))) (hj21 false hf)
theorem ctX7_addFood {g : GT} {ex : Bool} {sh : List Shp} (hx : MSh sh) (h : Hp) (p1 : Int32) (r0 : Int32 × Hp) (hf : M_addFood h p1 = some r0) : Ct g mX7_addFood 1 0 0 ex [.ref (gB g + 140), .int p1] sh h (PE (some (.int r0.1)) sh r0.2) := by
  refine Ct.of (L := [some (.ref (gB g + 140)), some (.int p1), none]) (by decide) (by intro w hw; simp only [List.mem_cons, List.not_mem_nil, or_false] at hw; rcases hw with rfl | rfl <;> rfl) (Nat.le_of_ble_eq_true rfl) rfl (fun X mx => ?_)
  obtain ⟨cx, hR, hml, hrt, -⟩ := mx
  have cx : Cx g X RX7 cX7_addFood := cx
  have hrt : X.2.2.2.2.2.2.2.1.sig.returnType = (some .int) := hrt
  have hi2 : 2 < X.2.2.2.2.2.2.2.2.maxLocals := by rw [hml]; exact Nat.le_of_ble_eq_true rfl
  unfold M_addFood at hf
  refine PW.iload_n cx qX7_addFood_0 rfl ?_
  refine PW.iconst (v := 1) cx qX7_addFood_1 rfl ?_
  refine PW.sipush (v := 999) cx qX7_addFood_2 rfl ?_
  refine PW.callSRB (As := [.int p1, .int 1, .int 999]) (st := []) cx hR qX7_addFood_5 klX7_57 miX7_in rfl rfl (Nat.le_of_ble_eq_true rfl) (Nat.le_of_ble_eq_true rfl) (Nat.le_of_ble_eq_true rfl) (Nat.zero_le _) (Nat.zero_le _) hf sne (fun t e => ctX7_in h p1 1 999 t e) (fun t1 hf => ?_)
  obtain ⟨j16, ej16, hf⟩ := lt_split hf
  have hj16 : ∀ (z0_16 : Bool), j16 z0_16 = some r0 → PW g X ex (QE g X ex (PE (some (.int r0.1)) sh r0.2) 0 0) 0 0 sh h 16 [some (.ref (gB g + 140)), some (.int p1), none] [.int (b2i z0_16)] := by
    intro z0_16 hf
    rw [ej16] at hf
    refine PW.istore_n (L' := [some (.ref (gB g + 140)), some (.int p1), some (.int (b2i z0_16))]) cx qX7_addFood_16 hi2 rfl rfl ?_
    refine PW.aload_n cx qX7_addFood_17 rfl ?_
    refine PW.iload_n cx qX7_addFood_18 rfl ?_
    refine PW.iload_n cx qX7_addFood_19 rfl ?_
    obtain ⟨j42, ej42, hf⟩ := lt_split hf
    have hj42 : ∀ (z0_42 : Bool), j42 z0_42 = some r0 → PW g X ex (QE g X ex (PE (some (.int r0.1)) sh r0.2) 0 0) 0 0 sh h 42 [some (.ref (gB g + 140)), some (.int p1), none] [.int (b2i z0_42), .int (b2i z0_16), .ref (gB g + 140)] := by
      intro z0_42 hf
      rw [ej42] at hf
      refine PW.callVWB (As := [.int (b2i z0_16), .int (b2i z0_42)]) (st := []) cx hR qX7_addFood_42 klX7_331 mvX7_throwsOne_ (sh_140 hx) rfl rfl rfl rfl (Nat.le_of_ble_eq_true rfl) (Nat.le_of_ble_eq_true rfl) (Nat.le_of_ble_eq_true rfl) (Nat.zero_le _) (Nat.zero_le _) hf sne (fun t e => ctX7_throwsOne_ hx h z0_16 z0_42 t e) (fun ⟨t2, h3⟩ hf => ?_)
      refine PW.if_eq cx qX7_addFood_45 hf (fun hf => ?_) (fun hf => ?_)
      · refine PW.aload_n cx qX7_addFood_50 rfl ?_
        refine PW.callVWV (As := []) (st := []) cx hR qX7_addFood_51 klX7_325 mvX7_begins (sh_140 hx) rfl rfl rfl rfl (Nat.le_of_ble_eq_true rfl) (Nat.le_of_ble_eq_true rfl) (Nat.le_of_ble_eq_true rfl) (Nat.zero_le _) (Nat.zero_le _) hf sne (fun t e => ctX7_begins hx h3 t e) (fun h5 hf => ?_)
        refine PW.aload_n cx qX7_addFood_54 rfl ?_
        refine PW.getf (t := (2, 141)) (v := .ref (gB g + 141)) cx qX7_addFood_55 (sh_140 hx) rfl flX7_7 rfl ?_
        refine PW.iconst (v := 1) cx qX7_addFood_58 rfl ?_
        refine PW.dup2 cx qX7_addFood_59 rfl rfl ?_
        refine PW.iald cx qX7_addFood_60 (sh_141 hx) hf sne (fun t6 hf => ?_)
        refine PW.iload_n cx qX7_addFood_61 rfl ?_
        refine PW.iadd cx qX7_addFood_62 ?_
        refine PW.iast cx qX7_addFood_63 (sh_141 hx) hf sne (fun h7 hf => ?_)
        refine PW.aload_n cx qX7_addFood_64 rfl ?_
        refine PW.aload_n cx qX7_addFood_65 rfl ?_
        refine PW.getf (t := (2, 141)) (v := .ref (gB g + 141)) cx qX7_addFood_66 (sh_140 hx) rfl flX7_7 rfl ?_
        refine PW.iconst (v := 1) cx qX7_addFood_69 rfl ?_
        refine PW.iald cx qX7_addFood_70 (sh_141 hx) hf sne (fun t8 hf => ?_)
        refine PW.callVWI (As := [.int t8]) (st := []) cx hR qX7_addFood_71 klX7_328 mvX7_remember (sh_140 hx) rfl rfl rfl rfl (Nat.le_of_ble_eq_true rfl) (Nat.le_of_ble_eq_true rfl) (Nat.le_of_ble_eq_true rfl) (Nat.zero_le _) (Nat.zero_le _) hf sne (fun t e => ctX7_remember hx h7 t8 t e) (fun ⟨t9, h10⟩ hf => ?_)
        exact PW.iret cx hrt qX7_addFood_74 (le_wi hf)
      · refine PW.iconst (v := 0) cx qX7_addFood_48 rfl ?_
        exact PW.iret cx hrt qX7_addFood_49 (le_wi hf)
    obtain ⟨j41, ej41, hf⟩ := lt_split hf
    have hj41 : ∀ (u_41 : Unit), j41 u_41 = some r0 → PW g X ex (QE g X ex (PE (some (.int r0.1)) sh r0.2) 0 0) 0 0 sh h 41 [some (.ref (gB g + 140)), some (.int p1), none] [.int (b2i z0_16), .ref (gB g + 140)] := by
      intro u_41 hf
      rw [ej41] at hf
      refine PW.iconst (v := 0) cx qX7_addFood_41 rfl ?_
      exact PW.locs (Lsub.keep (Lsub.keep (Lsub.drop Lsub.nil))) (hj42 false hf)
    refine PW.if_ne cx qX7_addFood_20 hf (fun hf => ?_) (fun hf => ?_)
    · refine PW.aload_n cx qX7_addFood_23 rfl ?_
      refine PW.getf (t := (2, 141)) (v := .ref (gB g + 141)) cx qX7_addFood_24 (sh_140 hx) rfl flX7_7 rfl ?_
      refine PW.iconst (v := 1) cx qX7_addFood_27 rfl ?_
      refine PW.iald cx qX7_addFood_28 (sh_141 hx) hf sne (fun t11 hf => ?_)
      refine PW.iload_n cx qX7_addFood_29 rfl ?_
      refine PW.iadd cx qX7_addFood_30 ?_
      refine PW.sipush (v := 9999) cx qX7_addFood_31 rfl ?_
      refine PW.icmp_le cx qX7_addFood_34 hf (fun hf => ?_) (fun hf => ?_)
      · exact PW.locs (Lsub.keep (Lsub.keep (Lsub.drop Lsub.nil))) (hj41 () hf)
      · refine PW.iconst (v := 1) cx qX7_addFood_37 rfl ?_
        refine PW.goto cx qX7_addFood_38 ?_
        exact PW.locs (Lsub.keep (Lsub.keep (Lsub.drop Lsub.nil))) (hj42 true hf)
    · exact PW.locs (Lsub.keep (Lsub.keep (Lsub.drop Lsub.nil))) (hj41 () hf)
  refine PW.if_ne cx qX7_addFood_8 hf (fun hf => ?_) (fun hf => ?_)
  · refine PW.iconst (v := 1) cx qX7_addFood_11 rfl ?_
    refine PW.goto cx qX7_addFood_12 ?_
    exact PW.locs (Lsub.keep (Lsub.keep (Lsub.drop Lsub.nil))) (hj16 true hf)
  · refine PW.iconst (v := 0) cx qX7_addFood_15 rfl ?_
    exact PW.locs (Lsub.keep (Lsub.keep (Lsub.drop Lsub.nil))) (hj16 false hf)
theorem ctX7_paint {g : GT} {ex : Bool} {sh : List Shp} (hx : MSh sh) (h : Hp) (p1 : Int32) (p2 : Int32) (p3 : Int32) (r0 : Int32 × Hp) (hf : M_paint h p1 p2 p3 = some r0) : Ct g mX7_paint 4 0 0 ex [.ref (gB g + 140), .int p1, .int p2, .int p3] sh h (PE (some (.int r0.1)) sh r0.2) := by
  refine Ct.of (L := [some (.ref (gB g + 140)), some (.int p1), some (.int p2), some (.int p3), none]) (by decide) (by intro w hw; simp only [List.mem_cons, List.not_mem_nil, or_false] at hw; rcases hw with rfl | rfl | rfl | rfl <;> rfl) (Nat.le_of_ble_eq_true rfl) rfl (fun X mx => ?_)
  obtain ⟨cx, hR, hml, hrt, -⟩ := mx
  have cx : Cx g X RX7 cX7_paint := cx
  have hrt : X.2.2.2.2.2.2.2.1.sig.returnType = (some .int) := hrt
  have hi4 : 4 < X.2.2.2.2.2.2.2.2.maxLocals := by rw [hml]; exact Nat.le_of_ble_eq_true rfl
  unfold M_paint at hf
  refine PW.aload_n cx qX7_paint_0 rfl ?_
  refine PW.iload_n cx qX7_paint_1 rfl ?_
  refine PW.callVRB (As := [.int p1]) (st := []) cx hR qX7_paint_2 klX7_334 mvX7_isClip (sh_140 hx) rfl rfl rfl rfl (Nat.le_of_ble_eq_true rfl) (Nat.le_of_ble_eq_true rfl) (Nat.le_of_ble_eq_true rfl) (Nat.zero_le _) (Nat.zero_le _) hf sne (fun t e => ctX7_isClip hx h p1 t e) (fun t1 hf => ?_)
  obtain ⟨j32, ej32, hf⟩ := lt_split hf
  have hj32 : ∀ (z0_32 : Bool), j32 z0_32 = some r0 → PW g X ex (QE g X ex (PE (some (.int r0.1)) sh r0.2) 0 0) 0 0 sh h 32 [some (.ref (gB g + 140)), some (.int p1), some (.int p2), some (.int p3), none] [.int (b2i z0_32)] := by
    intro z0_32 hf
    rw [ej32] at hf
    refine PW.istore (L' := [some (.ref (gB g + 140)), some (.int p1), some (.int p2), some (.int p3), some (.int (b2i z0_32))]) cx qX7_paint_32 hi4 rfl rfl ?_
    refine PW.aload_n cx qX7_paint_34 rfl ?_
    refine PW.iload cx qX7_paint_35 rfl ?_
    obtain ⟨j45, ej45, hf⟩ := lt_split hf
    have hj45 : ∀ (z0_45 : Bool), j45 z0_45 = some r0 → PW g X ex (QE g X ex (PE (some (.int r0.1)) sh r0.2) 0 0) 0 0 sh h 45 [some (.ref (gB g + 140)), some (.int p1), some (.int p2), some (.int p3), some (.int (b2i z0_32))] [.int (b2i z0_45), .ref (gB g + 140)] := by
      intro z0_45 hf
      rw [ej45] at hf
      refine PW.iload_n cx qX7_paint_45 rfl ?_
      refine PW.iconst (v := 1) cx qX7_paint_46 rfl ?_
      refine PW.bipush (v := 9) cx qX7_paint_47 rfl ?_
      refine PW.callSRB (As := [.int p3, .int 1, .int 9]) (st := [.int (b2i z0_45), .ref (gB g + 140)]) cx hR qX7_paint_49 klX7_57 miX7_in rfl rfl (Nat.le_of_ble_eq_true rfl) (Nat.le_of_ble_eq_true rfl) (Nat.le_of_ble_eq_true rfl) (Nat.zero_le _) (Nat.zero_le _) hf sne (fun t e => ctX7_in h p3 1 9 t e) (fun t2 hf => ?_)
      obtain ⟨j60, ej60, hf⟩ := lt_split hf
      have hj60 : ∀ (z0_60 : Bool), j60 z0_60 = some r0 → PW g X ex (QE g X ex (PE (some (.int r0.1)) sh r0.2) 0 0) 0 0 sh h 60 [some (.ref (gB g + 140)), some (.int p1), some (.int p2), some (.int p3), some (.int (b2i z0_32))] [.int (b2i z0_60), .int (b2i z0_45), .ref (gB g + 140)] := by
        intro z0_60 hf
        rw [ej60] at hf
        refine PW.iload cx qX7_paint_60 rfl ?_
        obtain ⟨j79, ej79, hf⟩ := lt_split hf
        have hj79 : ∀ (z0_79 : Bool), j79 z0_79 = some r0 → PW g X ex (QE g X ex (PE (some (.int r0.1)) sh r0.2) 0 0) 0 0 sh h 79 [some (.ref (gB g + 140)), some (.int p1), some (.int p2), some (.int p3), none] [.int (b2i z0_79), .int (b2i z0_60), .int (b2i z0_45), .ref (gB g + 140)] := by
          intro z0_79 hf
          rw [ej79] at hf
          refine PW.callVWB (As := [.int (b2i z0_45), .int (b2i z0_60), .int (b2i z0_79)]) (st := []) cx hR qX7_paint_79 klX7_346 mvX7_throwsOne__ (sh_140 hx) rfl rfl rfl rfl (Nat.le_of_ble_eq_true rfl) (Nat.le_of_ble_eq_true rfl) (Nat.le_of_ble_eq_true rfl) (Nat.zero_le _) (Nat.zero_le _) hf sne (fun t e => ctX7_throwsOne__ hx h z0_45 z0_60 z0_79 t e) (fun ⟨t3, h4⟩ hf => ?_)
          refine PW.if_eq cx qX7_paint_82 hf (fun hf => ?_) (fun hf => ?_)
          · refine PW.aload_n cx qX7_paint_87 rfl ?_
            refine PW.callVWV (As := []) (st := []) cx hR qX7_paint_88 klX7_325 mvX7_begins (sh_140 hx) rfl rfl rfl rfl (Nat.le_of_ble_eq_true rfl) (Nat.le_of_ble_eq_true rfl) (Nat.le_of_ble_eq_true rfl) (Nat.zero_le _) (Nat.zero_le _) hf sne (fun t e => ctX7_begins hx h4 t e) (fun h6 hf => ?_)
            refine PW.aload_n cx qX7_paint_91 rfl ?_
            refine PW.aload_n cx qX7_paint_92 rfl ?_
            refine PW.iload_n cx qX7_paint_93 rfl ?_
            refine PW.iload_n cx qX7_paint_94 rfl ?_
            refine PW.iload_n cx qX7_paint_95 rfl ?_
            refine PW.callVWI (As := [.int p1, .int p2, .int p3]) (st := [.ref (gB g + 140)]) cx hR qX7_paint_96 klX7_223 mvX7_paints (sh_140 hx) rfl rfl rfl rfl (Nat.le_of_ble_eq_true rfl) (Nat.le_of_ble_eq_true rfl) (Nat.le_of_ble_eq_true rfl) (Nat.zero_le _) (Nat.zero_le _) hf sne (fun t e => ctX7_paints hx h6 p1 p2 p3 t e) (fun ⟨t7, h8⟩ hf => ?_)
            refine PW.callVWI (As := [.int t7]) (st := []) cx hR qX7_paint_99 klX7_328 mvX7_remember (sh_140 hx) rfl rfl rfl rfl (Nat.le_of_ble_eq_true rfl) (Nat.le_of_ble_eq_true rfl) (Nat.le_of_ble_eq_true rfl) (Nat.zero_le _) (Nat.zero_le _) hf sne (fun t e => ctX7_remember hx h8 t7 t e) (fun ⟨t9, h10⟩ hf => ?_)
            exact PW.iret cx hrt qX7_paint_102 (le_wi hf)
          · refine PW.iconst (v := 0) cx qX7_paint_85 rfl ?_
            exact PW.iret cx hrt qX7_paint_86 (le_wi hf)
        obtain ⟨j78, ej78, hf⟩ := lt_split hf
        have hj78 : ∀ (u_78 : Unit), j78 u_78 = some r0 → PW g X ex (QE g X ex (PE (some (.int r0.1)) sh r0.2) 0 0) 0 0 sh h 78 [some (.ref (gB g + 140)), some (.int p1), some (.int p2), some (.int p3), none] [.int (b2i z0_60), .int (b2i z0_45), .ref (gB g + 140)] := by
          intro u_78 hf
          rw [ej78] at hf
          refine PW.iconst (v := 0) cx qX7_paint_78 rfl ?_
          exact PW.locs (Lsub.keep (Lsub.keep (Lsub.keep (Lsub.keep (Lsub.drop Lsub.nil))))) (hj79 false hf)
        refine PW.if_eq cx qX7_paint_62 hf (fun hf => ?_) (fun hf => ?_)
        · exact PW.locs (Lsub.keep (Lsub.keep (Lsub.keep (Lsub.keep (Lsub.drop Lsub.nil))))) (hj78 () hf)
        · refine PW.aload_n cx qX7_paint_65 rfl ?_
          refine PW.iload_n cx qX7_paint_66 rfl ?_
          refine PW.iconst (v := 1) cx qX7_paint_67 rfl ?_
          refine PW.callVRI (As := [.int p1, .int 1]) (st := [.int (b2i z0_60), .int (b2i z0_45), .ref (gB g + 140)]) cx hR qX7_paint_68 klX7_70 mvX7_of (sh_140 hx) rfl rfl rfl rfl (Nat.le_of_ble_eq_true rfl) (Nat.le_of_ble_eq_true rfl) (Nat.le_of_ble_eq_true rfl) (Nat.zero_le _) (Nat.zero_le _) hf sne (fun t e => ctX7_of hx h p1 1 t e) (fun t11 hf => ?_)
          refine PW.if_eq cx qX7_paint_71 hf (fun hf => ?_) (fun hf => ?_)
          · exact PW.locs (Lsub.keep (Lsub.keep (Lsub.keep (Lsub.keep (Lsub.drop Lsub.nil))))) (hj78 () hf)
          · refine PW.iconst (v := 1) cx qX7_paint_74 rfl ?_
            refine PW.goto cx qX7_paint_75 ?_
            exact PW.locs (Lsub.keep (Lsub.keep (Lsub.keep (Lsub.keep (Lsub.drop Lsub.nil))))) (hj79 true hf)
      refine PW.if_ne cx qX7_paint_52 hf (fun hf => ?_) (fun hf => ?_)
      · refine PW.iconst (v := 1) cx qX7_paint_55 rfl ?_
        refine PW.goto cx qX7_paint_56 ?_
        exact PW.locs (Lsub.keep (Lsub.keep (Lsub.keep (Lsub.keep (Lsub.keep Lsub.nil))))) (hj60 true hf)
      · refine PW.iconst (v := 0) cx qX7_paint_59 rfl ?_
        exact PW.locs (Lsub.keep (Lsub.keep (Lsub.keep (Lsub.keep (Lsub.keep Lsub.nil))))) (hj60 false hf)
    refine PW.if_ne cx qX7_paint_37 hf (fun hf => ?_) (fun hf => ?_)
    · refine PW.iconst (v := 1) cx qX7_paint_40 rfl ?_
      refine PW.goto cx qX7_paint_41 ?_
      exact PW.locs (Lsub.keep (Lsub.keep (Lsub.keep (Lsub.keep (Lsub.keep Lsub.nil))))) (hj45 true hf)
    · refine PW.iconst (v := 0) cx qX7_paint_44 rfl ?_
      exact PW.locs (Lsub.keep (Lsub.keep (Lsub.keep (Lsub.keep (Lsub.keep Lsub.nil))))) (hj45 false hf)
  obtain ⟨j31, ej31, hf⟩ := lt_split hf
  have hj31 : ∀ (u_31 : Unit), j31 u_31 = some r0 → PW g X ex (QE g X ex (PE (some (.int r0.1)) sh r0.2) 0 0) 0 0 sh h 31 [some (.ref (gB g + 140)), some (.int p1), some (.int p2), some (.int p3), none] [] := by
    intro u_31 hf
    rw [ej31] at hf
    refine PW.iconst (v := 0) cx qX7_paint_31 rfl ?_
    exact PW.locs (Lsub.keep (Lsub.keep (Lsub.keep (Lsub.keep (Lsub.drop Lsub.nil))))) (hj32 false hf)
  refine PW.if_eq cx qX7_paint_5 hf (fun hf => ?_) (fun hf => ?_)
  · exact PW.locs (Lsub.keep (Lsub.keep (Lsub.keep (Lsub.keep (Lsub.drop Lsub.nil))))) (hj31 () hf)
  · refine PW.iload_n cx qX7_paint_8 rfl ?_
    refine PW.iconst (v := 0) cx qX7_paint_9 rfl ?_
    refine PW.aload_n cx qX7_paint_10 rfl ?_
    refine PW.iload_n cx qX7_paint_11 rfl ?_
    refine PW.iconst (v := 0) cx qX7_paint_12 rfl ?_
    refine PW.callVRI (As := [.int p1, .int 0]) (st := [.int 0, .int p2]) cx hR qX7_paint_13 klX7_70 mvX7_of (sh_140 hx) rfl rfl rfl rfl (Nat.le_of_ble_eq_true rfl) (Nat.le_of_ble_eq_true rfl) (Nat.le_of_ble_eq_true rfl) (Nat.zero_le _) (Nat.zero_le _) hf sne (fun t e => ctX7_of hx h p1 0 t e) (fun t12 hf => ?_)
    refine PW.callSRI (As := [.int t12]) (st := [.int 0, .int p2]) cx hR qX7_paint_16 klX7_61 miX7_digits rfl rfl (Nat.le_of_ble_eq_true rfl) (Nat.le_of_ble_eq_true rfl) (Nat.le_of_ble_eq_true rfl) (Nat.zero_le _) (Nat.zero_le _) hf sne (fun t e => ctX7_digits h t12 t e) (fun t13 hf => ?_)
    refine PW.iconst (v := 1) cx qX7_paint_19 rfl ?_
    refine PW.isub cx qX7_paint_20 ?_
    refine PW.callSRB (As := [.int p2, .int 0, .int (t13 - 1)]) (st := []) cx hR qX7_paint_21 klX7_57 miX7_in rfl rfl (Nat.le_of_ble_eq_true rfl) (Nat.le_of_ble_eq_true rfl) (Nat.le_of_ble_eq_true rfl) (Nat.zero_le _) (Nat.zero_le _) hf sne (fun t e => ctX7_in h p2 0 (t13 - 1) t e) (fun t14 hf => ?_)
    refine PW.if_eq cx qX7_paint_24 hf (fun hf => ?_) (fun hf => ?_)
    · exact PW.locs (Lsub.keep (Lsub.keep (Lsub.keep (Lsub.keep (Lsub.drop Lsub.nil))))) (hj31 () hf)
    · refine PW.iconst (v := 1) cx qX7_paint_27 rfl ?_
      refine PW.goto cx qX7_paint_28 ?_
      exact PW.locs (Lsub.keep (Lsub.keep (Lsub.keep (Lsub.keep (Lsub.drop Lsub.nil))))) (hj32 true hf)
theorem ctX7_passWeeks {g : GT} {ex : Bool} {sh : List Shp} (hx : MSh sh) (h : Hp) (p1 : Int32) (r0 : Int32 × Hp) (hf : M_passWeeks h p1 = some r0) : Ct g mX7_passWeeks 6 0 0 ex [.ref (gB g + 140), .int p1] sh h (PE (some (.int r0.1)) sh r0.2) := by
  refine Ct.of (L := [some (.ref (gB g + 140)), some (.int p1), none]) (by decide) (by intro w hw; simp only [List.mem_cons, List.not_mem_nil, or_false] at hw; rcases hw with rfl | rfl <;> rfl) (Nat.le_of_ble_eq_true rfl) rfl (fun X mx => ?_)
  obtain ⟨cx, hR, hml, hrt, -⟩ := mx
  have cx : Cx g X RX7 cX7_passWeeks := cx
  have hrt : X.2.2.2.2.2.2.2.1.sig.returnType = (some .int) := hrt
  have hi2 : 2 < X.2.2.2.2.2.2.2.2.maxLocals := by rw [hml]; exact Nat.le_of_ble_eq_true rfl
  unfold M_passWeeks at hf
  refine PW.iload_n cx qX7_passWeeks_0 rfl ?_
  refine PW.iconst (v := 1) cx qX7_passWeeks_1 rfl ?_
  refine PW.bipush (v := 50) cx qX7_passWeeks_2 rfl ?_
  refine PW.callSRB (As := [.int p1, .int 1, .int 50]) (st := []) cx hR qX7_passWeeks_4 klX7_57 miX7_in rfl rfl (Nat.le_of_ble_eq_true rfl) (Nat.le_of_ble_eq_true rfl) (Nat.le_of_ble_eq_true rfl) (Nat.zero_le _) (Nat.zero_le _) hf sne (fun t e => ctX7_in h p1 1 50 t e) (fun t1 hf => ?_)
  obtain ⟨j15, ej15, hf⟩ := lt_split hf
  have hj15 : ∀ (z0_15 : Bool), j15 z0_15 = some r0 → PW g X ex (QE g X ex (PE (some (.int r0.1)) sh r0.2) 0 0) 0 0 sh h 15 [some (.ref (gB g + 140)), some (.int p1), none] [.int (b2i z0_15)] := by
    intro z0_15 hf
    rw [ej15] at hf
    refine PW.istore_n (L' := [some (.ref (gB g + 140)), some (.int p1), some (.int (b2i z0_15))]) cx qX7_passWeeks_15 hi2 rfl rfl ?_
    refine PW.aload_n cx qX7_passWeeks_16 rfl ?_
    refine PW.iload_n cx qX7_passWeeks_17 rfl ?_
    refine PW.iload_n cx qX7_passWeeks_18 rfl ?_
    obtain ⟨j41, ej41, hf⟩ := lt_split hf
    have hj41 : ∀ (z0_41 : Bool), j41 z0_41 = some r0 → PW g X ex (QE g X ex (PE (some (.int r0.1)) sh r0.2) 0 0) 0 0 sh h 41 [some (.ref (gB g + 140)), some (.int p1), none] [.int (b2i z0_41), .int (b2i z0_15), .ref (gB g + 140)] := by
      intro z0_41 hf
      rw [ej41] at hf
      refine PW.callVWB (As := [.int (b2i z0_15), .int (b2i z0_41)]) (st := []) cx hR qX7_passWeeks_41 klX7_331 mvX7_throwsOne_ (sh_140 hx) rfl rfl rfl rfl (Nat.le_of_ble_eq_true rfl) (Nat.le_of_ble_eq_true rfl) (Nat.le_of_ble_eq_true rfl) (Nat.zero_le _) (Nat.zero_le _) hf sne (fun t e => ctX7_throwsOne_ hx h z0_15 z0_41 t e) (fun ⟨t2, h3⟩ hf => ?_)
      refine PW.if_eq cx qX7_passWeeks_44 hf (fun hf => ?_) (fun hf => ?_)
      · refine PW.aload_n cx qX7_passWeeks_49 rfl ?_
        refine PW.callVWV (As := []) (st := []) cx hR qX7_passWeeks_50 klX7_325 mvX7_begins (sh_140 hx) rfl rfl rfl rfl (Nat.le_of_ble_eq_true rfl) (Nat.le_of_ble_eq_true rfl) (Nat.le_of_ble_eq_true rfl) (Nat.zero_le _) (Nat.zero_le _) hf sne (fun t e => ctX7_begins hx h3 t e) (fun h5 hf => ?_)
        refine PW.aload_n cx qX7_passWeeks_53 rfl ?_
        refine PW.aload_n cx qX7_passWeeks_54 rfl ?_
        refine PW.iload_n cx qX7_passWeeks_55 rfl ?_
        refine PW.callVWI (As := [.int p1]) (st := [.ref (gB g + 140)]) cx hR qX7_passWeeks_56 klX7_226 mvX7_passes (sh_140 hx) rfl rfl rfl rfl (Nat.le_of_ble_eq_true rfl) (Nat.le_of_ble_eq_true rfl) (Nat.le_of_ble_eq_true rfl) (Nat.zero_le _) (Nat.zero_le _) hf sne (fun t e => ctX7_passes hx h5 p1 t e) (fun ⟨t6, h7⟩ hf => ?_)
        refine PW.callVWI (As := [.int t6]) (st := []) cx hR qX7_passWeeks_59 klX7_328 mvX7_remember (sh_140 hx) rfl rfl rfl rfl (Nat.le_of_ble_eq_true rfl) (Nat.le_of_ble_eq_true rfl) (Nat.le_of_ble_eq_true rfl) (Nat.zero_le _) (Nat.zero_le _) hf sne (fun t e => ctX7_remember hx h7 t6 t e) (fun ⟨t8, h9⟩ hf => ?_)
        exact PW.iret cx hrt qX7_passWeeks_62 (le_wi hf)
      · refine PW.iconst (v := 0) cx qX7_passWeeks_47 rfl ?_
        exact PW.iret cx hrt qX7_passWeeks_48 (le_wi hf)
    obtain ⟨j40, ej40, hf⟩ := lt_split hf
    have hj40 : ∀ (u_40 : Unit), j40 u_40 = some r0 → PW g X ex (QE g X ex (PE (some (.int r0.1)) sh r0.2) 0 0) 0 0 sh h 40 [some (.ref (gB g + 140)), some (.int p1), none] [.int (b2i z0_15), .ref (gB g + 140)] := by
      intro u_40 hf
      rw [ej40] at hf
      refine PW.iconst (v := 0) cx qX7_passWeeks_40 rfl ?_
      exact PW.locs (Lsub.keep (Lsub.keep (Lsub.drop Lsub.nil))) (hj41 false hf)
    refine PW.if_ne cx qX7_passWeeks_19 hf (fun hf => ?_) (fun hf => ?_)
    · refine PW.aload_n cx qX7_passWeeks_22 rfl ?_
      refine PW.getf (t := (2, 141)) (v := .ref (gB g + 141)) cx qX7_passWeeks_23 (sh_140 hx) rfl flX7_7 rfl ?_
      refine PW.iconst (v := 0) cx qX7_passWeeks_26 rfl ?_
      refine PW.iald cx qX7_passWeeks_27 (sh_141 hx) hf sne (fun t10 hf => ?_)
      refine PW.iload_n cx qX7_passWeeks_28 rfl ?_
      refine PW.iadd cx qX7_passWeeks_29 ?_
      refine PW.sipush (v := 999) cx qX7_passWeeks_30 rfl ?_
      refine PW.icmp_le cx qX7_passWeeks_33 hf (fun hf => ?_) (fun hf => ?_)
      · exact PW.locs (Lsub.keep (Lsub.keep (Lsub.drop Lsub.nil))) (hj40 () hf)
      · refine PW.iconst (v := 1) cx qX7_passWeeks_36 rfl ?_
        refine PW.goto cx qX7_passWeeks_37 ?_
        exact PW.locs (Lsub.keep (Lsub.keep (Lsub.drop Lsub.nil))) (hj41 true hf)
    · exact PW.locs (Lsub.keep (Lsub.keep (Lsub.drop Lsub.nil))) (hj40 () hf)
  refine PW.if_ne cx qX7_passWeeks_7 hf (fun hf => ?_) (fun hf => ?_)
  · refine PW.iconst (v := 1) cx qX7_passWeeks_10 rfl ?_
    refine PW.goto cx qX7_passWeeks_11 ?_
    exact PW.locs (Lsub.keep (Lsub.keep (Lsub.drop Lsub.nil))) (hj15 true hf)
  · refine PW.iconst (v := 0) cx qX7_passWeeks_14 rfl ?_
    exact PW.locs (Lsub.keep (Lsub.keep (Lsub.drop Lsub.nil))) (hj15 false hf)
theorem lX7_undo_26 {g : GT} {X : XT} {ex : Bool} {sh : List Shp} {post : Option Value → List Shp → Hp → Prop} (mx : Mx g X mX7_undo 0 0 0) (hx : MSh sh) : ∀ (n : Nat) (v1 : Int32) (h : Hp) (r : Hp) (hf : M_undo_L26 n v1 h = some r) (kx : ∀ (h1 : Hp), r = h1 → PW g X ex (QE g X ex post 0 0) 0 0 sh h1 58 [some (.ref (gB g + 140)), none] []), PW g X ex (QE g X ex post 0 0) 0 0 sh h 26 [some (.ref (gB g + 140)), some (.int v1)] [] := by
  have mx0 := mx
  obtain ⟨cx, hR, hml, hrt, -⟩ := mx0
  have cx : Cx g X RX7 cX7_undo := cx
  have hrt : X.2.2.2.2.2.2.2.1.sig.returnType = (some .int) := hrt
  have hi1 : 1 < X.2.2.2.2.2.2.2.2.maxLocals := by rw [hml]; exact Nat.le_of_ble_eq_true rfl
  intro n
  induction n with
  | zero =>
    intro v1 h r hf kx
    cases hf
  | succ n ih =>
    intro v1 h r hf kx
    unfold M_undo_L26 at hf
    refine PW.iload_n cx qX7_undo_26 rfl ?_
    refine PW.bipush (v := 106) cx qX7_undo_27 rfl ?_
    refine PW.icmp_ge cx qX7_undo_29 hf (fun hf => ?_) (fun hf => ?_)
    · exact PW.locs (Lsub.keep (Lsub.drop Lsub.nil)) (kx h (Option.some.inj hf).symm)
    · refine PW.aload_n cx qX7_undo_32 rfl ?_
      refine PW.getf (t := (2, 141)) (v := .ref (gB g + 141)) cx qX7_undo_33 (sh_140 hx) rfl flX7_7 rfl ?_
      refine PW.iload_n cx qX7_undo_36 rfl ?_
      refine PW.aload_n cx qX7_undo_37 rfl ?_
      refine PW.getf (t := (2, 144)) (v := .ref (gB g + 144)) cx qX7_undo_38 (sh_140 hx) rfl flX7_19 rfl ?_
      refine PW.bipush (v := 106) cx qX7_undo_41 rfl ?_
      refine PW.aload_n cx qX7_undo_43 rfl ?_
      refine PW.getf (t := (0, 0)) (v := .int (h 140 5)) cx qX7_undo_44 (sh_140 hx) rfl flX7_322 rfl ?_
      refine PW.imul cx qX7_undo_47 ?_
      refine PW.iload_n cx qX7_undo_48 rfl ?_
      refine PW.iadd cx qX7_undo_49 ?_
      refine PW.iald cx qX7_undo_50 (sh_144 hx) hf sne (fun t3 hf => ?_)
      refine PW.iast cx qX7_undo_51 (sh_141 hx) hf sne (fun h4 hf => ?_)
      refine PW.iinc (v := 1) (L' := [some (.ref (gB g + 140)), some (.int (v1 + 1))]) cx qX7_undo_52 rfl rfl hi1 rfl rfl ?_
      refine PW.goto cx qX7_undo_55 ?_
      exact PW.locs (Lsub.keep (Lsub.keep Lsub.nil)) (ih (v1 + 1) h4 _ hf kx)
theorem ctX7_undo {g : GT} {ex : Bool} {sh : List Shp} (hx : MSh sh) (h : Hp) (r0 : Int32 × Hp) (hf : M_undo h = some r0) : Ct g mX7_undo 0 0 0 ex [.ref (gB g + 140)] sh h (PE (some (.int r0.1)) sh r0.2) := by
  refine Ct.of (L := [some (.ref (gB g + 140)), none]) (by decide) (by intro w hw; simp only [List.mem_cons, List.not_mem_nil, or_false] at hw; rcases hw with rfl <;> rfl) (Nat.le_of_ble_eq_true rfl) rfl (fun X mx => ?_)
  have mx0 := mx
  obtain ⟨cx, hR, hml, hrt, -⟩ := mx0
  have cx : Cx g X RX7 cX7_undo := cx
  have hrt : X.2.2.2.2.2.2.2.1.sig.returnType = (some .int) := hrt
  have hi1 : 1 < X.2.2.2.2.2.2.2.2.maxLocals := by rw [hml]; exact Nat.le_of_ble_eq_true rfl
  unfold M_undo at hf
  refine PW.aload_n cx qX7_undo_0 rfl ?_
  refine PW.iconst (v := 0) cx qX7_undo_1 rfl ?_
  refine PW.putiN cx qX7_undo_2 (sh_140 hx) rfl fpX7_54 hf (fun h1 hf => ?_)
  refine PW.aload_n cx qX7_undo_5 rfl ?_
  refine PW.getf (t := (0, 0)) (v := .int (h1 140 5)) cx qX7_undo_6 (sh_140 hx) rfl flX7_322 rfl ?_
  refine PW.if_ne cx qX7_undo_9 hf (fun hf => ?_) (fun hf => ?_)
  · refine PW.iconst (v := (-1)) cx qX7_undo_12 rfl ?_
    exact PW.iret cx hrt qX7_undo_13 (le_wi hf)
  · refine PW.aload_n cx qX7_undo_14 rfl ?_
    refine PW.dup cx qX7_undo_15 rfl ?_
    refine PW.getf (t := (0, 0)) (v := .int (h1 140 5)) cx qX7_undo_16 (sh_140 hx) rfl flX7_322 rfl ?_
    refine PW.iconst (v := 1) cx qX7_undo_19 rfl ?_
    refine PW.isub cx qX7_undo_20 ?_
    refine PW.putiN cx qX7_undo_21 (sh_140 hx) rfl fpX7_322 hf (fun h2 hf => ?_)
    refine PW.iconst (v := 0) cx qX7_undo_24 rfl ?_
    refine PW.istore_n (L' := [some (.ref (gB g + 140)), some (.int 0)]) cx qX7_undo_25 hi1 rfl rfl ?_
    obtain ⟨r5, er5, hf⟩ := bndO hf sne
    refine PW.locs (Lsub.keep (Lsub.keep Lsub.nil)) (lX7_undo_26 mx hx FU 0 h2 r5 er5 (fun xx_ e => ?_))
    subst e
    refine PW.aload_n cx qX7_undo_58 rfl ?_
    refine PW.getf (t := (0, 0)) (v := .int (r5 140 5)) cx qX7_undo_59 (sh_140 hx) rfl flX7_322 rfl ?_
    exact PW.iret cx hrt qX7_undo_62 (le_wi hf)
theorem ctX7_undoCount {g : GT} {ex : Bool} {sh : List Shp} (hx : MSh sh) (h : Hp) (r0 : Int32 × Hp) (hf : M_undoCount h = some r0) : Ct g mX7_undoCount 0 0 0 ex [.ref (gB g + 140)] sh h (PE (some (.int r0.1)) sh r0.2) := by
  refine Ct.of (L := [some (.ref (gB g + 140))]) (by decide) (by intro w hw; simp only [List.mem_cons, List.not_mem_nil, or_false] at hw; rcases hw with rfl <;> rfl) (Nat.le_of_ble_eq_true rfl) rfl (fun X mx => ?_)
  obtain ⟨cx, hR, hml, hrt, -⟩ := mx
  have cx : Cx g X RX7 cX7_undoCount := cx
  have hrt : X.2.2.2.2.2.2.2.1.sig.returnType = (some .int) := hrt
  unfold M_undoCount at hf
  refine PW.aload_n cx qX7_undoCount_0 rfl ?_
  refine PW.iconst (v := 0) cx qX7_undoCount_1 rfl ?_
  refine PW.putiN cx qX7_undoCount_2 (sh_140 hx) rfl fpX7_54 hf (fun h1 hf => ?_)
  refine PW.aload_n cx qX7_undoCount_5 rfl ?_
  refine PW.getf (t := (0, 0)) (v := .int (h1 140 5)) cx qX7_undoCount_6 (sh_140 hx) rfl flX7_322 rfl ?_
  exact PW.iret cx hrt qX7_undoCount_9 (le_wi hf)
theorem lX7_saveSnapshot_12 {g : GT} {X : XT} {ex : Bool} {sh : List Shp} {post : Option Value → List Shp → Hp → Prop} (mx : Mx g X mX7_saveSnapshot 0 0 0) (hx : MSh sh) : ∀ (n : Nat) (v1 : Int32) (h : Hp) (r : Hp) (hf : M_saveSnapshot_L12 n v1 h = some r) (kx : ∀ (h1 : Hp), r = h1 → PW g X ex (QE g X ex post 0 0) 0 0 sh h1 36 [some (.ref (gB g + 140)), none] []), PW g X ex (QE g X ex post 0 0) 0 0 sh h 12 [some (.ref (gB g + 140)), some (.int v1)] [] := by
  have mx0 := mx
  obtain ⟨cx, hR, hml, hrt, -⟩ := mx0
  have cx : Cx g X RX7 cX7_saveSnapshot := cx
  have hrt : X.2.2.2.2.2.2.2.1.sig.returnType = (some .int) := hrt
  have hi1 : 1 < X.2.2.2.2.2.2.2.2.maxLocals := by rw [hml]; exact Nat.le_of_ble_eq_true rfl
  intro n
  induction n with
  | zero =>
    intro v1 h r hf kx
    cases hf
  | succ n ih =>
    intro v1 h r hf kx
    unfold M_saveSnapshot_L12 at hf
    refine PW.iload_n cx qX7_saveSnapshot_12 rfl ?_
    refine PW.bipush (v := 106) cx qX7_saveSnapshot_13 rfl ?_
    refine PW.icmp_ge cx qX7_saveSnapshot_15 hf (fun hf => ?_) (fun hf => ?_)
    · exact PW.locs (Lsub.keep (Lsub.drop Lsub.nil)) (kx h (Option.some.inj hf).symm)
    · refine PW.aload_n cx qX7_saveSnapshot_18 rfl ?_
      refine PW.getf (t := (2, 145)) (v := .ref (gB g + 145)) cx qX7_saveSnapshot_19 (sh_140 hx) rfl flX7_22 rfl ?_
      refine PW.iload_n cx qX7_saveSnapshot_22 rfl ?_
      refine PW.aload_n cx qX7_saveSnapshot_23 rfl ?_
      refine PW.getf (t := (2, 141)) (v := .ref (gB g + 141)) cx qX7_saveSnapshot_24 (sh_140 hx) rfl flX7_7 rfl ?_
      refine PW.iload_n cx qX7_saveSnapshot_27 rfl ?_
      refine PW.iald cx qX7_saveSnapshot_28 (sh_141 hx) hf sne (fun t3 hf => ?_)
      refine PW.iast cx qX7_saveSnapshot_29 (sh_145 hx) hf sne (fun h4 hf => ?_)
      refine PW.iinc (v := 1) (L' := [some (.ref (gB g + 140)), some (.int (v1 + 1))]) cx qX7_saveSnapshot_30 rfl rfl hi1 rfl rfl ?_
      refine PW.goto cx qX7_saveSnapshot_33 ?_
      exact PW.locs (Lsub.keep (Lsub.keep Lsub.nil)) (ih (v1 + 1) h4 _ hf kx)
theorem ctX7_saveSnapshot {g : GT} {ex : Bool} {sh : List Shp} (hx : MSh sh) (h : Hp) (r0 : Int32 × Hp) (hf : M_saveSnapshot h = some r0) : Ct g mX7_saveSnapshot 0 0 0 ex [.ref (gB g + 140)] sh h (PE (some (.int r0.1)) sh r0.2) := by
  refine Ct.of (L := [some (.ref (gB g + 140)), none]) (by decide) (by intro w hw; simp only [List.mem_cons, List.not_mem_nil, or_false] at hw; rcases hw with rfl <;> rfl) (Nat.le_of_ble_eq_true rfl) rfl (fun X mx => ?_)
  have mx0 := mx
  obtain ⟨cx, hR, hml, hrt, -⟩ := mx0
  have cx : Cx g X RX7 cX7_saveSnapshot := cx
  have hrt : X.2.2.2.2.2.2.2.1.sig.returnType = (some .int) := hrt
  have hi1 : 1 < X.2.2.2.2.2.2.2.2.maxLocals := by rw [hml]; exact Nat.le_of_ble_eq_true rfl
  unfold M_saveSnapshot at hf
  refine PW.aload_n cx qX7_saveSnapshot_0 rfl ?_
  refine PW.iconst (v := 0) cx qX7_saveSnapshot_1 rfl ?_
  refine PW.putiN cx qX7_saveSnapshot_2 (sh_140 hx) rfl fpX7_54 hf (fun h1 hf => ?_)
  refine PW.aload_n cx qX7_saveSnapshot_5 rfl ?_
  refine PW.iconst (v := 1) cx qX7_saveSnapshot_6 rfl ?_
  refine PW.putzN cx qX7_saveSnapshot_7 (sh_140 hx) rfl fpX7_349 (by decide) (by decide) hf (fun h2 hf => ?_)
  refine PW.iconst (v := 0) cx qX7_saveSnapshot_10 rfl ?_
  refine PW.istore_n (L' := [some (.ref (gB g + 140)), some (.int 0)]) cx qX7_saveSnapshot_11 hi1 rfl rfl ?_
  obtain ⟨r5, er5, hf⟩ := bndO hf sne
  refine PW.locs (Lsub.keep (Lsub.keep Lsub.nil)) (lX7_saveSnapshot_12 mx hx FU 0 h2 r5 er5 (fun xx_ e => ?_))
  subst e
  refine PW.aload_n cx qX7_saveSnapshot_36 rfl ?_
  refine PW.getf (t := (2, 141)) (v := .ref (gB g + 141)) cx qX7_saveSnapshot_37 (sh_140 hx) rfl flX7_7 rfl ?_
  refine PW.iconst (v := 0) cx qX7_saveSnapshot_40 rfl ?_
  refine PW.iald cx qX7_saveSnapshot_41 (sh_141 hx) hf sne (fun t6 hf => ?_)
  exact PW.iret cx hrt qX7_saveSnapshot_42 (le_wi hf)
theorem lX7_restoreSnapshot_23 {g : GT} {X : XT} {ex : Bool} {sh : List Shp} {post : Option Value → List Shp → Hp → Prop} (mx : Mx g X mX7_restoreSnapshot 1 0 0) (hx : MSh sh) : ∀ (n : Nat) (v1 : Int32) (h : Hp) (r : Hp) (hf : M_restoreSnapshot_L23 n v1 h = some r) (kx : ∀ (h1 : Hp), r = h1 → PW g X ex (QE g X ex post 0 0) 0 0 sh h1 47 [some (.ref (gB g + 140)), none] []), PW g X ex (QE g X ex post 0 0) 0 0 sh h 23 [some (.ref (gB g + 140)), some (.int v1)] [] := by
  have mx0 := mx
  obtain ⟨cx, hR, hml, hrt, -⟩ := mx0
  have cx : Cx g X RX7 cX7_restoreSnapshot := cx
  have hrt : X.2.2.2.2.2.2.2.1.sig.returnType = (some .int) := hrt
  have hi1 : 1 < X.2.2.2.2.2.2.2.2.maxLocals := by rw [hml]; exact Nat.le_of_ble_eq_true rfl
  intro n
  induction n with
  | zero =>
    intro v1 h r hf kx
    cases hf
  | succ n ih =>
    intro v1 h r hf kx
    unfold M_restoreSnapshot_L23 at hf
    refine PW.iload_n cx qX7_restoreSnapshot_23 rfl ?_
    refine PW.bipush (v := 106) cx qX7_restoreSnapshot_24 rfl ?_
    refine PW.icmp_ge cx qX7_restoreSnapshot_26 hf (fun hf => ?_) (fun hf => ?_)
    · exact PW.locs (Lsub.keep (Lsub.drop Lsub.nil)) (kx h (Option.some.inj hf).symm)
    · refine PW.aload_n cx qX7_restoreSnapshot_29 rfl ?_
      refine PW.getf (t := (2, 141)) (v := .ref (gB g + 141)) cx qX7_restoreSnapshot_30 (sh_140 hx) rfl flX7_7 rfl ?_
      refine PW.iload_n cx qX7_restoreSnapshot_33 rfl ?_
      refine PW.aload_n cx qX7_restoreSnapshot_34 rfl ?_
      refine PW.getf (t := (2, 145)) (v := .ref (gB g + 145)) cx qX7_restoreSnapshot_35 (sh_140 hx) rfl flX7_22 rfl ?_
      refine PW.iload_n cx qX7_restoreSnapshot_38 rfl ?_
      refine PW.iald cx qX7_restoreSnapshot_39 (sh_145 hx) hf sne (fun t3 hf => ?_)
      refine PW.iast cx qX7_restoreSnapshot_40 (sh_141 hx) hf sne (fun h4 hf => ?_)
      refine PW.iinc (v := 1) (L' := [some (.ref (gB g + 140)), some (.int (v1 + 1))]) cx qX7_restoreSnapshot_41 rfl rfl hi1 rfl rfl ?_
      refine PW.goto cx qX7_restoreSnapshot_44 ?_
      exact PW.locs (Lsub.keep (Lsub.keep Lsub.nil)) (ih (v1 + 1) h4 _ hf kx)
theorem ctX7_restoreSnapshot {g : GT} {ex : Bool} {sh : List Shp} (hx : MSh sh) (h : Hp) (r0 : Int32 × Hp) (hf : M_restoreSnapshot h = some r0) : Ct g mX7_restoreSnapshot 1 0 0 ex [.ref (gB g + 140)] sh h (PE (some (.int r0.1)) sh r0.2) := by
  refine Ct.of (L := [some (.ref (gB g + 140)), none]) (by decide) (by intro w hw; simp only [List.mem_cons, List.not_mem_nil, or_false] at hw; rcases hw with rfl <;> rfl) (Nat.le_of_ble_eq_true rfl) rfl (fun X mx => ?_)
  have mx0 := mx
  obtain ⟨cx, hR, hml, hrt, -⟩ := mx0
  have cx : Cx g X RX7 cX7_restoreSnapshot := cx
  have hrt : X.2.2.2.2.2.2.2.1.sig.returnType = (some .int) := hrt
  have hi1 : 1 < X.2.2.2.2.2.2.2.2.maxLocals := by rw [hml]; exact Nat.le_of_ble_eq_true rfl
  unfold M_restoreSnapshot at hf
  refine PW.aload_n cx qX7_restoreSnapshot_0 rfl ?_
  refine PW.aload_n cx qX7_restoreSnapshot_1 rfl ?_
  refine PW.getf (t := (1, 0)) (v := .int (h 140 6)) cx qX7_restoreSnapshot_2 (sh_140 hx) rfl flX7_349 rfl ?_
  obtain ⟨j13, ej13, hf⟩ := lt_split hf
  have hj13 : ∀ (z0_13 : Bool), j13 z0_13 = some r0 → PW g X ex (QE g X ex (PE (some (.int r0.1)) sh r0.2) 0 0) 0 0 sh h 13 [some (.ref (gB g + 140)), none] [.int (b2i z0_13), .ref (gB g + 140)] := by
    intro z0_13 hf
    rw [ej13] at hf
    refine PW.callVWB (As := [.int (b2i z0_13)]) (st := []) cx hR qX7_restoreSnapshot_13 klX7_319 mvX7_throwsOne (sh_140 hx) rfl rfl rfl rfl (Nat.le_of_ble_eq_true rfl) (Nat.le_of_ble_eq_true rfl) (Nat.le_of_ble_eq_true rfl) (Nat.zero_le _) (Nat.zero_le _) hf sne (fun t e => ctX7_throwsOne hx h z0_13 t e) (fun ⟨t1, h2⟩ hf => ?_)
    refine PW.if_eq cx qX7_restoreSnapshot_16 hf (fun hf => ?_) (fun hf => ?_)
    · refine PW.iconst (v := 0) cx qX7_restoreSnapshot_21 rfl ?_
      refine PW.istore_n (L' := [some (.ref (gB g + 140)), some (.int 0)]) cx qX7_restoreSnapshot_22 hi1 rfl rfl ?_
      obtain ⟨r5, er5, hf⟩ := bndO hf sne
      refine PW.locs (Lsub.keep (Lsub.keep Lsub.nil)) (lX7_restoreSnapshot_23 mx hx FU 0 h2 r5 er5 (fun xx_ e => ?_))
      subst e
      refine PW.aload_n cx qX7_restoreSnapshot_47 rfl ?_
      refine PW.iconst (v := 0) cx qX7_restoreSnapshot_48 rfl ?_
      refine PW.putiN cx qX7_restoreSnapshot_49 (sh_140 hx) rfl fpX7_322 hf (fun h6 hf => ?_)
      refine PW.aload_n cx qX7_restoreSnapshot_52 rfl ?_
      refine PW.getf (t := (2, 141)) (v := .ref (gB g + 141)) cx qX7_restoreSnapshot_53 (sh_140 hx) rfl flX7_7 rfl ?_
      refine PW.iconst (v := 0) cx qX7_restoreSnapshot_56 rfl ?_
      refine PW.iald cx qX7_restoreSnapshot_57 (sh_141 hx) hf sne (fun t7 hf => ?_)
      exact PW.iret cx hrt qX7_restoreSnapshot_58 (le_wi hf)
    · refine PW.iconst (v := 0) cx qX7_restoreSnapshot_19 rfl ?_
      exact PW.iret cx hrt qX7_restoreSnapshot_20 (le_wi hf)
  refine PW.if_ne cx qX7_restoreSnapshot_5 hf (fun hf => ?_) (fun hf => ?_)
  · refine PW.iconst (v := 1) cx qX7_restoreSnapshot_8 rfl ?_
    refine PW.goto cx qX7_restoreSnapshot_9 ?_
    exact PW.locs (Lsub.keep (Lsub.drop Lsub.nil)) (hj13 true hf)
  · refine PW.iconst (v := 0) cx qX7_restoreSnapshot_12 rfl ?_
    exact PW.locs (Lsub.keep (Lsub.drop Lsub.nil)) (hj13 false hf)
theorem ctX7_scriptErrorKind {g : GT} {ex : Bool} {sh : List Shp} (hx : MSh sh) (h : Hp) (r0 : Int32 × Hp) (hf : M_scriptErrorKind h = some r0) : Ct g mX7_scriptErrorKind 0 0 0 ex [.ref (gB g + 140)] sh h (PE (some (.int r0.1)) sh r0.2) := by
  refine Ct.of (L := [some (.ref (gB g + 140))]) (by decide) (by intro w hw; simp only [List.mem_cons, List.not_mem_nil, or_false] at hw; rcases hw with rfl <;> rfl) (Nat.le_of_ble_eq_true rfl) rfl (fun X mx => ?_)
  obtain ⟨cx, hR, hml, hrt, -⟩ := mx
  have cx : Cx g X RX7 cX7_scriptErrorKind := cx
  have hrt : X.2.2.2.2.2.2.2.1.sig.returnType = (some .int) := hrt
  unfold M_scriptErrorKind at hf
  refine PW.aload_n cx qX7_scriptErrorKind_0 rfl ?_
  refine PW.iconst (v := 0) cx qX7_scriptErrorKind_1 rfl ?_
  refine PW.putiN cx qX7_scriptErrorKind_2 (sh_140 hx) rfl fpX7_54 hf (fun h1 hf => ?_)
  refine PW.aload_n cx qX7_scriptErrorKind_5 rfl ?_
  refine PW.getf (t := (0, 0)) (v := .int (h1 140 11)) cx qX7_scriptErrorKind_6 (sh_140 hx) rfl flX7_173 rfl ?_
  exact PW.iret cx hrt qX7_scriptErrorKind_9 (le_wi hf)
theorem ctX7_scriptErrorOffset {g : GT} {ex : Bool} {sh : List Shp} (hx : MSh sh) (h : Hp) (r0 : Int32 × Hp) (hf : M_scriptErrorOffset h = some r0) : Ct g mX7_scriptErrorOffset 0 0 0 ex [.ref (gB g + 140)] sh h (PE (some (.int r0.1)) sh r0.2) := by
  refine Ct.of (L := [some (.ref (gB g + 140))]) (by decide) (by intro w hw; simp only [List.mem_cons, List.not_mem_nil, or_false] at hw; rcases hw with rfl <;> rfl) (Nat.le_of_ble_eq_true rfl) rfl (fun X mx => ?_)
  obtain ⟨cx, hR, hml, hrt, -⟩ := mx
  have cx : Cx g X RX7 cX7_scriptErrorOffset := cx
  have hrt : X.2.2.2.2.2.2.2.1.sig.returnType = (some .int) := hrt
  unfold M_scriptErrorOffset at hf
  refine PW.aload_n cx qX7_scriptErrorOffset_0 rfl ?_
  refine PW.iconst (v := 0) cx qX7_scriptErrorOffset_1 rfl ?_
  refine PW.putiN cx qX7_scriptErrorOffset_2 (sh_140 hx) rfl fpX7_54 hf (fun h1 hf => ?_)
  refine PW.aload_n cx qX7_scriptErrorOffset_5 rfl ?_
  refine PW.getf (t := (0, 0)) (v := .int (h1 140 12)) cx qX7_scriptErrorOffset_6 (sh_140 hx) rfl flX7_31 rfl ?_
  exact PW.iret cx hrt qX7_scriptErrorOffset_9 (le_wi hf)
theorem ctX7_told {g : GT} {ex : Bool} {sh : List Shp} (hx : MSh sh) (h : Hp) (p1 : Int32) (r0 : Int32 × Hp) (hf : M_told h p1 = some r0) : Ct g mX7_told 0 0 0 ex [.ref (gB g + 140), .int p1] sh h (PE (some (.int r0.1)) sh r0.2) := by
  refine Ct.of (L := [some (.ref (gB g + 140)), some (.int p1)]) (by decide) (by intro w hw; simp only [List.mem_cons, List.not_mem_nil, or_false] at hw; rcases hw with rfl | rfl <;> rfl) (Nat.le_of_ble_eq_true rfl) rfl (fun X mx => ?_)
  obtain ⟨cx, hR, hml, hrt, -⟩ := mx
  have cx : Cx g X RX7 cX7_told := cx
  have hrt : X.2.2.2.2.2.2.2.1.sig.returnType = (some .int) := hrt
  unfold M_told at hf
  refine PW.aload_n cx qX7_told_0 rfl ?_
  refine PW.iconst (v := 0) cx qX7_told_1 rfl ?_
  refine PW.putiN cx qX7_told_2 (sh_140 hx) rfl fpX7_54 hf (fun h1 hf => ?_)
  refine PW.aload_n cx qX7_told_5 rfl ?_
  refine PW.getf (t := (2, 141)) (v := .ref (gB g + 141)) cx qX7_told_6 (sh_140 hx) rfl flX7_7 rfl ?_
  refine PW.iload_n cx qX7_told_9 rfl ?_
  refine PW.iald cx qX7_told_10 (sh_141 hx) hf sne (fun t2 hf => ?_)
  exact PW.iret cx hrt qX7_told_11 (le_wi hf)
theorem ctX7_week {g : GT} {ex : Bool} {sh : List Shp} (hx : MSh sh) (h : Hp) (r0 : Int32 × Hp) (hf : M_week h = some r0) : Ct g mX7_week 1 0 0 ex [.ref (gB g + 140)] sh h (PE (some (.int r0.1)) sh r0.2) := by
  refine Ct.of (L := [some (.ref (gB g + 140))]) (by decide) (by intro w hw; simp only [List.mem_cons, List.not_mem_nil, or_false] at hw; rcases hw with rfl <;> rfl) (Nat.le_of_ble_eq_true rfl) rfl (fun X mx => ?_)
  obtain ⟨cx, hR, hml, hrt, -⟩ := mx
  have cx : Cx g X RX7 cX7_week := cx
  have hrt : X.2.2.2.2.2.2.2.1.sig.returnType = (some .int) := hrt
  unfold M_week at hf
  refine PW.aload_n cx qX7_week_0 rfl ?_
  refine PW.iconst (v := 0) cx qX7_week_1 rfl ?_
  refine PW.callVWI (As := [.int 0]) (st := []) cx hR qX7_week_2 klX7_353 mvX7_told (sh_140 hx) rfl rfl rfl rfl (Nat.le_of_ble_eq_true rfl) (Nat.le_of_ble_eq_true rfl) (Nat.le_of_ble_eq_true rfl) (Nat.zero_le _) (Nat.zero_le _) hf sne (fun t e => ctX7_told hx h 0 t e) (fun ⟨t1, h2⟩ hf => ?_)
  exact PW.iret cx hrt qX7_week_5 (le_wi hf)
theorem ctX7_food {g : GT} {ex : Bool} {sh : List Shp} (hx : MSh sh) (h : Hp) (r0 : Int32 × Hp) (hf : M_food h = some r0) : Ct g mX7_food 1 0 0 ex [.ref (gB g + 140)] sh h (PE (some (.int r0.1)) sh r0.2) := by
  refine Ct.of (L := [some (.ref (gB g + 140))]) (by decide) (by intro w hw; simp only [List.mem_cons, List.not_mem_nil, or_false] at hw; rcases hw with rfl <;> rfl) (Nat.le_of_ble_eq_true rfl) rfl (fun X mx => ?_)
  obtain ⟨cx, hR, hml, hrt, -⟩ := mx
  have cx : Cx g X RX7 cX7_food := cx
  have hrt : X.2.2.2.2.2.2.2.1.sig.returnType = (some .int) := hrt
  unfold M_food at hf
  refine PW.aload_n cx qX7_food_0 rfl ?_
  refine PW.iconst (v := 1) cx qX7_food_1 rfl ?_
  refine PW.callVWI (As := [.int 1]) (st := []) cx hR qX7_food_2 klX7_353 mvX7_told (sh_140 hx) rfl rfl rfl rfl (Nat.le_of_ble_eq_true rfl) (Nat.le_of_ble_eq_true rfl) (Nat.le_of_ble_eq_true rfl) (Nat.zero_le _) (Nat.zero_le _) hf sne (fun t e => ctX7_told hx h 1 t e) (fun ⟨t1, h2⟩ hf => ?_)
  exact PW.iret cx hrt qX7_food_5 (le_wi hf)
theorem ctX7_clipCount {g : GT} {ex : Bool} {sh : List Shp} (hx : MSh sh) (h : Hp) (r0 : Int32 × Hp) (hf : M_clipCount h = some r0) : Ct g mX7_clipCount 1 0 0 ex [.ref (gB g + 140)] sh h (PE (some (.int r0.1)) sh r0.2) := by
  refine Ct.of (L := [some (.ref (gB g + 140))]) (by decide) (by intro w hw; simp only [List.mem_cons, List.not_mem_nil, or_false] at hw; rcases hw with rfl <;> rfl) (Nat.le_of_ble_eq_true rfl) rfl (fun X mx => ?_)
  obtain ⟨cx, hR, hml, hrt, -⟩ := mx
  have cx : Cx g X RX7 cX7_clipCount := cx
  have hrt : X.2.2.2.2.2.2.2.1.sig.returnType = (some .int) := hrt
  unfold M_clipCount at hf
  refine PW.aload_n cx qX7_clipCount_0 rfl ?_
  refine PW.iconst (v := 2) cx qX7_clipCount_1 rfl ?_
  refine PW.callVWI (As := [.int 2]) (st := []) cx hR qX7_clipCount_2 klX7_353 mvX7_told (sh_140 hx) rfl rfl rfl rfl (Nat.le_of_ble_eq_true rfl) (Nat.le_of_ble_eq_true rfl) (Nat.le_of_ble_eq_true rfl) (Nat.zero_le _) (Nat.zero_le _) hf sne (fun t e => ctX7_told hx h 2 t e) (fun ⟨t1, h2⟩ hf => ?_)
  exact PW.iret cx hrt qX7_clipCount_5 (le_wi hf)
theorem ctX7_reelCount {g : GT} {ex : Bool} {sh : List Shp} (hx : MSh sh) (h : Hp) (r0 : Int32 × Hp) (hf : M_reelCount h = some r0) : Ct g mX7_reelCount 1 0 0 ex [.ref (gB g + 140)] sh h (PE (some (.int r0.1)) sh r0.2) := by
  refine Ct.of (L := [some (.ref (gB g + 140))]) (by decide) (by intro w hw; simp only [List.mem_cons, List.not_mem_nil, or_false] at hw; rcases hw with rfl <;> rfl) (Nat.le_of_ble_eq_true rfl) rfl (fun X mx => ?_)
  obtain ⟨cx, hR, hml, hrt, -⟩ := mx
  have cx : Cx g X RX7 cX7_reelCount := cx
  have hrt : X.2.2.2.2.2.2.2.1.sig.returnType = (some .int) := hrt
  unfold M_reelCount at hf
  refine PW.aload_n cx qX7_reelCount_0 rfl ?_
  refine PW.iconst (v := 3) cx qX7_reelCount_1 rfl ?_
  refine PW.callVWI (As := [.int 3]) (st := []) cx hR qX7_reelCount_2 klX7_353 mvX7_told (sh_140 hx) rfl rfl rfl rfl (Nat.le_of_ble_eq_true rfl) (Nat.le_of_ble_eq_true rfl) (Nat.le_of_ble_eq_true rfl) (Nat.zero_le _) (Nat.zero_le _) hf sne (fun t e => ctX7_told hx h 3 t e) (fun ⟨t1, h2⟩ hf => ?_)
  exact PW.iret cx hrt qX7_reelCount_5 (le_wi hf)
theorem ctX7_sceneCount {g : GT} {ex : Bool} {sh : List Shp} (hx : MSh sh) (h : Hp) (r0 : Int32 × Hp) (hf : M_sceneCount h = some r0) : Ct g mX7_sceneCount 1 0 0 ex [.ref (gB g + 140)] sh h (PE (some (.int r0.1)) sh r0.2) := by
  refine Ct.of (L := [some (.ref (gB g + 140))]) (by decide) (by intro w hw; simp only [List.mem_cons, List.not_mem_nil, or_false] at hw; rcases hw with rfl <;> rfl) (Nat.le_of_ble_eq_true rfl) rfl (fun X mx => ?_)
  obtain ⟨cx, hR, hml, hrt, -⟩ := mx
  have cx : Cx g X RX7 cX7_sceneCount := cx
  have hrt : X.2.2.2.2.2.2.2.1.sig.returnType = (some .int) := hrt
  unfold M_sceneCount at hf
  refine PW.aload_n cx qX7_sceneCount_0 rfl ?_
  refine PW.iconst (v := 4) cx qX7_sceneCount_1 rfl ?_
  refine PW.callVWI (As := [.int 4]) (st := []) cx hR qX7_sceneCount_2 klX7_353 mvX7_told (sh_140 hx) rfl rfl rfl rfl (Nat.le_of_ble_eq_true rfl) (Nat.le_of_ble_eq_true rfl) (Nat.le_of_ble_eq_true rfl) (Nat.zero_le _) (Nat.zero_le _) hf sne (fun t e => ctX7_told hx h 4 t e) (fun ⟨t1, h2⟩ hf => ?_)
  exact PW.iret cx hrt qX7_sceneCount_5 (le_wi hf)
theorem ctX7_springs {g : GT} {ex : Bool} {sh : List Shp} (hx : MSh sh) (h : Hp) (p1 : Int32) (r0 : Int32 × Hp) (hf : M_springs h p1 = some r0) : Ct g mX7_springs 2 0 0 ex [.ref (gB g + 140), .int p1] sh h (PE (some (.int r0.1)) sh r0.2) := by
  refine Ct.of (L := [some (.ref (gB g + 140)), some (.int p1)]) (by decide) (by intro w hw; simp only [List.mem_cons, List.not_mem_nil, or_false] at hw; rcases hw with rfl | rfl <;> rfl) (Nat.le_of_ble_eq_true rfl) rfl (fun X mx => ?_)
  obtain ⟨cx, hR, hml, hrt, -⟩ := mx
  have cx : Cx g X RX7 cX7_springs := cx
  have hrt : X.2.2.2.2.2.2.2.1.sig.returnType = (some .int) := hrt
  unfold M_springs at hf
  refine PW.aload_n cx qX7_springs_0 rfl ?_
  refine PW.aload_n cx qX7_springs_1 rfl ?_
  refine PW.iload_n cx qX7_springs_2 rfl ?_
  refine PW.callVRB (As := [.int p1]) (st := [.ref (gB g + 140)]) cx hR qX7_springs_3 klX7_340 mvX7_isScene (sh_140 hx) rfl rfl rfl rfl (Nat.le_of_ble_eq_true rfl) (Nat.le_of_ble_eq_true rfl) (Nat.le_of_ble_eq_true rfl) (Nat.zero_le _) (Nat.zero_le _) hf sne (fun t e => ctX7_isScene hx h p1 t e) (fun t1 hf => ?_)
  obtain ⟨j14, ej14, hf⟩ := lt_split hf
  have hj14 : ∀ (z0_14 : Bool), j14 z0_14 = some r0 → PW g X ex (QE g X ex (PE (some (.int r0.1)) sh r0.2) 0 0) 0 0 sh h 14 [some (.ref (gB g + 140)), some (.int p1)] [.int (b2i z0_14), .ref (gB g + 140)] := by
    intro z0_14 hf
    rw [ej14] at hf
    refine PW.callVWB (As := [.int (b2i z0_14)]) (st := []) cx hR qX7_springs_14 klX7_319 mvX7_throwsOne (sh_140 hx) rfl rfl rfl rfl (Nat.le_of_ble_eq_true rfl) (Nat.le_of_ble_eq_true rfl) (Nat.le_of_ble_eq_true rfl) (Nat.zero_le _) (Nat.zero_le _) hf sne (fun t e => ctX7_throwsOne hx h z0_14 t e) (fun ⟨t2, h3⟩ hf => ?_)
    refine PW.if_eq cx qX7_springs_17 hf (fun hf => ?_) (fun hf => ?_)
    · refine PW.aload_n cx qX7_springs_24 rfl ?_
      refine PW.iload_n cx qX7_springs_25 rfl ?_
      refine PW.iconst (v := 1) cx qX7_springs_26 rfl ?_
      refine PW.callVRI (As := [.int p1, .int 1]) (st := []) cx hR qX7_springs_27 klX7_127 mvX7_scene (sh_140 hx) rfl rfl rfl rfl (Nat.le_of_ble_eq_true rfl) (Nat.le_of_ble_eq_true rfl) (Nat.le_of_ble_eq_true rfl) (Nat.zero_le _) (Nat.zero_le _) hf sne (fun t e => ctX7_scene hx h3 p1 1 t e) (fun t4 hf => ?_)
      exact PW.iret cx hrt qX7_springs_30 (le_wi hf)
    · refine PW.iconst (v := 0) cx qX7_springs_20 rfl ?_
      refine PW.goto cx qX7_springs_21 ?_
      exact PW.iret cx hrt qX7_springs_30 (le_wi hf)
  refine PW.if_ne cx qX7_springs_6 hf (fun hf => ?_) (fun hf => ?_)
  · refine PW.iconst (v := 1) cx qX7_springs_9 rfl ?_
    refine PW.goto cx qX7_springs_10 ?_
    exact PW.locs (Lsub.keep (Lsub.keep Lsub.nil)) (hj14 true hf)
  · refine PW.iconst (v := 0) cx qX7_springs_13 rfl ?_
    exact PW.locs (Lsub.keep (Lsub.keep Lsub.nil)) (hj14 false hf)
theorem ctX7_clipTold {g : GT} {ex : Bool} {sh : List Shp} (hx : MSh sh) (h : Hp) (p1 : Int32) (p2 : Int32) (r0 : Int32 × Hp) (hf : M_clipTold h p1 p2 = some r0) : Ct g mX7_clipTold 2 0 0 ex [.ref (gB g + 140), .int p1, .int p2] sh h (PE (some (.int r0.1)) sh r0.2) := by
  refine Ct.of (L := [some (.ref (gB g + 140)), some (.int p1), some (.int p2)]) (by decide) (by intro w hw; simp only [List.mem_cons, List.not_mem_nil, or_false] at hw; rcases hw with rfl | rfl | rfl <;> rfl) (Nat.le_of_ble_eq_true rfl) rfl (fun X mx => ?_)
  obtain ⟨cx, hR, hml, hrt, -⟩ := mx
  have cx : Cx g X RX7 cX7_clipTold := cx
  have hrt : X.2.2.2.2.2.2.2.1.sig.returnType = (some .int) := hrt
  unfold M_clipTold at hf
  refine PW.aload_n cx qX7_clipTold_0 rfl ?_
  refine PW.aload_n cx qX7_clipTold_1 rfl ?_
  refine PW.iload_n cx qX7_clipTold_2 rfl ?_
  refine PW.callVRB (As := [.int p1]) (st := [.ref (gB g + 140)]) cx hR qX7_clipTold_3 klX7_334 mvX7_isClip (sh_140 hx) rfl rfl rfl rfl (Nat.le_of_ble_eq_true rfl) (Nat.le_of_ble_eq_true rfl) (Nat.le_of_ble_eq_true rfl) (Nat.zero_le _) (Nat.zero_le _) hf sne (fun t e => ctX7_isClip hx h p1 t e) (fun t1 hf => ?_)
  obtain ⟨j14, ej14, hf⟩ := lt_split hf
  have hj14 : ∀ (z0_14 : Bool), j14 z0_14 = some r0 → PW g X ex (QE g X ex (PE (some (.int r0.1)) sh r0.2) 0 0) 0 0 sh h 14 [some (.ref (gB g + 140)), some (.int p1), some (.int p2)] [.int (b2i z0_14), .ref (gB g + 140)] := by
    intro z0_14 hf
    rw [ej14] at hf
    refine PW.callVWB (As := [.int (b2i z0_14)]) (st := []) cx hR qX7_clipTold_14 klX7_319 mvX7_throwsOne (sh_140 hx) rfl rfl rfl rfl (Nat.le_of_ble_eq_true rfl) (Nat.le_of_ble_eq_true rfl) (Nat.le_of_ble_eq_true rfl) (Nat.zero_le _) (Nat.zero_le _) hf sne (fun t e => ctX7_throwsOne hx h z0_14 t e) (fun ⟨t2, h3⟩ hf => ?_)
    refine PW.if_eq cx qX7_clipTold_17 hf (fun hf => ?_) (fun hf => ?_)
    · refine PW.aload_n cx qX7_clipTold_24 rfl ?_
      refine PW.iload_n cx qX7_clipTold_25 rfl ?_
      refine PW.iload_n cx qX7_clipTold_26 rfl ?_
      refine PW.callVRI (As := [.int p1, .int p2]) (st := []) cx hR qX7_clipTold_27 klX7_70 mvX7_of (sh_140 hx) rfl rfl rfl rfl (Nat.le_of_ble_eq_true rfl) (Nat.le_of_ble_eq_true rfl) (Nat.le_of_ble_eq_true rfl) (Nat.zero_le _) (Nat.zero_le _) hf sne (fun t e => ctX7_of hx h3 p1 p2 t e) (fun t4 hf => ?_)
      exact PW.iret cx hrt qX7_clipTold_30 (le_wi hf)
    · refine PW.iconst (v := 0) cx qX7_clipTold_20 rfl ?_
      refine PW.goto cx qX7_clipTold_21 ?_
      exact PW.iret cx hrt qX7_clipTold_30 (le_wi hf)
  refine PW.if_ne cx qX7_clipTold_6 hf (fun hf => ?_) (fun hf => ?_)
  · refine PW.iconst (v := 1) cx qX7_clipTold_9 rfl ?_
    refine PW.goto cx qX7_clipTold_10 ?_
    exact PW.locs (Lsub.keep (Lsub.keep (Lsub.keep Lsub.nil))) (hj14 true hf)
  · refine PW.iconst (v := 0) cx qX7_clipTold_13 rfl ?_
    exact PW.locs (Lsub.keep (Lsub.keep (Lsub.keep Lsub.nil))) (hj14 false hf)
theorem ctX7_state {g : GT} {ex : Bool} {sh : List Shp} (hx : MSh sh) (h : Hp) (p1 : Int32) (r0 : Int32 × Hp) (hf : M_state h p1 = some r0) : Ct g mX7_state 3 0 0 ex [.ref (gB g + 140), .int p1] sh h (PE (some (.int r0.1)) sh r0.2) := by
  refine Ct.of (L := [some (.ref (gB g + 140)), some (.int p1)]) (by decide) (by intro w hw; simp only [List.mem_cons, List.not_mem_nil, or_false] at hw; rcases hw with rfl | rfl <;> rfl) (Nat.le_of_ble_eq_true rfl) rfl (fun X mx => ?_)
  obtain ⟨cx, hR, hml, hrt, -⟩ := mx
  have cx : Cx g X RX7 cX7_state := cx
  have hrt : X.2.2.2.2.2.2.2.1.sig.returnType = (some .int) := hrt
  unfold M_state at hf
  refine PW.aload_n cx qX7_state_0 rfl ?_
  refine PW.iload_n cx qX7_state_1 rfl ?_
  refine PW.iconst (v := 1) cx qX7_state_2 rfl ?_
  refine PW.callVWI (As := [.int p1, .int 1]) (st := []) cx hR qX7_state_3 klX7_356 mvX7_clipTold (sh_140 hx) rfl rfl rfl rfl (Nat.le_of_ble_eq_true rfl) (Nat.le_of_ble_eq_true rfl) (Nat.le_of_ble_eq_true rfl) (Nat.zero_le _) (Nat.zero_le _) hf sne (fun t e => ctX7_clipTold hx h p1 1 t e) (fun ⟨t1, h2⟩ hf => ?_)
  exact PW.iret cx hrt qX7_state_6 (le_wi hf)
theorem ctX7_colours {g : GT} {ex : Bool} {sh : List Shp} (hx : MSh sh) (h : Hp) (p1 : Int32) (r0 : Int32 × Hp) (hf : M_colours h p1 = some r0) : Ct g mX7_colours 3 0 0 ex [.ref (gB g + 140), .int p1] sh h (PE (some (.int r0.1)) sh r0.2) := by
  refine Ct.of (L := [some (.ref (gB g + 140)), some (.int p1)]) (by decide) (by intro w hw; simp only [List.mem_cons, List.not_mem_nil, or_false] at hw; rcases hw with rfl | rfl <;> rfl) (Nat.le_of_ble_eq_true rfl) rfl (fun X mx => ?_)
  obtain ⟨cx, hR, hml, hrt, -⟩ := mx
  have cx : Cx g X RX7 cX7_colours := cx
  have hrt : X.2.2.2.2.2.2.2.1.sig.returnType = (some .int) := hrt
  unfold M_colours at hf
  refine PW.aload_n cx qX7_colours_0 rfl ?_
  refine PW.iload_n cx qX7_colours_1 rfl ?_
  refine PW.iconst (v := 0) cx qX7_colours_2 rfl ?_
  refine PW.callVWI (As := [.int p1, .int 0]) (st := []) cx hR qX7_colours_3 klX7_356 mvX7_clipTold (sh_140 hx) rfl rfl rfl rfl (Nat.le_of_ble_eq_true rfl) (Nat.le_of_ble_eq_true rfl) (Nat.le_of_ble_eq_true rfl) (Nat.zero_le _) (Nat.zero_le _) hf sne (fun t e => ctX7_clipTold hx h p1 0 t e) (fun ⟨t1, h2⟩ hf => ?_)
  exact PW.iret cx hrt qX7_colours_6 (le_wi hf)
theorem ctX7_length {g : GT} {ex : Bool} {sh : List Shp} (hx : MSh sh) (h : Hp) (p1 : Int32) (r0 : Int32 × Hp) (hf : M_length h p1 = some r0) : Ct g mX7_length 2 0 0 ex [.ref (gB g + 140), .int p1] sh h (PE (some (.int r0.1)) sh r0.2) := by
  refine Ct.of (L := [some (.ref (gB g + 140)), some (.int p1)]) (by decide) (by intro w hw; simp only [List.mem_cons, List.not_mem_nil, or_false] at hw; rcases hw with rfl | rfl <;> rfl) (Nat.le_of_ble_eq_true rfl) rfl (fun X mx => ?_)
  obtain ⟨cx, hR, hml, hrt, -⟩ := mx
  have cx : Cx g X RX7 cX7_length := cx
  have hrt : X.2.2.2.2.2.2.2.1.sig.returnType = (some .int) := hrt
  unfold M_length at hf
  refine PW.aload_n cx qX7_length_0 rfl ?_
  refine PW.aload_n cx qX7_length_1 rfl ?_
  refine PW.iload_n cx qX7_length_2 rfl ?_
  refine PW.callVRB (As := [.int p1]) (st := [.ref (gB g + 140)]) cx hR qX7_length_3 klX7_334 mvX7_isClip (sh_140 hx) rfl rfl rfl rfl (Nat.le_of_ble_eq_true rfl) (Nat.le_of_ble_eq_true rfl) (Nat.le_of_ble_eq_true rfl) (Nat.zero_le _) (Nat.zero_le _) hf sne (fun t e => ctX7_isClip hx h p1 t e) (fun t1 hf => ?_)
  obtain ⟨j14, ej14, hf⟩ := lt_split hf
  have hj14 : ∀ (z0_14 : Bool), j14 z0_14 = some r0 → PW g X ex (QE g X ex (PE (some (.int r0.1)) sh r0.2) 0 0) 0 0 sh h 14 [some (.ref (gB g + 140)), some (.int p1)] [.int (b2i z0_14), .ref (gB g + 140)] := by
    intro z0_14 hf
    rw [ej14] at hf
    refine PW.callVWB (As := [.int (b2i z0_14)]) (st := []) cx hR qX7_length_14 klX7_319 mvX7_throwsOne (sh_140 hx) rfl rfl rfl rfl (Nat.le_of_ble_eq_true rfl) (Nat.le_of_ble_eq_true rfl) (Nat.le_of_ble_eq_true rfl) (Nat.zero_le _) (Nat.zero_le _) hf sne (fun t e => ctX7_throwsOne hx h z0_14 t e) (fun ⟨t2, h3⟩ hf => ?_)
    refine PW.if_eq cx qX7_length_17 hf (fun hf => ?_) (fun hf => ?_)
    · refine PW.aload_n cx qX7_length_24 rfl ?_
      refine PW.iload_n cx qX7_length_25 rfl ?_
      refine PW.iconst (v := 0) cx qX7_length_26 rfl ?_
      refine PW.callVRI (As := [.int p1, .int 0]) (st := []) cx hR qX7_length_27 klX7_70 mvX7_of (sh_140 hx) rfl rfl rfl rfl (Nat.le_of_ble_eq_true rfl) (Nat.le_of_ble_eq_true rfl) (Nat.le_of_ble_eq_true rfl) (Nat.zero_le _) (Nat.zero_le _) hf sne (fun t e => ctX7_of hx h3 p1 0 t e) (fun t4 hf => ?_)
      refine PW.callSRI (As := [.int t4]) (st := []) cx hR qX7_length_30 klX7_61 miX7_digits rfl rfl (Nat.le_of_ble_eq_true rfl) (Nat.le_of_ble_eq_true rfl) (Nat.le_of_ble_eq_true rfl) (Nat.zero_le _) (Nat.zero_le _) hf sne (fun t e => ctX7_digits h3 t4 t e) (fun t5 hf => ?_)
      exact PW.iret cx hrt qX7_length_33 (le_wi hf)
    · refine PW.iconst (v := 0) cx qX7_length_20 rfl ?_
      refine PW.goto cx qX7_length_21 ?_
      exact PW.iret cx hrt qX7_length_33 (le_wi hf)
  refine PW.if_ne cx qX7_length_6 hf (fun hf => ?_) (fun hf => ?_)
  · refine PW.iconst (v := 1) cx qX7_length_9 rfl ?_
    refine PW.goto cx qX7_length_10 ?_
    exact PW.locs (Lsub.keep (Lsub.keep Lsub.nil)) (hj14 true hf)
  · refine PW.iconst (v := 0) cx qX7_length_13 rfl ?_
    exact PW.locs (Lsub.keep (Lsub.keep Lsub.nil)) (hj14 false hf)
theorem ctX7_hash {g : GT} {ex : Bool} {sh : List Shp} (hx : MSh sh) (h : Hp) (p1 : Int32) (r0 : Int32 × Hp) (hf : M_hash h p1 = some r0) : Ct g mX7_hash 3 0 0 ex [.ref (gB g + 140), .int p1] sh h (PE (some (.int r0.1)) sh r0.2) := by
  refine Ct.of (L := [some (.ref (gB g + 140)), some (.int p1)]) (by decide) (by intro w hw; simp only [List.mem_cons, List.not_mem_nil, or_false] at hw; rcases hw with rfl | rfl <;> rfl) (Nat.le_of_ble_eq_true rfl) rfl (fun X mx => ?_)
  obtain ⟨cx, hR, hml, hrt, -⟩ := mx
  have cx : Cx g X RX7 cX7_hash := cx
  have hrt : X.2.2.2.2.2.2.2.1.sig.returnType = (some .int) := hrt
  unfold M_hash at hf
  refine PW.aload_n cx qX7_hash_0 rfl ?_
  refine PW.aload_n cx qX7_hash_1 rfl ?_
  refine PW.iload_n cx qX7_hash_2 rfl ?_
  refine PW.callVRB (As := [.int p1]) (st := [.ref (gB g + 140)]) cx hR qX7_hash_3 klX7_334 mvX7_isClip (sh_140 hx) rfl rfl rfl rfl (Nat.le_of_ble_eq_true rfl) (Nat.le_of_ble_eq_true rfl) (Nat.le_of_ble_eq_true rfl) (Nat.zero_le _) (Nat.zero_le _) hf sne (fun t e => ctX7_isClip hx h p1 t e) (fun t1 hf => ?_)
  obtain ⟨j14, ej14, hf⟩ := lt_split hf
  have hj14 : ∀ (z0_14 : Bool), j14 z0_14 = some r0 → PW g X ex (QE g X ex (PE (some (.int r0.1)) sh r0.2) 0 0) 0 0 sh h 14 [some (.ref (gB g + 140)), some (.int p1)] [.int (b2i z0_14), .ref (gB g + 140)] := by
    intro z0_14 hf
    rw [ej14] at hf
    refine PW.callVWB (As := [.int (b2i z0_14)]) (st := []) cx hR qX7_hash_14 klX7_319 mvX7_throwsOne (sh_140 hx) rfl rfl rfl rfl (Nat.le_of_ble_eq_true rfl) (Nat.le_of_ble_eq_true rfl) (Nat.le_of_ble_eq_true rfl) (Nat.zero_le _) (Nat.zero_le _) hf sne (fun t e => ctX7_throwsOne hx h z0_14 t e) (fun ⟨t2, h3⟩ hf => ?_)
    refine PW.if_eq cx qX7_hash_17 hf (fun hf => ?_) (fun hf => ?_)
    · refine PW.aload_n cx qX7_hash_24 rfl ?_
      refine PW.iload_n cx qX7_hash_25 rfl ?_
      refine PW.callVRI (As := [.int p1]) (st := []) cx hR qX7_hash_26 klX7_89 mvX7_hashOf (sh_140 hx) rfl rfl rfl rfl (Nat.le_of_ble_eq_true rfl) (Nat.le_of_ble_eq_true rfl) (Nat.le_of_ble_eq_true rfl) (Nat.zero_le _) (Nat.zero_le _) hf sne (fun t e => ctX7_hashOf hx h3 p1 t e) (fun t4 hf => ?_)
      exact PW.iret cx hrt qX7_hash_29 (le_wi hf)
    · refine PW.iconst (v := 0) cx qX7_hash_20 rfl ?_
      refine PW.goto cx qX7_hash_21 ?_
      exact PW.iret cx hrt qX7_hash_29 (le_wi hf)
  refine PW.if_ne cx qX7_hash_6 hf (fun hf => ?_) (fun hf => ?_)
  · refine PW.iconst (v := 1) cx qX7_hash_9 rfl ?_
    refine PW.goto cx qX7_hash_10 ?_
    exact PW.locs (Lsub.keep (Lsub.keep Lsub.nil)) (hj14 true hf)
  · refine PW.iconst (v := 0) cx qX7_hash_13 rfl ?_
    exact PW.locs (Lsub.keep (Lsub.keep Lsub.nil)) (hj14 false hf)
theorem ctX7_fat {g : GT} {ex : Bool} {sh : List Shp} (hx : MSh sh) (h : Hp) (p1 : Int32) (r0 : Int32 × Hp) (hf : M_fat h p1 = some r0) : Ct g mX7_fat 3 0 0 ex [.ref (gB g + 140), .int p1] sh h (PE (some (.int r0.1)) sh r0.2) := by
  refine Ct.of (L := [some (.ref (gB g + 140)), some (.int p1)]) (by decide) (by intro w hw; simp only [List.mem_cons, List.not_mem_nil, or_false] at hw; rcases hw with rfl | rfl <;> rfl) (Nat.le_of_ble_eq_true rfl) rfl (fun X mx => ?_)
  obtain ⟨cx, hR, hml, hrt, -⟩ := mx
  have cx : Cx g X RX7 cX7_fat := cx
  have hrt : X.2.2.2.2.2.2.2.1.sig.returnType = (some .int) := hrt
  unfold M_fat at hf
  refine PW.aload_n cx qX7_fat_0 rfl ?_
  refine PW.iload_n cx qX7_fat_1 rfl ?_
  refine PW.iconst (v := 2) cx qX7_fat_2 rfl ?_
  refine PW.callVWI (As := [.int p1, .int 2]) (st := []) cx hR qX7_fat_3 klX7_356 mvX7_clipTold (sh_140 hx) rfl rfl rfl rfl (Nat.le_of_ble_eq_true rfl) (Nat.le_of_ble_eq_true rfl) (Nat.le_of_ble_eq_true rfl) (Nat.zero_le _) (Nat.zero_le _) hf sne (fun t e => ctX7_clipTold hx h p1 2 t e) (fun ⟨t1, h2⟩ hf => ?_)
  exact PW.iret cx hrt qX7_fat_6 (le_wi hf)
theorem ctX7_reelOf {g : GT} {ex : Bool} {sh : List Shp} (hx : MSh sh) (h : Hp) (p1 : Int32) (r0 : Int32 × Hp) (hf : M_reelOf h p1 = some r0) : Ct g mX7_reelOf 3 0 0 ex [.ref (gB g + 140), .int p1] sh h (PE (some (.int r0.1)) sh r0.2) := by
  refine Ct.of (L := [some (.ref (gB g + 140)), some (.int p1)]) (by decide) (by intro w hw; simp only [List.mem_cons, List.not_mem_nil, or_false] at hw; rcases hw with rfl | rfl <;> rfl) (Nat.le_of_ble_eq_true rfl) rfl (fun X mx => ?_)
  obtain ⟨cx, hR, hml, hrt, -⟩ := mx
  have cx : Cx g X RX7 cX7_reelOf := cx
  have hrt : X.2.2.2.2.2.2.2.1.sig.returnType = (some .int) := hrt
  unfold M_reelOf at hf
  refine PW.aload_n cx qX7_reelOf_0 rfl ?_
  refine PW.aload_n cx qX7_reelOf_1 rfl ?_
  refine PW.iload_n cx qX7_reelOf_2 rfl ?_
  refine PW.callVRB (As := [.int p1]) (st := [.ref (gB g + 140)]) cx hR qX7_reelOf_3 klX7_334 mvX7_isClip (sh_140 hx) rfl rfl rfl rfl (Nat.le_of_ble_eq_true rfl) (Nat.le_of_ble_eq_true rfl) (Nat.le_of_ble_eq_true rfl) (Nat.zero_le _) (Nat.zero_le _) hf sne (fun t e => ctX7_isClip hx h p1 t e) (fun t1 hf => ?_)
  obtain ⟨j14, ej14, hf⟩ := lt_split hf
  have hj14 : ∀ (z0_14 : Bool), j14 z0_14 = some r0 → PW g X ex (QE g X ex (PE (some (.int r0.1)) sh r0.2) 0 0) 0 0 sh h 14 [some (.ref (gB g + 140)), some (.int p1)] [.int (b2i z0_14), .ref (gB g + 140)] := by
    intro z0_14 hf
    rw [ej14] at hf
    refine PW.callVWB (As := [.int (b2i z0_14)]) (st := []) cx hR qX7_reelOf_14 klX7_319 mvX7_throwsOne (sh_140 hx) rfl rfl rfl rfl (Nat.le_of_ble_eq_true rfl) (Nat.le_of_ble_eq_true rfl) (Nat.le_of_ble_eq_true rfl) (Nat.zero_le _) (Nat.zero_le _) hf sne (fun t e => ctX7_throwsOne hx h z0_14 t e) (fun ⟨t2, h3⟩ hf => ?_)
    refine PW.if_eq cx qX7_reelOf_17 hf (fun hf => ?_) (fun hf => ?_)
    · refine PW.aload_n cx qX7_reelOf_24 rfl ?_
      refine PW.iload_n cx qX7_reelOf_25 rfl ?_
      refine PW.callVRI (As := [.int p1]) (st := []) cx hR qX7_reelOf_26 klX7_124 mvX7_reelWith (sh_140 hx) rfl rfl rfl rfl (Nat.le_of_ble_eq_true rfl) (Nat.le_of_ble_eq_true rfl) (Nat.le_of_ble_eq_true rfl) (Nat.zero_le _) (Nat.zero_le _) hf sne (fun t e => ctX7_reelWith hx h3 p1 t e) (fun t4 hf => ?_)
      exact PW.iret cx hrt qX7_reelOf_29 (le_wi hf)
    · refine PW.iconst (v := 0) cx qX7_reelOf_20 rfl ?_
      refine PW.goto cx qX7_reelOf_21 ?_
      exact PW.iret cx hrt qX7_reelOf_29 (le_wi hf)
  refine PW.if_ne cx qX7_reelOf_6 hf (fun hf => ?_) (fun hf => ?_)
  · refine PW.iconst (v := 1) cx qX7_reelOf_9 rfl ?_
    refine PW.goto cx qX7_reelOf_10 ?_
    exact PW.locs (Lsub.keep (Lsub.keep Lsub.nil)) (hj14 true hf)
  · refine PW.iconst (v := 0) cx qX7_reelOf_13 rfl ?_
    exact PW.locs (Lsub.keep (Lsub.keep Lsub.nil)) (hj14 false hf)
theorem ctX7_bedOf {g : GT} {ex : Bool} {sh : List Shp} (hx : MSh sh) (h : Hp) (p1 : Int32) (r0 : Int32 × Hp) (hf : M_bedOf h p1 = some r0) : Ct g mX7_bedOf 3 0 0 ex [.ref (gB g + 140), .int p1] sh h (PE (some (.int r0.1)) sh r0.2) := by
  refine Ct.of (L := [some (.ref (gB g + 140)), some (.int p1), none]) (by decide) (by intro w hw; simp only [List.mem_cons, List.not_mem_nil, or_false] at hw; rcases hw with rfl | rfl <;> rfl) (Nat.le_of_ble_eq_true rfl) rfl (fun X mx => ?_)
  obtain ⟨cx, hR, hml, hrt, -⟩ := mx
  have cx : Cx g X RX7 cX7_bedOf := cx
  have hrt : X.2.2.2.2.2.2.2.1.sig.returnType = (some .int) := hrt
  have hi2 : 2 < X.2.2.2.2.2.2.2.2.maxLocals := by rw [hml]; exact Nat.le_of_ble_eq_true rfl
  unfold M_bedOf at hf
  refine PW.aload_n cx qX7_bedOf_0 rfl ?_
  refine PW.aload_n cx qX7_bedOf_1 rfl ?_
  refine PW.iload_n cx qX7_bedOf_2 rfl ?_
  refine PW.callVRB (As := [.int p1]) (st := [.ref (gB g + 140)]) cx hR qX7_bedOf_3 klX7_334 mvX7_isClip (sh_140 hx) rfl rfl rfl rfl (Nat.le_of_ble_eq_true rfl) (Nat.le_of_ble_eq_true rfl) (Nat.le_of_ble_eq_true rfl) (Nat.zero_le _) (Nat.zero_le _) hf sne (fun t e => ctX7_isClip hx h p1 t e) (fun t1 hf => ?_)
  obtain ⟨j14, ej14, hf⟩ := lt_split hf
  have hj14 : ∀ (z0_14 : Bool), j14 z0_14 = some r0 → PW g X ex (QE g X ex (PE (some (.int r0.1)) sh r0.2) 0 0) 0 0 sh h 14 [some (.ref (gB g + 140)), some (.int p1), none] [.int (b2i z0_14), .ref (gB g + 140)] := by
    intro z0_14 hf
    rw [ej14] at hf
    refine PW.callVWB (As := [.int (b2i z0_14)]) (st := []) cx hR qX7_bedOf_14 klX7_319 mvX7_throwsOne (sh_140 hx) rfl rfl rfl rfl (Nat.le_of_ble_eq_true rfl) (Nat.le_of_ble_eq_true rfl) (Nat.le_of_ble_eq_true rfl) (Nat.zero_le _) (Nat.zero_le _) hf sne (fun t e => ctX7_throwsOne hx h z0_14 t e) (fun ⟨t2, h3⟩ hf => ?_)
    refine PW.if_eq cx qX7_bedOf_17 hf (fun hf => ?_) (fun hf => ?_)
    · refine PW.aload_n cx qX7_bedOf_22 rfl ?_
      refine PW.iload_n cx qX7_bedOf_23 rfl ?_
      refine PW.callVRI (As := [.int p1]) (st := []) cx hR qX7_bedOf_24 klX7_124 mvX7_reelWith (sh_140 hx) rfl rfl rfl rfl (Nat.le_of_ble_eq_true rfl) (Nat.le_of_ble_eq_true rfl) (Nat.le_of_ble_eq_true rfl) (Nat.zero_le _) (Nat.zero_le _) hf sne (fun t e => ctX7_reelWith hx h3 p1 t e) (fun t4 hf => ?_)
      refine PW.istore_n (L' := [some (.ref (gB g + 140)), some (.int p1), some (.int t4)]) cx qX7_bedOf_27 hi2 rfl rfl ?_
      refine PW.iload_n cx qX7_bedOf_28 rfl ?_
      refine PW.iconst (v := (-1)) cx qX7_bedOf_29 rfl ?_
      refine PW.icmp_ne cx qX7_bedOf_30 hf (fun hf => ?_) (fun hf => ?_)
      · refine PW.iconst (v := (-1)) cx qX7_bedOf_33 rfl ?_
        refine PW.goto cx qX7_bedOf_34 ?_
        exact PW.iret cx hrt qX7_bedOf_43 (le_wi hf)
      · refine PW.aload_n cx qX7_bedOf_37 rfl ?_
        refine PW.iload_n cx qX7_bedOf_38 rfl ?_
        refine PW.iload_n cx qX7_bedOf_39 rfl ?_
        refine PW.callVRI (As := [.int p1, .int t4]) (st := []) cx hR qX7_bedOf_40 klX7_105 mvX7_bedWith (sh_140 hx) rfl rfl rfl rfl (Nat.le_of_ble_eq_true rfl) (Nat.le_of_ble_eq_true rfl) (Nat.le_of_ble_eq_true rfl) (Nat.zero_le _) (Nat.zero_le _) hf sne (fun t e => ctX7_bedWith hx h3 p1 t4 t e) (fun t5 hf => ?_)
        exact PW.iret cx hrt qX7_bedOf_43 (le_wi hf)
    · refine PW.iconst (v := 0) cx qX7_bedOf_20 rfl ?_
      exact PW.iret cx hrt qX7_bedOf_21 (le_wi hf)
  refine PW.if_ne cx qX7_bedOf_6 hf (fun hf => ?_) (fun hf => ?_)
  · refine PW.iconst (v := 1) cx qX7_bedOf_9 rfl ?_
    refine PW.goto cx qX7_bedOf_10 ?_
    exact PW.locs (Lsub.keep (Lsub.keep (Lsub.drop Lsub.nil))) (hj14 true hf)
  · refine PW.iconst (v := 0) cx qX7_bedOf_13 rfl ?_
    exact PW.locs (Lsub.keep (Lsub.keep (Lsub.drop Lsub.nil))) (hj14 false hf)
theorem ctX7_sceneOf {g : GT} {ex : Bool} {sh : List Shp} (hx : MSh sh) (h : Hp) (p1 : Int32) (r0 : Int32 × Hp) (hf : M_sceneOf h p1 = some r0) : Ct g mX7_sceneOf 3 0 0 ex [.ref (gB g + 140), .int p1] sh h (PE (some (.int r0.1)) sh r0.2) := by
  refine Ct.of (L := [some (.ref (gB g + 140)), some (.int p1)]) (by decide) (by intro w hw; simp only [List.mem_cons, List.not_mem_nil, or_false] at hw; rcases hw with rfl | rfl <;> rfl) (Nat.le_of_ble_eq_true rfl) rfl (fun X mx => ?_)
  obtain ⟨cx, hR, hml, hrt, -⟩ := mx
  have cx : Cx g X RX7 cX7_sceneOf := cx
  have hrt : X.2.2.2.2.2.2.2.1.sig.returnType = (some .int) := hrt
  unfold M_sceneOf at hf
  refine PW.aload_n cx qX7_sceneOf_0 rfl ?_
  refine PW.iload_n cx qX7_sceneOf_1 rfl ?_
  refine PW.iconst (v := 3) cx qX7_sceneOf_2 rfl ?_
  refine PW.callVWI (As := [.int p1, .int 3]) (st := []) cx hR qX7_sceneOf_3 klX7_356 mvX7_clipTold (sh_140 hx) rfl rfl rfl rfl (Nat.le_of_ble_eq_true rfl) (Nat.le_of_ble_eq_true rfl) (Nat.le_of_ble_eq_true rfl) (Nat.zero_le _) (Nat.zero_le _) hf sne (fun t e => ctX7_clipTold hx h p1 3 t e) (fun ⟨t1, h2⟩ hf => ?_)
  exact PW.iret cx hrt qX7_sceneOf_6 (le_wi hf)
theorem ctX7_commonRun {g : GT} {ex : Bool} {sh : List Shp} (hx : MSh sh) (h : Hp) (p1 : Int32) (p2 : Int32) (r0 : Int32 × Hp) (hf : M_commonRun h p1 p2 = some r0) : Ct g mX7_commonRun 4 0 0 ex [.ref (gB g + 140), .int p1, .int p2] sh h (PE (some (.int r0.1)) sh r0.2) := by
  refine Ct.of (L := [some (.ref (gB g + 140)), some (.int p1), some (.int p2)]) (by decide) (by intro w hw; simp only [List.mem_cons, List.not_mem_nil, or_false] at hw; rcases hw with rfl | rfl | rfl <;> rfl) (Nat.le_of_ble_eq_true rfl) rfl (fun X mx => ?_)
  obtain ⟨cx, hR, hml, hrt, -⟩ := mx
  have cx : Cx g X RX7 cX7_commonRun := cx
  have hrt : X.2.2.2.2.2.2.2.1.sig.returnType = (some .int) := hrt
  unfold M_commonRun at hf
  refine PW.aload_n cx qX7_commonRun_0 rfl ?_
  refine PW.aload_n cx qX7_commonRun_1 rfl ?_
  refine PW.iload_n cx qX7_commonRun_2 rfl ?_
  refine PW.callVRB (As := [.int p1]) (st := [.ref (gB g + 140)]) cx hR qX7_commonRun_3 klX7_334 mvX7_isClip (sh_140 hx) rfl rfl rfl rfl (Nat.le_of_ble_eq_true rfl) (Nat.le_of_ble_eq_true rfl) (Nat.le_of_ble_eq_true rfl) (Nat.zero_le _) (Nat.zero_le _) hf sne (fun t e => ctX7_isClip hx h p1 t e) (fun t1 hf => ?_)
  obtain ⟨j22, ej22, hf⟩ := lt_split hf
  have hj22 : ∀ (z0_22 : Bool), j22 z0_22 = some r0 → PW g X ex (QE g X ex (PE (some (.int r0.1)) sh r0.2) 0 0) 0 0 sh h 22 [some (.ref (gB g + 140)), some (.int p1), some (.int p2)] [.int (b2i z0_22), .ref (gB g + 140)] := by
    intro z0_22 hf
    rw [ej22] at hf
    refine PW.callVWB (As := [.int (b2i z0_22)]) (st := []) cx hR qX7_commonRun_22 klX7_319 mvX7_throwsOne (sh_140 hx) rfl rfl rfl rfl (Nat.le_of_ble_eq_true rfl) (Nat.le_of_ble_eq_true rfl) (Nat.le_of_ble_eq_true rfl) (Nat.zero_le _) (Nat.zero_le _) hf sne (fun t e => ctX7_throwsOne hx h z0_22 t e) (fun ⟨t2, h3⟩ hf => ?_)
    refine PW.if_eq cx qX7_commonRun_25 hf (fun hf => ?_) (fun hf => ?_)
    · refine PW.aload_n cx qX7_commonRun_32 rfl ?_
      refine PW.iload_n cx qX7_commonRun_33 rfl ?_
      refine PW.iload_n cx qX7_commonRun_34 rfl ?_
      refine PW.callVRI (As := [.int p1, .int p2]) (st := []) cx hR qX7_commonRun_35 klX7_359 mvX7_run (sh_140 hx) rfl rfl rfl rfl (Nat.le_of_ble_eq_true rfl) (Nat.le_of_ble_eq_true rfl) (Nat.le_of_ble_eq_true rfl) (Nat.zero_le _) (Nat.zero_le _) hf sne (fun t e => ctX7_run hx h3 p1 p2 t e) (fun t4 hf => ?_)
      exact PW.iret cx hrt qX7_commonRun_38 (le_wi hf)
    · refine PW.iconst (v := 0) cx qX7_commonRun_28 rfl ?_
      refine PW.goto cx qX7_commonRun_29 ?_
      exact PW.iret cx hrt qX7_commonRun_38 (le_wi hf)
  obtain ⟨j17, ej17, hf⟩ := lt_split hf
  have hj17 : ∀ (u_17 : Unit), j17 u_17 = some r0 → PW g X ex (QE g X ex (PE (some (.int r0.1)) sh r0.2) 0 0) 0 0 sh h 17 [some (.ref (gB g + 140)), some (.int p1), some (.int p2)] [.ref (gB g + 140)] := by
    intro u_17 hf
    rw [ej17] at hf
    refine PW.iconst (v := 1) cx qX7_commonRun_17 rfl ?_
    refine PW.goto cx qX7_commonRun_18 ?_
    exact PW.locs (Lsub.keep (Lsub.keep (Lsub.keep Lsub.nil))) (hj22 true hf)
  refine PW.if_eq cx qX7_commonRun_6 hf (fun hf => ?_) (fun hf => ?_)
  · exact PW.locs (Lsub.keep (Lsub.keep (Lsub.keep Lsub.nil))) (hj17 () hf)
  · refine PW.aload_n cx qX7_commonRun_9 rfl ?_
    refine PW.iload_n cx qX7_commonRun_10 rfl ?_
    refine PW.callVRB (As := [.int p2]) (st := [.ref (gB g + 140)]) cx hR qX7_commonRun_11 klX7_334 mvX7_isClip (sh_140 hx) rfl rfl rfl rfl (Nat.le_of_ble_eq_true rfl) (Nat.le_of_ble_eq_true rfl) (Nat.le_of_ble_eq_true rfl) (Nat.zero_le _) (Nat.zero_le _) hf sne (fun t e => ctX7_isClip hx h p2 t e) (fun t5 hf => ?_)
    refine PW.if_ne cx qX7_commonRun_14 hf (fun hf => ?_) (fun hf => ?_)
    · exact PW.locs (Lsub.keep (Lsub.keep (Lsub.keep Lsub.nil))) (hj17 () hf)
    · refine PW.iconst (v := 0) cx qX7_commonRun_21 rfl ?_
      exact PW.locs (Lsub.keep (Lsub.keep (Lsub.keep Lsub.nil))) (hj22 false hf)
theorem lX7_nearestClip_26 {g : GT} {X : XT} {ex : Bool} {sh : List Shp} {post : Option Value → List Shp → Hp → Prop} (mx : Mx g X mX7_nearestClip 4 0 0) (hx : MSh sh) (h : Hp) (c1 : Int32) : ∀ (n : Nat) (v2 : Int32) (v3 : Int32) (r : Int32) (hf : M_nearestClip_L26 h c1 n v2 v3 = some r) (kx : ∀ (x2 : Int32), r = x2 → PW g X ex (QE g X ex post 0 0) 0 0 sh h 69 [some (.ref (gB g + 140)), some (.int c1), some (.int x2), none] []), PW g X ex (QE g X ex post 0 0) 0 0 sh h 26 [some (.ref (gB g + 140)), some (.int c1), some (.int v2), some (.int v3)] [] := by
  have mx0 := mx
  obtain ⟨cx, hR, hml, hrt, -⟩ := mx0
  have cx : Cx g X RX7 cX7_nearestClip := cx
  have hrt : X.2.2.2.2.2.2.2.1.sig.returnType = (some .int) := hrt
  have hi2 : 2 < X.2.2.2.2.2.2.2.2.maxLocals := by rw [hml]; exact Nat.le_of_ble_eq_true rfl
  have hi3 : 3 < X.2.2.2.2.2.2.2.2.maxLocals := by rw [hml]; exact Nat.le_of_ble_eq_true rfl
  intro n
  induction n with
  | zero =>
    intro v2 v3 r hf kx
    cases hf
  | succ n ih =>
    intro v2 v3 r hf kx
    unfold M_nearestClip_L26 at hf
    refine PW.iload_n cx qX7_nearestClip_26 rfl ?_
    refine PW.aload_n cx qX7_nearestClip_27 rfl ?_
    refine PW.getf (t := (2, 141)) (v := .ref (gB g + 141)) cx qX7_nearestClip_28 (sh_140 hx) rfl flX7_7 rfl ?_
    refine PW.iconst (v := 2) cx qX7_nearestClip_31 rfl ?_
    refine PW.iald cx qX7_nearestClip_32 (sh_141 hx) hf sne (fun t4 hf => ?_)
    refine PW.icmp_ge cx qX7_nearestClip_33 hf (fun hf => ?_) (fun hf => ?_)
    · exact PW.locs (Lsub.keep (Lsub.keep (Lsub.keep (Lsub.drop Lsub.nil)))) (kx v2 (Option.some.inj hf).symm)
    · refine PW.iload_n cx qX7_nearestClip_36 rfl ?_
      refine PW.iload_n cx qX7_nearestClip_37 rfl ?_
      refine PW.icmp_eq cx qX7_nearestClip_38 hf (fun hf => ?_) (fun hf => ?_)
      · refine PW.iinc (v := 1) (L' := [some (.ref (gB g + 140)), some (.int c1), some (.int v2), some (.int (v3 + 1))]) cx qX7_nearestClip_63 rfl rfl hi3 rfl rfl ?_
        refine PW.goto cx qX7_nearestClip_66 ?_
        exact PW.locs (Lsub.keep (Lsub.keep (Lsub.keep (Lsub.keep Lsub.nil)))) (ih v2 (v3 + 1) _ hf kx)
      · refine PW.iload_n cx qX7_nearestClip_41 rfl ?_
        refine PW.iconst (v := (-1)) cx qX7_nearestClip_42 rfl ?_
        refine PW.icmp_eq cx qX7_nearestClip_43 hf (fun hf => ?_) (fun hf => ?_)
        · refine PW.iload_n cx qX7_nearestClip_61 rfl ?_
          refine PW.istore_n (L' := [some (.ref (gB g + 140)), some (.int c1), some (.int v3), some (.int v3)]) cx qX7_nearestClip_62 hi2 rfl rfl ?_
          refine PW.iinc (v := 1) (L' := [some (.ref (gB g + 140)), some (.int c1), some (.int v3), some (.int (v3 + 1))]) cx qX7_nearestClip_63 rfl rfl hi3 rfl rfl ?_
          refine PW.goto cx qX7_nearestClip_66 ?_
          exact PW.locs (Lsub.keep (Lsub.keep (Lsub.keep (Lsub.keep Lsub.nil)))) (ih v3 (v3 + 1) _ hf kx)
        · refine PW.aload_n cx qX7_nearestClip_46 rfl ?_
          refine PW.iload_n cx qX7_nearestClip_47 rfl ?_
          refine PW.iload_n cx qX7_nearestClip_48 rfl ?_
          refine PW.callVRI (As := [.int c1, .int v3]) (st := []) cx hR qX7_nearestClip_49 klX7_359 mvX7_run (sh_140 hx) rfl rfl rfl rfl (Nat.le_of_ble_eq_true rfl) (Nat.le_of_ble_eq_true rfl) (Nat.le_of_ble_eq_true rfl) (Nat.zero_le _) (Nat.zero_le _) hf sne (fun t e => ctX7_run hx h c1 v3 t e) (fun t5 hf => ?_)
          refine PW.aload_n cx qX7_nearestClip_52 rfl ?_
          refine PW.iload_n cx qX7_nearestClip_53 rfl ?_
          refine PW.iload_n cx qX7_nearestClip_54 rfl ?_
          refine PW.callVRI (As := [.int c1, .int v2]) (st := [.int t5]) cx hR qX7_nearestClip_55 klX7_359 mvX7_run (sh_140 hx) rfl rfl rfl rfl (Nat.le_of_ble_eq_true rfl) (Nat.le_of_ble_eq_true rfl) (Nat.le_of_ble_eq_true rfl) (Nat.zero_le _) (Nat.zero_le _) hf sne (fun t e => ctX7_run hx h c1 v2 t e) (fun t6 hf => ?_)
          refine PW.icmp_le cx qX7_nearestClip_58 hf (fun hf => ?_) (fun hf => ?_)
          · refine PW.iinc (v := 1) (L' := [some (.ref (gB g + 140)), some (.int c1), some (.int v2), some (.int (v3 + 1))]) cx qX7_nearestClip_63 rfl rfl hi3 rfl rfl ?_
            refine PW.goto cx qX7_nearestClip_66 ?_
            exact PW.locs (Lsub.keep (Lsub.keep (Lsub.keep (Lsub.keep Lsub.nil)))) (ih v2 (v3 + 1) _ hf kx)
          · refine PW.iload_n cx qX7_nearestClip_61 rfl ?_
            refine PW.istore_n (L' := [some (.ref (gB g + 140)), some (.int c1), some (.int v3), some (.int v3)]) cx qX7_nearestClip_62 hi2 rfl rfl ?_
            refine PW.iinc (v := 1) (L' := [some (.ref (gB g + 140)), some (.int c1), some (.int v3), some (.int (v3 + 1))]) cx qX7_nearestClip_63 rfl rfl hi3 rfl rfl ?_
            refine PW.goto cx qX7_nearestClip_66 ?_
            exact PW.locs (Lsub.keep (Lsub.keep (Lsub.keep (Lsub.keep Lsub.nil)))) (ih v3 (v3 + 1) _ hf kx)
theorem ctX7_nearestClip {g : GT} {ex : Bool} {sh : List Shp} (hx : MSh sh) (h : Hp) (p1 : Int32) (r0 : Int32 × Hp) (hf : M_nearestClip h p1 = some r0) : Ct g mX7_nearestClip 4 0 0 ex [.ref (gB g + 140), .int p1] sh h (PE (some (.int r0.1)) sh r0.2) := by
  refine Ct.of (L := [some (.ref (gB g + 140)), some (.int p1), none, none]) (by decide) (by intro w hw; simp only [List.mem_cons, List.not_mem_nil, or_false] at hw; rcases hw with rfl | rfl <;> rfl) (Nat.le_of_ble_eq_true rfl) rfl (fun X mx => ?_)
  have mx0 := mx
  obtain ⟨cx, hR, hml, hrt, -⟩ := mx0
  have cx : Cx g X RX7 cX7_nearestClip := cx
  have hrt : X.2.2.2.2.2.2.2.1.sig.returnType = (some .int) := hrt
  have hi2 : 2 < X.2.2.2.2.2.2.2.2.maxLocals := by rw [hml]; exact Nat.le_of_ble_eq_true rfl
  have hi3 : 3 < X.2.2.2.2.2.2.2.2.maxLocals := by rw [hml]; exact Nat.le_of_ble_eq_true rfl
  unfold M_nearestClip at hf
  refine PW.aload_n cx qX7_nearestClip_0 rfl ?_
  refine PW.aload_n cx qX7_nearestClip_1 rfl ?_
  refine PW.iload_n cx qX7_nearestClip_2 rfl ?_
  refine PW.callVRB (As := [.int p1]) (st := [.ref (gB g + 140)]) cx hR qX7_nearestClip_3 klX7_334 mvX7_isClip (sh_140 hx) rfl rfl rfl rfl (Nat.le_of_ble_eq_true rfl) (Nat.le_of_ble_eq_true rfl) (Nat.le_of_ble_eq_true rfl) (Nat.zero_le _) (Nat.zero_le _) hf sne (fun t e => ctX7_isClip hx h p1 t e) (fun t1 hf => ?_)
  obtain ⟨j14, ej14, hf⟩ := lt_split hf
  have hj14 : ∀ (z0_14 : Bool), j14 z0_14 = some r0 → PW g X ex (QE g X ex (PE (some (.int r0.1)) sh r0.2) 0 0) 0 0 sh h 14 [some (.ref (gB g + 140)), some (.int p1), none, none] [.int (b2i z0_14), .ref (gB g + 140)] := by
    intro z0_14 hf
    rw [ej14] at hf
    refine PW.callVWB (As := [.int (b2i z0_14)]) (st := []) cx hR qX7_nearestClip_14 klX7_319 mvX7_throwsOne (sh_140 hx) rfl rfl rfl rfl (Nat.le_of_ble_eq_true rfl) (Nat.le_of_ble_eq_true rfl) (Nat.le_of_ble_eq_true rfl) (Nat.zero_le _) (Nat.zero_le _) hf sne (fun t e => ctX7_throwsOne hx h z0_14 t e) (fun ⟨t2, h3⟩ hf => ?_)
    refine PW.if_eq cx qX7_nearestClip_17 hf (fun hf => ?_) (fun hf => ?_)
    · refine PW.iconst (v := (-1)) cx qX7_nearestClip_22 rfl ?_
      refine PW.istore_n (L' := [some (.ref (gB g + 140)), some (.int p1), some (.int (-1)), none]) cx qX7_nearestClip_23 hi2 rfl rfl ?_
      refine PW.iconst (v := 0) cx qX7_nearestClip_24 rfl ?_
      refine PW.istore_n (L' := [some (.ref (gB g + 140)), some (.int p1), some (.int (-1)), some (.int 0)]) cx qX7_nearestClip_25 hi3 rfl rfl ?_
      obtain ⟨r7, er7, hf⟩ := bndO hf sne
      refine PW.locs (Lsub.keep (Lsub.keep (Lsub.keep (Lsub.keep Lsub.nil)))) (lX7_nearestClip_26 mx hx h3 p1 FU (-1) 0 r7 er7 (fun xx_ e => ?_))
      subst e
      refine PW.iload_n cx qX7_nearestClip_69 rfl ?_
      exact PW.iret cx hrt qX7_nearestClip_70 (le_wi hf)
    · refine PW.iconst (v := 0) cx qX7_nearestClip_20 rfl ?_
      exact PW.iret cx hrt qX7_nearestClip_21 (le_wi hf)
  refine PW.if_ne cx qX7_nearestClip_6 hf (fun hf => ?_) (fun hf => ?_)
  · refine PW.iconst (v := 1) cx qX7_nearestClip_9 rfl ?_
    refine PW.goto cx qX7_nearestClip_10 ?_
    exact PW.locs (Lsub.keep (Lsub.keep (Lsub.drop (Lsub.drop Lsub.nil)))) (hj14 true hf)
  · refine PW.iconst (v := 0) cx qX7_nearestClip_13 rfl ?_
    exact PW.locs (Lsub.keep (Lsub.keep (Lsub.drop (Lsub.drop Lsub.nil)))) (hj14 false hf)
theorem lX7_twinsOf_26 {g : GT} {X : XT} {ex : Bool} {sh : List Shp} {post : Option Value → List Shp → Hp → Prop} (mx : Mx g X mX7_twinsOf 3 0 0) (hx : MSh sh) (h : Hp) (c1 : Int32) : ∀ (n : Nat) (v2 : Int32) (v3 : Int32) (r : Int32) (hf : M_twinsOf_L26 h c1 n v2 v3 = some r) (kx : ∀ (x2 : Int32), r = x2 → PW g X ex (QE g X ex post 0 0) 0 0 sh h 70 [some (.ref (gB g + 140)), some (.int c1), some (.int x2), none] []), PW g X ex (QE g X ex post 0 0) 0 0 sh h 26 [some (.ref (gB g + 140)), some (.int c1), some (.int v2), some (.int v3)] [] := by
  have mx0 := mx
  obtain ⟨cx, hR, hml, hrt, -⟩ := mx0
  have cx : Cx g X RX7 cX7_twinsOf := cx
  have hrt : X.2.2.2.2.2.2.2.1.sig.returnType = (some .int) := hrt
  have hi2 : 2 < X.2.2.2.2.2.2.2.2.maxLocals := by rw [hml]; exact Nat.le_of_ble_eq_true rfl
  have hi3 : 3 < X.2.2.2.2.2.2.2.2.maxLocals := by rw [hml]; exact Nat.le_of_ble_eq_true rfl
  intro n
  induction n with
  | zero =>
    intro v2 v3 r hf kx
    cases hf
  | succ n ih =>
    intro v2 v3 r hf kx
    unfold M_twinsOf_L26 at hf
    refine PW.iload_n cx qX7_twinsOf_26 rfl ?_
    refine PW.aload_n cx qX7_twinsOf_27 rfl ?_
    refine PW.getf (t := (2, 141)) (v := .ref (gB g + 141)) cx qX7_twinsOf_28 (sh_140 hx) rfl flX7_7 rfl ?_
    refine PW.iconst (v := 2) cx qX7_twinsOf_31 rfl ?_
    refine PW.iald cx qX7_twinsOf_32 (sh_141 hx) hf sne (fun t4 hf => ?_)
    refine PW.icmp_ge cx qX7_twinsOf_33 hf (fun hf => ?_) (fun hf => ?_)
    · exact PW.locs (Lsub.keep (Lsub.keep (Lsub.keep (Lsub.drop Lsub.nil)))) (kx v2 (Option.some.inj hf).symm)
    · refine PW.iload_n cx qX7_twinsOf_36 rfl ?_
      refine PW.iload_n cx qX7_twinsOf_37 rfl ?_
      refine PW.iload_n cx qX7_twinsOf_38 rfl ?_
      refine PW.icmp_eq cx qX7_twinsOf_39 hf (fun hf => ?_) (fun hf => ?_)
      · refine PW.iconst (v := 0) cx qX7_twinsOf_61 rfl ?_
        refine PW.ior cx qX7_twinsOf_62 ?_
        refine PW.istore_n (L' := [some (.ref (gB g + 140)), some (.int c1), some (.int (v2 ||| 0)), some (.int v3)]) cx qX7_twinsOf_63 hi2 rfl rfl ?_
        refine PW.iinc (v := 1) (L' := [some (.ref (gB g + 140)), some (.int c1), some (.int (v2 ||| 0)), some (.int (v3 + 1))]) cx qX7_twinsOf_64 rfl rfl hi3 rfl rfl ?_
        refine PW.goto cx qX7_twinsOf_67 ?_
        exact PW.locs (Lsub.keep (Lsub.keep (Lsub.keep (Lsub.keep Lsub.nil)))) (ih (v2 ||| 0) (v3 + 1) _ hf kx)
      · refine PW.aload_n cx qX7_twinsOf_42 rfl ?_
        refine PW.iload_n cx qX7_twinsOf_43 rfl ?_
        refine PW.callVRI (As := [.int v3]) (st := [.int v2]) cx hR qX7_twinsOf_44 klX7_89 mvX7_hashOf (sh_140 hx) rfl rfl rfl rfl (Nat.le_of_ble_eq_true rfl) (Nat.le_of_ble_eq_true rfl) (Nat.le_of_ble_eq_true rfl) (Nat.zero_le _) (Nat.zero_le _) hf sne (fun t e => ctX7_hashOf hx h v3 t e) (fun t5 hf => ?_)
        refine PW.aload_n cx qX7_twinsOf_47 rfl ?_
        refine PW.iload_n cx qX7_twinsOf_48 rfl ?_
        refine PW.callVRI (As := [.int c1]) (st := [.int t5, .int v2]) cx hR qX7_twinsOf_49 klX7_89 mvX7_hashOf (sh_140 hx) rfl rfl rfl rfl (Nat.le_of_ble_eq_true rfl) (Nat.le_of_ble_eq_true rfl) (Nat.le_of_ble_eq_true rfl) (Nat.zero_le _) (Nat.zero_le _) hf sne (fun t e => ctX7_hashOf hx h c1 t e) (fun t6 hf => ?_)
        refine PW.icmp_ne cx qX7_twinsOf_52 hf (fun hf => ?_) (fun hf => ?_)
        · refine PW.iconst (v := 1) cx qX7_twinsOf_55 rfl ?_
          refine PW.iload_n cx qX7_twinsOf_56 rfl ?_
          refine PW.ishl cx qX7_twinsOf_57 ?_
          refine PW.goto cx qX7_twinsOf_58 ?_
          refine PW.ior cx qX7_twinsOf_62 ?_
          refine PW.istore_n (L' := [some (.ref (gB g + 140)), some (.int c1), some (.int (v2 ||| (1 <<< (v3 &&& 31)))), some (.int v3)]) cx qX7_twinsOf_63 hi2 rfl rfl ?_
          refine PW.iinc (v := 1) (L' := [some (.ref (gB g + 140)), some (.int c1), some (.int (v2 ||| (1 <<< (v3 &&& 31)))), some (.int (v3 + 1))]) cx qX7_twinsOf_64 rfl rfl hi3 rfl rfl ?_
          refine PW.goto cx qX7_twinsOf_67 ?_
          exact PW.locs (Lsub.keep (Lsub.keep (Lsub.keep (Lsub.keep Lsub.nil)))) (ih (v2 ||| (1 <<< (v3 &&& 31))) (v3 + 1) _ hf kx)
        · refine PW.iconst (v := 0) cx qX7_twinsOf_61 rfl ?_
          refine PW.ior cx qX7_twinsOf_62 ?_
          refine PW.istore_n (L' := [some (.ref (gB g + 140)), some (.int c1), some (.int (v2 ||| 0)), some (.int v3)]) cx qX7_twinsOf_63 hi2 rfl rfl ?_
          refine PW.iinc (v := 1) (L' := [some (.ref (gB g + 140)), some (.int c1), some (.int (v2 ||| 0)), some (.int (v3 + 1))]) cx qX7_twinsOf_64 rfl rfl hi3 rfl rfl ?_
          refine PW.goto cx qX7_twinsOf_67 ?_
          exact PW.locs (Lsub.keep (Lsub.keep (Lsub.keep (Lsub.keep Lsub.nil)))) (ih (v2 ||| 0) (v3 + 1) _ hf kx)
theorem ctX7_twinsOf {g : GT} {ex : Bool} {sh : List Shp} (hx : MSh sh) (h : Hp) (p1 : Int32) (r0 : Int32 × Hp) (hf : M_twinsOf h p1 = some r0) : Ct g mX7_twinsOf 3 0 0 ex [.ref (gB g + 140), .int p1] sh h (PE (some (.int r0.1)) sh r0.2) := by
  refine Ct.of (L := [some (.ref (gB g + 140)), some (.int p1), none, none]) (by decide) (by intro w hw; simp only [List.mem_cons, List.not_mem_nil, or_false] at hw; rcases hw with rfl | rfl <;> rfl) (Nat.le_of_ble_eq_true rfl) rfl (fun X mx => ?_)
  have mx0 := mx
  obtain ⟨cx, hR, hml, hrt, -⟩ := mx0
  have cx : Cx g X RX7 cX7_twinsOf := cx
  have hrt : X.2.2.2.2.2.2.2.1.sig.returnType = (some .int) := hrt
  have hi2 : 2 < X.2.2.2.2.2.2.2.2.maxLocals := by rw [hml]; exact Nat.le_of_ble_eq_true rfl
  have hi3 : 3 < X.2.2.2.2.2.2.2.2.maxLocals := by rw [hml]; exact Nat.le_of_ble_eq_true rfl
  unfold M_twinsOf at hf
  refine PW.aload_n cx qX7_twinsOf_0 rfl ?_
  refine PW.aload_n cx qX7_twinsOf_1 rfl ?_
  refine PW.iload_n cx qX7_twinsOf_2 rfl ?_
  refine PW.callVRB (As := [.int p1]) (st := [.ref (gB g + 140)]) cx hR qX7_twinsOf_3 klX7_334 mvX7_isClip (sh_140 hx) rfl rfl rfl rfl (Nat.le_of_ble_eq_true rfl) (Nat.le_of_ble_eq_true rfl) (Nat.le_of_ble_eq_true rfl) (Nat.zero_le _) (Nat.zero_le _) hf sne (fun t e => ctX7_isClip hx h p1 t e) (fun t1 hf => ?_)
  obtain ⟨j14, ej14, hf⟩ := lt_split hf
  have hj14 : ∀ (z0_14 : Bool), j14 z0_14 = some r0 → PW g X ex (QE g X ex (PE (some (.int r0.1)) sh r0.2) 0 0) 0 0 sh h 14 [some (.ref (gB g + 140)), some (.int p1), none, none] [.int (b2i z0_14), .ref (gB g + 140)] := by
    intro z0_14 hf
    rw [ej14] at hf
    refine PW.callVWB (As := [.int (b2i z0_14)]) (st := []) cx hR qX7_twinsOf_14 klX7_319 mvX7_throwsOne (sh_140 hx) rfl rfl rfl rfl (Nat.le_of_ble_eq_true rfl) (Nat.le_of_ble_eq_true rfl) (Nat.le_of_ble_eq_true rfl) (Nat.zero_le _) (Nat.zero_le _) hf sne (fun t e => ctX7_throwsOne hx h z0_14 t e) (fun ⟨t2, h3⟩ hf => ?_)
    refine PW.if_eq cx qX7_twinsOf_17 hf (fun hf => ?_) (fun hf => ?_)
    · refine PW.iconst (v := 0) cx qX7_twinsOf_22 rfl ?_
      refine PW.istore_n (L' := [some (.ref (gB g + 140)), some (.int p1), some (.int 0), none]) cx qX7_twinsOf_23 hi2 rfl rfl ?_
      refine PW.iconst (v := 0) cx qX7_twinsOf_24 rfl ?_
      refine PW.istore_n (L' := [some (.ref (gB g + 140)), some (.int p1), some (.int 0), some (.int 0)]) cx qX7_twinsOf_25 hi3 rfl rfl ?_
      obtain ⟨r7, er7, hf⟩ := bndO hf sne
      refine PW.locs (Lsub.keep (Lsub.keep (Lsub.keep (Lsub.keep Lsub.nil)))) (lX7_twinsOf_26 mx hx h3 p1 FU 0 0 r7 er7 (fun xx_ e => ?_))
      subst e
      refine PW.iload_n cx qX7_twinsOf_70 rfl ?_
      exact PW.iret cx hrt qX7_twinsOf_71 (le_wi hf)
    · refine PW.iconst (v := 0) cx qX7_twinsOf_20 rfl ?_
      exact PW.iret cx hrt qX7_twinsOf_21 (le_wi hf)
  refine PW.if_ne cx qX7_twinsOf_6 hf (fun hf => ?_) (fun hf => ?_)
  · refine PW.iconst (v := 1) cx qX7_twinsOf_9 rfl ?_
    refine PW.goto cx qX7_twinsOf_10 ?_
    exact PW.locs (Lsub.keep (Lsub.keep (Lsub.drop (Lsub.drop Lsub.nil)))) (hj14 true hf)
  · refine PW.iconst (v := 0) cx qX7_twinsOf_13 rfl ?_
    exact PW.locs (Lsub.keep (Lsub.keep (Lsub.drop (Lsub.drop Lsub.nil)))) (hj14 false hf)
theorem ctX7_weeksToFade {g : GT} {ex : Bool} {sh : List Shp} (hx : MSh sh) (h : Hp) (p1 : Int32) (r0 : Int32 × Hp) (hf : M_weeksToFade h p1 = some r0) : Ct g mX7_weeksToFade 2 0 0 ex [.ref (gB g + 140), .int p1] sh h (PE (some (.int r0.1)) sh r0.2) := by
  refine Ct.of (L := [some (.ref (gB g + 140)), some (.int p1)]) (by decide) (by intro w hw; simp only [List.mem_cons, List.not_mem_nil, or_false] at hw; rcases hw with rfl | rfl <;> rfl) (Nat.le_of_ble_eq_true rfl) rfl (fun X mx => ?_)
  obtain ⟨cx, hR, hml, hrt, -⟩ := mx
  have cx : Cx g X RX7 cX7_weeksToFade := cx
  have hrt : X.2.2.2.2.2.2.2.1.sig.returnType = (some .int) := hrt
  unfold M_weeksToFade at hf
  refine PW.aload_n cx qX7_weeksToFade_0 rfl ?_
  refine PW.aload_n cx qX7_weeksToFade_1 rfl ?_
  refine PW.iload_n cx qX7_weeksToFade_2 rfl ?_
  refine PW.callVRB (As := [.int p1]) (st := [.ref (gB g + 140)]) cx hR qX7_weeksToFade_3 klX7_334 mvX7_isClip (sh_140 hx) rfl rfl rfl rfl (Nat.le_of_ble_eq_true rfl) (Nat.le_of_ble_eq_true rfl) (Nat.le_of_ble_eq_true rfl) (Nat.zero_le _) (Nat.zero_le _) hf sne (fun t e => ctX7_isClip hx h p1 t e) (fun t1 hf => ?_)
  obtain ⟨j14, ej14, hf⟩ := lt_split hf
  have hj14 : ∀ (z0_14 : Bool), j14 z0_14 = some r0 → PW g X ex (QE g X ex (PE (some (.int r0.1)) sh r0.2) 0 0) 0 0 sh h 14 [some (.ref (gB g + 140)), some (.int p1)] [.int (b2i z0_14), .ref (gB g + 140)] := by
    intro z0_14 hf
    rw [ej14] at hf
    refine PW.callVWB (As := [.int (b2i z0_14)]) (st := []) cx hR qX7_weeksToFade_14 klX7_319 mvX7_throwsOne (sh_140 hx) rfl rfl rfl rfl (Nat.le_of_ble_eq_true rfl) (Nat.le_of_ble_eq_true rfl) (Nat.le_of_ble_eq_true rfl) (Nat.zero_le _) (Nat.zero_le _) hf sne (fun t e => ctX7_throwsOne hx h z0_14 t e) (fun ⟨t2, h3⟩ hf => ?_)
    refine PW.if_ne cx qX7_weeksToFade_17 hf (fun hf => ?_) (fun hf => ?_)
    · refine PW.aload_n cx qX7_weeksToFade_20 rfl ?_
      refine PW.iload_n cx qX7_weeksToFade_21 rfl ?_
      refine PW.iconst (v := 1) cx qX7_weeksToFade_22 rfl ?_
      refine PW.callVRI (As := [.int p1, .int 1]) (st := []) cx hR qX7_weeksToFade_23 klX7_70 mvX7_of (sh_140 hx) rfl rfl rfl rfl (Nat.le_of_ble_eq_true rfl) (Nat.le_of_ble_eq_true rfl) (Nat.le_of_ble_eq_true rfl) (Nat.zero_le _) (Nat.zero_le _) hf sne (fun t e => ctX7_of hx h3 p1 1 t e) (fun t4 hf => ?_)
      refine PW.iconst (v := 2) cx qX7_weeksToFade_26 rfl ?_
      refine PW.icmp_ne cx qX7_weeksToFade_27 hf (fun hf => ?_) (fun hf => ?_)
      · refine PW.iconst (v := 0) cx qX7_weeksToFade_30 rfl ?_
        exact PW.iret cx hrt qX7_weeksToFade_31 (le_wi hf)
      · refine PW.aload_n cx qX7_weeksToFade_32 rfl ?_
        refine PW.iload_n cx qX7_weeksToFade_33 rfl ?_
        refine PW.iconst (v := 1) cx qX7_weeksToFade_34 rfl ?_
        refine PW.callVRI (As := [.int p1, .int 1]) (st := []) cx hR qX7_weeksToFade_35 klX7_70 mvX7_of (sh_140 hx) rfl rfl rfl rfl (Nat.le_of_ble_eq_true rfl) (Nat.le_of_ble_eq_true rfl) (Nat.le_of_ble_eq_true rfl) (Nat.zero_le _) (Nat.zero_le _) hf sne (fun t e => ctX7_of hx h3 p1 1 t e) (fun t5 hf => ?_)
        refine PW.iconst (v := 1) cx qX7_weeksToFade_38 rfl ?_
        refine PW.icmp_ne cx qX7_weeksToFade_39 hf (fun hf => ?_) (fun hf => ?_)
        · refine PW.aload_n cx qX7_weeksToFade_42 rfl ?_
          refine PW.iload_n cx qX7_weeksToFade_43 rfl ?_
          refine PW.iconst (v := 2) cx qX7_weeksToFade_44 rfl ?_
          refine PW.callVRI (As := [.int p1, .int 2]) (st := []) cx hR qX7_weeksToFade_45 klX7_70 mvX7_of (sh_140 hx) rfl rfl rfl rfl (Nat.le_of_ble_eq_true rfl) (Nat.le_of_ble_eq_true rfl) (Nat.le_of_ble_eq_true rfl) (Nat.zero_le _) (Nat.zero_le _) hf sne (fun t e => ctX7_of hx h3 p1 2 t e) (fun t6 hf => ?_)
          refine PW.goto cx qX7_weeksToFade_48 ?_
          exact PW.iret cx hrt qX7_weeksToFade_61 (le_wi hf)
        · refine PW.aload_n cx qX7_weeksToFade_51 rfl ?_
          refine PW.iload_n cx qX7_weeksToFade_52 rfl ?_
          refine PW.iconst (v := 2) cx qX7_weeksToFade_53 rfl ?_
          refine PW.callVRI (As := [.int p1, .int 2]) (st := []) cx hR qX7_weeksToFade_54 klX7_70 mvX7_of (sh_140 hx) rfl rfl rfl rfl (Nat.le_of_ble_eq_true rfl) (Nat.le_of_ble_eq_true rfl) (Nat.le_of_ble_eq_true rfl) (Nat.zero_le _) (Nat.zero_le _) hf sne (fun t e => ctX7_of hx h3 p1 2 t e) (fun t7 hf => ?_)
          refine PW.iconst (v := 3) cx qX7_weeksToFade_57 rfl ?_
          refine PW.iadd cx qX7_weeksToFade_58 ?_
          refine PW.iconst (v := 4) cx qX7_weeksToFade_59 rfl ?_
          refine PW.idivK cx qX7_weeksToFade_60 (by decide) ?_
          exact PW.iret cx hrt qX7_weeksToFade_61 (le_wi hf)
    · refine PW.iconst (v := 0) cx qX7_weeksToFade_30 rfl ?_
      exact PW.iret cx hrt qX7_weeksToFade_31 (le_wi hf)
  refine PW.if_ne cx qX7_weeksToFade_6 hf (fun hf => ?_) (fun hf => ?_)
  · refine PW.iconst (v := 1) cx qX7_weeksToFade_9 rfl ?_
    refine PW.goto cx qX7_weeksToFade_10 ?_
    exact PW.locs (Lsub.keep (Lsub.keep Lsub.nil)) (hj14 true hf)
  · refine PW.iconst (v := 0) cx qX7_weeksToFade_13 rfl ?_
    exact PW.locs (Lsub.keep (Lsub.keep Lsub.nil)) (hj14 false hf)
theorem ctX7_bedCount {g : GT} {ex : Bool} {sh : List Shp} (hx : MSh sh) (h : Hp) (p1 : Int32) (r0 : Int32 × Hp) (hf : M_bedCount h p1 = some r0) : Ct g mX7_bedCount 2 0 0 ex [.ref (gB g + 140), .int p1] sh h (PE (some (.int r0.1)) sh r0.2) := by
  refine Ct.of (L := [some (.ref (gB g + 140)), some (.int p1)]) (by decide) (by intro w hw; simp only [List.mem_cons, List.not_mem_nil, or_false] at hw; rcases hw with rfl | rfl <;> rfl) (Nat.le_of_ble_eq_true rfl) rfl (fun X mx => ?_)
  obtain ⟨cx, hR, hml, hrt, -⟩ := mx
  have cx : Cx g X RX7 cX7_bedCount := cx
  have hrt : X.2.2.2.2.2.2.2.1.sig.returnType = (some .int) := hrt
  unfold M_bedCount at hf
  refine PW.aload_n cx qX7_bedCount_0 rfl ?_
  refine PW.aload_n cx qX7_bedCount_1 rfl ?_
  refine PW.iload_n cx qX7_bedCount_2 rfl ?_
  refine PW.callVRB (As := [.int p1]) (st := [.ref (gB g + 140)]) cx hR qX7_bedCount_3 klX7_337 mvX7_isReel (sh_140 hx) rfl rfl rfl rfl (Nat.le_of_ble_eq_true rfl) (Nat.le_of_ble_eq_true rfl) (Nat.le_of_ble_eq_true rfl) (Nat.zero_le _) (Nat.zero_le _) hf sne (fun t e => ctX7_isReel hx h p1 t e) (fun t1 hf => ?_)
  obtain ⟨j14, ej14, hf⟩ := lt_split hf
  have hj14 : ∀ (z0_14 : Bool), j14 z0_14 = some r0 → PW g X ex (QE g X ex (PE (some (.int r0.1)) sh r0.2) 0 0) 0 0 sh h 14 [some (.ref (gB g + 140)), some (.int p1)] [.int (b2i z0_14), .ref (gB g + 140)] := by
    intro z0_14 hf
    rw [ej14] at hf
    refine PW.callVWB (As := [.int (b2i z0_14)]) (st := []) cx hR qX7_bedCount_14 klX7_319 mvX7_throwsOne (sh_140 hx) rfl rfl rfl rfl (Nat.le_of_ble_eq_true rfl) (Nat.le_of_ble_eq_true rfl) (Nat.le_of_ble_eq_true rfl) (Nat.zero_le _) (Nat.zero_le _) hf sne (fun t e => ctX7_throwsOne hx h z0_14 t e) (fun ⟨t2, h3⟩ hf => ?_)
    refine PW.if_eq cx qX7_bedCount_17 hf (fun hf => ?_) (fun hf => ?_)
    · refine PW.aload_n cx qX7_bedCount_24 rfl ?_
      refine PW.iload_n cx qX7_bedCount_25 rfl ?_
      refine PW.callVRI (As := [.int p1]) (st := []) cx hR qX7_bedCount_26 klX7_92 mvX7_beds (sh_140 hx) rfl rfl rfl rfl (Nat.le_of_ble_eq_true rfl) (Nat.le_of_ble_eq_true rfl) (Nat.le_of_ble_eq_true rfl) (Nat.zero_le _) (Nat.zero_le _) hf sne (fun t e => ctX7_beds hx h3 p1 t e) (fun t4 hf => ?_)
      exact PW.iret cx hrt qX7_bedCount_29 (le_wi hf)
    · refine PW.iconst (v := 0) cx qX7_bedCount_20 rfl ?_
      refine PW.goto cx qX7_bedCount_21 ?_
      exact PW.iret cx hrt qX7_bedCount_29 (le_wi hf)
  refine PW.if_ne cx qX7_bedCount_6 hf (fun hf => ?_) (fun hf => ?_)
  · refine PW.iconst (v := 1) cx qX7_bedCount_9 rfl ?_
    refine PW.goto cx qX7_bedCount_10 ?_
    exact PW.locs (Lsub.keep (Lsub.keep Lsub.nil)) (hj14 true hf)
  · refine PW.iconst (v := 0) cx qX7_bedCount_13 rfl ?_
    exact PW.locs (Lsub.keep (Lsub.keep Lsub.nil)) (hj14 false hf)
theorem ctX7_bed {g : GT} {ex : Bool} {sh : List Shp} (hx : MSh sh) (h : Hp) (p1 : Int32) (p2 : Int32) (r0 : Int32 × Hp) (hf : M_bed h p1 p2 = some r0) : Ct g mX7_bed 2 0 0 ex [.ref (gB g + 140), .int p1, .int p2] sh h (PE (some (.int r0.1)) sh r0.2) := by
  refine Ct.of (L := [some (.ref (gB g + 140)), some (.int p1), some (.int p2)]) (by decide) (by intro w hw; simp only [List.mem_cons, List.not_mem_nil, or_false] at hw; rcases hw with rfl | rfl | rfl <;> rfl) (Nat.le_of_ble_eq_true rfl) rfl (fun X mx => ?_)
  obtain ⟨cx, hR, hml, hrt, -⟩ := mx
  have cx : Cx g X RX7 cX7_bed := cx
  have hrt : X.2.2.2.2.2.2.2.1.sig.returnType = (some .int) := hrt
  unfold M_bed at hf
  refine PW.aload_n cx qX7_bed_0 rfl ?_
  refine PW.aload_n cx qX7_bed_1 rfl ?_
  refine PW.iload_n cx qX7_bed_2 rfl ?_
  refine PW.callVRB (As := [.int p1]) (st := [.ref (gB g + 140)]) cx hR qX7_bed_3 klX7_337 mvX7_isReel (sh_140 hx) rfl rfl rfl rfl (Nat.le_of_ble_eq_true rfl) (Nat.le_of_ble_eq_true rfl) (Nat.le_of_ble_eq_true rfl) (Nat.zero_le _) (Nat.zero_le _) hf sne (fun t e => ctX7_isReel hx h p1 t e) (fun t1 hf => ?_)
  obtain ⟨j29, ej29, hf⟩ := lt_split hf
  have hj29 : ∀ (z0_29 : Bool), j29 z0_29 = some r0 → PW g X ex (QE g X ex (PE (some (.int r0.1)) sh r0.2) 0 0) 0 0 sh h 29 [some (.ref (gB g + 140)), some (.int p1), some (.int p2)] [.int (b2i z0_29), .ref (gB g + 140)] := by
    intro z0_29 hf
    rw [ej29] at hf
    refine PW.callVWB (As := [.int (b2i z0_29)]) (st := []) cx hR qX7_bed_29 klX7_319 mvX7_throwsOne (sh_140 hx) rfl rfl rfl rfl (Nat.le_of_ble_eq_true rfl) (Nat.le_of_ble_eq_true rfl) (Nat.le_of_ble_eq_true rfl) (Nat.zero_le _) (Nat.zero_le _) hf sne (fun t e => ctX7_throwsOne hx h z0_29 t e) (fun ⟨t2, h3⟩ hf => ?_)
    refine PW.if_eq cx qX7_bed_32 hf (fun hf => ?_) (fun hf => ?_)
    · refine PW.aload_n cx qX7_bed_39 rfl ?_
      refine PW.iload_n cx qX7_bed_40 rfl ?_
      refine PW.iload_n cx qX7_bed_41 rfl ?_
      refine PW.callVRI (As := [.int p1, .int p2]) (st := []) cx hR qX7_bed_42 klX7_102 mvX7_inBed (sh_140 hx) rfl rfl rfl rfl (Nat.le_of_ble_eq_true rfl) (Nat.le_of_ble_eq_true rfl) (Nat.le_of_ble_eq_true rfl) (Nat.zero_le _) (Nat.zero_le _) hf sne (fun t e => ctX7_inBed hx h3 p1 p2 t e) (fun t4 hf => ?_)
      exact PW.iret cx hrt qX7_bed_45 (le_wi hf)
    · refine PW.iconst (v := 0) cx qX7_bed_35 rfl ?_
      refine PW.goto cx qX7_bed_36 ?_
      exact PW.iret cx hrt qX7_bed_45 (le_wi hf)
  obtain ⟨j24, ej24, hf⟩ := lt_split hf
  have hj24 : ∀ (u_24 : Unit), j24 u_24 = some r0 → PW g X ex (QE g X ex (PE (some (.int r0.1)) sh r0.2) 0 0) 0 0 sh h 24 [some (.ref (gB g + 140)), some (.int p1), some (.int p2)] [.ref (gB g + 140)] := by
    intro u_24 hf
    rw [ej24] at hf
    refine PW.iconst (v := 1) cx qX7_bed_24 rfl ?_
    refine PW.goto cx qX7_bed_25 ?_
    exact PW.locs (Lsub.keep (Lsub.keep (Lsub.keep Lsub.nil))) (hj29 true hf)
  refine PW.if_eq cx qX7_bed_6 hf (fun hf => ?_) (fun hf => ?_)
  · exact PW.locs (Lsub.keep (Lsub.keep (Lsub.keep Lsub.nil))) (hj24 () hf)
  · refine PW.iload_n cx qX7_bed_9 rfl ?_
    refine PW.iconst (v := 0) cx qX7_bed_10 rfl ?_
    refine PW.aload_n cx qX7_bed_11 rfl ?_
    refine PW.iload_n cx qX7_bed_12 rfl ?_
    refine PW.callVRI (As := [.int p1]) (st := [.int 0, .int p2, .ref (gB g + 140)]) cx hR qX7_bed_13 klX7_92 mvX7_beds (sh_140 hx) rfl rfl rfl rfl (Nat.le_of_ble_eq_true rfl) (Nat.le_of_ble_eq_true rfl) (Nat.le_of_ble_eq_true rfl) (Nat.zero_le _) (Nat.zero_le _) hf sne (fun t e => ctX7_beds hx h p1 t e) (fun t5 hf => ?_)
    refine PW.iconst (v := 1) cx qX7_bed_16 rfl ?_
    refine PW.isub cx qX7_bed_17 ?_
    refine PW.callSRB (As := [.int p2, .int 0, .int (t5 - 1)]) (st := [.ref (gB g + 140)]) cx hR qX7_bed_18 klX7_57 miX7_in rfl rfl (Nat.le_of_ble_eq_true rfl) (Nat.le_of_ble_eq_true rfl) (Nat.le_of_ble_eq_true rfl) (Nat.zero_le _) (Nat.zero_le _) hf sne (fun t e => ctX7_in h p2 0 (t5 - 1) t e) (fun t6 hf => ?_)
    refine PW.if_ne cx qX7_bed_21 hf (fun hf => ?_) (fun hf => ?_)
    · exact PW.locs (Lsub.keep (Lsub.keep (Lsub.keep Lsub.nil))) (hj24 () hf)
    · refine PW.iconst (v := 0) cx qX7_bed_28 rfl ?_
      exact PW.locs (Lsub.keep (Lsub.keep (Lsub.keep Lsub.nil))) (hj29 false hf)
theorem ctX7_sleepers {g : GT} {ex : Bool} {sh : List Shp} (hx : MSh sh) (h : Hp) (p1 : Int32) (r0 : Int32 × Hp) (hf : M_sleepers h p1 = some r0) : Ct g mX7_sleepers 2 0 0 ex [.ref (gB g + 140), .int p1] sh h (PE (some (.int r0.1)) sh r0.2) := by
  refine Ct.of (L := [some (.ref (gB g + 140)), some (.int p1)]) (by decide) (by intro w hw; simp only [List.mem_cons, List.not_mem_nil, or_false] at hw; rcases hw with rfl | rfl <;> rfl) (Nat.le_of_ble_eq_true rfl) rfl (fun X mx => ?_)
  obtain ⟨cx, hR, hml, hrt, -⟩ := mx
  have cx : Cx g X RX7 cX7_sleepers := cx
  have hrt : X.2.2.2.2.2.2.2.1.sig.returnType = (some .int) := hrt
  unfold M_sleepers at hf
  refine PW.aload_n cx qX7_sleepers_0 rfl ?_
  refine PW.aload_n cx qX7_sleepers_1 rfl ?_
  refine PW.iload_n cx qX7_sleepers_2 rfl ?_
  refine PW.callVRB (As := [.int p1]) (st := [.ref (gB g + 140)]) cx hR qX7_sleepers_3 klX7_337 mvX7_isReel (sh_140 hx) rfl rfl rfl rfl (Nat.le_of_ble_eq_true rfl) (Nat.le_of_ble_eq_true rfl) (Nat.le_of_ble_eq_true rfl) (Nat.zero_le _) (Nat.zero_le _) hf sne (fun t e => ctX7_isReel hx h p1 t e) (fun t1 hf => ?_)
  obtain ⟨j14, ej14, hf⟩ := lt_split hf
  have hj14 : ∀ (z0_14 : Bool), j14 z0_14 = some r0 → PW g X ex (QE g X ex (PE (some (.int r0.1)) sh r0.2) 0 0) 0 0 sh h 14 [some (.ref (gB g + 140)), some (.int p1)] [.int (b2i z0_14), .ref (gB g + 140)] := by
    intro z0_14 hf
    rw [ej14] at hf
    refine PW.callVWB (As := [.int (b2i z0_14)]) (st := []) cx hR qX7_sleepers_14 klX7_319 mvX7_throwsOne (sh_140 hx) rfl rfl rfl rfl (Nat.le_of_ble_eq_true rfl) (Nat.le_of_ble_eq_true rfl) (Nat.le_of_ble_eq_true rfl) (Nat.zero_le _) (Nat.zero_le _) hf sne (fun t e => ctX7_throwsOne hx h z0_14 t e) (fun ⟨t2, h3⟩ hf => ?_)
    refine PW.if_eq cx qX7_sleepers_17 hf (fun hf => ?_) (fun hf => ?_)
    · refine PW.aload_n cx qX7_sleepers_24 rfl ?_
      refine PW.iload_n cx qX7_sleepers_25 rfl ?_
      refine PW.callVRI (As := [.int p1]) (st := []) cx hR qX7_sleepers_26 klX7_111 mvX7_sleepersIn (sh_140 hx) rfl rfl rfl rfl (Nat.le_of_ble_eq_true rfl) (Nat.le_of_ble_eq_true rfl) (Nat.le_of_ble_eq_true rfl) (Nat.zero_le _) (Nat.zero_le _) hf sne (fun t e => ctX7_sleepersIn hx h3 p1 t e) (fun t4 hf => ?_)
      exact PW.iret cx hrt qX7_sleepers_29 (le_wi hf)
    · refine PW.iconst (v := 0) cx qX7_sleepers_20 rfl ?_
      refine PW.goto cx qX7_sleepers_21 ?_
      exact PW.iret cx hrt qX7_sleepers_29 (le_wi hf)
  refine PW.if_ne cx qX7_sleepers_6 hf (fun hf => ?_) (fun hf => ?_)
  · refine PW.iconst (v := 1) cx qX7_sleepers_9 rfl ?_
    refine PW.goto cx qX7_sleepers_10 ?_
    exact PW.locs (Lsub.keep (Lsub.keep Lsub.nil)) (hj14 true hf)
  · refine PW.iconst (v := 0) cx qX7_sleepers_13 rfl ?_
    exact PW.locs (Lsub.keep (Lsub.keep Lsub.nil)) (hj14 false hf)
theorem ctX7_throwsPair {g : GT} {ex : Bool} {sh : List Shp} (hx : MSh sh) (h : Hp) (p1 : Int32) (p2 : Int32) (r0 : Bool × Hp) (hf : M_throwsPair h p1 p2 = some r0) : Ct g mX7_throwsPair 2 0 0 ex [.ref (gB g + 140), .int p1, .int p2] sh h (PE (some (.int (b2i r0.1))) sh r0.2) := by
  refine Ct.of (L := [some (.ref (gB g + 140)), some (.int p1), some (.int p2)]) (by decide) (by intro w hw; simp only [List.mem_cons, List.not_mem_nil, or_false] at hw; rcases hw with rfl | rfl | rfl <;> rfl) (Nat.le_of_ble_eq_true rfl) rfl (fun X mx => ?_)
  obtain ⟨cx, hR, hml, hrt, -⟩ := mx
  have cx : Cx g X RX7 cX7_throwsPair := cx
  have hrt : X.2.2.2.2.2.2.2.1.sig.returnType = (some .boolean) := hrt
  unfold M_throwsPair at hf
  refine PW.aload_n cx qX7_throwsPair_0 rfl ?_
  refine PW.aload_n cx qX7_throwsPair_1 rfl ?_
  refine PW.iload_n cx qX7_throwsPair_2 rfl ?_
  refine PW.callVRB (As := [.int p1]) (st := [.ref (gB g + 140)]) cx hR qX7_throwsPair_3 klX7_334 mvX7_isClip (sh_140 hx) rfl rfl rfl rfl (Nat.le_of_ble_eq_true rfl) (Nat.le_of_ble_eq_true rfl) (Nat.le_of_ble_eq_true rfl) (Nat.zero_le _) (Nat.zero_le _) hf sne (fun t e => ctX7_isClip hx h p1 t e) (fun t1 hf => ?_)
  refine PW.if_eq cx qX7_throwsPair_6 hf (fun hf => ?_) (fun hf => ?_)
  · refine PW.iconst (v := 1) cx qX7_throwsPair_17 rfl ?_
    refine PW.goto cx qX7_throwsPair_18 ?_
    refine PW.callVWB (As := [.int 1]) (st := []) cx hR qX7_throwsPair_22 klX7_319 mvX7_throwsOne (sh_140 hx) rfl rfl rfl rfl (Nat.le_of_ble_eq_true rfl) (Nat.le_of_ble_eq_true rfl) (Nat.le_of_ble_eq_true rfl) (Nat.zero_le _) (Nat.zero_le _) hf sne (fun t e => ctX7_throwsOne hx h true t e) (fun ⟨t2, h3⟩ hf => ?_)
    exact PW.zret cx hrt (nbb _) qX7_throwsPair_25 (le_wz hf)
  · refine PW.aload_n cx qX7_throwsPair_9 rfl ?_
    refine PW.iload_n cx qX7_throwsPair_10 rfl ?_
    refine PW.callVRB (As := [.int p2]) (st := [.ref (gB g + 140)]) cx hR qX7_throwsPair_11 klX7_337 mvX7_isReel (sh_140 hx) rfl rfl rfl rfl (Nat.le_of_ble_eq_true rfl) (Nat.le_of_ble_eq_true rfl) (Nat.le_of_ble_eq_true rfl) (Nat.zero_le _) (Nat.zero_le _) hf sne (fun t e => ctX7_isReel hx h p2 t e) (fun t4 hf => ?_)
    refine PW.if_ne cx qX7_throwsPair_14 hf (fun hf => ?_) (fun hf => ?_)
    · refine PW.iconst (v := 1) cx qX7_throwsPair_17 rfl ?_
      refine PW.goto cx qX7_throwsPair_18 ?_
      refine PW.callVWB (As := [.int 1]) (st := []) cx hR qX7_throwsPair_22 klX7_319 mvX7_throwsOne (sh_140 hx) rfl rfl rfl rfl (Nat.le_of_ble_eq_true rfl) (Nat.le_of_ble_eq_true rfl) (Nat.le_of_ble_eq_true rfl) (Nat.zero_le _) (Nat.zero_le _) hf sne (fun t e => ctX7_throwsOne hx h true t e) (fun ⟨t5, h6⟩ hf => ?_)
      exact PW.zret cx hrt (nbb _) qX7_throwsPair_25 (le_wz hf)
    · refine PW.iconst (v := 0) cx qX7_throwsPair_21 rfl ?_
      refine PW.callVWB (As := [.int 0]) (st := []) cx hR qX7_throwsPair_22 klX7_319 mvX7_throwsOne (sh_140 hx) rfl rfl rfl rfl (Nat.le_of_ble_eq_true rfl) (Nat.le_of_ble_eq_true rfl) (Nat.le_of_ble_eq_true rfl) (Nat.zero_le _) (Nat.zero_le _) hf sne (fun t e => ctX7_throwsOne hx h false t e) (fun ⟨t7, h8⟩ hf => ?_)
      exact PW.zret cx hrt (nbb _) qX7_throwsPair_25 (le_wz hf)
theorem ctX7_home {g : GT} {ex : Bool} {sh : List Shp} (hx : MSh sh) (h : Hp) (p1 : Int32) (p2 : Int32) (r0 : Int32 × Hp) (hf : M_home h p1 p2 = some r0) : Ct g mX7_home 4 0 0 ex [.ref (gB g + 140), .int p1, .int p2] sh h (PE (some (.int r0.1)) sh r0.2) := by
  refine Ct.of (L := [some (.ref (gB g + 140)), some (.int p1), some (.int p2)]) (by decide) (by intro w hw; simp only [List.mem_cons, List.not_mem_nil, or_false] at hw; rcases hw with rfl | rfl | rfl <;> rfl) (Nat.le_of_ble_eq_true rfl) rfl (fun X mx => ?_)
  obtain ⟨cx, hR, hml, hrt, -⟩ := mx
  have cx : Cx g X RX7 cX7_home := cx
  have hrt : X.2.2.2.2.2.2.2.1.sig.returnType = (some .int) := hrt
  unfold M_home at hf
  refine PW.aload_n cx qX7_home_0 rfl ?_
  refine PW.iload_n cx qX7_home_1 rfl ?_
  refine PW.iload_n cx qX7_home_2 rfl ?_
  refine PW.callVWB (As := [.int p1, .int p2]) (st := []) cx hR qX7_home_3 klX7_362 mvX7_throwsPair (sh_140 hx) rfl rfl rfl rfl (Nat.le_of_ble_eq_true rfl) (Nat.le_of_ble_eq_true rfl) (Nat.le_of_ble_eq_true rfl) (Nat.zero_le _) (Nat.zero_le _) hf sne (fun t e => ctX7_throwsPair hx h p1 p2 t e) (fun ⟨t1, h2⟩ hf => ?_)
  refine PW.if_eq cx qX7_home_6 hf (fun hf => ?_) (fun hf => ?_)
  · refine PW.aload_n cx qX7_home_13 rfl ?_
    refine PW.iload_n cx qX7_home_14 rfl ?_
    refine PW.iload_n cx qX7_home_15 rfl ?_
    refine PW.callVRI (As := [.int p1, .int p2]) (st := []) cx hR qX7_home_16 klX7_95 mvX7_homeOf (sh_140 hx) rfl rfl rfl rfl (Nat.le_of_ble_eq_true rfl) (Nat.le_of_ble_eq_true rfl) (Nat.le_of_ble_eq_true rfl) (Nat.zero_le _) (Nat.zero_le _) hf sne (fun t e => ctX7_homeOf hx h2 p1 p2 t e) (fun t3 hf => ?_)
    exact PW.iret cx hrt qX7_home_19 (le_wi hf)
  · refine PW.iconst (v := 0) cx qX7_home_9 rfl ?_
    refine PW.goto cx qX7_home_10 ?_
    exact PW.iret cx hrt qX7_home_19 (le_wi hf)
theorem ctX7_whyNoSleep {g : GT} {ex : Bool} {sh : List Shp} (hx : MSh sh) (h : Hp) (p1 : Int32) (p2 : Int32) (r0 : Int32 × Hp) (hf : M_whyNoSleep h p1 p2 = some r0) : Ct g mX7_whyNoSleep 7 0 0 ex [.ref (gB g + 140), .int p1, .int p2] sh h (PE (some (.int r0.1)) sh r0.2) := by
  refine Ct.of (L := [some (.ref (gB g + 140)), some (.int p1), some (.int p2)]) (by decide) (by intro w hw; simp only [List.mem_cons, List.not_mem_nil, or_false] at hw; rcases hw with rfl | rfl | rfl <;> rfl) (Nat.le_of_ble_eq_true rfl) rfl (fun X mx => ?_)
  obtain ⟨cx, hR, hml, hrt, -⟩ := mx
  have cx : Cx g X RX7 cX7_whyNoSleep := cx
  have hrt : X.2.2.2.2.2.2.2.1.sig.returnType = (some .int) := hrt
  unfold M_whyNoSleep at hf
  refine PW.aload_n cx qX7_whyNoSleep_0 rfl ?_
  refine PW.iload_n cx qX7_whyNoSleep_1 rfl ?_
  refine PW.iload_n cx qX7_whyNoSleep_2 rfl ?_
  refine PW.callVWB (As := [.int p1, .int p2]) (st := []) cx hR qX7_whyNoSleep_3 klX7_362 mvX7_throwsPair (sh_140 hx) rfl rfl rfl rfl (Nat.le_of_ble_eq_true rfl) (Nat.le_of_ble_eq_true rfl) (Nat.le_of_ble_eq_true rfl) (Nat.zero_le _) (Nat.zero_le _) hf sne (fun t e => ctX7_throwsPair hx h p1 p2 t e) (fun ⟨t1, h2⟩ hf => ?_)
  refine PW.if_eq cx qX7_whyNoSleep_6 hf (fun hf => ?_) (fun hf => ?_)
  · refine PW.aload_n cx qX7_whyNoSleep_13 rfl ?_
    refine PW.iload_n cx qX7_whyNoSleep_14 rfl ?_
    refine PW.iload_n cx qX7_whyNoSleep_15 rfl ?_
    refine PW.callVRI (As := [.int p1, .int p2]) (st := []) cx hR qX7_whyNoSleep_16 klX7_207 mvX7_whyStaysUp (sh_140 hx) rfl rfl rfl rfl (Nat.le_of_ble_eq_true rfl) (Nat.le_of_ble_eq_true rfl) (Nat.le_of_ble_eq_true rfl) (Nat.zero_le _) (Nat.zero_le _) hf sne (fun t e => ctX7_whyStaysUp hx h2 p1 p2 t e) (fun t3 hf => ?_)
    exact PW.iret cx hrt qX7_whyNoSleep_19 (le_wi hf)
  · refine PW.iconst (v := 0) cx qX7_whyNoSleep_9 rfl ?_
    refine PW.goto cx qX7_whyNoSleep_10 ?_
    exact PW.iret cx hrt qX7_whyNoSleep_19 (le_wi hf)
theorem ctX7_bedFor {g : GT} {ex : Bool} {sh : List Shp} (hx : MSh sh) (h : Hp) (p1 : Int32) (p2 : Int32) (r0 : Int32 × Hp) (hf : M_bedFor h p1 p2 = some r0) : Ct g mX7_bedFor 7 0 0 ex [.ref (gB g + 140), .int p1, .int p2] sh h (PE (some (.int r0.1)) sh r0.2) := by
  refine Ct.of (L := [some (.ref (gB g + 140)), some (.int p1), some (.int p2)]) (by decide) (by intro w hw; simp only [List.mem_cons, List.not_mem_nil, or_false] at hw; rcases hw with rfl | rfl | rfl <;> rfl) (Nat.le_of_ble_eq_true rfl) rfl (fun X mx => ?_)
  obtain ⟨cx, hR, hml, hrt, -⟩ := mx
  have cx : Cx g X RX7 cX7_bedFor := cx
  have hrt : X.2.2.2.2.2.2.2.1.sig.returnType = (some .int) := hrt
  unfold M_bedFor at hf
  refine PW.aload_n cx qX7_bedFor_0 rfl ?_
  refine PW.iload_n cx qX7_bedFor_1 rfl ?_
  refine PW.iload_n cx qX7_bedFor_2 rfl ?_
  refine PW.callVWB (As := [.int p1, .int p2]) (st := []) cx hR qX7_bedFor_3 klX7_362 mvX7_throwsPair (sh_140 hx) rfl rfl rfl rfl (Nat.le_of_ble_eq_true rfl) (Nat.le_of_ble_eq_true rfl) (Nat.le_of_ble_eq_true rfl) (Nat.zero_le _) (Nat.zero_le _) hf sne (fun t e => ctX7_throwsPair hx h p1 p2 t e) (fun ⟨t1, h2⟩ hf => ?_)
  refine PW.if_eq cx qX7_bedFor_6 hf (fun hf => ?_) (fun hf => ?_)
  · refine PW.aload_n cx qX7_bedFor_11 rfl ?_
    refine PW.iload_n cx qX7_bedFor_12 rfl ?_
    refine PW.iload_n cx qX7_bedFor_13 rfl ?_
    refine PW.callVRI (As := [.int p1, .int p2]) (st := []) cx hR qX7_bedFor_14 klX7_207 mvX7_whyStaysUp (sh_140 hx) rfl rfl rfl rfl (Nat.le_of_ble_eq_true rfl) (Nat.le_of_ble_eq_true rfl) (Nat.le_of_ble_eq_true rfl) (Nat.zero_le _) (Nat.zero_le _) hf sne (fun t e => ctX7_whyStaysUp hx h2 p1 p2 t e) (fun t3 hf => ?_)
    refine PW.if_ne cx qX7_bedFor_17 hf (fun hf => ?_) (fun hf => ?_)
    · refine PW.aload_n cx qX7_bedFor_20 rfl ?_
      refine PW.iload_n cx qX7_bedFor_21 rfl ?_
      refine PW.iload_n cx qX7_bedFor_22 rfl ?_
      refine PW.aload_n cx qX7_bedFor_23 rfl ?_
      refine PW.iload_n cx qX7_bedFor_24 rfl ?_
      refine PW.iload_n cx qX7_bedFor_25 rfl ?_
      refine PW.callVRI (As := [.int p1, .int p2]) (st := [.int p2, .int p1, .ref (gB g + 140)]) cx hR qX7_bedFor_26 klX7_108 mvX7_passedBy (sh_140 hx) rfl rfl rfl rfl (Nat.le_of_ble_eq_true rfl) (Nat.le_of_ble_eq_true rfl) (Nat.le_of_ble_eq_true rfl) (Nat.zero_le _) (Nat.zero_le _) hf sne (fun t e => ctX7_passedBy hx h2 p1 p2 t e) (fun t4 hf => ?_)
      refine PW.callVRI (As := [.int p1, .int p2, .int t4]) (st := []) cx hR qX7_bedFor_29 klX7_98 mvX7_onWay (sh_140 hx) rfl rfl rfl rfl (Nat.le_of_ble_eq_true rfl) (Nat.le_of_ble_eq_true rfl) (Nat.le_of_ble_eq_true rfl) (Nat.zero_le _) (Nat.zero_le _) hf sne (fun t e => ctX7_onWay hx h2 p1 p2 t4 t e) (fun t5 hf => ?_)
      refine PW.goto cx qX7_bedFor_32 ?_
      exact PW.iret cx hrt qX7_bedFor_36 (le_wi hf)
    · refine PW.iconst (v := (-1)) cx qX7_bedFor_35 rfl ?_
      exact PW.iret cx hrt qX7_bedFor_36 (le_wi hf)
  · refine PW.iconst (v := 0) cx qX7_bedFor_9 rfl ?_
    exact PW.iret cx hrt qX7_bedFor_10 (le_wi hf)
theorem ctX7_looksFor {g : GT} {ex : Bool} {sh : List Shp} (hx : MSh sh) (h : Hp) (p1 : Int32) (p2 : Int32) (r0 : Int32 × Hp) (hf : M_looksFor h p1 p2 = some r0) : Ct g mX7_looksFor 6 0 0 ex [.ref (gB g + 140), .int p1, .int p2] sh h (PE (some (.int r0.1)) sh r0.2) := by
  refine Ct.of (L := [some (.ref (gB g + 140)), some (.int p1), some (.int p2)]) (by decide) (by intro w hw; simp only [List.mem_cons, List.not_mem_nil, or_false] at hw; rcases hw with rfl | rfl | rfl <;> rfl) (Nat.le_of_ble_eq_true rfl) rfl (fun X mx => ?_)
  obtain ⟨cx, hR, hml, hrt, -⟩ := mx
  have cx : Cx g X RX7 cX7_looksFor := cx
  have hrt : X.2.2.2.2.2.2.2.1.sig.returnType = (some .int) := hrt
  unfold M_looksFor at hf
  refine PW.aload_n cx qX7_looksFor_0 rfl ?_
  refine PW.iload_n cx qX7_looksFor_1 rfl ?_
  refine PW.iload_n cx qX7_looksFor_2 rfl ?_
  refine PW.callVWB (As := [.int p1, .int p2]) (st := []) cx hR qX7_looksFor_3 klX7_362 mvX7_throwsPair (sh_140 hx) rfl rfl rfl rfl (Nat.le_of_ble_eq_true rfl) (Nat.le_of_ble_eq_true rfl) (Nat.le_of_ble_eq_true rfl) (Nat.zero_le _) (Nat.zero_le _) hf sne (fun t e => ctX7_throwsPair hx h p1 p2 t e) (fun ⟨t1, h2⟩ hf => ?_)
  refine PW.if_eq cx qX7_looksFor_6 hf (fun hf => ?_) (fun hf => ?_)
  · refine PW.aload_n cx qX7_looksFor_13 rfl ?_
    refine PW.iload_n cx qX7_looksFor_14 rfl ?_
    refine PW.iload_n cx qX7_looksFor_15 rfl ?_
    refine PW.callVRI (As := [.int p1, .int p2]) (st := []) cx hR qX7_looksFor_16 klX7_114 mvX7_looks (sh_140 hx) rfl rfl rfl rfl (Nat.le_of_ble_eq_true rfl) (Nat.le_of_ble_eq_true rfl) (Nat.le_of_ble_eq_true rfl) (Nat.zero_le _) (Nat.zero_le _) hf sne (fun t e => ctX7_looks hx h2 p1 p2 t e) (fun t3 hf => ?_)
    exact PW.iret cx hrt qX7_looksFor_19 (le_wi hf)
  · refine PW.iconst (v := 0) cx qX7_looksFor_9 rfl ?_
    refine PW.goto cx qX7_looksFor_10 ?_
    exact PW.iret cx hrt qX7_looksFor_19 (le_wi hf)
theorem lX7_longestLook_26 {g : GT} {X : XT} {ex : Bool} {sh : List Shp} {post : Option Value → List Shp → Hp → Prop} (mx : Mx g X mX7_longestLook 6 0 0) (hx : MSh sh) (h : Hp) (c1 : Int32) : ∀ (n : Nat) (v2 : Int32) (v3 : Int32) (r : Int32) (hf : M_longestLook_L26 h c1 n v2 v3 = some r) (kx : ∀ (x2 : Int32), r = x2 → PW g X ex (QE g X ex post 0 0) 0 0 sh h 70 [some (.ref (gB g + 140)), some (.int c1), some (.int x2), none] []), PW g X ex (QE g X ex post 0 0) 0 0 sh h 26 [some (.ref (gB g + 140)), some (.int c1), some (.int v2), some (.int v3)] [] := by
  have mx0 := mx
  obtain ⟨cx, hR, hml, hrt, -⟩ := mx0
  have cx : Cx g X RX7 cX7_longestLook := cx
  have hrt : X.2.2.2.2.2.2.2.1.sig.returnType = (some .int) := hrt
  have hi2 : 2 < X.2.2.2.2.2.2.2.2.maxLocals := by rw [hml]; exact Nat.le_of_ble_eq_true rfl
  have hi3 : 3 < X.2.2.2.2.2.2.2.2.maxLocals := by rw [hml]; exact Nat.le_of_ble_eq_true rfl
  intro n
  induction n with
  | zero =>
    intro v2 v3 r hf kx
    cases hf
  | succ n ih =>
    intro v2 v3 r hf kx
    unfold M_longestLook_L26 at hf
    refine PW.iload_n cx qX7_longestLook_26 rfl ?_
    refine PW.aload_n cx qX7_longestLook_27 rfl ?_
    refine PW.iload_n cx qX7_longestLook_28 rfl ?_
    refine PW.callVRI (As := [.int c1]) (st := [.int v3]) cx hR qX7_longestLook_29 klX7_92 mvX7_beds (sh_140 hx) rfl rfl rfl rfl (Nat.le_of_ble_eq_true rfl) (Nat.le_of_ble_eq_true rfl) (Nat.le_of_ble_eq_true rfl) (Nat.zero_le _) (Nat.zero_le _) hf sne (fun t e => ctX7_beds hx h c1 t e) (fun t4 hf => ?_)
    refine PW.icmp_ge cx qX7_longestLook_32 hf (fun hf => ?_) (fun hf => ?_)
    · exact PW.locs (Lsub.keep (Lsub.keep (Lsub.keep (Lsub.drop Lsub.nil)))) (kx v2 (Option.some.inj hf).symm)
    · refine PW.aload_n cx qX7_longestLook_35 rfl ?_
      refine PW.iload_n cx qX7_longestLook_36 rfl ?_
      refine PW.iload_n cx qX7_longestLook_37 rfl ?_
      refine PW.callVRI (As := [.int c1, .int v3]) (st := []) cx hR qX7_longestLook_38 klX7_102 mvX7_inBed (sh_140 hx) rfl rfl rfl rfl (Nat.le_of_ble_eq_true rfl) (Nat.le_of_ble_eq_true rfl) (Nat.le_of_ble_eq_true rfl) (Nat.zero_le _) (Nat.zero_le _) hf sne (fun t e => ctX7_inBed hx h c1 v3 t e) (fun t5 hf => ?_)
      refine PW.if_lt cx qX7_longestLook_41 hf (fun hf => ?_) (fun hf => ?_)
      · refine PW.iload_n cx qX7_longestLook_62 rfl ?_
        refine PW.istore_n (L' := [some (.ref (gB g + 140)), some (.int c1), some (.int v2), some (.int v3)]) cx qX7_longestLook_63 hi2 rfl rfl ?_
        refine PW.iinc (v := 1) (L' := [some (.ref (gB g + 140)), some (.int c1), some (.int v2), some (.int (v3 + 1))]) cx qX7_longestLook_64 rfl rfl hi3 rfl rfl ?_
        refine PW.goto cx qX7_longestLook_67 ?_
        exact PW.locs (Lsub.keep (Lsub.keep (Lsub.keep (Lsub.keep Lsub.nil)))) (ih v2 (v3 + 1) _ hf kx)
      · refine PW.iload_n cx qX7_longestLook_44 rfl ?_
        refine PW.aload_n cx qX7_longestLook_45 rfl ?_
        refine PW.aload_n cx qX7_longestLook_46 rfl ?_
        refine PW.iload_n cx qX7_longestLook_47 rfl ?_
        refine PW.iload_n cx qX7_longestLook_48 rfl ?_
        refine PW.callVRI (As := [.int c1, .int v3]) (st := [.ref (gB g + 140), .int v2]) cx hR qX7_longestLook_49 klX7_102 mvX7_inBed (sh_140 hx) rfl rfl rfl rfl (Nat.le_of_ble_eq_true rfl) (Nat.le_of_ble_eq_true rfl) (Nat.le_of_ble_eq_true rfl) (Nat.zero_le _) (Nat.zero_le _) hf sne (fun t e => ctX7_inBed hx h c1 v3 t e) (fun t6 hf => ?_)
        refine PW.iload_n cx qX7_longestLook_52 rfl ?_
        refine PW.callVRI (As := [.int t6, .int c1]) (st := [.int v2]) cx hR qX7_longestLook_53 klX7_114 mvX7_looks (sh_140 hx) rfl rfl rfl rfl (Nat.le_of_ble_eq_true rfl) (Nat.le_of_ble_eq_true rfl) (Nat.le_of_ble_eq_true rfl) (Nat.zero_le _) (Nat.zero_le _) hf sne (fun t e => ctX7_looks hx h t6 c1 t e) (fun t7 hf => ?_)
        refine PW.mmax cx hR qX7_longestLook_56 klX7_84 (Nat.le_of_ble_eq_true rfl) (Nat.le_of_ble_eq_true rfl) (Nat.zero_le _) (Nat.zero_le _) ?_
        refine PW.goto cx qX7_longestLook_59 ?_
        refine PW.istore_n (L' := [some (.ref (gB g + 140)), some (.int c1), some (.int (mxI v2 t7)), some (.int v3)]) cx qX7_longestLook_63 hi2 rfl rfl ?_
        refine PW.iinc (v := 1) (L' := [some (.ref (gB g + 140)), some (.int c1), some (.int (mxI v2 t7)), some (.int (v3 + 1))]) cx qX7_longestLook_64 rfl rfl hi3 rfl rfl ?_
        refine PW.goto cx qX7_longestLook_67 ?_
        exact PW.locs (Lsub.keep (Lsub.keep (Lsub.keep (Lsub.keep Lsub.nil)))) (ih (mxI v2 t7) (v3 + 1) _ hf kx)
theorem ctX7_longestLook {g : GT} {ex : Bool} {sh : List Shp} (hx : MSh sh) (h : Hp) (p1 : Int32) (r0 : Int32 × Hp) (hf : M_longestLook h p1 = some r0) : Ct g mX7_longestLook 6 0 0 ex [.ref (gB g + 140), .int p1] sh h (PE (some (.int r0.1)) sh r0.2) := by
  refine Ct.of (L := [some (.ref (gB g + 140)), some (.int p1), none, none]) (by decide) (by intro w hw; simp only [List.mem_cons, List.not_mem_nil, or_false] at hw; rcases hw with rfl | rfl <;> rfl) (Nat.le_of_ble_eq_true rfl) rfl (fun X mx => ?_)
  have mx0 := mx
  obtain ⟨cx, hR, hml, hrt, -⟩ := mx0
  have cx : Cx g X RX7 cX7_longestLook := cx
  have hrt : X.2.2.2.2.2.2.2.1.sig.returnType = (some .int) := hrt
  have hi2 : 2 < X.2.2.2.2.2.2.2.2.maxLocals := by rw [hml]; exact Nat.le_of_ble_eq_true rfl
  have hi3 : 3 < X.2.2.2.2.2.2.2.2.maxLocals := by rw [hml]; exact Nat.le_of_ble_eq_true rfl
  unfold M_longestLook at hf
  refine PW.aload_n cx qX7_longestLook_0 rfl ?_
  refine PW.aload_n cx qX7_longestLook_1 rfl ?_
  refine PW.iload_n cx qX7_longestLook_2 rfl ?_
  refine PW.callVRB (As := [.int p1]) (st := [.ref (gB g + 140)]) cx hR qX7_longestLook_3 klX7_337 mvX7_isReel (sh_140 hx) rfl rfl rfl rfl (Nat.le_of_ble_eq_true rfl) (Nat.le_of_ble_eq_true rfl) (Nat.le_of_ble_eq_true rfl) (Nat.zero_le _) (Nat.zero_le _) hf sne (fun t e => ctX7_isReel hx h p1 t e) (fun t1 hf => ?_)
  obtain ⟨j14, ej14, hf⟩ := lt_split hf
  have hj14 : ∀ (z0_14 : Bool), j14 z0_14 = some r0 → PW g X ex (QE g X ex (PE (some (.int r0.1)) sh r0.2) 0 0) 0 0 sh h 14 [some (.ref (gB g + 140)), some (.int p1), none, none] [.int (b2i z0_14), .ref (gB g + 140)] := by
    intro z0_14 hf
    rw [ej14] at hf
    refine PW.callVWB (As := [.int (b2i z0_14)]) (st := []) cx hR qX7_longestLook_14 klX7_319 mvX7_throwsOne (sh_140 hx) rfl rfl rfl rfl (Nat.le_of_ble_eq_true rfl) (Nat.le_of_ble_eq_true rfl) (Nat.le_of_ble_eq_true rfl) (Nat.zero_le _) (Nat.zero_le _) hf sne (fun t e => ctX7_throwsOne hx h z0_14 t e) (fun ⟨t2, h3⟩ hf => ?_)
    refine PW.if_eq cx qX7_longestLook_17 hf (fun hf => ?_) (fun hf => ?_)
    · refine PW.iconst (v := 0) cx qX7_longestLook_22 rfl ?_
      refine PW.istore_n (L' := [some (.ref (gB g + 140)), some (.int p1), some (.int 0), none]) cx qX7_longestLook_23 hi2 rfl rfl ?_
      refine PW.iconst (v := 0) cx qX7_longestLook_24 rfl ?_
      refine PW.istore_n (L' := [some (.ref (gB g + 140)), some (.int p1), some (.int 0), some (.int 0)]) cx qX7_longestLook_25 hi3 rfl rfl ?_
      obtain ⟨r8, er8, hf⟩ := bndO hf sne
      refine PW.locs (Lsub.keep (Lsub.keep (Lsub.keep (Lsub.keep Lsub.nil)))) (lX7_longestLook_26 mx hx h3 p1 FU 0 0 r8 er8 (fun xx_ e => ?_))
      subst e
      refine PW.iload_n cx qX7_longestLook_70 rfl ?_
      exact PW.iret cx hrt qX7_longestLook_71 (le_wi hf)
    · refine PW.iconst (v := 0) cx qX7_longestLook_20 rfl ?_
      exact PW.iret cx hrt qX7_longestLook_21 (le_wi hf)
  refine PW.if_ne cx qX7_longestLook_6 hf (fun hf => ?_) (fun hf => ?_)
  · refine PW.iconst (v := 1) cx qX7_longestLook_9 rfl ?_
    refine PW.goto cx qX7_longestLook_10 ?_
    exact PW.locs (Lsub.keep (Lsub.keep (Lsub.drop (Lsub.drop Lsub.nil)))) (hj14 true hf)
  · refine PW.iconst (v := 0) cx qX7_longestLook_13 rfl ?_
    exact PW.locs (Lsub.keep (Lsub.keep (Lsub.drop (Lsub.drop Lsub.nil)))) (hj14 false hf)
theorem ctX7_looksIfAired {g : GT} {ex : Bool} {sh : List Shp} (hx : MSh sh) (h : Hp) (p1 : Int32) (r0 : Int32 × Hp) (hf : M_looksIfAired h p1 = some r0) : Ct g mX7_looksIfAired 8 0 0 ex [.ref (gB g + 140), .int p1] sh h (PE (some (.int r0.1)) sh r0.2) := by
  refine Ct.of (L := [some (.ref (gB g + 140)), some (.int p1), none]) (by decide) (by intro w hw; simp only [List.mem_cons, List.not_mem_nil, or_false] at hw; rcases hw with rfl | rfl <;> rfl) (Nat.le_of_ble_eq_true rfl) rfl (fun X mx => ?_)
  obtain ⟨cx, hR, hml, hrt, -⟩ := mx
  have cx : Cx g X RX7 cX7_looksIfAired := cx
  have hrt : X.2.2.2.2.2.2.2.1.sig.returnType = (some .int) := hrt
  have hi2 : 2 < X.2.2.2.2.2.2.2.2.maxLocals := by rw [hml]; exact Nat.le_of_ble_eq_true rfl
  unfold M_looksIfAired at hf
  refine PW.aload_n cx qX7_looksIfAired_0 rfl ?_
  refine PW.aload_n cx qX7_looksIfAired_1 rfl ?_
  refine PW.iload_n cx qX7_looksIfAired_2 rfl ?_
  refine PW.callVRB (As := [.int p1]) (st := [.ref (gB g + 140)]) cx hR qX7_looksIfAired_3 klX7_337 mvX7_isReel (sh_140 hx) rfl rfl rfl rfl (Nat.le_of_ble_eq_true rfl) (Nat.le_of_ble_eq_true rfl) (Nat.le_of_ble_eq_true rfl) (Nat.zero_le _) (Nat.zero_le _) hf sne (fun t e => ctX7_isReel hx h p1 t e) (fun t1 hf => ?_)
  obtain ⟨j14, ej14, hf⟩ := lt_split hf
  have hj14 : ∀ (z0_14 : Bool), j14 z0_14 = some r0 → PW g X ex (QE g X ex (PE (some (.int r0.1)) sh r0.2) 0 0) 0 0 sh h 14 [some (.ref (gB g + 140)), some (.int p1), none] [.int (b2i z0_14), .ref (gB g + 140)] := by
    intro z0_14 hf
    rw [ej14] at hf
    refine PW.callVWB (As := [.int (b2i z0_14)]) (st := []) cx hR qX7_looksIfAired_14 klX7_319 mvX7_throwsOne (sh_140 hx) rfl rfl rfl rfl (Nat.le_of_ble_eq_true rfl) (Nat.le_of_ble_eq_true rfl) (Nat.le_of_ble_eq_true rfl) (Nat.zero_le _) (Nat.zero_le _) hf sne (fun t e => ctX7_throwsOne hx h z0_14 t e) (fun ⟨t2, h3⟩ hf => ?_)
    refine PW.if_eq cx qX7_looksIfAired_17 hf (fun hf => ?_) (fun hf => ?_)
    · refine PW.aload_n cx qX7_looksIfAired_22 rfl ?_
      refine PW.callVWV (As := []) (st := []) cx hR qX7_looksIfAired_23 klX7_365 mvX7_setAside (sh_140 hx) rfl rfl rfl rfl (Nat.le_of_ble_eq_true rfl) (Nat.le_of_ble_eq_true rfl) (Nat.le_of_ble_eq_true rfl) (Nat.zero_le _) (Nat.zero_le _) hf sne (fun t e => ctX7_setAside hx h3 t e) (fun h5 hf => ?_)
      refine PW.aload_n cx qX7_looksIfAired_26 rfl ?_
      refine PW.iload_n cx qX7_looksIfAired_27 rfl ?_
      refine PW.callVWI (As := [.int p1]) (st := []) cx hR qX7_looksIfAired_28 klX7_213 mvX7_airs (sh_140 hx) rfl rfl rfl rfl (Nat.le_of_ble_eq_true rfl) (Nat.le_of_ble_eq_true rfl) (Nat.le_of_ble_eq_true rfl) (Nat.zero_le _) (Nat.zero_le _) hf sne (fun t e => ctX7_airs hx h5 p1 t e) (fun ⟨t6, h7⟩ hf => ?_)
      refine PW.pop cx qX7_looksIfAired_31 rfl ?_
      refine PW.aload_n cx qX7_looksIfAired_32 rfl ?_
      refine PW.iload_n cx qX7_looksIfAired_33 rfl ?_
      refine PW.callVRI (As := [.int p1]) (st := []) cx hR qX7_looksIfAired_34 klX7_368 mvX7_looksTogether (sh_140 hx) rfl rfl rfl rfl (Nat.le_of_ble_eq_true rfl) (Nat.le_of_ble_eq_true rfl) (Nat.le_of_ble_eq_true rfl) (Nat.zero_le _) (Nat.zero_le _) hf sne (fun t e => ctX7_looksTogether hx h7 p1 t e) (fun t8 hf => ?_)
      refine PW.istore_n (L' := [some (.ref (gB g + 140)), some (.int p1), some (.int t8)]) cx qX7_looksIfAired_37 hi2 rfl rfl ?_
      refine PW.aload_n cx qX7_looksIfAired_38 rfl ?_
      refine PW.callVWV (As := []) (st := []) cx hR qX7_looksIfAired_39 klX7_371 mvX7_bringBack (sh_140 hx) rfl rfl rfl rfl (Nat.le_of_ble_eq_true rfl) (Nat.le_of_ble_eq_true rfl) (Nat.le_of_ble_eq_true rfl) (Nat.zero_le _) (Nat.zero_le _) hf sne (fun t e => ctX7_bringBack hx h7 t e) (fun h10 hf => ?_)
      refine PW.iload_n cx qX7_looksIfAired_42 rfl ?_
      exact PW.iret cx hrt qX7_looksIfAired_43 (le_wi hf)
    · refine PW.iconst (v := 0) cx qX7_looksIfAired_20 rfl ?_
      exact PW.iret cx hrt qX7_looksIfAired_21 (le_wi hf)
  refine PW.if_ne cx qX7_looksIfAired_6 hf (fun hf => ?_) (fun hf => ?_)
  · refine PW.iconst (v := 1) cx qX7_looksIfAired_9 rfl ?_
    refine PW.goto cx qX7_looksIfAired_10 ?_
    exact PW.locs (Lsub.keep (Lsub.keep (Lsub.drop Lsub.nil))) (hj14 true hf)
  · refine PW.iconst (v := 0) cx qX7_looksIfAired_13 rfl ?_
    exact PW.locs (Lsub.keep (Lsub.keep (Lsub.drop Lsub.nil))) (hj14 false hf)
theorem lX7_longestCluster_29 {g : GT} {X : XT} {ex : Bool} {sh : List Shp} {post : Option Value → List Shp → Hp → Prop} (mx : Mx g X mX7_longestCluster 2 0 0) (hx : MSh sh) (h : Hp) (c1 : Int32) : ∀ (n : Nat) (v2 : Int32) (v3 : Int32) (v4 : Int32) (r : Int32) (hf : M_longestCluster_L29 h c1 n v2 v3 v4 = some r) (kx : ∀ (x2 : Int32), r = x2 → PW g X ex (QE g X ex post 0 0) 0 0 sh h 78 [some (.ref (gB g + 140)), some (.int c1), some (.int x2), none, none] []), PW g X ex (QE g X ex post 0 0) 0 0 sh h 29 [some (.ref (gB g + 140)), some (.int c1), some (.int v2), some (.int v3), some (.int v4)] [] := by
  have mx0 := mx
  obtain ⟨cx, hR, hml, hrt, -⟩ := mx0
  have cx : Cx g X RX7 cX7_longestCluster := cx
  have hrt : X.2.2.2.2.2.2.2.1.sig.returnType = (some .int) := hrt
  have hi2 : 2 < X.2.2.2.2.2.2.2.2.maxLocals := by rw [hml]; exact Nat.le_of_ble_eq_true rfl
  have hi3 : 3 < X.2.2.2.2.2.2.2.2.maxLocals := by rw [hml]; exact Nat.le_of_ble_eq_true rfl
  have hi4 : 4 < X.2.2.2.2.2.2.2.2.maxLocals := by rw [hml]; exact Nat.le_of_ble_eq_true rfl
  intro n
  induction n with
  | zero =>
    intro v2 v3 v4 r hf kx
    cases hf
  | succ n ih =>
    intro v2 v3 v4 r hf kx
    unfold M_longestCluster_L29 at hf
    refine PW.iload cx qX7_longestCluster_29 rfl ?_
    refine PW.iconst (v := 2) cx qX7_longestCluster_31 rfl ?_
    refine PW.aload_n cx qX7_longestCluster_32 rfl ?_
    refine PW.iload_n cx qX7_longestCluster_33 rfl ?_
    refine PW.callVRI (As := [.int c1]) (st := [.int 2, .int v4]) cx hR qX7_longestCluster_34 klX7_92 mvX7_beds (sh_140 hx) rfl rfl rfl rfl (Nat.le_of_ble_eq_true rfl) (Nat.le_of_ble_eq_true rfl) (Nat.le_of_ble_eq_true rfl) (Nat.zero_le _) (Nat.zero_le _) hf sne (fun t e => ctX7_beds hx h c1 t e) (fun t4 hf => ?_)
    refine PW.imul cx qX7_longestCluster_37 ?_
    refine PW.icmp_ge cx qX7_longestCluster_38 hf (fun hf => ?_) (fun hf => ?_)
    · exact PW.locs (Lsub.keep (Lsub.keep (Lsub.keep (Lsub.drop (Lsub.drop Lsub.nil))))) (kx v2 (Option.some.inj hf).symm)
    · refine PW.aload_n cx qX7_longestCluster_41 rfl ?_
      refine PW.iload_n cx qX7_longestCluster_42 rfl ?_
      refine PW.iload cx qX7_longestCluster_43 rfl ?_
      refine PW.aload_n cx qX7_longestCluster_45 rfl ?_
      refine PW.iload_n cx qX7_longestCluster_46 rfl ?_
      refine PW.callVRI (As := [.int c1]) (st := [.int v4, .int c1, .ref (gB g + 140)]) cx hR qX7_longestCluster_47 klX7_92 mvX7_beds (sh_140 hx) rfl rfl rfl rfl (Nat.le_of_ble_eq_true rfl) (Nat.le_of_ble_eq_true rfl) (Nat.le_of_ble_eq_true rfl) (Nat.zero_le _) (Nat.zero_le _) hf sne (fun t e => ctX7_beds hx h c1 t e) (fun t5 hf => ?_)
      refine PW.irem cx qX7_longestCluster_50 hf sne (fun t6 hf => ?_)
      refine PW.callVRI (As := [.int c1, .int t6]) (st := []) cx hR qX7_longestCluster_51 klX7_102 mvX7_inBed (sh_140 hx) rfl rfl rfl rfl (Nat.le_of_ble_eq_true rfl) (Nat.le_of_ble_eq_true rfl) (Nat.le_of_ble_eq_true rfl) (Nat.zero_le _) (Nat.zero_le _) hf sne (fun t e => ctX7_inBed hx h c1 t6 t e) (fun t7 hf => ?_)
      refine PW.iconst (v := (-1)) cx qX7_longestCluster_54 rfl ?_
      obtain ⟨j65, ej65, hf⟩ := lt_split hf
      have hj65 : ∀ (z0_65 : Int32), j65 z0_65 = some r → PW g X ex (QE g X ex post 0 0) 0 0 sh h 65 [some (.ref (gB g + 140)), some (.int c1), some (.int v2), none, some (.int v4)] [.int z0_65] := by
        intro z0_65 hf
        rw [ej65] at hf
        refine PW.istore_n (L' := [some (.ref (gB g + 140)), some (.int c1), some (.int v2), some (.int z0_65), some (.int v4)]) cx qX7_longestCluster_65 hi3 rfl rfl ?_
        refine PW.iload_n cx qX7_longestCluster_66 rfl ?_
        refine PW.iload_n cx qX7_longestCluster_67 rfl ?_
        refine PW.mmax cx hR qX7_longestCluster_68 klX7_84 (Nat.le_of_ble_eq_true rfl) (Nat.le_of_ble_eq_true rfl) (Nat.zero_le _) (Nat.zero_le _) ?_
        refine PW.istore_n (L' := [some (.ref (gB g + 140)), some (.int c1), some (.int (mxI v2 z0_65)), some (.int z0_65), some (.int v4)]) cx qX7_longestCluster_71 hi2 rfl rfl ?_
        refine PW.iinc (v := 1) (L' := [some (.ref (gB g + 140)), some (.int c1), some (.int (mxI v2 z0_65)), some (.int z0_65), some (.int (v4 + 1))]) cx qX7_longestCluster_72 rfl rfl hi4 rfl rfl ?_
        refine PW.goto cx qX7_longestCluster_75 ?_
        exact PW.locs (Lsub.keep (Lsub.keep (Lsub.keep (Lsub.keep (Lsub.keep Lsub.nil))))) (ih (mxI v2 z0_65) z0_65 (v4 + 1) _ hf kx)
      refine PW.icmp_ne cx qX7_longestCluster_55 hf (fun hf => ?_) (fun hf => ?_)
      · refine PW.iconst (v := 0) cx qX7_longestCluster_58 rfl ?_
        refine PW.goto cx qX7_longestCluster_59 ?_
        exact PW.locs (Lsub.keep (Lsub.keep (Lsub.keep (Lsub.drop (Lsub.keep Lsub.nil))))) (hj65 0 hf)
      · refine PW.iload_n cx qX7_longestCluster_62 rfl ?_
        refine PW.iconst (v := 1) cx qX7_longestCluster_63 rfl ?_
        refine PW.iadd cx qX7_longestCluster_64 ?_
        exact PW.locs (Lsub.keep (Lsub.keep (Lsub.keep (Lsub.drop (Lsub.keep Lsub.nil))))) (hj65 (v3 + 1) hf)
theorem ctX7_longestCluster {g : GT} {ex : Bool} {sh : List Shp} (hx : MSh sh) (h : Hp) (p1 : Int32) (r0 : Int32 × Hp) (hf : M_longestCluster h p1 = some r0) : Ct g mX7_longestCluster 2 0 0 ex [.ref (gB g + 140), .int p1] sh h (PE (some (.int r0.1)) sh r0.2) := by
  refine Ct.of (L := [some (.ref (gB g + 140)), some (.int p1), none, none, none]) (by decide) (by intro w hw; simp only [List.mem_cons, List.not_mem_nil, or_false] at hw; rcases hw with rfl | rfl <;> rfl) (Nat.le_of_ble_eq_true rfl) rfl (fun X mx => ?_)
  have mx0 := mx
  obtain ⟨cx, hR, hml, hrt, -⟩ := mx0
  have cx : Cx g X RX7 cX7_longestCluster := cx
  have hrt : X.2.2.2.2.2.2.2.1.sig.returnType = (some .int) := hrt
  have hi2 : 2 < X.2.2.2.2.2.2.2.2.maxLocals := by rw [hml]; exact Nat.le_of_ble_eq_true rfl
  have hi3 : 3 < X.2.2.2.2.2.2.2.2.maxLocals := by rw [hml]; exact Nat.le_of_ble_eq_true rfl
  have hi4 : 4 < X.2.2.2.2.2.2.2.2.maxLocals := by rw [hml]; exact Nat.le_of_ble_eq_true rfl
  unfold M_longestCluster at hf
  refine PW.aload_n cx qX7_longestCluster_0 rfl ?_
  refine PW.aload_n cx qX7_longestCluster_1 rfl ?_
  refine PW.iload_n cx qX7_longestCluster_2 rfl ?_
  refine PW.callVRB (As := [.int p1]) (st := [.ref (gB g + 140)]) cx hR qX7_longestCluster_3 klX7_337 mvX7_isReel (sh_140 hx) rfl rfl rfl rfl (Nat.le_of_ble_eq_true rfl) (Nat.le_of_ble_eq_true rfl) (Nat.le_of_ble_eq_true rfl) (Nat.zero_le _) (Nat.zero_le _) hf sne (fun t e => ctX7_isReel hx h p1 t e) (fun t1 hf => ?_)
  obtain ⟨j14, ej14, hf⟩ := lt_split hf
  have hj14 : ∀ (z0_14 : Bool), j14 z0_14 = some r0 → PW g X ex (QE g X ex (PE (some (.int r0.1)) sh r0.2) 0 0) 0 0 sh h 14 [some (.ref (gB g + 140)), some (.int p1), none, none, none] [.int (b2i z0_14), .ref (gB g + 140)] := by
    intro z0_14 hf
    rw [ej14] at hf
    refine PW.callVWB (As := [.int (b2i z0_14)]) (st := []) cx hR qX7_longestCluster_14 klX7_319 mvX7_throwsOne (sh_140 hx) rfl rfl rfl rfl (Nat.le_of_ble_eq_true rfl) (Nat.le_of_ble_eq_true rfl) (Nat.le_of_ble_eq_true rfl) (Nat.zero_le _) (Nat.zero_le _) hf sne (fun t e => ctX7_throwsOne hx h z0_14 t e) (fun ⟨t2, h3⟩ hf => ?_)
    refine PW.if_eq cx qX7_longestCluster_17 hf (fun hf => ?_) (fun hf => ?_)
    · refine PW.iconst (v := 0) cx qX7_longestCluster_22 rfl ?_
      refine PW.istore_n (L' := [some (.ref (gB g + 140)), some (.int p1), some (.int 0), none, none]) cx qX7_longestCluster_23 hi2 rfl rfl ?_
      refine PW.iconst (v := 0) cx qX7_longestCluster_24 rfl ?_
      refine PW.istore_n (L' := [some (.ref (gB g + 140)), some (.int p1), some (.int 0), some (.int 0), none]) cx qX7_longestCluster_25 hi3 rfl rfl ?_
      refine PW.iconst (v := 0) cx qX7_longestCluster_26 rfl ?_
      refine PW.istore (L' := [some (.ref (gB g + 140)), some (.int p1), some (.int 0), some (.int 0), some (.int 0)]) cx qX7_longestCluster_27 hi4 rfl rfl ?_
      obtain ⟨r8, er8, hf⟩ := bndO hf sne
      refine PW.locs (Lsub.keep (Lsub.keep (Lsub.keep (Lsub.keep (Lsub.keep Lsub.nil))))) (lX7_longestCluster_29 mx hx h3 p1 FU 0 0 0 r8 er8 (fun xx_ e => ?_))
      subst e
      refine PW.iload_n cx qX7_longestCluster_78 rfl ?_
      refine PW.aload_n cx qX7_longestCluster_79 rfl ?_
      refine PW.iload_n cx qX7_longestCluster_80 rfl ?_
      refine PW.callVRI (As := [.int p1]) (st := [.int r8]) cx hR qX7_longestCluster_81 klX7_92 mvX7_beds (sh_140 hx) rfl rfl rfl rfl (Nat.le_of_ble_eq_true rfl) (Nat.le_of_ble_eq_true rfl) (Nat.le_of_ble_eq_true rfl) (Nat.zero_le _) (Nat.zero_le _) hf sne (fun t e => ctX7_beds hx h3 p1 t e) (fun t9 hf => ?_)
      refine PW.mmin cx hR qX7_longestCluster_84 klX7_139 (Nat.le_of_ble_eq_true rfl) (Nat.le_of_ble_eq_true rfl) (Nat.zero_le _) (Nat.zero_le _) ?_
      exact PW.iret cx hrt qX7_longestCluster_87 (le_wi hf)
    · refine PW.iconst (v := 0) cx qX7_longestCluster_20 rfl ?_
      exact PW.iret cx hrt qX7_longestCluster_21 (le_wi hf)
  refine PW.if_ne cx qX7_longestCluster_6 hf (fun hf => ?_) (fun hf => ?_)
  · refine PW.iconst (v := 1) cx qX7_longestCluster_9 rfl ?_
    refine PW.goto cx qX7_longestCluster_10 ?_
    exact PW.locs (Lsub.keep (Lsub.keep (Lsub.drop (Lsub.drop (Lsub.drop Lsub.nil))))) (hj14 true hf)
  · refine PW.iconst (v := 0) cx qX7_longestCluster_13 rfl ?_
    exact PW.locs (Lsub.keep (Lsub.keep (Lsub.drop (Lsub.drop (Lsub.drop Lsub.nil))))) (hj14 false hf)
theorem lX7_bestReel_26 {g : GT} {X : XT} {ex : Bool} {sh : List Shp} {post : Option Value → List Shp → Hp → Prop} (mx : Mx g X mX7_bestReel 7 0 0) (hx : MSh sh) (h : Hp) (c1 : Int32) : ∀ (n : Nat) (v2 : Int32) (v3 : Int32) (r : Int32) (hf : M_bestReel_L26 h c1 n v2 v3 = some r) (kx : ∀ (x2 : Int32), r = x2 → PW g X ex (QE g X ex post 0 0) 0 0 sh h 73 [some (.ref (gB g + 140)), some (.int c1), some (.int x2), none] []), PW g X ex (QE g X ex post 0 0) 0 0 sh h 26 [some (.ref (gB g + 140)), some (.int c1), some (.int v2), some (.int v3)] [] := by
  have mx0 := mx
  obtain ⟨cx, hR, hml, hrt, -⟩ := mx0
  have cx : Cx g X RX7 cX7_bestReel := cx
  have hrt : X.2.2.2.2.2.2.2.1.sig.returnType = (some .int) := hrt
  have hi2 : 2 < X.2.2.2.2.2.2.2.2.maxLocals := by rw [hml]; exact Nat.le_of_ble_eq_true rfl
  have hi3 : 3 < X.2.2.2.2.2.2.2.2.maxLocals := by rw [hml]; exact Nat.le_of_ble_eq_true rfl
  intro n
  induction n with
  | zero =>
    intro v2 v3 r hf kx
    cases hf
  | succ n ih =>
    intro v2 v3 r hf kx
    unfold M_bestReel_L26 at hf
    refine PW.iload_n cx qX7_bestReel_26 rfl ?_
    refine PW.aload_n cx qX7_bestReel_27 rfl ?_
    refine PW.getf (t := (2, 141)) (v := .ref (gB g + 141)) cx qX7_bestReel_28 (sh_140 hx) rfl flX7_7 rfl ?_
    refine PW.iconst (v := 3) cx qX7_bestReel_31 rfl ?_
    refine PW.iald cx qX7_bestReel_32 (sh_141 hx) hf sne (fun t4 hf => ?_)
    refine PW.icmp_ge cx qX7_bestReel_33 hf (fun hf => ?_) (fun hf => ?_)
    · exact PW.locs (Lsub.keep (Lsub.keep (Lsub.keep (Lsub.drop Lsub.nil)))) (kx v2 (Option.some.inj hf).symm)
    · refine PW.aload_n cx qX7_bestReel_36 rfl ?_
      refine PW.iload_n cx qX7_bestReel_37 rfl ?_
      refine PW.iload_n cx qX7_bestReel_38 rfl ?_
      refine PW.callVRI (As := [.int c1, .int v3]) (st := []) cx hR qX7_bestReel_39 klX7_207 mvX7_whyStaysUp (sh_140 hx) rfl rfl rfl rfl (Nat.le_of_ble_eq_true rfl) (Nat.le_of_ble_eq_true rfl) (Nat.le_of_ble_eq_true rfl) (Nat.zero_le _) (Nat.zero_le _) hf sne (fun t e => ctX7_whyStaysUp hx h c1 v3 t e) (fun t5 hf => ?_)
      refine PW.if_ne cx qX7_bestReel_42 hf (fun hf => ?_) (fun hf => ?_)
      · refine PW.iload_n cx qX7_bestReel_45 rfl ?_
        refine PW.iconst (v := (-1)) cx qX7_bestReel_46 rfl ?_
        refine PW.icmp_eq cx qX7_bestReel_47 hf (fun hf => ?_) (fun hf => ?_)
        · refine PW.iload_n cx qX7_bestReel_65 rfl ?_
          refine PW.istore_n (L' := [some (.ref (gB g + 140)), some (.int c1), some (.int v3), some (.int v3)]) cx qX7_bestReel_66 hi2 rfl rfl ?_
          refine PW.iinc (v := 1) (L' := [some (.ref (gB g + 140)), some (.int c1), some (.int v3), some (.int (v3 + 1))]) cx qX7_bestReel_67 rfl rfl hi3 rfl rfl ?_
          refine PW.goto cx qX7_bestReel_70 ?_
          exact PW.locs (Lsub.keep (Lsub.keep (Lsub.keep (Lsub.keep Lsub.nil)))) (ih v3 (v3 + 1) _ hf kx)
        · refine PW.aload_n cx qX7_bestReel_50 rfl ?_
          refine PW.iload_n cx qX7_bestReel_51 rfl ?_
          refine PW.iload_n cx qX7_bestReel_52 rfl ?_
          refine PW.callVRI (As := [.int c1, .int v3]) (st := []) cx hR qX7_bestReel_53 klX7_108 mvX7_passedBy (sh_140 hx) rfl rfl rfl rfl (Nat.le_of_ble_eq_true rfl) (Nat.le_of_ble_eq_true rfl) (Nat.le_of_ble_eq_true rfl) (Nat.zero_le _) (Nat.zero_le _) hf sne (fun t e => ctX7_passedBy hx h c1 v3 t e) (fun t6 hf => ?_)
          refine PW.aload_n cx qX7_bestReel_56 rfl ?_
          refine PW.iload_n cx qX7_bestReel_57 rfl ?_
          refine PW.iload_n cx qX7_bestReel_58 rfl ?_
          refine PW.callVRI (As := [.int c1, .int v2]) (st := [.int t6]) cx hR qX7_bestReel_59 klX7_108 mvX7_passedBy (sh_140 hx) rfl rfl rfl rfl (Nat.le_of_ble_eq_true rfl) (Nat.le_of_ble_eq_true rfl) (Nat.le_of_ble_eq_true rfl) (Nat.zero_le _) (Nat.zero_le _) hf sne (fun t e => ctX7_passedBy hx h c1 v2 t e) (fun t7 hf => ?_)
          refine PW.icmp_ge cx qX7_bestReel_62 hf (fun hf => ?_) (fun hf => ?_)
          · refine PW.iinc (v := 1) (L' := [some (.ref (gB g + 140)), some (.int c1), some (.int v2), some (.int (v3 + 1))]) cx qX7_bestReel_67 rfl rfl hi3 rfl rfl ?_
            refine PW.goto cx qX7_bestReel_70 ?_
            exact PW.locs (Lsub.keep (Lsub.keep (Lsub.keep (Lsub.keep Lsub.nil)))) (ih v2 (v3 + 1) _ hf kx)
          · refine PW.iload_n cx qX7_bestReel_65 rfl ?_
            refine PW.istore_n (L' := [some (.ref (gB g + 140)), some (.int c1), some (.int v3), some (.int v3)]) cx qX7_bestReel_66 hi2 rfl rfl ?_
            refine PW.iinc (v := 1) (L' := [some (.ref (gB g + 140)), some (.int c1), some (.int v3), some (.int (v3 + 1))]) cx qX7_bestReel_67 rfl rfl hi3 rfl rfl ?_
            refine PW.goto cx qX7_bestReel_70 ?_
            exact PW.locs (Lsub.keep (Lsub.keep (Lsub.keep (Lsub.keep Lsub.nil)))) (ih v3 (v3 + 1) _ hf kx)
      · refine PW.iinc (v := 1) (L' := [some (.ref (gB g + 140)), some (.int c1), some (.int v2), some (.int (v3 + 1))]) cx qX7_bestReel_67 rfl rfl hi3 rfl rfl ?_
        refine PW.goto cx qX7_bestReel_70 ?_
        exact PW.locs (Lsub.keep (Lsub.keep (Lsub.keep (Lsub.keep Lsub.nil)))) (ih v2 (v3 + 1) _ hf kx)
theorem ctX7_bestReel {g : GT} {ex : Bool} {sh : List Shp} (hx : MSh sh) (h : Hp) (p1 : Int32) (r0 : Int32 × Hp) (hf : M_bestReel h p1 = some r0) : Ct g mX7_bestReel 7 0 0 ex [.ref (gB g + 140), .int p1] sh h (PE (some (.int r0.1)) sh r0.2) := by
  refine Ct.of (L := [some (.ref (gB g + 140)), some (.int p1), none, none]) (by decide) (by intro w hw; simp only [List.mem_cons, List.not_mem_nil, or_false] at hw; rcases hw with rfl | rfl <;> rfl) (Nat.le_of_ble_eq_true rfl) rfl (fun X mx => ?_)
  have mx0 := mx
  obtain ⟨cx, hR, hml, hrt, -⟩ := mx0
  have cx : Cx g X RX7 cX7_bestReel := cx
  have hrt : X.2.2.2.2.2.2.2.1.sig.returnType = (some .int) := hrt
  have hi2 : 2 < X.2.2.2.2.2.2.2.2.maxLocals := by rw [hml]; exact Nat.le_of_ble_eq_true rfl
  have hi3 : 3 < X.2.2.2.2.2.2.2.2.maxLocals := by rw [hml]; exact Nat.le_of_ble_eq_true rfl
  unfold M_bestReel at hf
  refine PW.aload_n cx qX7_bestReel_0 rfl ?_
  refine PW.aload_n cx qX7_bestReel_1 rfl ?_
  refine PW.iload_n cx qX7_bestReel_2 rfl ?_
  refine PW.callVRB (As := [.int p1]) (st := [.ref (gB g + 140)]) cx hR qX7_bestReel_3 klX7_334 mvX7_isClip (sh_140 hx) rfl rfl rfl rfl (Nat.le_of_ble_eq_true rfl) (Nat.le_of_ble_eq_true rfl) (Nat.le_of_ble_eq_true rfl) (Nat.zero_le _) (Nat.zero_le _) hf sne (fun t e => ctX7_isClip hx h p1 t e) (fun t1 hf => ?_)
  obtain ⟨j14, ej14, hf⟩ := lt_split hf
  have hj14 : ∀ (z0_14 : Bool), j14 z0_14 = some r0 → PW g X ex (QE g X ex (PE (some (.int r0.1)) sh r0.2) 0 0) 0 0 sh h 14 [some (.ref (gB g + 140)), some (.int p1), none, none] [.int (b2i z0_14), .ref (gB g + 140)] := by
    intro z0_14 hf
    rw [ej14] at hf
    refine PW.callVWB (As := [.int (b2i z0_14)]) (st := []) cx hR qX7_bestReel_14 klX7_319 mvX7_throwsOne (sh_140 hx) rfl rfl rfl rfl (Nat.le_of_ble_eq_true rfl) (Nat.le_of_ble_eq_true rfl) (Nat.le_of_ble_eq_true rfl) (Nat.zero_le _) (Nat.zero_le _) hf sne (fun t e => ctX7_throwsOne hx h z0_14 t e) (fun ⟨t2, h3⟩ hf => ?_)
    refine PW.if_eq cx qX7_bestReel_17 hf (fun hf => ?_) (fun hf => ?_)
    · refine PW.iconst (v := (-1)) cx qX7_bestReel_22 rfl ?_
      refine PW.istore_n (L' := [some (.ref (gB g + 140)), some (.int p1), some (.int (-1)), none]) cx qX7_bestReel_23 hi2 rfl rfl ?_
      refine PW.iconst (v := 0) cx qX7_bestReel_24 rfl ?_
      refine PW.istore_n (L' := [some (.ref (gB g + 140)), some (.int p1), some (.int (-1)), some (.int 0)]) cx qX7_bestReel_25 hi3 rfl rfl ?_
      obtain ⟨r8, er8, hf⟩ := bndO hf sne
      refine PW.locs (Lsub.keep (Lsub.keep (Lsub.keep (Lsub.keep Lsub.nil)))) (lX7_bestReel_26 mx hx h3 p1 FU (-1) 0 r8 er8 (fun xx_ e => ?_))
      subst e
      refine PW.iload_n cx qX7_bestReel_73 rfl ?_
      exact PW.iret cx hrt qX7_bestReel_74 (le_wi hf)
    · refine PW.iconst (v := 0) cx qX7_bestReel_20 rfl ?_
      exact PW.iret cx hrt qX7_bestReel_21 (le_wi hf)
  refine PW.if_ne cx qX7_bestReel_6 hf (fun hf => ?_) (fun hf => ?_)
  · refine PW.iconst (v := 1) cx qX7_bestReel_9 rfl ?_
    refine PW.goto cx qX7_bestReel_10 ?_
    exact PW.locs (Lsub.keep (Lsub.keep (Lsub.drop (Lsub.drop Lsub.nil)))) (hj14 true hf)
  · refine PW.iconst (v := 0) cx qX7_bestReel_13 rfl ?_
    exact PW.locs (Lsub.keep (Lsub.keep (Lsub.drop (Lsub.drop Lsub.nil)))) (hj14 false hf)
theorem ctX7_matches {g : GT} {ex : Bool} {sh : List Shp} (hx : MSh sh) (h : Hp) (p1 : Int32) (p2 : Int32) (r0 : Bool × Hp) (hf : M_matches h p1 p2 = some r0) : Ct g mX7_matches 4 0 0 ex [.ref (gB g + 140), .int p1, .int p2] sh h (PE (some (.int (b2i r0.1))) sh r0.2) := by
  refine Ct.of (L := [some (.ref (gB g + 140)), some (.int p1), some (.int p2)]) (by decide) (by intro w hw; simp only [List.mem_cons, List.not_mem_nil, or_false] at hw; rcases hw with rfl | rfl | rfl <;> rfl) (Nat.le_of_ble_eq_true rfl) rfl (fun X mx => ?_)
  obtain ⟨cx, hR, hml, hrt, -⟩ := mx
  have cx : Cx g X RX7 cX7_matches := cx
  have hrt : X.2.2.2.2.2.2.2.1.sig.returnType = (some .boolean) := hrt
  unfold M_matches at hf
  refine PW.aload_n cx qX7_matches_0 rfl ?_
  refine PW.aload_n cx qX7_matches_1 rfl ?_
  refine PW.iload_n cx qX7_matches_2 rfl ?_
  refine PW.callVRB (As := [.int p1]) (st := [.ref (gB g + 140)]) cx hR qX7_matches_3 klX7_334 mvX7_isClip (sh_140 hx) rfl rfl rfl rfl (Nat.le_of_ble_eq_true rfl) (Nat.le_of_ble_eq_true rfl) (Nat.le_of_ble_eq_true rfl) (Nat.zero_le _) (Nat.zero_le _) hf sne (fun t e => ctX7_isClip hx h p1 t e) (fun t1 hf => ?_)
  obtain ⟨j14, ej14, hf⟩ := lt_split hf
  have hj14 : ∀ (z0_14 : Bool), j14 z0_14 = some r0 → PW g X ex (QE g X ex (PE (some (.int (b2i r0.1))) sh r0.2) 0 0) 0 0 sh h 14 [some (.ref (gB g + 140)), some (.int p1), some (.int p2)] [.int (b2i z0_14), .ref (gB g + 140)] := by
    intro z0_14 hf
    rw [ej14] at hf
    refine PW.iload_n cx qX7_matches_14 rfl ?_
    refine PW.callSRB (As := [.int p2]) (st := [.int (b2i z0_14), .ref (gB g + 140)]) cx hR qX7_matches_15 klX7_343 miX7_isPattern rfl rfl (Nat.le_of_ble_eq_true rfl) (Nat.le_of_ble_eq_true rfl) (Nat.le_of_ble_eq_true rfl) (Nat.zero_le _) (Nat.zero_le _) hf sne (fun t e => ctX7_isPattern h p2 t e) (fun t2 hf => ?_)
    obtain ⟨j26, ej26, hf⟩ := lt_split hf
    have hj26 : ∀ (z0_26 : Bool), j26 z0_26 = some r0 → PW g X ex (QE g X ex (PE (some (.int (b2i r0.1))) sh r0.2) 0 0) 0 0 sh h 26 [some (.ref (gB g + 140)), some (.int p1), some (.int p2)] [.int (b2i z0_26), .int (b2i z0_14), .ref (gB g + 140)] := by
      intro z0_26 hf
      rw [ej26] at hf
      refine PW.callVWB (As := [.int (b2i z0_14), .int (b2i z0_26)]) (st := []) cx hR qX7_matches_26 klX7_331 mvX7_throwsOne_ (sh_140 hx) rfl rfl rfl rfl (Nat.le_of_ble_eq_true rfl) (Nat.le_of_ble_eq_true rfl) (Nat.le_of_ble_eq_true rfl) (Nat.zero_le _) (Nat.zero_le _) hf sne (fun t e => ctX7_throwsOne_ hx h z0_14 z0_26 t e) (fun ⟨t3, h4⟩ hf => ?_)
      refine PW.if_ne cx qX7_matches_29 hf (fun hf => ?_) (fun hf => ?_)
      · refine PW.aload_n cx qX7_matches_32 rfl ?_
        refine PW.iload_n cx qX7_matches_33 rfl ?_
        refine PW.iload_n cx qX7_matches_34 rfl ?_
        refine PW.callVRI (As := [.int p1, .int p2]) (st := []) cx hR qX7_matches_35 klX7_130 mvX7_matchOf (sh_140 hx) rfl rfl rfl rfl (Nat.le_of_ble_eq_true rfl) (Nat.le_of_ble_eq_true rfl) (Nat.le_of_ble_eq_true rfl) (Nat.zero_le _) (Nat.zero_le _) hf sne (fun t e => ctX7_matchOf hx h4 p1 p2 t e) (fun t5 hf => ?_)
        refine PW.iconst (v := (-1)) cx qX7_matches_38 rfl ?_
        refine PW.icmp_eq cx qX7_matches_39 hf (fun hf => ?_) (fun hf => ?_)
        · refine PW.iconst (v := 0) cx qX7_matches_46 rfl ?_
          exact PW.zret cx hrt nb0 qX7_matches_47 (le_wz hf)
        · refine PW.iconst (v := 1) cx qX7_matches_42 rfl ?_
          refine PW.goto cx qX7_matches_43 ?_
          exact PW.zret cx hrt nb1 qX7_matches_47 (le_wz hf)
      · refine PW.iconst (v := 0) cx qX7_matches_46 rfl ?_
        exact PW.zret cx hrt nb0 qX7_matches_47 (le_wz hf)
    refine PW.if_ne cx qX7_matches_18 hf (fun hf => ?_) (fun hf => ?_)
    · refine PW.iconst (v := 1) cx qX7_matches_21 rfl ?_
      refine PW.goto cx qX7_matches_22 ?_
      exact PW.locs (Lsub.keep (Lsub.keep (Lsub.keep Lsub.nil))) (hj26 true hf)
    · refine PW.iconst (v := 0) cx qX7_matches_25 rfl ?_
      exact PW.locs (Lsub.keep (Lsub.keep (Lsub.keep Lsub.nil))) (hj26 false hf)
  refine PW.if_ne cx qX7_matches_6 hf (fun hf => ?_) (fun hf => ?_)
  · refine PW.iconst (v := 1) cx qX7_matches_9 rfl ?_
    refine PW.goto cx qX7_matches_10 ?_
    exact PW.locs (Lsub.keep (Lsub.keep (Lsub.keep Lsub.nil))) (hj14 true hf)
  · refine PW.iconst (v := 0) cx qX7_matches_13 rfl ?_
    exact PW.locs (Lsub.keep (Lsub.keep (Lsub.keep Lsub.nil))) (hj14 false hf)
theorem lX7_matchingSleepers_25 {g : GT} {X : XT} {ex : Bool} {sh : List Shp} {post : Option Value → List Shp → Hp → Prop} (mx : Mx g X mX7_matchingSleepers 4 0 0) (hx : MSh sh) (h : Hp) (c1 : Int32) : ∀ (n : Nat) (v2 : Int32) (v3 : Int32) (r : Int32) (hf : M_matchingSleepers_L25 h c1 n v2 v3 = some r) (kx : ∀ (x2 : Int32), r = x2 → PW g X ex (QE g X ex post 0 0) 0 0 sh h 71 [some (.ref (gB g + 140)), some (.int c1), some (.int x2), none] []), PW g X ex (QE g X ex post 0 0) 0 0 sh h 25 [some (.ref (gB g + 140)), some (.int c1), some (.int v2), some (.int v3)] [] := by
  have mx0 := mx
  obtain ⟨cx, hR, hml, hrt, -⟩ := mx0
  have cx : Cx g X RX7 cX7_matchingSleepers := cx
  have hrt : X.2.2.2.2.2.2.2.1.sig.returnType = (some .int) := hrt
  have hi2 : 2 < X.2.2.2.2.2.2.2.2.maxLocals := by rw [hml]; exact Nat.le_of_ble_eq_true rfl
  have hi3 : 3 < X.2.2.2.2.2.2.2.2.maxLocals := by rw [hml]; exact Nat.le_of_ble_eq_true rfl
  intro n
  induction n with
  | zero =>
    intro v2 v3 r hf kx
    cases hf
  | succ n ih =>
    intro v2 v3 r hf kx
    unfold M_matchingSleepers_L25 at hf
    refine PW.iload_n cx qX7_matchingSleepers_25 rfl ?_
    refine PW.aload_n cx qX7_matchingSleepers_26 rfl ?_
    refine PW.getf (t := (2, 141)) (v := .ref (gB g + 141)) cx qX7_matchingSleepers_27 (sh_140 hx) rfl flX7_7 rfl ?_
    refine PW.iconst (v := 2) cx qX7_matchingSleepers_30 rfl ?_
    refine PW.iald cx qX7_matchingSleepers_31 (sh_141 hx) hf sne (fun t4 hf => ?_)
    refine PW.icmp_ge cx qX7_matchingSleepers_32 hf (fun hf => ?_) (fun hf => ?_)
    · exact PW.locs (Lsub.keep (Lsub.keep (Lsub.keep (Lsub.drop Lsub.nil)))) (kx v2 (Option.some.inj hf).symm)
    · refine PW.iload_n cx qX7_matchingSleepers_35 rfl ?_
      refine PW.aload_n cx qX7_matchingSleepers_36 rfl ?_
      refine PW.iload_n cx qX7_matchingSleepers_37 rfl ?_
      refine PW.iconst (v := 1) cx qX7_matchingSleepers_38 rfl ?_
      refine PW.callVRI (As := [.int v3, .int 1]) (st := [.int v2]) cx hR qX7_matchingSleepers_39 klX7_70 mvX7_of (sh_140 hx) rfl rfl rfl rfl (Nat.le_of_ble_eq_true rfl) (Nat.le_of_ble_eq_true rfl) (Nat.le_of_ble_eq_true rfl) (Nat.zero_le _) (Nat.zero_le _) hf sne (fun t e => ctX7_of hx h v3 1 t e) (fun t5 hf => ?_)
      refine PW.iconst (v := 1) cx qX7_matchingSleepers_42 rfl ?_
      refine PW.icmp_ne cx qX7_matchingSleepers_43 hf (fun hf => ?_) (fun hf => ?_)
      · refine PW.aload_n cx qX7_matchingSleepers_46 rfl ?_
        refine PW.iload_n cx qX7_matchingSleepers_47 rfl ?_
        refine PW.iload_n cx qX7_matchingSleepers_48 rfl ?_
        refine PW.callVRI (As := [.int v3, .int c1]) (st := [.int v2]) cx hR qX7_matchingSleepers_49 klX7_130 mvX7_matchOf (sh_140 hx) rfl rfl rfl rfl (Nat.le_of_ble_eq_true rfl) (Nat.le_of_ble_eq_true rfl) (Nat.le_of_ble_eq_true rfl) (Nat.zero_le _) (Nat.zero_le _) hf sne (fun t e => ctX7_matchOf hx h v3 c1 t e) (fun t6 hf => ?_)
        refine PW.iconst (v := (-1)) cx qX7_matchingSleepers_52 rfl ?_
        refine PW.icmp_eq cx qX7_matchingSleepers_53 hf (fun hf => ?_) (fun hf => ?_)
        · refine PW.iconst (v := 0) cx qX7_matchingSleepers_62 rfl ?_
          refine PW.ior cx qX7_matchingSleepers_63 ?_
          refine PW.istore_n (L' := [some (.ref (gB g + 140)), some (.int c1), some (.int (v2 ||| 0)), some (.int v3)]) cx qX7_matchingSleepers_64 hi2 rfl rfl ?_
          refine PW.iinc (v := 1) (L' := [some (.ref (gB g + 140)), some (.int c1), some (.int (v2 ||| 0)), some (.int (v3 + 1))]) cx qX7_matchingSleepers_65 rfl rfl hi3 rfl rfl ?_
          refine PW.goto cx qX7_matchingSleepers_68 ?_
          exact PW.locs (Lsub.keep (Lsub.keep (Lsub.keep (Lsub.keep Lsub.nil)))) (ih (v2 ||| 0) (v3 + 1) _ hf kx)
        · refine PW.iconst (v := 1) cx qX7_matchingSleepers_56 rfl ?_
          refine PW.iload_n cx qX7_matchingSleepers_57 rfl ?_
          refine PW.ishl cx qX7_matchingSleepers_58 ?_
          refine PW.goto cx qX7_matchingSleepers_59 ?_
          refine PW.ior cx qX7_matchingSleepers_63 ?_
          refine PW.istore_n (L' := [some (.ref (gB g + 140)), some (.int c1), some (.int (v2 ||| (1 <<< (v3 &&& 31)))), some (.int v3)]) cx qX7_matchingSleepers_64 hi2 rfl rfl ?_
          refine PW.iinc (v := 1) (L' := [some (.ref (gB g + 140)), some (.int c1), some (.int (v2 ||| (1 <<< (v3 &&& 31)))), some (.int (v3 + 1))]) cx qX7_matchingSleepers_65 rfl rfl hi3 rfl rfl ?_
          refine PW.goto cx qX7_matchingSleepers_68 ?_
          exact PW.locs (Lsub.keep (Lsub.keep (Lsub.keep (Lsub.keep Lsub.nil)))) (ih (v2 ||| (1 <<< (v3 &&& 31))) (v3 + 1) _ hf kx)
      · refine PW.iconst (v := 0) cx qX7_matchingSleepers_62 rfl ?_
        refine PW.ior cx qX7_matchingSleepers_63 ?_
        refine PW.istore_n (L' := [some (.ref (gB g + 140)), some (.int c1), some (.int (v2 ||| 0)), some (.int v3)]) cx qX7_matchingSleepers_64 hi2 rfl rfl ?_
        refine PW.iinc (v := 1) (L' := [some (.ref (gB g + 140)), some (.int c1), some (.int (v2 ||| 0)), some (.int (v3 + 1))]) cx qX7_matchingSleepers_65 rfl rfl hi3 rfl rfl ?_
        refine PW.goto cx qX7_matchingSleepers_68 ?_
        exact PW.locs (Lsub.keep (Lsub.keep (Lsub.keep (Lsub.keep Lsub.nil)))) (ih (v2 ||| 0) (v3 + 1) _ hf kx)
theorem ctX7_matchingSleepers {g : GT} {ex : Bool} {sh : List Shp} (hx : MSh sh) (h : Hp) (p1 : Int32) (r0 : Int32 × Hp) (hf : M_matchingSleepers h p1 = some r0) : Ct g mX7_matchingSleepers 4 0 0 ex [.ref (gB g + 140), .int p1] sh h (PE (some (.int r0.1)) sh r0.2) := by
  refine Ct.of (L := [some (.ref (gB g + 140)), some (.int p1), none, none]) (by decide) (by intro w hw; simp only [List.mem_cons, List.not_mem_nil, or_false] at hw; rcases hw with rfl | rfl <;> rfl) (Nat.le_of_ble_eq_true rfl) rfl (fun X mx => ?_)
  have mx0 := mx
  obtain ⟨cx, hR, hml, hrt, -⟩ := mx0
  have cx : Cx g X RX7 cX7_matchingSleepers := cx
  have hrt : X.2.2.2.2.2.2.2.1.sig.returnType = (some .int) := hrt
  have hi2 : 2 < X.2.2.2.2.2.2.2.2.maxLocals := by rw [hml]; exact Nat.le_of_ble_eq_true rfl
  have hi3 : 3 < X.2.2.2.2.2.2.2.2.maxLocals := by rw [hml]; exact Nat.le_of_ble_eq_true rfl
  unfold M_matchingSleepers at hf
  refine PW.aload_n cx qX7_matchingSleepers_0 rfl ?_
  refine PW.iload_n cx qX7_matchingSleepers_1 rfl ?_
  refine PW.callSRB (As := [.int p1]) (st := [.ref (gB g + 140)]) cx hR qX7_matchingSleepers_2 klX7_343 miX7_isPattern rfl rfl (Nat.le_of_ble_eq_true rfl) (Nat.le_of_ble_eq_true rfl) (Nat.le_of_ble_eq_true rfl) (Nat.zero_le _) (Nat.zero_le _) hf sne (fun t e => ctX7_isPattern h p1 t e) (fun t1 hf => ?_)
  obtain ⟨j13, ej13, hf⟩ := lt_split hf
  have hj13 : ∀ (z0_13 : Bool), j13 z0_13 = some r0 → PW g X ex (QE g X ex (PE (some (.int r0.1)) sh r0.2) 0 0) 0 0 sh h 13 [some (.ref (gB g + 140)), some (.int p1), none, none] [.int (b2i z0_13), .ref (gB g + 140)] := by
    intro z0_13 hf
    rw [ej13] at hf
    refine PW.callVWB (As := [.int (b2i z0_13)]) (st := []) cx hR qX7_matchingSleepers_13 klX7_319 mvX7_throwsOne (sh_140 hx) rfl rfl rfl rfl (Nat.le_of_ble_eq_true rfl) (Nat.le_of_ble_eq_true rfl) (Nat.le_of_ble_eq_true rfl) (Nat.zero_le _) (Nat.zero_le _) hf sne (fun t e => ctX7_throwsOne hx h z0_13 t e) (fun ⟨t2, h3⟩ hf => ?_)
    refine PW.if_eq cx qX7_matchingSleepers_16 hf (fun hf => ?_) (fun hf => ?_)
    · refine PW.iconst (v := 0) cx qX7_matchingSleepers_21 rfl ?_
      refine PW.istore_n (L' := [some (.ref (gB g + 140)), some (.int p1), some (.int 0), none]) cx qX7_matchingSleepers_22 hi2 rfl rfl ?_
      refine PW.iconst (v := 0) cx qX7_matchingSleepers_23 rfl ?_
      refine PW.istore_n (L' := [some (.ref (gB g + 140)), some (.int p1), some (.int 0), some (.int 0)]) cx qX7_matchingSleepers_24 hi3 rfl rfl ?_
      obtain ⟨r7, er7, hf⟩ := bndO hf sne
      refine PW.locs (Lsub.keep (Lsub.keep (Lsub.keep (Lsub.keep Lsub.nil)))) (lX7_matchingSleepers_25 mx hx h3 p1 FU 0 0 r7 er7 (fun xx_ e => ?_))
      subst e
      refine PW.iload_n cx qX7_matchingSleepers_71 rfl ?_
      exact PW.iret cx hrt qX7_matchingSleepers_72 (le_wi hf)
    · refine PW.iconst (v := 0) cx qX7_matchingSleepers_19 rfl ?_
      exact PW.iret cx hrt qX7_matchingSleepers_20 (le_wi hf)
  refine PW.if_ne cx qX7_matchingSleepers_5 hf (fun hf => ?_) (fun hf => ?_)
  · refine PW.iconst (v := 1) cx qX7_matchingSleepers_8 rfl ?_
    refine PW.goto cx qX7_matchingSleepers_9 ?_
    exact PW.locs (Lsub.keep (Lsub.keep (Lsub.drop (Lsub.drop Lsub.nil)))) (hj13 true hf)
  · refine PW.iconst (v := 0) cx qX7_matchingSleepers_12 rfl ?_
    exact PW.locs (Lsub.keep (Lsub.keep (Lsub.drop (Lsub.drop Lsub.nil)))) (hj13 false hf)
theorem ctX7_wokenBy {g : GT} {ex : Bool} {sh : List Shp} (hx : MSh sh) (h : Hp) (p1 : Int32) (p2 : Int32) (r0 : Int32 × Hp) (hf : M_wokenBy h p1 p2 = some r0) : Ct g mX7_wokenBy 5 0 0 ex [.ref (gB g + 140), .int p1, .int p2] sh h (PE (some (.int r0.1)) sh r0.2) := by
  refine Ct.of (L := [some (.ref (gB g + 140)), some (.int p1), some (.int p2), none]) (by decide) (by intro w hw; simp only [List.mem_cons, List.not_mem_nil, or_false] at hw; rcases hw with rfl | rfl | rfl <;> rfl) (Nat.le_of_ble_eq_true rfl) rfl (fun X mx => ?_)
  obtain ⟨cx, hR, hml, hrt, -⟩ := mx
  have cx : Cx g X RX7 cX7_wokenBy := cx
  have hrt : X.2.2.2.2.2.2.2.1.sig.returnType = (some .int) := hrt
  have hi3 : 3 < X.2.2.2.2.2.2.2.2.maxLocals := by rw [hml]; exact Nat.le_of_ble_eq_true rfl
  unfold M_wokenBy at hf
  refine PW.aload_n cx qX7_wokenBy_0 rfl ?_
  refine PW.aload_n cx qX7_wokenBy_1 rfl ?_
  refine PW.iload_n cx qX7_wokenBy_2 rfl ?_
  refine PW.callVRB (As := [.int p1]) (st := [.ref (gB g + 140)]) cx hR qX7_wokenBy_3 klX7_340 mvX7_isScene (sh_140 hx) rfl rfl rfl rfl (Nat.le_of_ble_eq_true rfl) (Nat.le_of_ble_eq_true rfl) (Nat.le_of_ble_eq_true rfl) (Nat.zero_le _) (Nat.zero_le _) hf sne (fun t e => ctX7_isScene hx h p1 t e) (fun t1 hf => ?_)
  obtain ⟨j14, ej14, hf⟩ := lt_split hf
  have hj14 : ∀ (z0_14 : Bool), j14 z0_14 = some r0 → PW g X ex (QE g X ex (PE (some (.int r0.1)) sh r0.2) 0 0) 0 0 sh h 14 [some (.ref (gB g + 140)), some (.int p1), some (.int p2), none] [.int (b2i z0_14), .ref (gB g + 140)] := by
    intro z0_14 hf
    rw [ej14] at hf
    refine PW.iload_n cx qX7_wokenBy_14 rfl ?_
    refine PW.callSRB (As := [.int p2]) (st := [.int (b2i z0_14), .ref (gB g + 140)]) cx hR qX7_wokenBy_15 klX7_343 miX7_isPattern rfl rfl (Nat.le_of_ble_eq_true rfl) (Nat.le_of_ble_eq_true rfl) (Nat.le_of_ble_eq_true rfl) (Nat.zero_le _) (Nat.zero_le _) hf sne (fun t e => ctX7_isPattern h p2 t e) (fun t2 hf => ?_)
    obtain ⟨j26, ej26, hf⟩ := lt_split hf
    have hj26 : ∀ (z0_26 : Bool), j26 z0_26 = some r0 → PW g X ex (QE g X ex (PE (some (.int r0.1)) sh r0.2) 0 0) 0 0 sh h 26 [some (.ref (gB g + 140)), some (.int p1), some (.int p2), none] [.int (b2i z0_26), .int (b2i z0_14), .ref (gB g + 140)] := by
      intro z0_26 hf
      rw [ej26] at hf
      refine PW.callVWB (As := [.int (b2i z0_14), .int (b2i z0_26)]) (st := []) cx hR qX7_wokenBy_26 klX7_331 mvX7_throwsOne_ (sh_140 hx) rfl rfl rfl rfl (Nat.le_of_ble_eq_true rfl) (Nat.le_of_ble_eq_true rfl) (Nat.le_of_ble_eq_true rfl) (Nat.zero_le _) (Nat.zero_le _) hf sne (fun t e => ctX7_throwsOne_ hx h z0_14 z0_26 t e) (fun ⟨t3, h4⟩ hf => ?_)
      refine PW.if_eq cx qX7_wokenBy_29 hf (fun hf => ?_) (fun hf => ?_)
      · refine PW.aload_n cx qX7_wokenBy_34 rfl ?_
        refine PW.callVWV (As := []) (st := []) cx hR qX7_wokenBy_35 klX7_365 mvX7_setAside (sh_140 hx) rfl rfl rfl rfl (Nat.le_of_ble_eq_true rfl) (Nat.le_of_ble_eq_true rfl) (Nat.le_of_ble_eq_true rfl) (Nat.zero_le _) (Nat.zero_le _) hf sne (fun t e => ctX7_setAside hx h4 t e) (fun h6 hf => ?_)
        refine PW.aload_n cx qX7_wokenBy_38 rfl ?_
        refine PW.iload_n cx qX7_wokenBy_39 rfl ?_
        refine PW.iload_n cx qX7_wokenBy_40 rfl ?_
        refine PW.callVWI (As := [.int p1, .int p2]) (st := []) cx hR qX7_wokenBy_41 klX7_210 mvX7_cuts (sh_140 hx) rfl rfl rfl rfl (Nat.le_of_ble_eq_true rfl) (Nat.le_of_ble_eq_true rfl) (Nat.le_of_ble_eq_true rfl) (Nat.zero_le _) (Nat.zero_le _) hf sne (fun t e => ctX7_cuts hx h6 p1 p2 t e) (fun ⟨t7, h8⟩ hf => ?_)
        refine PW.istore_n (L' := [some (.ref (gB g + 140)), some (.int p1), some (.int p2), some (.int t7)]) cx qX7_wokenBy_44 hi3 rfl rfl ?_
        refine PW.aload_n cx qX7_wokenBy_45 rfl ?_
        refine PW.callVWV (As := []) (st := []) cx hR qX7_wokenBy_46 klX7_371 mvX7_bringBack (sh_140 hx) rfl rfl rfl rfl (Nat.le_of_ble_eq_true rfl) (Nat.le_of_ble_eq_true rfl) (Nat.le_of_ble_eq_true rfl) (Nat.zero_le _) (Nat.zero_le _) hf sne (fun t e => ctX7_bringBack hx h8 t e) (fun h10 hf => ?_)
        refine PW.iload_n cx qX7_wokenBy_49 rfl ?_
        exact PW.iret cx hrt qX7_wokenBy_50 (le_wi hf)
      · refine PW.iconst (v := 0) cx qX7_wokenBy_32 rfl ?_
        exact PW.iret cx hrt qX7_wokenBy_33 (le_wi hf)
    refine PW.if_ne cx qX7_wokenBy_18 hf (fun hf => ?_) (fun hf => ?_)
    · refine PW.iconst (v := 1) cx qX7_wokenBy_21 rfl ?_
      refine PW.goto cx qX7_wokenBy_22 ?_
      exact PW.locs (Lsub.keep (Lsub.keep (Lsub.keep (Lsub.drop Lsub.nil)))) (hj26 true hf)
    · refine PW.iconst (v := 0) cx qX7_wokenBy_25 rfl ?_
      exact PW.locs (Lsub.keep (Lsub.keep (Lsub.keep (Lsub.drop Lsub.nil)))) (hj26 false hf)
  refine PW.if_ne cx qX7_wokenBy_6 hf (fun hf => ?_) (fun hf => ?_)
  · refine PW.iconst (v := 1) cx qX7_wokenBy_9 rfl ?_
    refine PW.goto cx qX7_wokenBy_10 ?_
    exact PW.locs (Lsub.keep (Lsub.keep (Lsub.keep (Lsub.drop Lsub.nil)))) (hj14 true hf)
  · refine PW.iconst (v := 0) cx qX7_wokenBy_13 rfl ?_
    exact PW.locs (Lsub.keep (Lsub.keep (Lsub.keep (Lsub.drop Lsub.nil)))) (hj14 false hf)
theorem ctX7_firstMatch {g : GT} {ex : Bool} {sh : List Shp} (hx : MSh sh) (h : Hp) (p1 : Int32) (p2 : Int32) (r0 : Int32 × Hp) (hf : M_firstMatch h p1 p2 = some r0) : Ct g mX7_firstMatch 4 0 0 ex [.ref (gB g + 140), .int p1, .int p2] sh h (PE (some (.int r0.1)) sh r0.2) := by
  refine Ct.of (L := [some (.ref (gB g + 140)), some (.int p1), some (.int p2)]) (by decide) (by intro w hw; simp only [List.mem_cons, List.not_mem_nil, or_false] at hw; rcases hw with rfl | rfl | rfl <;> rfl) (Nat.le_of_ble_eq_true rfl) rfl (fun X mx => ?_)
  obtain ⟨cx, hR, hml, hrt, -⟩ := mx
  have cx : Cx g X RX7 cX7_firstMatch := cx
  have hrt : X.2.2.2.2.2.2.2.1.sig.returnType = (some .int) := hrt
  unfold M_firstMatch at hf
  refine PW.aload_n cx qX7_firstMatch_0 rfl ?_
  refine PW.aload_n cx qX7_firstMatch_1 rfl ?_
  refine PW.iload_n cx qX7_firstMatch_2 rfl ?_
  refine PW.callVRB (As := [.int p1]) (st := [.ref (gB g + 140)]) cx hR qX7_firstMatch_3 klX7_334 mvX7_isClip (sh_140 hx) rfl rfl rfl rfl (Nat.le_of_ble_eq_true rfl) (Nat.le_of_ble_eq_true rfl) (Nat.le_of_ble_eq_true rfl) (Nat.zero_le _) (Nat.zero_le _) hf sne (fun t e => ctX7_isClip hx h p1 t e) (fun t1 hf => ?_)
  obtain ⟨j14, ej14, hf⟩ := lt_split hf
  have hj14 : ∀ (z0_14 : Bool), j14 z0_14 = some r0 → PW g X ex (QE g X ex (PE (some (.int r0.1)) sh r0.2) 0 0) 0 0 sh h 14 [some (.ref (gB g + 140)), some (.int p1), some (.int p2)] [.int (b2i z0_14), .ref (gB g + 140)] := by
    intro z0_14 hf
    rw [ej14] at hf
    refine PW.iload_n cx qX7_firstMatch_14 rfl ?_
    refine PW.callSRB (As := [.int p2]) (st := [.int (b2i z0_14), .ref (gB g + 140)]) cx hR qX7_firstMatch_15 klX7_343 miX7_isPattern rfl rfl (Nat.le_of_ble_eq_true rfl) (Nat.le_of_ble_eq_true rfl) (Nat.le_of_ble_eq_true rfl) (Nat.zero_le _) (Nat.zero_le _) hf sne (fun t e => ctX7_isPattern h p2 t e) (fun t2 hf => ?_)
    obtain ⟨j26, ej26, hf⟩ := lt_split hf
    have hj26 : ∀ (z0_26 : Bool), j26 z0_26 = some r0 → PW g X ex (QE g X ex (PE (some (.int r0.1)) sh r0.2) 0 0) 0 0 sh h 26 [some (.ref (gB g + 140)), some (.int p1), some (.int p2)] [.int (b2i z0_26), .int (b2i z0_14), .ref (gB g + 140)] := by
      intro z0_26 hf
      rw [ej26] at hf
      refine PW.callVWB (As := [.int (b2i z0_14), .int (b2i z0_26)]) (st := []) cx hR qX7_firstMatch_26 klX7_331 mvX7_throwsOne_ (sh_140 hx) rfl rfl rfl rfl (Nat.le_of_ble_eq_true rfl) (Nat.le_of_ble_eq_true rfl) (Nat.le_of_ble_eq_true rfl) (Nat.zero_le _) (Nat.zero_le _) hf sne (fun t e => ctX7_throwsOne_ hx h z0_14 z0_26 t e) (fun ⟨t3, h4⟩ hf => ?_)
      refine PW.if_eq cx qX7_firstMatch_29 hf (fun hf => ?_) (fun hf => ?_)
      · refine PW.aload_n cx qX7_firstMatch_36 rfl ?_
        refine PW.iload_n cx qX7_firstMatch_37 rfl ?_
        refine PW.iload_n cx qX7_firstMatch_38 rfl ?_
        refine PW.callVRI (As := [.int p1, .int p2]) (st := []) cx hR qX7_firstMatch_39 klX7_130 mvX7_matchOf (sh_140 hx) rfl rfl rfl rfl (Nat.le_of_ble_eq_true rfl) (Nat.le_of_ble_eq_true rfl) (Nat.le_of_ble_eq_true rfl) (Nat.zero_le _) (Nat.zero_le _) hf sne (fun t e => ctX7_matchOf hx h4 p1 p2 t e) (fun t5 hf => ?_)
        exact PW.iret cx hrt qX7_firstMatch_42 (le_wi hf)
      · refine PW.iconst (v := 0) cx qX7_firstMatch_32 rfl ?_
        refine PW.goto cx qX7_firstMatch_33 ?_
        exact PW.iret cx hrt qX7_firstMatch_42 (le_wi hf)
    refine PW.if_ne cx qX7_firstMatch_18 hf (fun hf => ?_) (fun hf => ?_)
    · refine PW.iconst (v := 1) cx qX7_firstMatch_21 rfl ?_
      refine PW.goto cx qX7_firstMatch_22 ?_
      exact PW.locs (Lsub.keep (Lsub.keep (Lsub.keep Lsub.nil))) (hj26 true hf)
    · refine PW.iconst (v := 0) cx qX7_firstMatch_25 rfl ?_
      exact PW.locs (Lsub.keep (Lsub.keep (Lsub.keep Lsub.nil))) (hj26 false hf)
  refine PW.if_ne cx qX7_firstMatch_6 hf (fun hf => ?_) (fun hf => ?_)
  · refine PW.iconst (v := 1) cx qX7_firstMatch_9 rfl ?_
    refine PW.goto cx qX7_firstMatch_10 ?_
    exact PW.locs (Lsub.keep (Lsub.keep (Lsub.keep Lsub.nil))) (hj14 true hf)
  · refine PW.iconst (v := 0) cx qX7_firstMatch_13 rfl ?_
    exact PW.locs (Lsub.keep (Lsub.keep (Lsub.keep Lsub.nil))) (hj14 false hf)
theorem lX7_isAlone_2 {g : GT} {X : XT} {ex : Bool} {sh : List Shp} {post : Option Value → List Shp → Hp → Prop} (mx : Mx g X mX7_isAlone 4 0 0) (hx : MSh sh) (h : Hp) (c1 : Int32) (c2 : Int32) : ∀ (n : Nat) (v3 : Int32) (r : (Unit) ⊕ (Bool)) (hf : M_isAlone_L2 h c1 c2 n v3 = some r) (kx : r = .inl () → PW g X ex (QE g X ex post 0 0) 0 0 sh h 45 [some (.ref (gB g + 140)), some (.int c1), some (.int c2), none] []) (kr : ∀ y : Bool, r = .inr y → post (some (.int (b2i y))) sh h), PW g X ex (QE g X ex post 0 0) 0 0 sh h 2 [some (.ref (gB g + 140)), some (.int c1), some (.int c2), some (.int v3)] [] := by
  have mx0 := mx
  obtain ⟨cx, hR, hml, hrt, -⟩ := mx0
  have cx : Cx g X RX7 cX7_isAlone := cx
  have hrt : X.2.2.2.2.2.2.2.1.sig.returnType = (some .boolean) := hrt
  have hi3 : 3 < X.2.2.2.2.2.2.2.2.maxLocals := by rw [hml]; exact Nat.le_of_ble_eq_true rfl
  intro n
  induction n with
  | zero =>
    intro v3 r hf kx kr
    cases hf
  | succ n ih =>
    intro v3 r hf kx kr
    unfold M_isAlone_L2 at hf
    refine PW.iload_n cx qX7_isAlone_2 rfl ?_
    refine PW.aload_n cx qX7_isAlone_3 rfl ?_
    refine PW.getf (t := (2, 141)) (v := .ref (gB g + 141)) cx qX7_isAlone_4 (sh_140 hx) rfl flX7_7 rfl ?_
    refine PW.iconst (v := 2) cx qX7_isAlone_7 rfl ?_
    refine PW.iald cx qX7_isAlone_8 (sh_141 hx) hf sne (fun t1 hf => ?_)
    refine PW.icmp_ge cx qX7_isAlone_9 hf (fun hf => ?_) (fun hf => ?_)
    · exact PW.locs (Lsub.keep (Lsub.keep (Lsub.keep (Lsub.drop Lsub.nil)))) (kx (Option.some.inj hf).symm)
    · refine PW.iload_n cx qX7_isAlone_12 rfl ?_
      refine PW.iload_n cx qX7_isAlone_13 rfl ?_
      refine PW.icmp_eq cx qX7_isAlone_14 hf (fun hf => ?_) (fun hf => ?_)
      · refine PW.iinc (v := 1) (L' := [some (.ref (gB g + 140)), some (.int c1), some (.int c2), some (.int (v3 + 1))]) cx qX7_isAlone_39 rfl rfl hi3 rfl rfl ?_
        refine PW.goto cx qX7_isAlone_42 ?_
        exact PW.locs (Lsub.keep (Lsub.keep (Lsub.keep (Lsub.keep Lsub.nil)))) (ih (v3 + 1) _ hf kx kr)
      · refine PW.aload_n cx qX7_isAlone_17 rfl ?_
        refine PW.iload_n cx qX7_isAlone_18 rfl ?_
        refine PW.iconst (v := 1) cx qX7_isAlone_19 rfl ?_
        refine PW.callVRI (As := [.int v3, .int 1]) (st := []) cx hR qX7_isAlone_20 klX7_70 mvX7_of (sh_140 hx) rfl rfl rfl rfl (Nat.le_of_ble_eq_true rfl) (Nat.le_of_ble_eq_true rfl) (Nat.le_of_ble_eq_true rfl) (Nat.zero_le _) (Nat.zero_le _) hf sne (fun t e => ctX7_of hx h v3 1 t e) (fun t2 hf => ?_)
        refine PW.iconst (v := 2) cx qX7_isAlone_23 rfl ?_
        refine PW.icmp_eq cx qX7_isAlone_24 hf (fun hf => ?_) (fun hf => ?_)
        · refine PW.iinc (v := 1) (L' := [some (.ref (gB g + 140)), some (.int c1), some (.int c2), some (.int (v3 + 1))]) cx qX7_isAlone_39 rfl rfl hi3 rfl rfl ?_
          refine PW.goto cx qX7_isAlone_42 ?_
          exact PW.locs (Lsub.keep (Lsub.keep (Lsub.keep (Lsub.keep Lsub.nil)))) (ih (v3 + 1) _ hf kx kr)
        · refine PW.aload_n cx qX7_isAlone_27 rfl ?_
          refine PW.iload_n cx qX7_isAlone_28 rfl ?_
          refine PW.iload_n cx qX7_isAlone_29 rfl ?_
          refine PW.callVRI (As := [.int v3, .int c2]) (st := []) cx hR qX7_isAlone_30 klX7_130 mvX7_matchOf (sh_140 hx) rfl rfl rfl rfl (Nat.le_of_ble_eq_true rfl) (Nat.le_of_ble_eq_true rfl) (Nat.le_of_ble_eq_true rfl) (Nat.zero_le _) (Nat.zero_le _) hf sne (fun t e => ctX7_matchOf hx h v3 c2 t e) (fun t3 hf => ?_)
          refine PW.iconst (v := (-1)) cx qX7_isAlone_33 rfl ?_
          refine PW.icmp_eq cx qX7_isAlone_34 hf (fun hf => ?_) (fun hf => ?_)
          · refine PW.iinc (v := 1) (L' := [some (.ref (gB g + 140)), some (.int c1), some (.int c2), some (.int (v3 + 1))]) cx qX7_isAlone_39 rfl rfl hi3 rfl rfl ?_
            refine PW.goto cx qX7_isAlone_42 ?_
            exact PW.locs (Lsub.keep (Lsub.keep (Lsub.keep (Lsub.keep Lsub.nil)))) (ih (v3 + 1) _ hf kx kr)
          · refine PW.iconst (v := 0) cx qX7_isAlone_37 rfl ?_
            exact PW.zret cx hrt nb0 qX7_isAlone_38 (kr _ (Option.some.inj hf).symm)
theorem ctX7_isAlone {g : GT} {ex : Bool} {sh : List Shp} (hx : MSh sh) (h : Hp) (p1 : Int32) (p2 : Int32) (r0 : Bool) (hf : M_isAlone h p1 p2 = some r0) : Ct g mX7_isAlone 4 0 0 ex [.ref (gB g + 140), .int p1, .int p2] sh h (PE (some (.int (b2i r0))) sh h) := by
  refine Ct.of (L := [some (.ref (gB g + 140)), some (.int p1), some (.int p2), none]) (by decide) (by intro w hw; simp only [List.mem_cons, List.not_mem_nil, or_false] at hw; rcases hw with rfl | rfl | rfl <;> rfl) (Nat.le_of_ble_eq_true rfl) rfl (fun X mx => ?_)
  have mx0 := mx
  obtain ⟨cx, hR, hml, hrt, -⟩ := mx0
  have cx : Cx g X RX7 cX7_isAlone := cx
  have hrt : X.2.2.2.2.2.2.2.1.sig.returnType = (some .boolean) := hrt
  have hi3 : 3 < X.2.2.2.2.2.2.2.2.maxLocals := by rw [hml]; exact Nat.le_of_ble_eq_true rfl
  unfold M_isAlone at hf
  refine PW.iconst (v := 0) cx qX7_isAlone_0 rfl ?_
  refine PW.istore_n (L' := [some (.ref (gB g + 140)), some (.int p1), some (.int p2), some (.int 0)]) cx qX7_isAlone_1 hi3 rfl rfl ?_
  obtain ⟨r4, er4, hf⟩ := bndO hf sne
  refine PW.locs (Lsub.keep (Lsub.keep (Lsub.keep (Lsub.keep Lsub.nil)))) (lX7_isAlone_2 mx hx h p1 p2 FU 0 r4 er4 (fun e => ?_) (fun y e => ?_))
  · subst e
    refine PW.iconst (v := 1) cx qX7_isAlone_45 rfl ?_
    exact PW.zret cx hrt nb1 qX7_isAlone_46 (le_rz hf)
  · subst e
    exact (le_rz hf)
theorem lX7_part_6 {g : GT} {X : XT} {ex : Bool} {sh : List Shp} {post : Option Value → List Shp → Hp → Prop} (mx : Mx g X mX7_part 2 0 0) (hx : MSh sh) (h : Hp) (c1 : Int32) (c2 : Int32) (c3 : Int32) : ∀ (n : Nat) (v4 : Int32) (v5 : Int32) (r : Int32) (hf : M_part_L6 h c1 c2 c3 n v4 v5 = some r) (kx : ∀ (x4 : Int32), r = x4 → PW g X ex (QE g X ex post 0 0) 0 0 sh h 39 [some (.ref (gB g + 140)), some (.int c1), some (.int c2), some (.int c3), some (.int x4), none] []), PW g X ex (QE g X ex post 0 0) 0 0 sh h 6 [some (.ref (gB g + 140)), some (.int c1), some (.int c2), some (.int c3), some (.int v4), some (.int v5)] [] := by
  have mx0 := mx
  obtain ⟨cx, hR, hml, hrt, -⟩ := mx0
  have cx : Cx g X RX7 cX7_part := cx
  have hrt : X.2.2.2.2.2.2.2.1.sig.returnType = (some .int) := hrt
  have hi4 : 4 < X.2.2.2.2.2.2.2.2.maxLocals := by rw [hml]; exact Nat.le_of_ble_eq_true rfl
  have hi5 : 5 < X.2.2.2.2.2.2.2.2.maxLocals := by rw [hml]; exact Nat.le_of_ble_eq_true rfl
  intro n
  induction n with
  | zero =>
    intro v4 v5 r hf kx
    cases hf
  | succ n ih =>
    intro v4 v5 r hf kx
    unfold M_part_L6 at hf
    refine PW.iload cx qX7_part_6 rfl ?_
    refine PW.iload_n cx qX7_part_8 rfl ?_
    refine PW.iload_n cx qX7_part_9 rfl ?_
    refine PW.iadd cx qX7_part_10 ?_
    refine PW.icmp_ge cx qX7_part_11 hf (fun hf => ?_) (fun hf => ?_)
    · exact PW.locs (Lsub.keep (Lsub.keep (Lsub.keep (Lsub.keep (Lsub.keep (Lsub.drop Lsub.nil)))))) (kx v4 (Option.some.inj hf).symm)
    · refine PW.bipush (v := 10) cx qX7_part_14 rfl ?_
      refine PW.iload cx qX7_part_16 rfl ?_
      refine PW.imul cx qX7_part_18 ?_
      refine PW.aload_n cx qX7_part_19 rfl ?_
      refine PW.iload_n cx qX7_part_20 rfl ?_
      refine PW.iconst (v := 0) cx qX7_part_21 rfl ?_
      refine PW.callVRI (As := [.int c1, .int 0]) (st := [.int (10 * v4)]) cx hR qX7_part_22 klX7_70 mvX7_of (sh_140 hx) rfl rfl rfl rfl (Nat.le_of_ble_eq_true rfl) (Nat.le_of_ble_eq_true rfl) (Nat.le_of_ble_eq_true rfl) (Nat.zero_le _) (Nat.zero_le _) hf sne (fun t e => ctX7_of hx h c1 0 t e) (fun t1 hf => ?_)
      refine PW.iload cx qX7_part_25 rfl ?_
      refine PW.callSRI (As := [.int t1, .int v5]) (st := [.int (10 * v4)]) cx hR qX7_part_27 klX7_74 miX7_digit rfl rfl (Nat.le_of_ble_eq_true rfl) (Nat.le_of_ble_eq_true rfl) (Nat.le_of_ble_eq_true rfl) (Nat.zero_le _) (Nat.zero_le _) hf sne (fun t e => ctX7_digit h t1 v5 t e) (fun t2 hf => ?_)
      refine PW.iadd cx qX7_part_30 ?_
      refine PW.istore (L' := [some (.ref (gB g + 140)), some (.int c1), some (.int c2), some (.int c3), some (.int ((10 * v4) + t2)), some (.int v5)]) cx qX7_part_31 hi4 rfl rfl ?_
      refine PW.iinc (v := 1) (L' := [some (.ref (gB g + 140)), some (.int c1), some (.int c2), some (.int c3), some (.int ((10 * v4) + t2)), some (.int (v5 + 1))]) cx qX7_part_33 rfl rfl hi5 rfl rfl ?_
      refine PW.goto cx qX7_part_36 ?_
      exact PW.locs (Lsub.keep (Lsub.keep (Lsub.keep (Lsub.keep (Lsub.keep (Lsub.keep Lsub.nil)))))) (ih ((10 * v4) + t2) (v5 + 1) _ hf kx)
theorem ctX7_part {g : GT} {ex : Bool} {sh : List Shp} (hx : MSh sh) (h : Hp) (p1 : Int32) (p2 : Int32) (p3 : Int32) (r0 : Int32) (hf : M_part h p1 p2 p3 = some r0) : Ct g mX7_part 2 0 0 ex [.ref (gB g + 140), .int p1, .int p2, .int p3] sh h (PE (some (.int r0)) sh h) := by
  refine Ct.of (L := [some (.ref (gB g + 140)), some (.int p1), some (.int p2), some (.int p3), none, none]) (by decide) (by intro w hw; simp only [List.mem_cons, List.not_mem_nil, or_false] at hw; rcases hw with rfl | rfl | rfl | rfl <;> rfl) (Nat.le_of_ble_eq_true rfl) rfl (fun X mx => ?_)
  have mx0 := mx
  obtain ⟨cx, hR, hml, hrt, -⟩ := mx0
  have cx : Cx g X RX7 cX7_part := cx
  have hrt : X.2.2.2.2.2.2.2.1.sig.returnType = (some .int) := hrt
  have hi4 : 4 < X.2.2.2.2.2.2.2.2.maxLocals := by rw [hml]; exact Nat.le_of_ble_eq_true rfl
  have hi5 : 5 < X.2.2.2.2.2.2.2.2.maxLocals := by rw [hml]; exact Nat.le_of_ble_eq_true rfl
  unfold M_part at hf
  refine PW.iconst (v := 0) cx qX7_part_0 rfl ?_
  refine PW.istore (L' := [some (.ref (gB g + 140)), some (.int p1), some (.int p2), some (.int p3), some (.int 0), none]) cx qX7_part_1 hi4 rfl rfl ?_
  refine PW.iload_n cx qX7_part_3 rfl ?_
  refine PW.istore (L' := [some (.ref (gB g + 140)), some (.int p1), some (.int p2), some (.int p3), some (.int 0), some (.int p2)]) cx qX7_part_4 hi5 rfl rfl ?_
  obtain ⟨r3, er3, hf⟩ := bndO hf sne
  refine PW.locs (Lsub.keep (Lsub.keep (Lsub.keep (Lsub.keep (Lsub.keep (Lsub.keep Lsub.nil)))))) (lX7_part_6 mx hx h p1 p2 p3 FU 0 p2 r3 er3 (fun xx_ e => ?_))
  subst e
  refine PW.iload cx qX7_part_39 rfl ?_
  exact PW.iret cx hrt qX7_part_41 (le_ri hf)
theorem lX7_bestPattern_39 {g : GT} {X : XT} {ex : Bool} {sh : List Shp} {post : Option Value → List Shp → Hp → Prop} (mx : Mx g X mX7_bestPattern 5 0 0) (hx : MSh sh) (h : Hp) (c1 : Int32) (c3 : Int32) : ∀ (n : Nat) (v2 : Int32) (v4 : Int32) (r : Int32) (hf : M_bestPattern_L39 h c1 c3 n v2 v4 = some r) (kx : ∀ (x2 : Int32), r = x2 → PW g X ex (QE g X ex post 0 0) 0 0 sh h 99 [some (.ref (gB g + 140)), some (.int c1), some (.int x2), some (.int c3), none, none] []), PW g X ex (QE g X ex post 0 0) 0 0 sh h 39 [some (.ref (gB g + 140)), some (.int c1), some (.int v2), some (.int c3), some (.int v4), none] [] := by
  have mx0 := mx
  obtain ⟨cx, hR, hml, hrt, -⟩ := mx0
  have cx : Cx g X RX7 cX7_bestPattern := cx
  have hrt : X.2.2.2.2.2.2.2.1.sig.returnType = (some .int) := hrt
  have hi2 : 2 < X.2.2.2.2.2.2.2.2.maxLocals := by rw [hml]; exact Nat.le_of_ble_eq_true rfl
  have hi3 : 3 < X.2.2.2.2.2.2.2.2.maxLocals := by rw [hml]; exact Nat.le_of_ble_eq_true rfl
  have hi4 : 4 < X.2.2.2.2.2.2.2.2.maxLocals := by rw [hml]; exact Nat.le_of_ble_eq_true rfl
  have hi5 : 5 < X.2.2.2.2.2.2.2.2.maxLocals := by rw [hml]; exact Nat.le_of_ble_eq_true rfl
  intro n
  induction n with
  | zero =>
    intro v2 v4 r hf kx
    cases hf
  | succ n ih =>
    intro v2 v4 r hf kx
    unfold M_bestPattern_L39 at hf
    refine PW.iload cx qX7_bestPattern_39 rfl ?_
    refine PW.iload_n cx qX7_bestPattern_41 rfl ?_
    refine PW.iadd cx qX7_bestPattern_42 ?_
    refine PW.aload_n cx qX7_bestPattern_43 rfl ?_
    refine PW.iload_n cx qX7_bestPattern_44 rfl ?_
    refine PW.iconst (v := 0) cx qX7_bestPattern_45 rfl ?_
    refine PW.callVRI (As := [.int c1, .int 0]) (st := [.int (v4 + c3)]) cx hR qX7_bestPattern_46 klX7_70 mvX7_of (sh_140 hx) rfl rfl rfl rfl (Nat.le_of_ble_eq_true rfl) (Nat.le_of_ble_eq_true rfl) (Nat.le_of_ble_eq_true rfl) (Nat.zero_le _) (Nat.zero_le _) hf sne (fun t e => ctX7_of hx h c1 0 t e) (fun t4 hf => ?_)
    refine PW.callSRI (As := [.int t4]) (st := [.int (v4 + c3)]) cx hR qX7_bestPattern_49 klX7_61 miX7_digits rfl rfl (Nat.le_of_ble_eq_true rfl) (Nat.le_of_ble_eq_true rfl) (Nat.le_of_ble_eq_true rfl) (Nat.zero_le _) (Nat.zero_le _) hf sne (fun t e => ctX7_digits h t4 t e) (fun t5 hf => ?_)
    refine PW.icmp_gt cx qX7_bestPattern_52 hf (fun hf => ?_) (fun hf => ?_)
    · exact PW.locs (Lsub.keep (Lsub.keep (Lsub.keep (Lsub.keep (Lsub.drop (Lsub.drop Lsub.nil)))))) (kx v2 (Option.some.inj hf).symm)
    · refine PW.aload_n cx qX7_bestPattern_55 rfl ?_
      refine PW.iload_n cx qX7_bestPattern_56 rfl ?_
      refine PW.iload cx qX7_bestPattern_57 rfl ?_
      refine PW.iload_n cx qX7_bestPattern_59 rfl ?_
      refine PW.callVRI (As := [.int c1, .int v4, .int c3]) (st := []) cx hR qX7_bestPattern_60 klX7_374 mvX7_part (sh_140 hx) rfl rfl rfl rfl (Nat.le_of_ble_eq_true rfl) (Nat.le_of_ble_eq_true rfl) (Nat.le_of_ble_eq_true rfl) (Nat.zero_le _) (Nat.zero_le _) hf sne (fun t e => ctX7_part hx h c1 v4 c3 t e) (fun t6 hf => ?_)
      refine PW.istore (L' := [some (.ref (gB g + 140)), some (.int c1), some (.int v2), some (.int c3), some (.int v4), some (.int t6)]) cx qX7_bestPattern_63 hi5 rfl rfl ?_
      refine PW.iload_n cx qX7_bestPattern_65 rfl ?_
      refine PW.iconst (v := (-1)) cx qX7_bestPattern_66 rfl ?_
      obtain ⟨j76, ej76, hf⟩ := lt_split hf
      have hj76 : ∀ (u_76 : Unit), j76 u_76 = some r → PW g X ex (QE g X ex post 0 0) 0 0 sh h 76 [some (.ref (gB g + 140)), some (.int c1), some (.int v2), some (.int c3), some (.int v4), some (.int t6)] [] := by
        intro u_76 hf
        rw [ej76] at hf
        refine PW.aload_n cx qX7_bestPattern_76 rfl ?_
        refine PW.iload_n cx qX7_bestPattern_77 rfl ?_
        refine PW.iload cx qX7_bestPattern_78 rfl ?_
        refine PW.callVRB (As := [.int c1, .int t6]) (st := []) cx hR qX7_bestPattern_80 klX7_377 mvX7_isAlone (sh_140 hx) rfl rfl rfl rfl (Nat.le_of_ble_eq_true rfl) (Nat.le_of_ble_eq_true rfl) (Nat.le_of_ble_eq_true rfl) (Nat.zero_le _) (Nat.zero_le _) hf sne (fun t e => ctX7_isAlone hx h c1 t6 t e) (fun t7 hf => ?_)
        refine PW.if_eq cx qX7_bestPattern_83 hf (fun hf => ?_) (fun hf => ?_)
        · refine PW.iload_n cx qX7_bestPattern_91 rfl ?_
          refine PW.istore_n (L' := [some (.ref (gB g + 140)), some (.int c1), some (.int v2), some (.int c3), some (.int v4), some (.int t6)]) cx qX7_bestPattern_92 hi2 rfl rfl ?_
          refine PW.iinc (v := 1) (L' := [some (.ref (gB g + 140)), some (.int c1), some (.int v2), some (.int c3), some (.int (v4 + 1)), some (.int t6)]) cx qX7_bestPattern_93 rfl rfl hi4 rfl rfl ?_
          refine PW.goto cx qX7_bestPattern_96 ?_
          exact PW.locs (Lsub.keep (Lsub.keep (Lsub.keep (Lsub.keep (Lsub.keep (Lsub.drop Lsub.nil)))))) (ih v2 (v4 + 1) _ hf kx)
        · refine PW.iload cx qX7_bestPattern_86 rfl ?_
          refine PW.goto cx qX7_bestPattern_88 ?_
          refine PW.istore_n (L' := [some (.ref (gB g + 140)), some (.int c1), some (.int t6), some (.int c3), some (.int v4), some (.int t6)]) cx qX7_bestPattern_92 hi2 rfl rfl ?_
          refine PW.iinc (v := 1) (L' := [some (.ref (gB g + 140)), some (.int c1), some (.int t6), some (.int c3), some (.int (v4 + 1)), some (.int t6)]) cx qX7_bestPattern_93 rfl rfl hi4 rfl rfl ?_
          refine PW.goto cx qX7_bestPattern_96 ?_
          exact PW.locs (Lsub.keep (Lsub.keep (Lsub.keep (Lsub.keep (Lsub.keep (Lsub.drop Lsub.nil)))))) (ih t6 (v4 + 1) _ hf kx)
      refine PW.icmp_eq cx qX7_bestPattern_67 hf (fun hf => ?_) (fun hf => ?_)
      · exact PW.locs (Lsub.keep (Lsub.keep (Lsub.keep (Lsub.keep (Lsub.keep (Lsub.keep Lsub.nil)))))) (hj76 () hf)
      · refine PW.iload cx qX7_bestPattern_70 rfl ?_
        refine PW.iload_n cx qX7_bestPattern_72 rfl ?_
        refine PW.icmp_ge cx qX7_bestPattern_73 hf (fun hf => ?_) (fun hf => ?_)
        · refine PW.iload_n cx qX7_bestPattern_91 rfl ?_
          refine PW.istore_n (L' := [some (.ref (gB g + 140)), some (.int c1), some (.int v2), some (.int c3), some (.int v4), some (.int t6)]) cx qX7_bestPattern_92 hi2 rfl rfl ?_
          refine PW.iinc (v := 1) (L' := [some (.ref (gB g + 140)), some (.int c1), some (.int v2), some (.int c3), some (.int (v4 + 1)), some (.int t6)]) cx qX7_bestPattern_93 rfl rfl hi4 rfl rfl ?_
          refine PW.goto cx qX7_bestPattern_96 ?_
          exact PW.locs (Lsub.keep (Lsub.keep (Lsub.keep (Lsub.keep (Lsub.keep (Lsub.drop Lsub.nil)))))) (ih v2 (v4 + 1) _ hf kx)
        · exact PW.locs (Lsub.keep (Lsub.keep (Lsub.keep (Lsub.keep (Lsub.keep (Lsub.keep Lsub.nil)))))) (hj76 () hf)
theorem lX7_bestPattern_26 {g : GT} {X : XT} {ex : Bool} {sh : List Shp} {post : Option Value → List Shp → Hp → Prop} (mx : Mx g X mX7_bestPattern 5 0 0) (hx : MSh sh) (h : Hp) (c1 : Int32) : ∀ (n : Nat) (v2 : Int32) (v3 : Int32) (r : Int32) (hf : M_bestPattern_L26 h c1 n v2 v3 = some r) (kx : ∀ (x2 : Int32), r = x2 → PW g X ex (QE g X ex post 0 0) 0 0 sh h 105 [some (.ref (gB g + 140)), some (.int c1), some (.int x2), none, none, none] []), PW g X ex (QE g X ex post 0 0) 0 0 sh h 26 [some (.ref (gB g + 140)), some (.int c1), some (.int v2), some (.int v3), none, none] [] := by
  have mx0 := mx
  obtain ⟨cx, hR, hml, hrt, -⟩ := mx0
  have cx : Cx g X RX7 cX7_bestPattern := cx
  have hrt : X.2.2.2.2.2.2.2.1.sig.returnType = (some .int) := hrt
  have hi2 : 2 < X.2.2.2.2.2.2.2.2.maxLocals := by rw [hml]; exact Nat.le_of_ble_eq_true rfl
  have hi3 : 3 < X.2.2.2.2.2.2.2.2.maxLocals := by rw [hml]; exact Nat.le_of_ble_eq_true rfl
  have hi4 : 4 < X.2.2.2.2.2.2.2.2.maxLocals := by rw [hml]; exact Nat.le_of_ble_eq_true rfl
  have hi5 : 5 < X.2.2.2.2.2.2.2.2.maxLocals := by rw [hml]; exact Nat.le_of_ble_eq_true rfl
  intro n
  induction n with
  | zero =>
    intro v2 v3 r hf kx
    cases hf
  | succ n ih =>
    intro v2 v3 r hf kx
    unfold M_bestPattern_L26 at hf
    refine PW.iload_n cx qX7_bestPattern_26 rfl ?_
    refine PW.iconst (v := 4) cx qX7_bestPattern_27 rfl ?_
    refine PW.icmp_gt cx qX7_bestPattern_28 hf (fun hf => ?_) (fun hf => ?_)
    · exact PW.locs (Lsub.keep (Lsub.keep (Lsub.keep (Lsub.drop (Lsub.drop (Lsub.drop Lsub.nil)))))) (kx v2 (Option.some.inj hf).symm)
    · refine PW.iload_n cx qX7_bestPattern_31 rfl ?_
      refine PW.iconst (v := (-1)) cx qX7_bestPattern_32 rfl ?_
      refine PW.icmp_ne cx qX7_bestPattern_33 hf (fun hf => ?_) (fun hf => ?_)
      · refine PW.iconst (v := 0) cx qX7_bestPattern_36 rfl ?_
        refine PW.istore (L' := [some (.ref (gB g + 140)), some (.int c1), some (.int v2), some (.int v3), some (.int 0), none]) cx qX7_bestPattern_37 hi4 rfl rfl ?_
        obtain ⟨r8, er8, hf⟩ := bndO hf sne
        refine PW.locs (Lsub.keep (Lsub.keep (Lsub.keep (Lsub.keep (Lsub.keep (Lsub.drop Lsub.nil)))))) (lX7_bestPattern_39 mx hx h c1 v3 FU v2 0 r8 er8 (fun xx_ e => ?_))
        subst e
        refine PW.iinc (v := 1) (L' := [some (.ref (gB g + 140)), some (.int c1), some (.int r8), some (.int (v3 + 1)), none, none]) cx qX7_bestPattern_99 rfl rfl hi3 rfl rfl ?_
        refine PW.goto cx qX7_bestPattern_102 ?_
        exact PW.locs (Lsub.keep (Lsub.keep (Lsub.keep (Lsub.keep (Lsub.drop (Lsub.drop Lsub.nil)))))) (ih r8 (v3 + 1) _ hf kx)
      · exact PW.locs (Lsub.keep (Lsub.keep (Lsub.keep (Lsub.drop (Lsub.drop (Lsub.drop Lsub.nil)))))) (kx v2 (Option.some.inj hf).symm)
theorem ctX7_bestPattern {g : GT} {ex : Bool} {sh : List Shp} (hx : MSh sh) (h : Hp) (p1 : Int32) (r0 : Int32 × Hp) (hf : M_bestPattern h p1 = some r0) : Ct g mX7_bestPattern 5 0 0 ex [.ref (gB g + 140), .int p1] sh h (PE (some (.int r0.1)) sh r0.2) := by
  refine Ct.of (L := [some (.ref (gB g + 140)), some (.int p1), none, none, none, none]) (by decide) (by intro w hw; simp only [List.mem_cons, List.not_mem_nil, or_false] at hw; rcases hw with rfl | rfl <;> rfl) (Nat.le_of_ble_eq_true rfl) rfl (fun X mx => ?_)
  have mx0 := mx
  obtain ⟨cx, hR, hml, hrt, -⟩ := mx0
  have cx : Cx g X RX7 cX7_bestPattern := cx
  have hrt : X.2.2.2.2.2.2.2.1.sig.returnType = (some .int) := hrt
  have hi2 : 2 < X.2.2.2.2.2.2.2.2.maxLocals := by rw [hml]; exact Nat.le_of_ble_eq_true rfl
  have hi3 : 3 < X.2.2.2.2.2.2.2.2.maxLocals := by rw [hml]; exact Nat.le_of_ble_eq_true rfl
  have hi4 : 4 < X.2.2.2.2.2.2.2.2.maxLocals := by rw [hml]; exact Nat.le_of_ble_eq_true rfl
  have hi5 : 5 < X.2.2.2.2.2.2.2.2.maxLocals := by rw [hml]; exact Nat.le_of_ble_eq_true rfl
  unfold M_bestPattern at hf
  refine PW.aload_n cx qX7_bestPattern_0 rfl ?_
  refine PW.aload_n cx qX7_bestPattern_1 rfl ?_
  refine PW.iload_n cx qX7_bestPattern_2 rfl ?_
  refine PW.callVRB (As := [.int p1]) (st := [.ref (gB g + 140)]) cx hR qX7_bestPattern_3 klX7_334 mvX7_isClip (sh_140 hx) rfl rfl rfl rfl (Nat.le_of_ble_eq_true rfl) (Nat.le_of_ble_eq_true rfl) (Nat.le_of_ble_eq_true rfl) (Nat.zero_le _) (Nat.zero_le _) hf sne (fun t e => ctX7_isClip hx h p1 t e) (fun t1 hf => ?_)
  obtain ⟨j14, ej14, hf⟩ := lt_split hf
  have hj14 : ∀ (z0_14 : Bool), j14 z0_14 = some r0 → PW g X ex (QE g X ex (PE (some (.int r0.1)) sh r0.2) 0 0) 0 0 sh h 14 [some (.ref (gB g + 140)), some (.int p1), none, none, none, none] [.int (b2i z0_14), .ref (gB g + 140)] := by
    intro z0_14 hf
    rw [ej14] at hf
    refine PW.callVWB (As := [.int (b2i z0_14)]) (st := []) cx hR qX7_bestPattern_14 klX7_319 mvX7_throwsOne (sh_140 hx) rfl rfl rfl rfl (Nat.le_of_ble_eq_true rfl) (Nat.le_of_ble_eq_true rfl) (Nat.le_of_ble_eq_true rfl) (Nat.zero_le _) (Nat.zero_le _) hf sne (fun t e => ctX7_throwsOne hx h z0_14 t e) (fun ⟨t2, h3⟩ hf => ?_)
    refine PW.if_eq cx qX7_bestPattern_17 hf (fun hf => ?_) (fun hf => ?_)
    · refine PW.iconst (v := (-1)) cx qX7_bestPattern_22 rfl ?_
      refine PW.istore_n (L' := [some (.ref (gB g + 140)), some (.int p1), some (.int (-1)), none, none, none]) cx qX7_bestPattern_23 hi2 rfl rfl ?_
      refine PW.iconst (v := 1) cx qX7_bestPattern_24 rfl ?_
      refine PW.istore_n (L' := [some (.ref (gB g + 140)), some (.int p1), some (.int (-1)), some (.int 1), none, none]) cx qX7_bestPattern_25 hi3 rfl rfl ?_
      obtain ⟨r9, er9, hf⟩ := bndO hf sne
      refine PW.locs (Lsub.keep (Lsub.keep (Lsub.keep (Lsub.keep (Lsub.drop (Lsub.drop Lsub.nil)))))) (lX7_bestPattern_26 mx hx h3 p1 FU (-1) 1 r9 er9 (fun xx_ e => ?_))
      subst e
      refine PW.iload_n cx qX7_bestPattern_105 rfl ?_
      exact PW.iret cx hrt qX7_bestPattern_106 (le_wi hf)
    · refine PW.iconst (v := 0) cx qX7_bestPattern_20 rfl ?_
      exact PW.iret cx hrt qX7_bestPattern_21 (le_wi hf)
  refine PW.if_ne cx qX7_bestPattern_6 hf (fun hf => ?_) (fun hf => ?_)
  · refine PW.iconst (v := 1) cx qX7_bestPattern_9 rfl ?_
    refine PW.goto cx qX7_bestPattern_10 ?_
    exact PW.locs (Lsub.keep (Lsub.keep (Lsub.drop (Lsub.drop (Lsub.drop (Lsub.drop Lsub.nil)))))) (hj14 true hf)
  · refine PW.iconst (v := 0) cx qX7_bestPattern_13 rfl ?_
    exact PW.locs (Lsub.keep (Lsub.keep (Lsub.drop (Lsub.drop (Lsub.drop (Lsub.drop Lsub.nil)))))) (hj14 false hf)
theorem ctX7_burnedFat {g : GT} {ex : Bool} {sh : List Shp} (hx : MSh sh) (h : Hp) (r0 : Int32 × Hp) (hf : M_burnedFat h = some r0) : Ct g mX7_burnedFat 1 0 0 ex [.ref (gB g + 140)] sh h (PE (some (.int r0.1)) sh r0.2) := by
  refine Ct.of (L := [some (.ref (gB g + 140))]) (by decide) (by intro w hw; simp only [List.mem_cons, List.not_mem_nil, or_false] at hw; rcases hw with rfl <;> rfl) (Nat.le_of_ble_eq_true rfl) rfl (fun X mx => ?_)
  obtain ⟨cx, hR, hml, hrt, -⟩ := mx
  have cx : Cx g X RX7 cX7_burnedFat := cx
  have hrt : X.2.2.2.2.2.2.2.1.sig.returnType = (some .int) := hrt
  unfold M_burnedFat at hf
  refine PW.aload_n cx qX7_burnedFat_0 rfl ?_
  refine PW.iconst (v := 5) cx qX7_burnedFat_1 rfl ?_
  refine PW.callVWI (As := [.int 5]) (st := []) cx hR qX7_burnedFat_2 klX7_353 mvX7_told (sh_140 hx) rfl rfl rfl rfl (Nat.le_of_ble_eq_true rfl) (Nat.le_of_ble_eq_true rfl) (Nat.le_of_ble_eq_true rfl) (Nat.zero_le _) (Nat.zero_le _) hf sne (fun t e => ctX7_told hx h 5 t e) (fun ⟨t1, h2⟩ hf => ?_)
  exact PW.iret cx hrt qX7_burnedFat_5 (le_wi hf)
theorem ctX7_wakings {g : GT} {ex : Bool} {sh : List Shp} (hx : MSh sh) (h : Hp) (r0 : Int32 × Hp) (hf : M_wakings h = some r0) : Ct g mX7_wakings 1 0 0 ex [.ref (gB g + 140)] sh h (PE (some (.int r0.1)) sh r0.2) := by
  refine Ct.of (L := [some (.ref (gB g + 140))]) (by decide) (by intro w hw; simp only [List.mem_cons, List.not_mem_nil, or_false] at hw; rcases hw with rfl <;> rfl) (Nat.le_of_ble_eq_true rfl) rfl (fun X mx => ?_)
  obtain ⟨cx, hR, hml, hrt, -⟩ := mx
  have cx : Cx g X RX7 cX7_wakings := cx
  have hrt : X.2.2.2.2.2.2.2.1.sig.returnType = (some .int) := hrt
  unfold M_wakings at hf
  refine PW.aload_n cx qX7_wakings_0 rfl ?_
  refine PW.bipush (v := 7) cx qX7_wakings_1 rfl ?_
  refine PW.callVWI (As := [.int 7]) (st := []) cx hR qX7_wakings_3 klX7_353 mvX7_told (sh_140 hx) rfl rfl rfl rfl (Nat.le_of_ble_eq_true rfl) (Nat.le_of_ble_eq_true rfl) (Nat.le_of_ble_eq_true rfl) (Nat.zero_le _) (Nat.zero_le _) hf sne (fun t e => ctX7_told hx h 7 t e) (fun ⟨t1, h2⟩ hf => ?_)
  exact PW.iret cx hrt qX7_wakings_6 (le_wi hf)
theorem lX7_setOf_4 {g : GT} {X : XT} {ex : Bool} {sh : List Shp} {post : Option Value → List Shp → Hp → Prop} (mx : Mx g X mX7_setOf 1 0 0) (hx : MSh sh) (h : Hp) (c1 : Int32) : ∀ (n : Nat) (v2 : Int32) (v3 : Int32) (r : Int32) (hf : M_setOf_L4 h c1 n v2 v3 = some r) (kx : ∀ (x2 : Int32), r = x2 → PW g X ex (QE g X ex post 0 0) 0 0 sh h 40 [some (.ref (gB g + 140)), some (.int c1), some (.int x2), none] []), PW g X ex (QE g X ex post 0 0) 0 0 sh h 4 [some (.ref (gB g + 140)), some (.int c1), some (.int v2), some (.int v3)] [] := by
  have mx0 := mx
  obtain ⟨cx, hR, hml, hrt, -⟩ := mx0
  have cx : Cx g X RX7 cX7_setOf := cx
  have hrt : X.2.2.2.2.2.2.2.1.sig.returnType = (some .int) := hrt
  have hi2 : 2 < X.2.2.2.2.2.2.2.2.maxLocals := by rw [hml]; exact Nat.le_of_ble_eq_true rfl
  have hi3 : 3 < X.2.2.2.2.2.2.2.2.maxLocals := by rw [hml]; exact Nat.le_of_ble_eq_true rfl
  intro n
  induction n with
  | zero =>
    intro v2 v3 r hf kx
    cases hf
  | succ n ih =>
    intro v2 v3 r hf kx
    unfold M_setOf_L4 at hf
    refine PW.iload_n cx qX7_setOf_4 rfl ?_
    refine PW.aload_n cx qX7_setOf_5 rfl ?_
    refine PW.getf (t := (2, 141)) (v := .ref (gB g + 141)) cx qX7_setOf_6 (sh_140 hx) rfl flX7_7 rfl ?_
    refine PW.iconst (v := 2) cx qX7_setOf_9 rfl ?_
    refine PW.iald cx qX7_setOf_10 (sh_141 hx) hf sne (fun t1 hf => ?_)
    refine PW.icmp_ge cx qX7_setOf_11 hf (fun hf => ?_) (fun hf => ?_)
    · exact PW.locs (Lsub.keep (Lsub.keep (Lsub.keep (Lsub.drop Lsub.nil)))) (kx v2 (Option.some.inj hf).symm)
    · refine PW.iload_n cx qX7_setOf_14 rfl ?_
      refine PW.aload_n cx qX7_setOf_15 rfl ?_
      refine PW.iload_n cx qX7_setOf_16 rfl ?_
      refine PW.iconst (v := 1) cx qX7_setOf_17 rfl ?_
      refine PW.callVRI (As := [.int v3, .int 1]) (st := [.int v2]) cx hR qX7_setOf_18 klX7_70 mvX7_of (sh_140 hx) rfl rfl rfl rfl (Nat.le_of_ble_eq_true rfl) (Nat.le_of_ble_eq_true rfl) (Nat.le_of_ble_eq_true rfl) (Nat.zero_le _) (Nat.zero_le _) hf sne (fun t e => ctX7_of hx h v3 1 t e) (fun t2 hf => ?_)
      refine PW.iload_n cx qX7_setOf_21 rfl ?_
      refine PW.icmp_ne cx qX7_setOf_22 hf (fun hf => ?_) (fun hf => ?_)
      · refine PW.iconst (v := 1) cx qX7_setOf_25 rfl ?_
        refine PW.iload_n cx qX7_setOf_26 rfl ?_
        refine PW.ishl cx qX7_setOf_27 ?_
        refine PW.goto cx qX7_setOf_28 ?_
        refine PW.ior cx qX7_setOf_32 ?_
        refine PW.istore_n (L' := [some (.ref (gB g + 140)), some (.int c1), some (.int (v2 ||| (1 <<< (v3 &&& 31)))), some (.int v3)]) cx qX7_setOf_33 hi2 rfl rfl ?_
        refine PW.iinc (v := 1) (L' := [some (.ref (gB g + 140)), some (.int c1), some (.int (v2 ||| (1 <<< (v3 &&& 31)))), some (.int (v3 + 1))]) cx qX7_setOf_34 rfl rfl hi3 rfl rfl ?_
        refine PW.goto cx qX7_setOf_37 ?_
        exact PW.locs (Lsub.keep (Lsub.keep (Lsub.keep (Lsub.keep Lsub.nil)))) (ih (v2 ||| (1 <<< (v3 &&& 31))) (v3 + 1) _ hf kx)
      · refine PW.iconst (v := 0) cx qX7_setOf_31 rfl ?_
        refine PW.ior cx qX7_setOf_32 ?_
        refine PW.istore_n (L' := [some (.ref (gB g + 140)), some (.int c1), some (.int (v2 ||| 0)), some (.int v3)]) cx qX7_setOf_33 hi2 rfl rfl ?_
        refine PW.iinc (v := 1) (L' := [some (.ref (gB g + 140)), some (.int c1), some (.int (v2 ||| 0)), some (.int (v3 + 1))]) cx qX7_setOf_34 rfl rfl hi3 rfl rfl ?_
        refine PW.goto cx qX7_setOf_37 ?_
        exact PW.locs (Lsub.keep (Lsub.keep (Lsub.keep (Lsub.keep Lsub.nil)))) (ih (v2 ||| 0) (v3 + 1) _ hf kx)
theorem ctX7_setOf {g : GT} {ex : Bool} {sh : List Shp} (hx : MSh sh) (h : Hp) (p1 : Int32) (r0 : Int32) (hf : M_setOf h p1 = some r0) : Ct g mX7_setOf 1 0 0 ex [.ref (gB g + 140), .int p1] sh h (PE (some (.int r0)) sh h) := by
  refine Ct.of (L := [some (.ref (gB g + 140)), some (.int p1), none, none]) (by decide) (by intro w hw; simp only [List.mem_cons, List.not_mem_nil, or_false] at hw; rcases hw with rfl | rfl <;> rfl) (Nat.le_of_ble_eq_true rfl) rfl (fun X mx => ?_)
  have mx0 := mx
  obtain ⟨cx, hR, hml, hrt, -⟩ := mx0
  have cx : Cx g X RX7 cX7_setOf := cx
  have hrt : X.2.2.2.2.2.2.2.1.sig.returnType = (some .int) := hrt
  have hi2 : 2 < X.2.2.2.2.2.2.2.2.maxLocals := by rw [hml]; exact Nat.le_of_ble_eq_true rfl
  have hi3 : 3 < X.2.2.2.2.2.2.2.2.maxLocals := by rw [hml]; exact Nat.le_of_ble_eq_true rfl
  unfold M_setOf at hf
  refine PW.iconst (v := 0) cx qX7_setOf_0 rfl ?_
  refine PW.istore_n (L' := [some (.ref (gB g + 140)), some (.int p1), some (.int 0), none]) cx qX7_setOf_1 hi2 rfl rfl ?_
  refine PW.iconst (v := 0) cx qX7_setOf_2 rfl ?_
  refine PW.istore_n (L' := [some (.ref (gB g + 140)), some (.int p1), some (.int 0), some (.int 0)]) cx qX7_setOf_3 hi3 rfl rfl ?_
  obtain ⟨r3, er3, hf⟩ := bndO hf sne
  refine PW.locs (Lsub.keep (Lsub.keep (Lsub.keep (Lsub.keep Lsub.nil)))) (lX7_setOf_4 mx hx h p1 FU 0 0 r3 er3 (fun xx_ e => ?_))
  subst e
  refine PW.iload_n cx qX7_setOf_40 rfl ?_
  exact PW.iret cx hrt qX7_setOf_41 (le_ri hf)
theorem lX7_manyOf_4 {g : GT} {X : XT} {ex : Bool} {sh : List Shp} {post : Option Value → List Shp → Hp → Prop} (mx : Mx g X mX7_manyOf 1 0 0) (hx : MSh sh) (h : Hp) (c1 : Int32) : ∀ (n : Nat) (v2 : Int32) (v3 : Int32) (r : Int32) (hf : M_manyOf_L4 h c1 n v2 v3 = some r) (kx : ∀ (x2 : Int32), r = x2 → PW g X ex (QE g X ex post 0 0) 0 0 sh h 38 [some (.ref (gB g + 140)), some (.int c1), some (.int x2), none] []), PW g X ex (QE g X ex post 0 0) 0 0 sh h 4 [some (.ref (gB g + 140)), some (.int c1), some (.int v2), some (.int v3)] [] := by
  have mx0 := mx
  obtain ⟨cx, hR, hml, hrt, -⟩ := mx0
  have cx : Cx g X RX7 cX7_manyOf := cx
  have hrt : X.2.2.2.2.2.2.2.1.sig.returnType = (some .int) := hrt
  have hi2 : 2 < X.2.2.2.2.2.2.2.2.maxLocals := by rw [hml]; exact Nat.le_of_ble_eq_true rfl
  have hi3 : 3 < X.2.2.2.2.2.2.2.2.maxLocals := by rw [hml]; exact Nat.le_of_ble_eq_true rfl
  intro n
  induction n with
  | zero =>
    intro v2 v3 r hf kx
    cases hf
  | succ n ih =>
    intro v2 v3 r hf kx
    unfold M_manyOf_L4 at hf
    refine PW.iload_n cx qX7_manyOf_4 rfl ?_
    refine PW.aload_n cx qX7_manyOf_5 rfl ?_
    refine PW.getf (t := (2, 141)) (v := .ref (gB g + 141)) cx qX7_manyOf_6 (sh_140 hx) rfl flX7_7 rfl ?_
    refine PW.iconst (v := 2) cx qX7_manyOf_9 rfl ?_
    refine PW.iald cx qX7_manyOf_10 (sh_141 hx) hf sne (fun t1 hf => ?_)
    refine PW.icmp_ge cx qX7_manyOf_11 hf (fun hf => ?_) (fun hf => ?_)
    · exact PW.locs (Lsub.keep (Lsub.keep (Lsub.keep (Lsub.drop Lsub.nil)))) (kx v2 (Option.some.inj hf).symm)
    · refine PW.iload_n cx qX7_manyOf_14 rfl ?_
      refine PW.aload_n cx qX7_manyOf_15 rfl ?_
      refine PW.iload_n cx qX7_manyOf_16 rfl ?_
      refine PW.iconst (v := 1) cx qX7_manyOf_17 rfl ?_
      refine PW.callVRI (As := [.int v3, .int 1]) (st := [.int v2]) cx hR qX7_manyOf_18 klX7_70 mvX7_of (sh_140 hx) rfl rfl rfl rfl (Nat.le_of_ble_eq_true rfl) (Nat.le_of_ble_eq_true rfl) (Nat.le_of_ble_eq_true rfl) (Nat.zero_le _) (Nat.zero_le _) hf sne (fun t e => ctX7_of hx h v3 1 t e) (fun t2 hf => ?_)
      refine PW.iload_n cx qX7_manyOf_21 rfl ?_
      refine PW.icmp_ne cx qX7_manyOf_22 hf (fun hf => ?_) (fun hf => ?_)
      · refine PW.iconst (v := 1) cx qX7_manyOf_25 rfl ?_
        refine PW.goto cx qX7_manyOf_26 ?_
        refine PW.iadd cx qX7_manyOf_30 ?_
        refine PW.istore_n (L' := [some (.ref (gB g + 140)), some (.int c1), some (.int (v2 + 1)), some (.int v3)]) cx qX7_manyOf_31 hi2 rfl rfl ?_
        refine PW.iinc (v := 1) (L' := [some (.ref (gB g + 140)), some (.int c1), some (.int (v2 + 1)), some (.int (v3 + 1))]) cx qX7_manyOf_32 rfl rfl hi3 rfl rfl ?_
        refine PW.goto cx qX7_manyOf_35 ?_
        exact PW.locs (Lsub.keep (Lsub.keep (Lsub.keep (Lsub.keep Lsub.nil)))) (ih (v2 + 1) (v3 + 1) _ hf kx)
      · refine PW.iconst (v := 0) cx qX7_manyOf_29 rfl ?_
        refine PW.iadd cx qX7_manyOf_30 ?_
        refine PW.istore_n (L' := [some (.ref (gB g + 140)), some (.int c1), some (.int (v2 + 0)), some (.int v3)]) cx qX7_manyOf_31 hi2 rfl rfl ?_
        refine PW.iinc (v := 1) (L' := [some (.ref (gB g + 140)), some (.int c1), some (.int (v2 + 0)), some (.int (v3 + 1))]) cx qX7_manyOf_32 rfl rfl hi3 rfl rfl ?_
        refine PW.goto cx qX7_manyOf_35 ?_
        exact PW.locs (Lsub.keep (Lsub.keep (Lsub.keep (Lsub.keep Lsub.nil)))) (ih (v2 + 0) (v3 + 1) _ hf kx)
theorem ctX7_manyOf {g : GT} {ex : Bool} {sh : List Shp} (hx : MSh sh) (h : Hp) (p1 : Int32) (r0 : Int32) (hf : M_manyOf h p1 = some r0) : Ct g mX7_manyOf 1 0 0 ex [.ref (gB g + 140), .int p1] sh h (PE (some (.int r0)) sh h) := by
  refine Ct.of (L := [some (.ref (gB g + 140)), some (.int p1), none, none]) (by decide) (by intro w hw; simp only [List.mem_cons, List.not_mem_nil, or_false] at hw; rcases hw with rfl | rfl <;> rfl) (Nat.le_of_ble_eq_true rfl) rfl (fun X mx => ?_)
  have mx0 := mx
  obtain ⟨cx, hR, hml, hrt, -⟩ := mx0
  have cx : Cx g X RX7 cX7_manyOf := cx
  have hrt : X.2.2.2.2.2.2.2.1.sig.returnType = (some .int) := hrt
  have hi2 : 2 < X.2.2.2.2.2.2.2.2.maxLocals := by rw [hml]; exact Nat.le_of_ble_eq_true rfl
  have hi3 : 3 < X.2.2.2.2.2.2.2.2.maxLocals := by rw [hml]; exact Nat.le_of_ble_eq_true rfl
  unfold M_manyOf at hf
  refine PW.iconst (v := 0) cx qX7_manyOf_0 rfl ?_
  refine PW.istore_n (L' := [some (.ref (gB g + 140)), some (.int p1), some (.int 0), none]) cx qX7_manyOf_1 hi2 rfl rfl ?_
  refine PW.iconst (v := 0) cx qX7_manyOf_2 rfl ?_
  refine PW.istore_n (L' := [some (.ref (gB g + 140)), some (.int p1), some (.int 0), some (.int 0)]) cx qX7_manyOf_3 hi3 rfl rfl ?_
  obtain ⟨r3, er3, hf⟩ := bndO hf sne
  refine PW.locs (Lsub.keep (Lsub.keep (Lsub.keep (Lsub.keep Lsub.nil)))) (lX7_manyOf_4 mx hx h p1 FU 0 0 r3 er3 (fun xx_ e => ?_))
  subst e
  refine PW.iload_n cx qX7_manyOf_38 rfl ?_
  exact PW.iret cx hrt qX7_manyOf_39 (le_ri hf)
theorem ctX7_fadedClips {g : GT} {ex : Bool} {sh : List Shp} (hx : MSh sh) (h : Hp) (r0 : Int32 × Hp) (hf : M_fadedClips h = some r0) : Ct g mX7_fadedClips 2 0 0 ex [.ref (gB g + 140)] sh h (PE (some (.int r0.1)) sh r0.2) := by
  refine Ct.of (L := [some (.ref (gB g + 140))]) (by decide) (by intro w hw; simp only [List.mem_cons, List.not_mem_nil, or_false] at hw; rcases hw with rfl <;> rfl) (Nat.le_of_ble_eq_true rfl) rfl (fun X mx => ?_)
  obtain ⟨cx, hR, hml, hrt, -⟩ := mx
  have cx : Cx g X RX7 cX7_fadedClips := cx
  have hrt : X.2.2.2.2.2.2.2.1.sig.returnType = (some .int) := hrt
  unfold M_fadedClips at hf
  refine PW.aload_n cx qX7_fadedClips_0 rfl ?_
  refine PW.iconst (v := 0) cx qX7_fadedClips_1 rfl ?_
  refine PW.putiN cx qX7_fadedClips_2 (sh_140 hx) rfl fpX7_54 hf (fun h1 hf => ?_)
  refine PW.aload_n cx qX7_fadedClips_5 rfl ?_
  refine PW.iconst (v := 2) cx qX7_fadedClips_6 rfl ?_
  refine PW.callVRI (As := [.int 2]) (st := []) cx hR qX7_fadedClips_7 klX7_380 mvX7_setOf (sh_140 hx) rfl rfl rfl rfl (Nat.le_of_ble_eq_true rfl) (Nat.le_of_ble_eq_true rfl) (Nat.le_of_ble_eq_true rfl) (Nat.zero_le _) (Nat.zero_le _) hf sne (fun t e => ctX7_setOf hx h1 2 t e) (fun t2 hf => ?_)
  exact PW.iret cx hrt qX7_fadedClips_10 (le_wi hf)
theorem lX7_allFat_4 {g : GT} {X : XT} {ex : Bool} {sh : List Shp} {post : Option Value → List Shp → Hp → Prop} (mx : Mx g X mX7_allFat 1 0 0) (hx : MSh sh) (h : Hp) : ∀ (n : Nat) (v1 : Int32) (v2 : Int32) (r : Int32) (hf : M_allFat_L4 h n v1 v2 = some r) (kx : ∀ (x1 : Int32), r = x1 → PW g X ex (QE g X ex post 0 0) 0 0 sh h 29 [some (.ref (gB g + 140)), some (.int x1), none] []), PW g X ex (QE g X ex post 0 0) 0 0 sh h 4 [some (.ref (gB g + 140)), some (.int v1), some (.int v2)] [] := by
  have mx0 := mx
  obtain ⟨cx, hR, hml, hrt, -⟩ := mx0
  have cx : Cx g X RX7 cX7_allFat := cx
  have hrt : X.2.2.2.2.2.2.2.1.sig.returnType = (some .int) := hrt
  have hi1 : 1 < X.2.2.2.2.2.2.2.2.maxLocals := by rw [hml]; exact Nat.le_of_ble_eq_true rfl
  have hi2 : 2 < X.2.2.2.2.2.2.2.2.maxLocals := by rw [hml]; exact Nat.le_of_ble_eq_true rfl
  intro n
  induction n with
  | zero =>
    intro v1 v2 r hf kx
    cases hf
  | succ n ih =>
    intro v1 v2 r hf kx
    unfold M_allFat_L4 at hf
    refine PW.iload_n cx qX7_allFat_4 rfl ?_
    refine PW.aload_n cx qX7_allFat_5 rfl ?_
    refine PW.getf (t := (2, 141)) (v := .ref (gB g + 141)) cx qX7_allFat_6 (sh_140 hx) rfl flX7_7 rfl ?_
    refine PW.iconst (v := 2) cx qX7_allFat_9 rfl ?_
    refine PW.iald cx qX7_allFat_10 (sh_141 hx) hf sne (fun t1 hf => ?_)
    refine PW.icmp_ge cx qX7_allFat_11 hf (fun hf => ?_) (fun hf => ?_)
    · exact PW.locs (Lsub.keep (Lsub.keep (Lsub.drop Lsub.nil))) (kx v1 (Option.some.inj hf).symm)
    · refine PW.iload_n cx qX7_allFat_14 rfl ?_
      refine PW.aload_n cx qX7_allFat_15 rfl ?_
      refine PW.iload_n cx qX7_allFat_16 rfl ?_
      refine PW.iconst (v := 2) cx qX7_allFat_17 rfl ?_
      refine PW.callVRI (As := [.int v2, .int 2]) (st := [.int v1]) cx hR qX7_allFat_18 klX7_70 mvX7_of (sh_140 hx) rfl rfl rfl rfl (Nat.le_of_ble_eq_true rfl) (Nat.le_of_ble_eq_true rfl) (Nat.le_of_ble_eq_true rfl) (Nat.zero_le _) (Nat.zero_le _) hf sne (fun t e => ctX7_of hx h v2 2 t e) (fun t2 hf => ?_)
      refine PW.iadd cx qX7_allFat_21 ?_
      refine PW.istore_n (L' := [some (.ref (gB g + 140)), some (.int (v1 + t2)), some (.int v2)]) cx qX7_allFat_22 hi1 rfl rfl ?_
      refine PW.iinc (v := 1) (L' := [some (.ref (gB g + 140)), some (.int (v1 + t2)), some (.int (v2 + 1))]) cx qX7_allFat_23 rfl rfl hi2 rfl rfl ?_
      refine PW.goto cx qX7_allFat_26 ?_
      exact PW.locs (Lsub.keep (Lsub.keep (Lsub.keep Lsub.nil))) (ih (v1 + t2) (v2 + 1) _ hf kx)
theorem ctX7_allFat {g : GT} {ex : Bool} {sh : List Shp} (hx : MSh sh) (h : Hp) (r0 : Int32) (hf : M_allFat h = some r0) : Ct g mX7_allFat 1 0 0 ex [.ref (gB g + 140)] sh h (PE (some (.int r0)) sh h) := by
  refine Ct.of (L := [some (.ref (gB g + 140)), none, none]) (by decide) (by intro w hw; simp only [List.mem_cons, List.not_mem_nil, or_false] at hw; rcases hw with rfl <;> rfl) (Nat.le_of_ble_eq_true rfl) rfl (fun X mx => ?_)
  have mx0 := mx
  obtain ⟨cx, hR, hml, hrt, -⟩ := mx0
  have cx : Cx g X RX7 cX7_allFat := cx
  have hrt : X.2.2.2.2.2.2.2.1.sig.returnType = (some .int) := hrt
  have hi1 : 1 < X.2.2.2.2.2.2.2.2.maxLocals := by rw [hml]; exact Nat.le_of_ble_eq_true rfl
  have hi2 : 2 < X.2.2.2.2.2.2.2.2.maxLocals := by rw [hml]; exact Nat.le_of_ble_eq_true rfl
  unfold M_allFat at hf
  refine PW.iconst (v := 0) cx qX7_allFat_0 rfl ?_
  refine PW.istore_n (L' := [some (.ref (gB g + 140)), some (.int 0), none]) cx qX7_allFat_1 hi1 rfl rfl ?_
  refine PW.iconst (v := 0) cx qX7_allFat_2 rfl ?_
  refine PW.istore_n (L' := [some (.ref (gB g + 140)), some (.int 0), some (.int 0)]) cx qX7_allFat_3 hi2 rfl rfl ?_
  obtain ⟨r3, er3, hf⟩ := bndO hf sne
  refine PW.locs (Lsub.keep (Lsub.keep (Lsub.keep Lsub.nil))) (lX7_allFat_4 mx hx h FU 0 0 r3 er3 (fun xx_ e => ?_))
  subst e
  refine PW.iload_n cx qX7_allFat_29 rfl ?_
  exact PW.iret cx hrt qX7_allFat_30 (le_ri hf)
theorem lX7_bedsWith_17 {g : GT} {X : XT} {ex : Bool} {sh : List Shp} {post : Option Value → List Shp → Hp → Prop} (mx : Mx g X mX7_bedsWith 1 0 0) (hx : MSh sh) (h : Hp) (c1 : Int32) (c3 : Int32) : ∀ (n : Nat) (v2 : Int32) (v4 : Int32) (r : Int32) (hf : M_bedsWith_L17 h c1 c3 n v2 v4 = some r) (kx : ∀ (x2 : Int32), r = x2 → PW g X ex (QE g X ex post 0 0) 0 0 sh h 52 [some (.ref (gB g + 140)), some (.int c1), some (.int x2), some (.int c3), none] []), PW g X ex (QE g X ex post 0 0) 0 0 sh h 17 [some (.ref (gB g + 140)), some (.int c1), some (.int v2), some (.int c3), some (.int v4)] [] := by
  have mx0 := mx
  obtain ⟨cx, hR, hml, hrt, -⟩ := mx0
  have cx : Cx g X RX7 cX7_bedsWith := cx
  have hrt : X.2.2.2.2.2.2.2.1.sig.returnType = (some .int) := hrt
  have hi2 : 2 < X.2.2.2.2.2.2.2.2.maxLocals := by rw [hml]; exact Nat.le_of_ble_eq_true rfl
  have hi3 : 3 < X.2.2.2.2.2.2.2.2.maxLocals := by rw [hml]; exact Nat.le_of_ble_eq_true rfl
  have hi4 : 4 < X.2.2.2.2.2.2.2.2.maxLocals := by rw [hml]; exact Nat.le_of_ble_eq_true rfl
  intro n
  induction n with
  | zero =>
    intro v2 v4 r hf kx
    cases hf
  | succ n ih =>
    intro v2 v4 r hf kx
    unfold M_bedsWith_L17 at hf
    refine PW.iload cx qX7_bedsWith_17 rfl ?_
    refine PW.aload_n cx qX7_bedsWith_19 rfl ?_
    refine PW.iload_n cx qX7_bedsWith_20 rfl ?_
    refine PW.callVRI (As := [.int c3]) (st := [.int v4]) cx hR qX7_bedsWith_21 klX7_92 mvX7_beds (sh_140 hx) rfl rfl rfl rfl (Nat.le_of_ble_eq_true rfl) (Nat.le_of_ble_eq_true rfl) (Nat.le_of_ble_eq_true rfl) (Nat.zero_le _) (Nat.zero_le _) hf sne (fun t e => ctX7_beds hx h c3 t e) (fun t2 hf => ?_)
    refine PW.icmp_ge cx qX7_bedsWith_24 hf (fun hf => ?_) (fun hf => ?_)
    · exact PW.locs (Lsub.keep (Lsub.keep (Lsub.keep (Lsub.keep (Lsub.drop Lsub.nil))))) (kx v2 (Option.some.inj hf).symm)
    · refine PW.iload_n cx qX7_bedsWith_27 rfl ?_
      refine PW.aload_n cx qX7_bedsWith_28 rfl ?_
      refine PW.iload_n cx qX7_bedsWith_29 rfl ?_
      refine PW.iload cx qX7_bedsWith_30 rfl ?_
      refine PW.callVRI (As := [.int c3, .int v4]) (st := [.int v2]) cx hR qX7_bedsWith_32 klX7_102 mvX7_inBed (sh_140 hx) rfl rfl rfl rfl (Nat.le_of_ble_eq_true rfl) (Nat.le_of_ble_eq_true rfl) (Nat.le_of_ble_eq_true rfl) (Nat.zero_le _) (Nat.zero_le _) hf sne (fun t e => ctX7_inBed hx h c3 v4 t e) (fun t3 hf => ?_)
      refine PW.iload_n cx qX7_bedsWith_35 rfl ?_
      refine PW.icmp_ne cx qX7_bedsWith_36 hf (fun hf => ?_) (fun hf => ?_)
      · refine PW.iconst (v := 1) cx qX7_bedsWith_39 rfl ?_
        refine PW.goto cx qX7_bedsWith_40 ?_
        refine PW.iadd cx qX7_bedsWith_44 ?_
        refine PW.istore_n (L' := [some (.ref (gB g + 140)), some (.int c1), some (.int (v2 + 1)), some (.int c3), some (.int v4)]) cx qX7_bedsWith_45 hi2 rfl rfl ?_
        refine PW.iinc (v := 1) (L' := [some (.ref (gB g + 140)), some (.int c1), some (.int (v2 + 1)), some (.int c3), some (.int (v4 + 1))]) cx qX7_bedsWith_46 rfl rfl hi4 rfl rfl ?_
        refine PW.goto cx qX7_bedsWith_49 ?_
        exact PW.locs (Lsub.keep (Lsub.keep (Lsub.keep (Lsub.keep (Lsub.keep Lsub.nil))))) (ih (v2 + 1) (v4 + 1) _ hf kx)
      · refine PW.iconst (v := 0) cx qX7_bedsWith_43 rfl ?_
        refine PW.iadd cx qX7_bedsWith_44 ?_
        refine PW.istore_n (L' := [some (.ref (gB g + 140)), some (.int c1), some (.int (v2 + 0)), some (.int c3), some (.int v4)]) cx qX7_bedsWith_45 hi2 rfl rfl ?_
        refine PW.iinc (v := 1) (L' := [some (.ref (gB g + 140)), some (.int c1), some (.int (v2 + 0)), some (.int c3), some (.int (v4 + 1))]) cx qX7_bedsWith_46 rfl rfl hi4 rfl rfl ?_
        refine PW.goto cx qX7_bedsWith_49 ?_
        exact PW.locs (Lsub.keep (Lsub.keep (Lsub.keep (Lsub.keep (Lsub.keep Lsub.nil))))) (ih (v2 + 0) (v4 + 1) _ hf kx)
theorem lX7_bedsWith_4 {g : GT} {X : XT} {ex : Bool} {sh : List Shp} {post : Option Value → List Shp → Hp → Prop} (mx : Mx g X mX7_bedsWith 1 0 0) (hx : MSh sh) (h : Hp) (c1 : Int32) : ∀ (n : Nat) (v2 : Int32) (v3 : Int32) (r : Int32) (hf : M_bedsWith_L4 h c1 n v2 v3 = some r) (kx : ∀ (x2 : Int32), r = x2 → PW g X ex (QE g X ex post 0 0) 0 0 sh h 58 [some (.ref (gB g + 140)), some (.int c1), some (.int x2), none, none] []), PW g X ex (QE g X ex post 0 0) 0 0 sh h 4 [some (.ref (gB g + 140)), some (.int c1), some (.int v2), some (.int v3), none] [] := by
  have mx0 := mx
  obtain ⟨cx, hR, hml, hrt, -⟩ := mx0
  have cx : Cx g X RX7 cX7_bedsWith := cx
  have hrt : X.2.2.2.2.2.2.2.1.sig.returnType = (some .int) := hrt
  have hi2 : 2 < X.2.2.2.2.2.2.2.2.maxLocals := by rw [hml]; exact Nat.le_of_ble_eq_true rfl
  have hi3 : 3 < X.2.2.2.2.2.2.2.2.maxLocals := by rw [hml]; exact Nat.le_of_ble_eq_true rfl
  have hi4 : 4 < X.2.2.2.2.2.2.2.2.maxLocals := by rw [hml]; exact Nat.le_of_ble_eq_true rfl
  intro n
  induction n with
  | zero =>
    intro v2 v3 r hf kx
    cases hf
  | succ n ih =>
    intro v2 v3 r hf kx
    unfold M_bedsWith_L4 at hf
    refine PW.iload_n cx qX7_bedsWith_4 rfl ?_
    refine PW.aload_n cx qX7_bedsWith_5 rfl ?_
    refine PW.getf (t := (2, 141)) (v := .ref (gB g + 141)) cx qX7_bedsWith_6 (sh_140 hx) rfl flX7_7 rfl ?_
    refine PW.iconst (v := 3) cx qX7_bedsWith_9 rfl ?_
    refine PW.iald cx qX7_bedsWith_10 (sh_141 hx) hf sne (fun t1 hf => ?_)
    refine PW.icmp_ge cx qX7_bedsWith_11 hf (fun hf => ?_) (fun hf => ?_)
    · exact PW.locs (Lsub.keep (Lsub.keep (Lsub.keep (Lsub.drop (Lsub.drop Lsub.nil))))) (kx v2 (Option.some.inj hf).symm)
    · refine PW.iconst (v := 0) cx qX7_bedsWith_14 rfl ?_
      refine PW.istore (L' := [some (.ref (gB g + 140)), some (.int c1), some (.int v2), some (.int v3), some (.int 0)]) cx qX7_bedsWith_15 hi4 rfl rfl ?_
      obtain ⟨r4, er4, hf⟩ := bndO hf sne
      refine PW.locs (Lsub.keep (Lsub.keep (Lsub.keep (Lsub.keep (Lsub.keep Lsub.nil))))) (lX7_bedsWith_17 mx hx h c1 v3 FU v2 0 r4 er4 (fun xx_ e => ?_))
      subst e
      refine PW.iinc (v := 1) (L' := [some (.ref (gB g + 140)), some (.int c1), some (.int r4), some (.int (v3 + 1)), none]) cx qX7_bedsWith_52 rfl rfl hi3 rfl rfl ?_
      refine PW.goto cx qX7_bedsWith_55 ?_
      exact PW.locs (Lsub.keep (Lsub.keep (Lsub.keep (Lsub.keep (Lsub.drop Lsub.nil))))) (ih r4 (v3 + 1) _ hf kx)
theorem ctX7_bedsWith {g : GT} {ex : Bool} {sh : List Shp} (hx : MSh sh) (h : Hp) (p1 : Int32) (r0 : Int32) (hf : M_bedsWith h p1 = some r0) : Ct g mX7_bedsWith 1 0 0 ex [.ref (gB g + 140), .int p1] sh h (PE (some (.int r0)) sh h) := by
  refine Ct.of (L := [some (.ref (gB g + 140)), some (.int p1), none, none, none]) (by decide) (by intro w hw; simp only [List.mem_cons, List.not_mem_nil, or_false] at hw; rcases hw with rfl | rfl <;> rfl) (Nat.le_of_ble_eq_true rfl) rfl (fun X mx => ?_)
  have mx0 := mx
  obtain ⟨cx, hR, hml, hrt, -⟩ := mx0
  have cx : Cx g X RX7 cX7_bedsWith := cx
  have hrt : X.2.2.2.2.2.2.2.1.sig.returnType = (some .int) := hrt
  have hi2 : 2 < X.2.2.2.2.2.2.2.2.maxLocals := by rw [hml]; exact Nat.le_of_ble_eq_true rfl
  have hi3 : 3 < X.2.2.2.2.2.2.2.2.maxLocals := by rw [hml]; exact Nat.le_of_ble_eq_true rfl
  have hi4 : 4 < X.2.2.2.2.2.2.2.2.maxLocals := by rw [hml]; exact Nat.le_of_ble_eq_true rfl
  unfold M_bedsWith at hf
  refine PW.iconst (v := 0) cx qX7_bedsWith_0 rfl ?_
  refine PW.istore_n (L' := [some (.ref (gB g + 140)), some (.int p1), some (.int 0), none, none]) cx qX7_bedsWith_1 hi2 rfl rfl ?_
  refine PW.iconst (v := 0) cx qX7_bedsWith_2 rfl ?_
  refine PW.istore_n (L' := [some (.ref (gB g + 140)), some (.int p1), some (.int 0), some (.int 0), none]) cx qX7_bedsWith_3 hi3 rfl rfl ?_
  obtain ⟨r5, er5, hf⟩ := bndO hf sne
  refine PW.locs (Lsub.keep (Lsub.keep (Lsub.keep (Lsub.keep (Lsub.drop Lsub.nil))))) (lX7_bedsWith_4 mx hx h p1 FU 0 0 r5 er5 (fun xx_ e => ?_))
  subst e
  refine PW.iload_n cx qX7_bedsWith_58 rfl ?_
  exact PW.iret cx hrt qX7_bedsWith_59 (le_ri hf)
theorem ctX7_isLost {g : GT} {ex : Bool} {sh : List Shp} (hx : MSh sh) (h : Hp) (p1 : Int32) (r0 : Bool) (hf : M_isLost h p1 = some r0) : Ct g mX7_isLost 6 0 0 ex [.ref (gB g + 140), .int p1] sh h (PE (some (.int (b2i r0))) sh h) := by
  refine Ct.of (L := [some (.ref (gB g + 140)), some (.int p1), none]) (by decide) (by intro w hw; simp only [List.mem_cons, List.not_mem_nil, or_false] at hw; rcases hw with rfl | rfl <;> rfl) (Nat.le_of_ble_eq_true rfl) rfl (fun X mx => ?_)
  obtain ⟨cx, hR, hml, hrt, -⟩ := mx
  have cx : Cx g X RX7 cX7_isLost := cx
  have hrt : X.2.2.2.2.2.2.2.1.sig.returnType = (some .boolean) := hrt
  have hi2 : 2 < X.2.2.2.2.2.2.2.2.maxLocals := by rw [hml]; exact Nat.le_of_ble_eq_true rfl
  unfold M_isLost at hf
  refine PW.aload_n cx qX7_isLost_0 rfl ?_
  refine PW.iload_n cx qX7_isLost_1 rfl ?_
  refine PW.callVRI (As := [.int p1]) (st := []) cx hR qX7_isLost_2 klX7_389 mvX7_bedsWith (sh_140 hx) rfl rfl rfl rfl (Nat.le_of_ble_eq_true rfl) (Nat.le_of_ble_eq_true rfl) (Nat.le_of_ble_eq_true rfl) (Nat.zero_le _) (Nat.zero_le _) hf sne (fun t e => ctX7_bedsWith hx h p1 t e) (fun t1 hf => ?_)
  refine PW.iconst (v := 1) cx qX7_isLost_5 rfl ?_
  refine PW.icmp_eq cx qX7_isLost_6 hf (fun hf => ?_) (fun hf => ?_)
  · refine PW.aload_n cx qX7_isLost_11 rfl ?_
    refine PW.iload_n cx qX7_isLost_12 rfl ?_
    refine PW.callVRI (As := [.int p1]) (st := []) cx hR qX7_isLost_13 klX7_124 mvX7_reelWith (sh_140 hx) rfl rfl rfl rfl (Nat.le_of_ble_eq_true rfl) (Nat.le_of_ble_eq_true rfl) (Nat.le_of_ble_eq_true rfl) (Nat.zero_le _) (Nat.zero_le _) hf sne (fun t e => ctX7_reelWith hx h p1 t e) (fun t2 hf => ?_)
    refine PW.istore_n (L' := [some (.ref (gB g + 140)), some (.int p1), some (.int t2)]) cx qX7_isLost_16 hi2 rfl rfl ?_
    refine PW.aload_n cx qX7_isLost_17 rfl ?_
    refine PW.iload_n cx qX7_isLost_18 rfl ?_
    refine PW.aload_n cx qX7_isLost_19 rfl ?_
    refine PW.iload_n cx qX7_isLost_20 rfl ?_
    refine PW.iload_n cx qX7_isLost_21 rfl ?_
    refine PW.aload_n cx qX7_isLost_22 rfl ?_
    refine PW.iload_n cx qX7_isLost_23 rfl ?_
    refine PW.iload_n cx qX7_isLost_24 rfl ?_
    refine PW.callVRI (As := [.int p1, .int t2]) (st := [.int t2, .int p1, .ref (gB g + 140), .int t2, .ref (gB g + 140)]) cx hR qX7_isLost_25 klX7_114 mvX7_looks (sh_140 hx) rfl rfl rfl rfl (Nat.le_of_ble_eq_true rfl) (Nat.le_of_ble_eq_true rfl) (Nat.le_of_ble_eq_true rfl) (Nat.zero_le _) (Nat.zero_le _) hf sne (fun t e => ctX7_looks hx h p1 t2 t e) (fun t3 hf => ?_)
    refine PW.iconst (v := 1) cx qX7_isLost_28 rfl ?_
    refine PW.isub cx qX7_isLost_29 ?_
    refine PW.callVRI (As := [.int p1, .int t2, .int (t3 - 1)]) (st := [.int t2, .ref (gB g + 140)]) cx hR qX7_isLost_30 klX7_98 mvX7_onWay (sh_140 hx) rfl rfl rfl rfl (Nat.le_of_ble_eq_true rfl) (Nat.le_of_ble_eq_true rfl) (Nat.le_of_ble_eq_true rfl) (Nat.zero_le _) (Nat.zero_le _) hf sne (fun t e => ctX7_onWay hx h p1 t2 (t3 - 1) t e) (fun t4 hf => ?_)
    refine PW.callVRI (As := [.int t2, .int t4]) (st := []) cx hR qX7_isLost_33 klX7_102 mvX7_inBed (sh_140 hx) rfl rfl rfl rfl (Nat.le_of_ble_eq_true rfl) (Nat.le_of_ble_eq_true rfl) (Nat.le_of_ble_eq_true rfl) (Nat.zero_le _) (Nat.zero_le _) hf sne (fun t e => ctX7_inBed hx h t2 t4 t e) (fun t5 hf => ?_)
    refine PW.iload_n cx qX7_isLost_36 rfl ?_
    refine PW.icmp_eq cx qX7_isLost_37 hf (fun hf => ?_) (fun hf => ?_)
    · refine PW.iconst (v := 0) cx qX7_isLost_44 rfl ?_
      exact PW.zret cx hrt nb0 qX7_isLost_45 (le_rz hf)
    · refine PW.iconst (v := 1) cx qX7_isLost_40 rfl ?_
      refine PW.goto cx qX7_isLost_41 ?_
      exact PW.zret cx hrt nb1 qX7_isLost_45 (le_rz hf)
  · refine PW.iconst (v := 1) cx qX7_isLost_9 rfl ?_
    exact PW.zret cx hrt nb1 qX7_isLost_10 (le_rz hf)
theorem lX7_violations_48 {g : GT} {X : XT} {ex : Bool} {sh : List Shp} {post : Option Value → List Shp → Hp → Prop} (mx : Mx g X mX7_violations 7 0 0) (hx : MSh sh) (h : Hp) : ∀ (n : Nat) (v2 : Int32) (v3 : Int32) (r : Int32) (hf : M_violations_L48 h n v2 v3 = some r) (kx : ∀ (x2 : Int32), r = x2 → PW g X ex (QE g X ex post 0 0) 0 0 sh h 98 [some (.ref (gB g + 140)), none, some (.int x2), none] []), PW g X ex (QE g X ex post 0 0) 0 0 sh h 48 [some (.ref (gB g + 140)), none, some (.int v2), some (.int v3)] [] := by
  have mx0 := mx
  obtain ⟨cx, hR, hml, hrt, -⟩ := mx0
  have cx : Cx g X RX7 cX7_violations := cx
  have hrt : X.2.2.2.2.2.2.2.1.sig.returnType = (some .int) := hrt
  have hi1 : 1 < X.2.2.2.2.2.2.2.2.maxLocals := by rw [hml]; exact Nat.le_of_ble_eq_true rfl
  have hi2 : 2 < X.2.2.2.2.2.2.2.2.maxLocals := by rw [hml]; exact Nat.le_of_ble_eq_true rfl
  have hi3 : 3 < X.2.2.2.2.2.2.2.2.maxLocals := by rw [hml]; exact Nat.le_of_ble_eq_true rfl
  intro n
  induction n with
  | zero =>
    intro v2 v3 r hf kx
    cases hf
  | succ n ih =>
    intro v2 v3 r hf kx
    unfold M_violations_L48 at hf
    refine PW.iload_n cx qX7_violations_48 rfl ?_
    refine PW.aload_n cx qX7_violations_49 rfl ?_
    refine PW.getf (t := (2, 141)) (v := .ref (gB g + 141)) cx qX7_violations_50 (sh_140 hx) rfl flX7_7 rfl ?_
    refine PW.iconst (v := 2) cx qX7_violations_53 rfl ?_
    refine PW.iald cx qX7_violations_54 (sh_141 hx) hf sne (fun t6 hf => ?_)
    refine PW.icmp_ge cx qX7_violations_55 hf (fun hf => ?_) (fun hf => ?_)
    · exact PW.locs (Lsub.keep (Lsub.drop (Lsub.keep (Lsub.drop Lsub.nil)))) (kx v2 (Option.some.inj hf).symm)
    · refine PW.iload_n cx qX7_violations_58 rfl ?_
      refine PW.aload_n cx qX7_violations_59 rfl ?_
      refine PW.iload_n cx qX7_violations_60 rfl ?_
      refine PW.iconst (v := 1) cx qX7_violations_61 rfl ?_
      refine PW.callVRI (As := [.int v3, .int 1]) (st := [.int v2]) cx hR qX7_violations_62 klX7_70 mvX7_of (sh_140 hx) rfl rfl rfl rfl (Nat.le_of_ble_eq_true rfl) (Nat.le_of_ble_eq_true rfl) (Nat.le_of_ble_eq_true rfl) (Nat.zero_le _) (Nat.zero_le _) hf sne (fun t e => ctX7_of hx h v3 1 t e) (fun t7 hf => ?_)
      refine PW.iconst (v := 1) cx qX7_violations_65 rfl ?_
      refine PW.icmp_ne cx qX7_violations_66 hf (fun hf => ?_) (fun hf => ?_)
      · refine PW.aload_n cx qX7_violations_69 rfl ?_
        refine PW.iload_n cx qX7_violations_70 rfl ?_
        refine PW.callVRB (As := [.int v3]) (st := [.int v2]) cx hR qX7_violations_71 klX7_392 mvX7_isLost (sh_140 hx) rfl rfl rfl rfl (Nat.le_of_ble_eq_true rfl) (Nat.le_of_ble_eq_true rfl) (Nat.le_of_ble_eq_true rfl) (Nat.zero_le _) (Nat.zero_le _) hf sne (fun t e => ctX7_isLost hx h v3 t e) (fun t8 hf => ?_)
        refine PW.if_eq cx qX7_violations_74 hf (fun hf => ?_) (fun hf => ?_)
        · refine PW.iconst (v := 0) cx qX7_violations_81 rfl ?_
          refine PW.goto cx qX7_violations_82 ?_
          refine PW.iadd cx qX7_violations_90 ?_
          refine PW.istore_n (L' := [some (.ref (gB g + 140)), none, some (.int (v2 + 0)), some (.int v3)]) cx qX7_violations_91 hi2 rfl rfl ?_
          refine PW.iinc (v := 1) (L' := [some (.ref (gB g + 140)), none, some (.int (v2 + 0)), some (.int (v3 + 1))]) cx qX7_violations_92 rfl rfl hi3 rfl rfl ?_
          refine PW.goto cx qX7_violations_95 ?_
          exact PW.locs (Lsub.keep (Lsub.drop (Lsub.keep (Lsub.keep Lsub.nil)))) (ih (v2 + 0) (v3 + 1) _ hf kx)
        · refine PW.iconst (v := 1) cx qX7_violations_77 rfl ?_
          refine PW.goto cx qX7_violations_78 ?_
          refine PW.iadd cx qX7_violations_90 ?_
          refine PW.istore_n (L' := [some (.ref (gB g + 140)), none, some (.int (v2 + 1)), some (.int v3)]) cx qX7_violations_91 hi2 rfl rfl ?_
          refine PW.iinc (v := 1) (L' := [some (.ref (gB g + 140)), none, some (.int (v2 + 1)), some (.int (v3 + 1))]) cx qX7_violations_92 rfl rfl hi3 rfl rfl ?_
          refine PW.goto cx qX7_violations_95 ?_
          exact PW.locs (Lsub.keep (Lsub.drop (Lsub.keep (Lsub.keep Lsub.nil)))) (ih (v2 + 1) (v3 + 1) _ hf kx)
      · refine PW.aload_n cx qX7_violations_85 rfl ?_
        refine PW.iload_n cx qX7_violations_86 rfl ?_
        refine PW.callVRI (As := [.int v3]) (st := [.int v2]) cx hR qX7_violations_87 klX7_389 mvX7_bedsWith (sh_140 hx) rfl rfl rfl rfl (Nat.le_of_ble_eq_true rfl) (Nat.le_of_ble_eq_true rfl) (Nat.le_of_ble_eq_true rfl) (Nat.zero_le _) (Nat.zero_le _) hf sne (fun t e => ctX7_bedsWith hx h v3 t e) (fun t9 hf => ?_)
        refine PW.iadd cx qX7_violations_90 ?_
        refine PW.istore_n (L' := [some (.ref (gB g + 140)), none, some (.int (v2 + t9)), some (.int v3)]) cx qX7_violations_91 hi2 rfl rfl ?_
        refine PW.iinc (v := 1) (L' := [some (.ref (gB g + 140)), none, some (.int (v2 + t9)), some (.int (v3 + 1))]) cx qX7_violations_92 rfl rfl hi3 rfl rfl ?_
        refine PW.goto cx qX7_violations_95 ?_
        exact PW.locs (Lsub.keep (Lsub.drop (Lsub.keep (Lsub.keep Lsub.nil)))) (ih (v2 + t9) (v3 + 1) _ hf kx)
theorem ctX7_violations {g : GT} {ex : Bool} {sh : List Shp} (hx : MSh sh) (h : Hp) (r0 : Int32 × Hp) (hf : M_violations h = some r0) : Ct g mX7_violations 7 0 0 ex [.ref (gB g + 140)] sh h (PE (some (.int r0.1)) sh r0.2) := by
  refine Ct.of (L := [some (.ref (gB g + 140)), none, none, none]) (by decide) (by intro w hw; simp only [List.mem_cons, List.not_mem_nil, or_false] at hw; rcases hw with rfl <;> rfl) (Nat.le_of_ble_eq_true rfl) rfl (fun X mx => ?_)
  have mx0 := mx
  obtain ⟨cx, hR, hml, hrt, -⟩ := mx0
  have cx : Cx g X RX7 cX7_violations := cx
  have hrt : X.2.2.2.2.2.2.2.1.sig.returnType = (some .int) := hrt
  have hi1 : 1 < X.2.2.2.2.2.2.2.2.maxLocals := by rw [hml]; exact Nat.le_of_ble_eq_true rfl
  have hi2 : 2 < X.2.2.2.2.2.2.2.2.maxLocals := by rw [hml]; exact Nat.le_of_ble_eq_true rfl
  have hi3 : 3 < X.2.2.2.2.2.2.2.2.maxLocals := by rw [hml]; exact Nat.le_of_ble_eq_true rfl
  unfold M_violations at hf
  refine PW.aload_n cx qX7_violations_0 rfl ?_
  refine PW.iconst (v := 0) cx qX7_violations_1 rfl ?_
  refine PW.putiN cx qX7_violations_2 (sh_140 hx) rfl fpX7_54 hf (fun h1 hf => ?_)
  refine PW.bipush (v := 40) cx qX7_violations_5 rfl ?_
  refine PW.aload_n cx qX7_violations_7 rfl ?_
  refine PW.getf (t := (2, 141)) (v := .ref (gB g + 141)) cx qX7_violations_8 (sh_140 hx) rfl flX7_7 rfl ?_
  refine PW.iconst (v := 2) cx qX7_violations_11 rfl ?_
  refine PW.iald cx qX7_violations_12 (sh_141 hx) hf sne (fun t2 hf => ?_)
  refine PW.imul cx qX7_violations_13 ?_
  refine PW.aload_n cx qX7_violations_14 rfl ?_
  refine PW.getf (t := (2, 141)) (v := .ref (gB g + 141)) cx qX7_violations_15 (sh_140 hx) rfl flX7_7 rfl ?_
  refine PW.bipush (v := 6) cx qX7_violations_18 rfl ?_
  refine PW.iald cx qX7_violations_20 (sh_141 hx) hf sne (fun t3 hf => ?_)
  refine PW.iadd cx qX7_violations_21 ?_
  refine PW.aload_n cx qX7_violations_22 rfl ?_
  refine PW.callVRI (As := []) (st := [.int ((40 * t2) + t3)]) cx hR qX7_violations_23 klX7_386 mvX7_allFat (sh_140 hx) rfl rfl rfl rfl (Nat.le_of_ble_eq_true rfl) (Nat.le_of_ble_eq_true rfl) (Nat.le_of_ble_eq_true rfl) (Nat.zero_le _) (Nat.zero_le _) hf sne (fun t e => ctX7_allFat hx h1 t e) (fun t4 hf => ?_)
  refine PW.isub cx qX7_violations_26 ?_
  refine PW.aload_n cx qX7_violations_27 rfl ?_
  refine PW.getf (t := (2, 141)) (v := .ref (gB g + 141)) cx qX7_violations_28 (sh_140 hx) rfl flX7_7 rfl ?_
  refine PW.iconst (v := 5) cx qX7_violations_31 rfl ?_
  refine PW.iald cx qX7_violations_32 (sh_141 hx) hf sne (fun t5 hf => ?_)
  refine PW.isub cx qX7_violations_33 ?_
  refine PW.istore_n (L' := [some (.ref (gB g + 140)), some (.int ((((40 * t2) + t3) - t4) - t5)), none, none]) cx qX7_violations_34 hi1 rfl rfl ?_
  refine PW.iload_n cx qX7_violations_35 rfl ?_
  obtain ⟨j45, ej45, hf⟩ := lt_split hf
  have hj45 : ∀ (z0_45 : Int32), j45 z0_45 = some r0 → PW g X ex (QE g X ex (PE (some (.int r0.1)) sh r0.2) 0 0) 0 0 sh h1 45 [some (.ref (gB g + 140)), none, none, none] [.int z0_45] := by
    intro z0_45 hf
    rw [ej45] at hf
    refine PW.istore_n (L' := [some (.ref (gB g + 140)), none, some (.int z0_45), none]) cx qX7_violations_45 hi2 rfl rfl ?_
    refine PW.iconst (v := 0) cx qX7_violations_46 rfl ?_
    refine PW.istore_n (L' := [some (.ref (gB g + 140)), none, some (.int z0_45), some (.int 0)]) cx qX7_violations_47 hi3 rfl rfl ?_
    obtain ⟨r10, er10, hf⟩ := bndO hf sne
    refine PW.locs (Lsub.keep (Lsub.drop (Lsub.keep (Lsub.keep Lsub.nil)))) (lX7_violations_48 mx hx h1 FU z0_45 0 r10 er10 (fun xx_ e => ?_))
    subst e
    refine PW.iload_n cx qX7_violations_98 rfl ?_
    exact PW.iret cx hrt qX7_violations_99 (le_wi hf)
  refine PW.if_ge cx qX7_violations_36 hf (fun hf => ?_) (fun hf => ?_)
  · refine PW.iload_n cx qX7_violations_44 rfl ?_
    exact PW.locs (Lsub.keep (Lsub.drop (Lsub.drop (Lsub.drop Lsub.nil)))) (hj45 ((((40 * t2) + t3) - t4) - t5) hf)
  · refine PW.iload_n cx qX7_violations_39 rfl ?_
    refine PW.ineg cx qX7_violations_40 ?_
    refine PW.goto cx qX7_violations_41 ?_
    exact PW.locs (Lsub.keep (Lsub.drop (Lsub.drop (Lsub.drop Lsub.nil)))) (hj45 (-((((40 * t2) + t3) - t4) - t5)) hf)
theorem ctX7_write {g : GT} {ex : Bool} {sh : List Shp} (hx : MSh sh) (h : Hp) (p1 : Int32) (r0 : Hp) (hf : M_write h p1 = some r0) : Ct g mX7_write 0 0 0 ex [.ref (gB g + 140), .int p1] sh h (PE none sh r0) := by
  refine Ct.of (L := [some (.ref (gB g + 140)), some (.int p1)]) (by decide) (by intro w hw; simp only [List.mem_cons, List.not_mem_nil, or_false] at hw; rcases hw with rfl | rfl <;> rfl) (Nat.le_of_ble_eq_true rfl) rfl (fun X mx => ?_)
  obtain ⟨cx, hR, hml, hrt, -⟩ := mx
  have cx : Cx g X RX7 cX7_write := cx
  have hrt : X.2.2.2.2.2.2.2.1.sig.returnType = none := hrt
  unfold M_write at hf
  refine PW.aload_n cx qX7_write_0 rfl ?_
  refine PW.getf (t := (2, 148)) (v := .ref (gB g + 148)) cx qX7_write_1 (sh_140 hx) rfl flX7_35 rfl ?_
  refine PW.aload_n cx qX7_write_4 rfl ?_
  refine PW.getf (t := (0, 0)) (v := .int (h 140 14)) cx qX7_write_5 (sh_140 hx) rfl flX7_395 rfl ?_
  refine PW.iload_n cx qX7_write_8 rfl ?_
  refine PW.i2c cx qX7_write_9 ?_
  refine PW.cast cx qX7_write_10 (sh_148 hx) hf sne (fun h1 hf => ?_)
  refine PW.aload_n cx qX7_write_11 rfl ?_
  refine PW.dup cx qX7_write_12 rfl ?_
  refine PW.getf (t := (0, 0)) (v := .int (h1 140 14)) cx qX7_write_13 (sh_140 hx) rfl flX7_395 rfl ?_
  refine PW.iconst (v := 1) cx qX7_write_16 rfl ?_
  refine PW.iadd cx qX7_write_17 ?_
  refine PW.putiN cx qX7_write_18 (sh_140 hx) rfl fpX7_395 hf (fun h2 hf => ?_)
  exact PW.vret cx hrt qX7_write_21 (le_wv hf)
theorem ctX7_reportByte {g : GT} {ex : Bool} {sh : List Shp} (hx : MSh sh) (h : Hp) (p1 : Int32) (r0 : Int32 × Hp) (hf : M_reportByte h p1 = some r0) : Ct g mX7_reportByte 1 0 0 ex [.ref (gB g + 140), .int p1] sh h (PE (some (.int r0.1)) sh r0.2) := by
  refine Ct.of (L := [some (.ref (gB g + 140)), some (.int p1)]) (by decide) (by intro w hw; simp only [List.mem_cons, List.not_mem_nil, or_false] at hw; rcases hw with rfl | rfl <;> rfl) (Nat.le_of_ble_eq_true rfl) rfl (fun X mx => ?_)
  obtain ⟨cx, hR, hml, hrt, -⟩ := mx
  have cx : Cx g X RX7 cX7_reportByte := cx
  have hrt : X.2.2.2.2.2.2.2.1.sig.returnType = (some .int) := hrt
  unfold M_reportByte at hf
  refine PW.aload_n cx qX7_reportByte_0 rfl ?_
  refine PW.iconst (v := 0) cx qX7_reportByte_1 rfl ?_
  refine PW.putiN cx qX7_reportByte_2 (sh_140 hx) rfl fpX7_54 hf (fun h1 hf => ?_)
  refine PW.iload_n cx qX7_reportByte_5 rfl ?_
  refine PW.iconst (v := 0) cx qX7_reportByte_6 rfl ?_
  refine PW.aload_n cx qX7_reportByte_7 rfl ?_
  refine PW.getf (t := (0, 0)) (v := .int (h1 140 14)) cx qX7_reportByte_8 (sh_140 hx) rfl flX7_395 rfl ?_
  refine PW.iconst (v := 1) cx qX7_reportByte_11 rfl ?_
  refine PW.isub cx qX7_reportByte_12 ?_
  refine PW.callSRB (As := [.int p1, .int 0, .int ((h1 140 14) - 1)]) (st := []) cx hR qX7_reportByte_13 klX7_57 miX7_in rfl rfl (Nat.le_of_ble_eq_true rfl) (Nat.le_of_ble_eq_true rfl) (Nat.le_of_ble_eq_true rfl) (Nat.zero_le _) (Nat.zero_le _) hf sne (fun t e => ctX7_in h1 p1 0 ((h1 140 14) - 1) t e) (fun t2 hf => ?_)
  refine PW.if_eq cx qX7_reportByte_16 hf (fun hf => ?_) (fun hf => ?_)
  · refine PW.iconst (v := (-1)) cx qX7_reportByte_28 rfl ?_
    exact PW.iret cx hrt qX7_reportByte_29 (le_wi hf)
  · refine PW.aload_n cx qX7_reportByte_19 rfl ?_
    refine PW.getf (t := (2, 148)) (v := .ref (gB g + 148)) cx qX7_reportByte_20 (sh_140 hx) rfl flX7_35 rfl ?_
    refine PW.iload_n cx qX7_reportByte_23 rfl ?_
    refine PW.cald cx qX7_reportByte_24 (sh_148 hx) hf sne (fun t3 hf => ?_)
    refine PW.goto cx qX7_reportByte_25 ?_
    exact PW.iret cx hrt qX7_reportByte_29 (le_wi hf)
