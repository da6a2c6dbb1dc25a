set_option maxRecDepth 20000 in
theorem ctX7_thrown {g : GT} {ex : Bool} {sh : List Shp} (hx : MSh sh) (h : Hp) (r0 : Int32) (hf : M_thrown h = some r0) : Ct g mX7_thrown 0 0 0 ex [.ref (gB g + 140)] sh h (PE (some (.int r0)) sh h) := by
  refine Ct.of (L := [some (.ref (gB g + 140))]) (by decide) (by intro w hw; simp only [List.mem_cons, List.not_mem_nil, or_false] at hw; rcases hw with rfl <;> rfl) (Nat.le_of_ble_eq_true rfl) rfl (fun X mx => ?_)
  obtain ⟨cx, hR, hml, hrt, -⟩ := mx
  have cx : Cx g X RX7 cX7_thrown := cx
  have hrt : X.2.2.2.2.2.2.2.1.sig.returnType = (some .int) := hrt
  unfold M_thrown at hf
  refine PW.aload_n cx qX7_thrown_0 rfl ?_
  refine PW.getf (t := (0, 0)) (v := .int (rd h 140 15)) cx qX7_thrown_1 (sh_140 hx) rfl flX7_54 rfl ?_
  exact PW.iret cx hrt qX7_thrown_4 (le_ri hf)
set_option maxRecDepth 20000 in
theorem ctX7_in {g : GT} {ex : Bool} {sh : List Shp} (h : Hp) (p1 : Int32) (p2 : Int32) (p3 : Int32) (r0 : Bool) (hf : M_in p1 p2 p3 = some r0) : Ct g mX7_in 0 0 0 ex [.int p1, .int p2, .int p3] sh h (PE (some (.int (b2i r0))) sh h) := by
  refine Ct.of (L := [some (.int p1), some (.int p2), some (.int p3)]) (by decide) (by intro w hw; simp only [List.mem_cons, List.not_mem_nil, or_false] at hw; rcases hw with rfl | rfl | rfl <;> rfl) (Nat.le_of_ble_eq_true rfl) rfl (fun X mx => ?_)
  obtain ⟨cx, hR, hml, hrt, -⟩ := mx
  have cx : Cx g X RX7 cX7_in := cx
  have hrt : X.2.2.2.2.2.2.2.1.sig.returnType = (some .boolean) := hrt
  unfold M_in at hf
  refine PW.iload_n cx qX7_in_0 rfl ?_
  refine PW.iload_n cx qX7_in_1 rfl ?_
  refine PW.icmp_lt cx qX7_in_2 hf (fun hf => ?_) (fun hf => ?_)
  · refine PW.iconst (v := 0) cx qX7_in_14 rfl ?_
    exact PW.zret cx hrt nb0 qX7_in_15 (le_rz hf)
  · refine PW.iload_n cx qX7_in_5 rfl ?_
    refine PW.iload_n cx qX7_in_6 rfl ?_
    refine PW.icmp_gt cx qX7_in_7 hf (fun hf => ?_) (fun hf => ?_)
    · refine PW.iconst (v := 0) cx qX7_in_14 rfl ?_
      exact PW.zret cx hrt nb0 qX7_in_15 (le_rz hf)
    · refine PW.iconst (v := 1) cx qX7_in_10 rfl ?_
      refine PW.goto cx qX7_in_11 ?_
      exact PW.zret cx hrt nb1 qX7_in_15 (le_rz hf)
set_option maxRecDepth 20000 in
theorem ctX7_throwsOne {g : GT} {ex : Bool} {sh : List Shp} (hx : MSh sh) (h : Hp) (p1 : Bool) (r0 : Bool × Hp) (hf : M_throwsOne h p1 = some r0) : Ct g mX7_throwsOne 0 0 0 ex [.ref (gB g + 140), .int (b2i p1)] sh h (PE (some (.int (b2i r0.1))) sh r0.2) := by
  refine Ct.of (L := [some (.ref (gB g + 140)), some (.int (b2i p1))]) (by decide) (by intro w hw; simp only [List.mem_cons, List.not_mem_nil, or_false] at hw; rcases hw with rfl | rfl <;> rfl) (Nat.le_of_ble_eq_true rfl) rfl (fun X mx => ?_)
  obtain ⟨cx, hR, hml, hrt, -⟩ := mx
  have cx : Cx g X RX7 cX7_throwsOne := cx
  have hrt : X.2.2.2.2.2.2.2.1.sig.returnType = (some .boolean) := hrt
  unfold M_throwsOne at hf
  refine PW.aload_n cx qX7_throwsOne_0 rfl ?_
  refine PW.iload_n cx qX7_throwsOne_1 rfl ?_
  refine PW.if_eq cx qX7_throwsOne_2 hf (fun hf => ?_) (fun hf => ?_)
  · refine PW.iconst (v := 0) cx qX7_throwsOne_9 rfl ?_
    refine PW.putiN cx qX7_throwsOne_10 (sh_140 hx) rfl fpX7_54 hf (fun h1 hf => ?_)
    refine PW.iload_n cx qX7_throwsOne_13 rfl ?_
    exact PW.zret cx hrt (nbb _) qX7_throwsOne_14 (le_wz hf)
  · refine PW.iconst (v := 1) cx qX7_throwsOne_5 rfl ?_
    refine PW.goto cx qX7_throwsOne_6 ?_
    refine PW.putiN cx qX7_throwsOne_10 (sh_140 hx) rfl fpX7_54 hf (fun h2 hf => ?_)
    refine PW.iload_n cx qX7_throwsOne_13 rfl ?_
    exact PW.zret cx hrt (nbb _) qX7_throwsOne_14 (le_wz hf)
set_option maxRecDepth 20000 in
theorem ctX7_throwsOne_ {g : GT} {ex : Bool} {sh : List Shp} (hx : MSh sh) (h : Hp) (p1 : Bool) (p2 : Bool) (r0 : Bool × Hp) (hf : M_throwsOne2 h p1 p2 = some r0) : Ct g mX7_throwsOne_ 0 0 0 ex [.ref (gB g + 140), .int (b2i p1), .int (b2i p2)] sh h (PE (some (.int (b2i r0.1))) sh r0.2) := by
  refine Ct.of (L := [some (.ref (gB g + 140)), some (.int (b2i p1)), some (.int (b2i p2))]) (by decide) (by intro w hw; simp only [List.mem_cons, List.not_mem_nil, or_false] at hw; rcases hw with rfl | rfl | rfl <;> rfl) (Nat.le_of_ble_eq_true rfl) rfl (fun X mx => ?_)
  obtain ⟨cx, hR, hml, hrt, -⟩ := mx
  have cx : Cx g X RX7 cX7_throwsOne_ := cx
  have hrt : X.2.2.2.2.2.2.2.1.sig.returnType = (some .boolean) := hrt
  unfold M_throwsOne2 at hf
  refine PW.aload_n cx qX7_throwsOne__0 rfl ?_
  refine PW.iload_n cx qX7_throwsOne__1 rfl ?_
  obtain ⟨j18, ej18, hf⟩ := lt_split hf
  have hj18 : ∀ (z0_18 : Int32), j18 z0_18 = some r0 → PW g X ex (QE g X ex (PE (some (.int (b2i r0.1))) sh r0.2) 0 0) 0 0 sh h 18 [none, some (.int (b2i p1)), some (.int (b2i p2))] [.int z0_18, .ref (gB g + 140)] := by
    intro z0_18 hf
    rw [ej18] at hf
    refine PW.putiN cx qX7_throwsOne__18 (sh_140 hx) rfl fpX7_54 hf (fun h1 hf => ?_)
    refine PW.iload_n cx qX7_throwsOne__21 rfl ?_
    refine PW.if_ne cx qX7_throwsOne__22 hf (fun hf => ?_) (fun hf => ?_)
    · refine PW.iload_n cx qX7_throwsOne__25 rfl ?_
      refine PW.if_eq cx qX7_throwsOne__26 hf (fun hf => ?_) (fun hf => ?_)
      · refine PW.iconst (v := 0) cx qX7_throwsOne__33 rfl ?_
        exact PW.zret cx hrt nb0 qX7_throwsOne__34 (le_wz hf)
      · refine PW.iconst (v := 1) cx qX7_throwsOne__29 rfl ?_
        refine PW.goto cx qX7_throwsOne__30 ?_
        exact PW.zret cx hrt nb1 qX7_throwsOne__34 (le_wz hf)
    · refine PW.iconst (v := 1) cx qX7_throwsOne__29 rfl ?_
      refine PW.goto cx qX7_throwsOne__30 ?_
      exact PW.zret cx hrt nb1 qX7_throwsOne__34 (le_wz hf)
  refine PW.if_eq cx qX7_throwsOne__2 hf (fun hf => ?_) (fun hf => ?_)
  · refine PW.iload_n cx qX7_throwsOne__9 rfl ?_
    refine PW.if_eq cx qX7_throwsOne__10 hf (fun hf => ?_) (fun hf => ?_)
    · refine PW.iconst (v := 0) cx qX7_throwsOne__17 rfl ?_
      exact PW.locs (Lsub.drop (Lsub.keep (Lsub.keep Lsub.nil))) (hj18 0 hf)
    · refine PW.iconst (v := 2) cx qX7_throwsOne__13 rfl ?_
      refine PW.goto cx qX7_throwsOne__14 ?_
      exact PW.locs (Lsub.drop (Lsub.keep (Lsub.keep Lsub.nil))) (hj18 2 hf)
  · refine PW.iconst (v := 1) cx qX7_throwsOne__5 rfl ?_
    refine PW.goto cx qX7_throwsOne__6 ?_
    exact PW.locs (Lsub.drop (Lsub.keep (Lsub.keep Lsub.nil))) (hj18 1 hf)
set_option maxRecDepth 20000 in
theorem ctX7_throwsOne__ {g : GT} {ex : Bool} {sh : List Shp} (hx : MSh sh) (h : Hp) (p1 : Bool) (p2 : Bool) (p3 : Bool) (r0 : Bool × Hp) (hf : M_throwsOne3 h p1 p2 p3 = some r0) : Ct g mX7_throwsOne__ 0 0 0 ex [.ref (gB g + 140), .int (b2i p1), .int (b2i p2), .int (b2i p3)] sh h (PE (some (.int (b2i r0.1))) sh r0.2) := by
  refine Ct.of (L := [some (.ref (gB g + 140)), some (.int (b2i p1)), some (.int (b2i p2)), some (.int (b2i p3))]) (by decide) (by intro w hw; simp only [List.mem_cons, List.not_mem_nil, or_false] at hw; rcases hw with rfl | rfl | rfl | rfl <;> rfl) (Nat.le_of_ble_eq_true rfl) rfl (fun X mx => ?_)
  obtain ⟨cx, hR, hml, hrt, -⟩ := mx
  have cx : Cx g X RX7 cX7_throwsOne__ := cx
  have hrt : X.2.2.2.2.2.2.2.1.sig.returnType = (some .boolean) := hrt
  unfold M_throwsOne3 at hf
  refine PW.aload_n cx qX7_throwsOne___0 rfl ?_
  refine PW.iload_n cx qX7_throwsOne___1 rfl ?_
  obtain ⟨j26, ej26, hf⟩ := lt_split hf
  have hj26 : ∀ (z0_26 : Int32), j26 z0_26 = some r0 → PW g X ex (QE g X ex (PE (some (.int (b2i r0.1))) sh r0.2) 0 0) 0 0 sh h 26 [none, some (.int (b2i p1)), some (.int (b2i p2)), some (.int (b2i p3))] [.int z0_26, .ref (gB g + 140)] := by
    intro z0_26 hf
    rw [ej26] at hf
    refine PW.putiN cx qX7_throwsOne___26 (sh_140 hx) rfl fpX7_54 hf (fun h1 hf => ?_)
    refine PW.iload_n cx qX7_throwsOne___29 rfl ?_
    refine PW.if_ne cx qX7_throwsOne___30 hf (fun hf => ?_) (fun hf => ?_)
    · refine PW.iload_n cx qX7_throwsOne___33 rfl ?_
      refine PW.if_ne cx qX7_throwsOne___34 hf (fun hf => ?_) (fun hf => ?_)
      · refine PW.iload_n cx qX7_throwsOne___37 rfl ?_
        refine PW.if_eq cx qX7_throwsOne___38 hf (fun hf => ?_) (fun hf => ?_)
        · refine PW.iconst (v := 0) cx qX7_throwsOne___45 rfl ?_
          exact PW.zret cx hrt nb0 qX7_throwsOne___46 (le_wz hf)
        · refine PW.iconst (v := 1) cx qX7_throwsOne___41 rfl ?_
          refine PW.goto cx qX7_throwsOne___42 ?_
          exact PW.zret cx hrt nb1 qX7_throwsOne___46 (le_wz hf)
      · refine PW.iconst (v := 1) cx qX7_throwsOne___41 rfl ?_
        refine PW.goto cx qX7_throwsOne___42 ?_
        exact PW.zret cx hrt nb1 qX7_throwsOne___46 (le_wz hf)
    · refine PW.iconst (v := 1) cx qX7_throwsOne___41 rfl ?_
      refine PW.goto cx qX7_throwsOne___42 ?_
      exact PW.zret cx hrt nb1 qX7_throwsOne___46 (le_wz hf)
  refine PW.if_eq cx qX7_throwsOne___2 hf (fun hf => ?_) (fun hf => ?_)
  · refine PW.iload_n cx qX7_throwsOne___9 rfl ?_
    refine PW.if_eq cx qX7_throwsOne___10 hf (fun hf => ?_) (fun hf => ?_)
    · refine PW.iload_n cx qX7_throwsOne___17 rfl ?_
      refine PW.if_eq cx qX7_throwsOne___18 hf (fun hf => ?_) (fun hf => ?_)
      · refine PW.iconst (v := 0) cx qX7_throwsOne___25 rfl ?_
        exact PW.locs (Lsub.drop (Lsub.keep (Lsub.keep (Lsub.keep Lsub.nil)))) (hj26 0 hf)
      · refine PW.iconst (v := 3) cx qX7_throwsOne___21 rfl ?_
        refine PW.goto cx qX7_throwsOne___22 ?_
        exact PW.locs (Lsub.drop (Lsub.keep (Lsub.keep (Lsub.keep Lsub.nil)))) (hj26 3 hf)
    · refine PW.iconst (v := 2) cx qX7_throwsOne___13 rfl ?_
      refine PW.goto cx qX7_throwsOne___14 ?_
      exact PW.locs (Lsub.drop (Lsub.keep (Lsub.keep (Lsub.keep Lsub.nil)))) (hj26 2 hf)
  · refine PW.iconst (v := 1) cx qX7_throwsOne___5 rfl ?_
    refine PW.goto cx qX7_throwsOne___6 ?_
    exact PW.locs (Lsub.drop (Lsub.keep (Lsub.keep (Lsub.keep Lsub.nil)))) (hj26 1 hf)
set_option maxRecDepth 20000 in
theorem ctX7_isClip {g : GT} {ex : Bool} {sh : List Shp} (hx : MSh sh) (h : Hp) (p1 : Int32) (r0 : Bool) (hf : M_isClip h p1 = some r0) : Ct g mX7_isClip 1 0 0 ex [.ref (gB g + 140), .int p1] sh h (PE (some (.int (b2i r0))) sh h) := by
  refine Ct.of (L := [some (.ref (gB g + 140)), some (.int p1)]) (by decide) (by intro w hw; simp only [List.mem_cons, List.not_mem_nil, or_false] at hw; rcases hw with rfl | rfl <;> rfl) (Nat.le_of_ble_eq_true rfl) rfl (fun X mx => ?_)
  obtain ⟨cx, hR, hml, hrt, -⟩ := mx
  have cx : Cx g X RX7 cX7_isClip := cx
  have hrt : X.2.2.2.2.2.2.2.1.sig.returnType = (some .boolean) := hrt
  unfold M_isClip at hf
  refine PW.iload_n cx qX7_isClip_0 rfl ?_
  refine PW.iconst (v := 0) cx qX7_isClip_1 rfl ?_
  refine PW.aload_n cx qX7_isClip_2 rfl ?_
  refine PW.getf (t := (2, 141)) (v := .ref (gB g + 141)) cx qX7_isClip_3 (sh_140 hx) rfl flX7_7 rfl ?_
  refine PW.iconst (v := 2) cx qX7_isClip_6 rfl ?_
  refine PW.iald cx qX7_isClip_7 (sh_141 hx) hf sne (fun t1 hf => ?_)
  refine PW.iconst (v := 1) cx qX7_isClip_8 rfl ?_
  refine PW.isub cx qX7_isClip_9 ?_
  refine PW.callSRB (As := [.int p1, .int 0, .int (t1 - 1)]) (st := []) cx hR qX7_isClip_10 klX7_57 miX7_in rfl rfl (Nat.le_of_ble_eq_true rfl) (Nat.le_of_ble_eq_true rfl) (Nat.le_of_ble_eq_true rfl) (Nat.zero_le _) (Nat.zero_le _) hf sne (fun t e => ctX7_in h p1 0 (t1 - 1) t e) (fun t2 hf => ?_)
  exact PW.zret cx hrt (nbb _) qX7_isClip_13 (le_rz hf)
set_option maxRecDepth 20000 in
theorem ctX7_isReel {g : GT} {ex : Bool} {sh : List Shp} (hx : MSh sh) (h : Hp) (p1 : Int32) (r0 : Bool) (hf : M_isReel h p1 = some r0) : Ct g mX7_isReel 1 0 0 ex [.ref (gB g + 140), .int p1] sh h (PE (some (.int (b2i r0))) sh h) := by
  refine Ct.of (L := [some (.ref (gB g + 140)), some (.int p1)]) (by decide) (by intro w hw; simp only [List.mem_cons, List.not_mem_nil, or_false] at hw; rcases hw with rfl | rfl <;> rfl) (Nat.le_of_ble_eq_true rfl) rfl (fun X mx => ?_)
  obtain ⟨cx, hR, hml, hrt, -⟩ := mx
  have cx : Cx g X RX7 cX7_isReel := cx
  have hrt : X.2.2.2.2.2.2.2.1.sig.returnType = (some .boolean) := hrt
  unfold M_isReel at hf
  refine PW.iload_n cx qX7_isReel_0 rfl ?_
  refine PW.iconst (v := 0) cx qX7_isReel_1 rfl ?_
  refine PW.aload_n cx qX7_isReel_2 rfl ?_
  refine PW.getf (t := (2, 141)) (v := .ref (gB g + 141)) cx qX7_isReel_3 (sh_140 hx) rfl flX7_7 rfl ?_
  refine PW.iconst (v := 3) cx qX7_isReel_6 rfl ?_
  refine PW.iald cx qX7_isReel_7 (sh_141 hx) hf sne (fun t1 hf => ?_)
  refine PW.iconst (v := 1) cx qX7_isReel_8 rfl ?_
  refine PW.isub cx qX7_isReel_9 ?_
  refine PW.callSRB (As := [.int p1, .int 0, .int (t1 - 1)]) (st := []) cx hR qX7_isReel_10 klX7_57 miX7_in rfl rfl (Nat.le_of_ble_eq_true rfl) (Nat.le_of_ble_eq_true rfl) (Nat.le_of_ble_eq_true rfl) (Nat.zero_le _) (Nat.zero_le _) hf sne (fun t e => ctX7_in h p1 0 (t1 - 1) t e) (fun t2 hf => ?_)
  exact PW.zret cx hrt (nbb _) qX7_isReel_13 (le_rz hf)
set_option maxRecDepth 20000 in
theorem ctX7_isScene {g : GT} {ex : Bool} {sh : List Shp} (hx : MSh sh) (h : Hp) (p1 : Int32) (r0 : Bool) (hf : M_isScene h p1 = some r0) : Ct g mX7_isScene 1 0 0 ex [.ref (gB g + 140), .int p1] sh h (PE (some (.int (b2i r0))) sh h) := by
  refine Ct.of (L := [some (.ref (gB g + 140)), some (.int p1)]) (by decide) (by intro w hw; simp only [List.mem_cons, List.not_mem_nil, or_false] at hw; rcases hw with rfl | rfl <;> rfl) (Nat.le_of_ble_eq_true rfl) rfl (fun X mx => ?_)
  obtain ⟨cx, hR, hml, hrt, -⟩ := mx
  have cx : Cx g X RX7 cX7_isScene := cx
  have hrt : X.2.2.2.2.2.2.2.1.sig.returnType = (some .boolean) := hrt
  unfold M_isScene at hf
  refine PW.iload_n cx qX7_isScene_0 rfl ?_
  refine PW.iconst (v := 0) cx qX7_isScene_1 rfl ?_
  refine PW.aload_n cx qX7_isScene_2 rfl ?_
  refine PW.getf (t := (2, 141)) (v := .ref (gB g + 141)) cx qX7_isScene_3 (sh_140 hx) rfl flX7_7 rfl ?_
  refine PW.iconst (v := 4) cx qX7_isScene_6 rfl ?_
  refine PW.iald cx qX7_isScene_7 (sh_141 hx) hf sne (fun t1 hf => ?_)
  refine PW.iconst (v := 1) cx qX7_isScene_8 rfl ?_
  refine PW.isub cx qX7_isScene_9 ?_
  refine PW.callSRB (As := [.int p1, .int 0, .int (t1 - 1)]) (st := []) cx hR qX7_isScene_10 klX7_57 miX7_in rfl rfl (Nat.le_of_ble_eq_true rfl) (Nat.le_of_ble_eq_true rfl) (Nat.le_of_ble_eq_true rfl) (Nat.zero_le _) (Nat.zero_le _) hf sne (fun t e => ctX7_in h p1 0 (t1 - 1) t e) (fun t2 hf => ?_)
  exact PW.zret cx hrt (nbb _) qX7_isScene_13 (le_rz hf)
set_option maxRecDepth 20000 in
theorem ctX7_of {g : GT} {ex : Bool} {sh : List Shp} (hx : MSh sh) (h : Hp) (p1 : Int32) (p2 : Int32) (r0 : Int32) (hf : M_of h p1 p2 = some r0) : Ct g mX7_of 0 0 0 ex [.ref (gB g + 140), .int p1, .int p2] sh h (PE (some (.int r0)) sh h) := by
  refine Ct.of (L := [some (.ref (gB g + 140)), some (.int p1), some (.int p2)]) (by decide) (by intro w hw; simp only [List.mem_cons, List.not_mem_nil, or_false] at hw; rcases hw with rfl | rfl | rfl <;> rfl) (Nat.le_of_ble_eq_true rfl) rfl (fun X mx => ?_)
  obtain ⟨cx, hR, hml, hrt, -⟩ := mx
  have cx : Cx g X RX7 cX7_of := cx
  have hrt : X.2.2.2.2.2.2.2.1.sig.returnType = (some .int) := hrt
  unfold M_of at hf
  refine PW.aload_n cx qX7_of_0 rfl ?_
  refine PW.getf (t := (2, 141)) (v := .ref (gB g + 141)) cx qX7_of_1 (sh_140 hx) rfl flX7_7 rfl ?_
  refine PW.bipush (v := 8) cx qX7_of_4 rfl ?_
  refine PW.iconst (v := 4) cx qX7_of_6 rfl ?_
  refine PW.iload_n cx qX7_of_7 rfl ?_
  refine PW.imul cx qX7_of_8 ?_
  refine PW.iadd cx qX7_of_9 ?_
  refine PW.iload_n cx qX7_of_10 rfl ?_
  refine PW.iadd cx qX7_of_11 ?_
  refine PW.iald cx qX7_of_12 (sh_141 hx) hf sne (fun t1 hf => ?_)
  exact PW.iret cx hrt qX7_of_13 (le_ri hf)
set_option maxRecDepth 20000 in
theorem ctX7_to {g : GT} {ex : Bool} {sh : List Shp} (hx : MSh sh) (h : Hp) (p1 : Int32) (p2 : Int32) (p3 : Int32) (r0 : Hp) (hf : M_to h p1 p2 p3 = some r0) : Ct g mX7_to 0 0 0 ex [.ref (gB g + 140), .int p1, .int p2, .int p3] sh h (PE none sh r0) := by
  refine Ct.of (L := [some (.ref (gB g + 140)), some (.int p1), some (.int p2), some (.int p3)]) (by decide) (by intro w hw; simp only [List.mem_cons, List.not_mem_nil, or_false] at hw; rcases hw with rfl | rfl | rfl | rfl <;> rfl) (Nat.le_of_ble_eq_true rfl) rfl (fun X mx => ?_)
  obtain ⟨cx, hR, hml, hrt, -⟩ := mx
  have cx : Cx g X RX7 cX7_to := cx
  have hrt : X.2.2.2.2.2.2.2.1.sig.returnType = none := hrt
  unfold M_to at hf
  refine PW.aload_n cx qX7_to_0 rfl ?_
  refine PW.getf (t := (2, 141)) (v := .ref (gB g + 141)) cx qX7_to_1 (sh_140 hx) rfl flX7_7 rfl ?_
  refine PW.bipush (v := 8) cx qX7_to_4 rfl ?_
  refine PW.iconst (v := 4) cx qX7_to_6 rfl ?_
  refine PW.iload_n cx qX7_to_7 rfl ?_
  refine PW.imul cx qX7_to_8 ?_
  refine PW.iadd cx qX7_to_9 ?_
  refine PW.iload_n cx qX7_to_10 rfl ?_
  refine PW.iadd cx qX7_to_11 ?_
  refine PW.iload_n cx qX7_to_12 rfl ?_
  refine PW.iast cx qX7_to_13 (sh_141 hx) hf sne (fun h1 hf => ?_)
  exact PW.vret cx hrt qX7_to_14 (le_wv hf)
set_option maxRecDepth 20000 in
theorem ctX7_scene {g : GT} {ex : Bool} {sh : List Shp} (hx : MSh sh) (h : Hp) (p1 : Int32) (p2 : Int32) (r0 : Int32) (hf : M_scene h p1 p2 = some r0) : Ct g mX7_scene 0 0 0 ex [.ref (gB g + 140), .int p1, .int p2] sh h (PE (some (.int r0)) sh h) := by
  refine Ct.of (L := [some (.ref (gB g + 140)), some (.int p1), some (.int p2)]) (by decide) (by intro w hw; simp only [List.mem_cons, List.not_mem_nil, or_false] at hw; rcases hw with rfl | rfl | rfl <;> rfl) (Nat.le_of_ble_eq_true rfl) rfl (fun X mx => ?_)
  obtain ⟨cx, hR, hml, hrt, -⟩ := mx
  have cx : Cx g X RX7 cX7_scene := cx
  have hrt : X.2.2.2.2.2.2.2.1.sig.returnType = (some .int) := hrt
  unfold M_scene at hf
  refine PW.aload_n cx qX7_scene_0 rfl ?_
  refine PW.getf (t := (2, 141)) (v := .ref (gB g + 141)) cx qX7_scene_1 (sh_140 hx) rfl flX7_7 rfl ?_
  refine PW.bipush (v := 96) cx qX7_scene_4 rfl ?_
  refine PW.iconst (v := 2) cx qX7_scene_6 rfl ?_
  refine PW.iload_n cx qX7_scene_7 rfl ?_
  refine PW.imul cx qX7_scene_8 ?_
  refine PW.iadd cx qX7_scene_9 ?_
  refine PW.iload_n cx qX7_scene_10 rfl ?_
  refine PW.iadd cx qX7_scene_11 ?_
  refine PW.iald cx qX7_scene_12 (sh_141 hx) hf sne (fun t1 hf => ?_)
  exact PW.iret cx hrt qX7_scene_13 (le_ri hf)
set_option maxRecDepth 20000 in
theorem ctX7_beds {g : GT} {ex : Bool} {sh : List Shp} (hx : MSh sh) (h : Hp) (p1 : Int32) (r0 : Int32) (hf : M_beds h p1 = some r0) : Ct g mX7_beds 0 0 0 ex [.ref (gB g + 140), .int p1] sh h (PE (some (.int r0)) sh h) := by
  refine Ct.of (L := [some (.ref (gB g + 140)), some (.int p1)]) (by decide) (by intro w hw; simp only [List.mem_cons, List.not_mem_nil, or_false] at hw; rcases hw with rfl | rfl <;> rfl) (Nat.le_of_ble_eq_true rfl) rfl (fun X mx => ?_)
  obtain ⟨cx, hR, hml, hrt, -⟩ := mx
  have cx : Cx g X RX7 cX7_beds := cx
  have hrt : X.2.2.2.2.2.2.2.1.sig.returnType = (some .int) := hrt
  unfold M_beds at hf
  refine PW.aload_n cx qX7_beds_0 rfl ?_
  refine PW.getf (t := (2, 141)) (v := .ref (gB g + 141)) cx qX7_beds_1 (sh_140 hx) rfl flX7_7 rfl ?_
  refine PW.bipush (v := 56) cx qX7_beds_4 rfl ?_
  refine PW.iload_n cx qX7_beds_6 rfl ?_
  refine PW.iadd cx qX7_beds_7 ?_
  refine PW.iald cx qX7_beds_8 (sh_141 hx) hf sne (fun t1 hf => ?_)
  exact PW.iret cx hrt qX7_beds_9 (le_ri hf)
set_option maxRecDepth 20000 in
theorem ctX7_inBed {g : GT} {ex : Bool} {sh : List Shp} (hx : MSh sh) (h : Hp) (p1 : Int32) (p2 : Int32) (r0 : Int32) (hf : M_inBed h p1 p2 = some r0) : Ct g mX7_inBed 0 0 0 ex [.ref (gB g + 140), .int p1, .int p2] sh h (PE (some (.int r0)) sh h) := by
  refine Ct.of (L := [some (.ref (gB g + 140)), some (.int p1), some (.int p2)]) (by decide) (by intro w hw; simp only [List.mem_cons, List.not_mem_nil, or_false] at hw; rcases hw with rfl | rfl | rfl <;> rfl) (Nat.le_of_ble_eq_true rfl) rfl (fun X mx => ?_)
  obtain ⟨cx, hR, hml, hrt, -⟩ := mx
  have cx : Cx g X RX7 cX7_inBed := cx
  have hrt : X.2.2.2.2.2.2.2.1.sig.returnType = (some .int) := hrt
  unfold M_inBed at hf
  refine PW.aload_n cx qX7_inBed_0 rfl ?_
  refine PW.getf (t := (2, 141)) (v := .ref (gB g + 141)) cx qX7_inBed_1 (sh_140 hx) rfl flX7_7 rfl ?_
  refine PW.bipush (v := 60) cx qX7_inBed_4 rfl ?_
  refine PW.bipush (v := 9) cx qX7_inBed_6 rfl ?_
  refine PW.iload_n cx qX7_inBed_8 rfl ?_
  refine PW.imul cx qX7_inBed_9 ?_
  refine PW.iadd cx qX7_inBed_10 ?_
  refine PW.iload_n cx qX7_inBed_11 rfl ?_
  refine PW.iadd cx qX7_inBed_12 ?_
  refine PW.iald cx qX7_inBed_13 (sh_141 hx) hf sne (fun t1 hf => ?_)
  exact PW.iret cx hrt qX7_inBed_14 (le_ri hf)
set_option maxRecDepth 20000 in
theorem ctX7_setBed {g : GT} {ex : Bool} {sh : List Shp} (hx : MSh sh) (h : Hp) (p1 : Int32) (p2 : Int32) (p3 : Int32) (r0 : Hp) (hf : M_setBed h p1 p2 p3 = some r0) : Ct g mX7_setBed 0 0 0 ex [.ref (gB g + 140), .int p1, .int p2, .int p3] sh h (PE none sh r0) := by
  refine Ct.of (L := [some (.ref (gB g + 140)), some (.int p1), some (.int p2), some (.int p3)]) (by decide) (by intro w hw; simp only [List.mem_cons, List.not_mem_nil, or_false] at hw; rcases hw with rfl | rfl | rfl | rfl <;> rfl) (Nat.le_of_ble_eq_true rfl) rfl (fun X mx => ?_)
  obtain ⟨cx, hR, hml, hrt, -⟩ := mx
  have cx : Cx g X RX7 cX7_setBed := cx
  have hrt : X.2.2.2.2.2.2.2.1.sig.returnType = none := hrt
  unfold M_setBed at hf
  refine PW.aload_n cx qX7_setBed_0 rfl ?_
  refine PW.getf (t := (2, 141)) (v := .ref (gB g + 141)) cx qX7_setBed_1 (sh_140 hx) rfl flX7_7 rfl ?_
  refine PW.bipush (v := 60) cx qX7_setBed_4 rfl ?_
  refine PW.bipush (v := 9) cx qX7_setBed_6 rfl ?_
  refine PW.iload_n cx qX7_setBed_8 rfl ?_
  refine PW.imul cx qX7_setBed_9 ?_
  refine PW.iadd cx qX7_setBed_10 ?_
  refine PW.iload_n cx qX7_setBed_11 rfl ?_
  refine PW.iadd cx qX7_setBed_12 ?_
  refine PW.iload_n cx qX7_setBed_13 rfl ?_
  refine PW.iast cx qX7_setBed_14 (sh_141 hx) hf sne (fun h1 hf => ?_)
  exact PW.vret cx hrt qX7_setBed_15 (le_wv hf)
set_option maxRecDepth 20000 in
theorem lX7_digits_4 {g : GT} {X : XT} {ex : Bool} {post : Option Value → List Shp → Hp → Prop} {sh : List Shp} (mx : Mx g X mX7_digits 0 0 0) (h : Hp) : ∀ (n : Nat) (v1 : Int32) (v2 : Int32) (r : Int32) (hf : M_digits_L4 n v1 v2 = some r) (kx : ∀ (x1 : Int32), r = x1 → PW g X ex (QE g X ex post 0 0) 0 0 sh h 19 [none, some (.int x1), none] []), PW g X ex (QE g X ex post 0 0) 0 0 sh h 4 [none, some (.int v1), some (.int v2)] [] := by
  have mx0 := mx
  obtain ⟨cx, hR, hml, hrt, -⟩ := mx0
  have cx : Cx g X RX7 cX7_digits := cx
  have hrt : X.2.2.2.2.2.2.2.1.sig.returnType = (some .int) := hrt
  have hi1 : 1 < X.2.2.2.2.2.2.2.2.maxLocals := by rw [hml]; exact Nat.le_of_ble_eq_true rfl
  have hi2 : 2 < X.2.2.2.2.2.2.2.2.maxLocals := by rw [hml]; exact Nat.le_of_ble_eq_true rfl
  intro n
  induction n with
  | zero =>
    intro v1 v2 r hf kx
    cases hf
  | succ n ih =>
    intro v1 v2 r hf kx
    unfold M_digits_L4 at hf
    refine PW.iload_n cx qX7_digits_4 rfl ?_
    refine PW.if_le cx qX7_digits_5 hf (fun hf => ?_) (fun hf => ?_)
    · exact PW.locs (Lsub.drop (Lsub.keep (Lsub.drop Lsub.nil))) (kx v1 (Option.some.inj hf).symm)
    · refine PW.iinc (v := 1) (L' := [none, some (.int (v1 + 1)), some (.int v2)]) cx qX7_digits_8 rfl rfl hi1 rfl rfl ?_
      refine PW.iload_n cx qX7_digits_11 rfl ?_
      refine PW.bipush (v := 10) cx qX7_digits_12 rfl ?_
      refine PW.idivK cx qX7_digits_14 (by decide) ?_
      refine PW.istore_n (L' := [none, some (.int (v1 + 1)), some (.int (v2 / 10))]) cx qX7_digits_15 hi2 rfl rfl ?_
      refine PW.goto cx qX7_digits_16 ?_
      exact PW.locs (Lsub.drop (Lsub.keep (Lsub.keep Lsub.nil))) (ih (v1 + 1) (v2 / 10) _ hf kx)
set_option maxRecDepth 20000 in
theorem ctX7_digits {g : GT} {ex : Bool} {sh : List Shp} (h : Hp) (p1 : Int32) (r0 : Int32) (hf : M_digits p1 = some r0) : Ct g mX7_digits 0 0 0 ex [.int p1] sh h (PE (some (.int r0)) sh h) := by
  refine Ct.of (L := [some (.int p1), none, none]) (by decide) (by intro w hw; simp only [List.mem_cons, List.not_mem_nil, or_false] at hw; rcases hw with rfl <;> rfl) (Nat.le_of_ble_eq_true rfl) rfl (fun X mx => ?_)
  have mx0 := mx
  obtain ⟨cx, hR, hml, hrt, -⟩ := mx0
  have cx : Cx g X RX7 cX7_digits := cx
  have hrt : X.2.2.2.2.2.2.2.1.sig.returnType = (some .int) := hrt
  have hi1 : 1 < X.2.2.2.2.2.2.2.2.maxLocals := by rw [hml]; exact Nat.le_of_ble_eq_true rfl
  have hi2 : 2 < X.2.2.2.2.2.2.2.2.maxLocals := by rw [hml]; exact Nat.le_of_ble_eq_true rfl
  unfold M_digits at hf
  refine PW.iconst (v := 0) cx qX7_digits_0 rfl ?_
  refine PW.istore_n (L' := [some (.int p1), some (.int 0), none]) cx qX7_digits_1 hi1 rfl rfl ?_
  refine PW.iload_n cx qX7_digits_2 rfl ?_
  refine PW.istore_n (L' := [some (.int p1), some (.int 0), some (.int p1)]) cx qX7_digits_3 hi2 rfl rfl ?_
  obtain ⟨r1, er1, hf⟩ := bndO hf sne
  refine PW.locs (Lsub.drop (Lsub.keep (Lsub.keep Lsub.nil))) (lX7_digits_4 mx h FU 0 p1 r1 er1 (fun xx_ e => ?_))
  subst e
  refine PW.iload_n cx qX7_digits_19 rfl ?_
  exact PW.iret cx hrt qX7_digits_20 (le_ri hf)
set_option maxRecDepth 20000 in
theorem lX7_digit_9 {g : GT} {X : XT} {ex : Bool} {post : Option Value → List Shp → Hp → Prop} {sh : List Shp} (mx : Mx g X mX7_digit 1 0 0) (h : Hp) (c1 : Int32) : ∀ (n : Nat) (v2 : Int32) (v3 : Int32) (r : Int32) (hf : M_digit_L9 c1 n v2 v3 = some r) (kx : ∀ (x2 : Int32), r = x2 → PW g X ex (QE g X ex post 0 0) 0 0 sh h 25 [none, some (.int c1), some (.int x2), none] []), PW g X ex (QE g X ex post 0 0) 0 0 sh h 9 [none, some (.int c1), some (.int v2), some (.int v3)] [] := by
  have mx0 := mx
  obtain ⟨cx, hR, hml, hrt, -⟩ := mx0
  have cx : Cx g X RX7 cX7_digit := cx
  have hrt : X.2.2.2.2.2.2.2.1.sig.returnType = (some .int) := hrt
  have hi2 : 2 < X.2.2.2.2.2.2.2.2.maxLocals := by rw [hml]; exact Nat.le_of_ble_eq_true rfl
  have hi3 : 3 < X.2.2.2.2.2.2.2.2.maxLocals := by rw [hml]; exact Nat.le_of_ble_eq_true rfl
  intro n
  induction n with
  | zero =>
    intro v2 v3 r hf kx
    cases hf
  | succ n ih =>
    intro v2 v3 r hf kx
    unfold M_digit_L9 at hf
    refine PW.iload_n cx qX7_digit_9 rfl ?_
    refine PW.iload_n cx qX7_digit_10 rfl ?_
    refine PW.icmp_le cx qX7_digit_11 hf (fun hf => ?_) (fun hf => ?_)
    · exact PW.locs (Lsub.drop (Lsub.keep (Lsub.keep (Lsub.drop Lsub.nil)))) (kx v2 (Option.some.inj hf).symm)
    · refine PW.iload_n cx qX7_digit_14 rfl ?_
      refine PW.bipush (v := 10) cx qX7_digit_15 rfl ?_
      refine PW.idivK cx qX7_digit_17 (by decide) ?_
      refine PW.istore_n (L' := [none, some (.int c1), some (.int (v2 / 10)), some (.int v3)]) cx qX7_digit_18 hi2 rfl rfl ?_
      refine PW.iinc (v := (-1)) (L' := [none, some (.int c1), some (.int (v2 / 10)), some (.int (v3 + (-1)))]) cx qX7_digit_19 rfl rfl hi3 rfl rfl ?_
      refine PW.goto cx qX7_digit_22 ?_
      exact PW.locs (Lsub.drop (Lsub.keep (Lsub.keep (Lsub.keep Lsub.nil)))) (ih (v2 / 10) (v3 + (-1)) _ hf kx)
set_option maxRecDepth 20000 in
theorem ctX7_digit {g : GT} {ex : Bool} {sh : List Shp} (h : Hp) (p1 : Int32) (p2 : Int32) (r0 : Int32) (hf : M_digit p1 p2 = some r0) : Ct g mX7_digit 1 0 0 ex [.int p1, .int p2] sh h (PE (some (.int r0)) sh h) := by
  refine Ct.of (L := [some (.int p1), some (.int p2), none, none]) (by decide) (by intro w hw; simp only [List.mem_cons, List.not_mem_nil, or_false] at hw; rcases hw with rfl | rfl <;> rfl) (Nat.le_of_ble_eq_true rfl) rfl (fun X mx => ?_)
  have mx0 := mx
  obtain ⟨cx, hR, hml, hrt, -⟩ := mx0
  have cx : Cx g X RX7 cX7_digit := cx
  have hrt : X.2.2.2.2.2.2.2.1.sig.returnType = (some .int) := hrt
  have hi2 : 2 < X.2.2.2.2.2.2.2.2.maxLocals := by rw [hml]; exact Nat.le_of_ble_eq_true rfl
  have hi3 : 3 < X.2.2.2.2.2.2.2.2.maxLocals := by rw [hml]; exact Nat.le_of_ble_eq_true rfl
  unfold M_digit at hf
  refine PW.iload_n cx qX7_digit_0 rfl ?_
  refine PW.istore_n (L' := [some (.int p1), some (.int p2), some (.int p1), none]) cx qX7_digit_1 hi2 rfl rfl ?_
  refine PW.iload_n cx qX7_digit_2 rfl ?_
  refine PW.callSRI (As := [.int p1]) (st := []) cx hR qX7_digit_3 klX7_61 miX7_digits rfl rfl (Nat.le_of_ble_eq_true rfl) (Nat.le_of_ble_eq_true rfl) (Nat.le_of_ble_eq_true rfl) (Nat.zero_le _) (Nat.zero_le _) hf sne (fun t e => ctX7_digits h p1 t e) (fun t1 hf => ?_)
  refine PW.iconst (v := 1) cx qX7_digit_6 rfl ?_
  refine PW.isub cx qX7_digit_7 ?_
  refine PW.istore_n (L' := [some (.int p1), some (.int p2), some (.int p1), some (.int (t1 - 1))]) cx qX7_digit_8 hi3 rfl rfl ?_
  obtain ⟨r2, er2, hf⟩ := bndO hf sne
  refine PW.locs (Lsub.drop (Lsub.keep (Lsub.keep (Lsub.keep Lsub.nil)))) (lX7_digit_9 mx h p2 FU p1 (t1 - 1) r2 er2 (fun xx_ e => ?_))
  subst e
  refine PW.iload_n cx qX7_digit_25 rfl ?_
  refine PW.bipush (v := 10) cx qX7_digit_26 rfl ?_
  refine PW.iremK cx qX7_digit_28 (by decide) ?_
  exact PW.iret cx hrt qX7_digit_29 (le_ri hf)
set_option maxRecDepth 20000 in
theorem lX7_hasZero_2 {g : GT} {X : XT} {ex : Bool} {post : Option Value → List Shp → Hp → Prop} {sh : List Shp} (mx : Mx g X mX7_hasZero 0 0 0) (h : Hp) : ∀ (n : Nat) (v1 : Int32) (r : (Unit) ⊕ (Bool)) (hf : M_hasZero_L2 n v1 = some r) (kx : r = .inl () → PW g X ex (QE g X ex post 0 0) 0 0 sh h 23 [none, none] []) (kr : ∀ y : Bool, r = .inr y → post (some (.int (b2i y))) sh h), PW g X ex (QE g X ex post 0 0) 0 0 sh h 2 [none, some (.int v1)] [] := by
  have mx0 := mx
  obtain ⟨cx, hR, hml, hrt, -⟩ := mx0
  have cx : Cx g X RX7 cX7_hasZero := cx
  have hrt : X.2.2.2.2.2.2.2.1.sig.returnType = (some .boolean) := hrt
  have hi1 : 1 < X.2.2.2.2.2.2.2.2.maxLocals := by rw [hml]; exact Nat.le_of_ble_eq_true rfl
  intro n
  induction n with
  | zero =>
    intro v1 r hf kx kr
    cases hf
  | succ n ih =>
    intro v1 r hf kx kr
    unfold M_hasZero_L2 at hf
    refine PW.iload_n cx qX7_hasZero_2 rfl ?_
    refine PW.if_le cx qX7_hasZero_3 hf (fun hf => ?_) (fun hf => ?_)
    · exact PW.locs (Lsub.drop (Lsub.drop Lsub.nil)) (kx (Option.some.inj hf).symm)
    · refine PW.iload_n cx qX7_hasZero_6 rfl ?_
      refine PW.bipush (v := 10) cx qX7_hasZero_7 rfl ?_
      refine PW.iremK cx qX7_hasZero_9 (by decide) ?_
      refine PW.if_ne cx qX7_hasZero_10 hf (fun hf => ?_) (fun hf => ?_)
      · refine PW.iconst (v := 1) cx qX7_hasZero_13 rfl ?_
        exact PW.zret cx hrt nb1 qX7_hasZero_14 (kr _ (Option.some.inj hf).symm)
      · refine PW.iload_n cx qX7_hasZero_15 rfl ?_
        refine PW.bipush (v := 10) cx qX7_hasZero_16 rfl ?_
        refine PW.idivK cx qX7_hasZero_18 (by decide) ?_
        refine PW.istore_n (L' := [none, some (.int (v1 / 10))]) cx qX7_hasZero_19 hi1 rfl rfl ?_
        refine PW.goto cx qX7_hasZero_20 ?_
        exact PW.locs (Lsub.drop (Lsub.keep Lsub.nil)) (ih (v1 / 10) _ hf kx kr)
set_option maxRecDepth 20000 in
theorem ctX7_hasZero {g : GT} {ex : Bool} {sh : List Shp} (h : Hp) (p1 : Int32) (r0 : Bool) (hf : M_hasZero p1 = some r0) : Ct g mX7_hasZero 0 0 0 ex [.int p1] sh h (PE (some (.int (b2i r0))) sh h) := by
  refine Ct.of (L := [some (.int p1), none]) (by decide) (by intro w hw; simp only [List.mem_cons, List.not_mem_nil, or_false] at hw; rcases hw with rfl <;> rfl) (Nat.le_of_ble_eq_true rfl) rfl (fun X mx => ?_)
  have mx0 := mx
  obtain ⟨cx, hR, hml, hrt, -⟩ := mx0
  have cx : Cx g X RX7 cX7_hasZero := cx
  have hrt : X.2.2.2.2.2.2.2.1.sig.returnType = (some .boolean) := hrt
  have hi1 : 1 < X.2.2.2.2.2.2.2.2.maxLocals := by rw [hml]; exact Nat.le_of_ble_eq_true rfl
  unfold M_hasZero at hf
  refine PW.iload_n cx qX7_hasZero_0 rfl ?_
  refine PW.istore_n (L' := [some (.int p1), some (.int p1)]) cx qX7_hasZero_1 hi1 rfl rfl ?_
  obtain ⟨r1, er1, hf⟩ := bndO hf sne
  refine PW.locs (Lsub.drop (Lsub.keep Lsub.nil)) (lX7_hasZero_2 mx h FU p1 r1 er1 (fun e => ?_) (fun y e => ?_))
  · subst e
    refine PW.iconst (v := 0) cx qX7_hasZero_23 rfl ?_
    exact PW.zret cx hrt nb0 qX7_hasZero_24 (le_rz hf)
  · subst e
    exact (le_rz hf)
set_option maxRecDepth 20000 in
theorem ctX7_areColours {g : GT} {ex : Bool} {sh : List Shp} (h : Hp) (p1 : Int32) (r0 : Bool) (hf : M_areColours p1 = some r0) : Ct g mX7_areColours 1 0 0 ex [.int p1] sh h (PE (some (.int (b2i r0))) sh h) := by
  refine Ct.of (L := [some (.int p1)]) (by decide) (by intro w hw; simp only [List.mem_cons, List.not_mem_nil, or_false] at hw; rcases hw with rfl <;> rfl) (Nat.le_of_ble_eq_true rfl) rfl (fun X mx => ?_)
  obtain ⟨cx, hR, hml, hrt, -⟩ := mx
  have cx : Cx g X RX7 cX7_areColours := cx
  have hrt : X.2.2.2.2.2.2.2.1.sig.returnType = (some .boolean) := hrt
  unfold M_areColours at hf
  refine PW.iload_n cx qX7_areColours_0 rfl ?_
  refine PW.iconst (v := 1) cx qX7_areColours_1 rfl ?_
  refine PW.ldc (v := 99999999) cx qX7_areColours_2 kcX7_65 ?_
  refine PW.callSRB (As := [.int p1, .int 1, .int 99999999]) (st := []) cx hR qX7_areColours_4 klX7_57 miX7_in rfl rfl (Nat.le_of_ble_eq_true rfl) (Nat.le_of_ble_eq_true rfl) (Nat.le_of_ble_eq_true rfl) (Nat.zero_le _) (Nat.zero_le _) hf sne (fun t e => ctX7_in h p1 1 99999999 t e) (fun t1 hf => ?_)
  refine PW.if_eq cx qX7_areColours_7 hf (fun hf => ?_) (fun hf => ?_)
  · refine PW.iconst (v := 0) cx qX7_areColours_21 rfl ?_
    exact PW.zret cx hrt nb0 qX7_areColours_22 (le_rz hf)
  · refine PW.iload_n cx qX7_areColours_10 rfl ?_
    refine PW.callSRB (As := [.int p1]) (st := []) cx hR qX7_areColours_11 klX7_66 miX7_hasZero rfl rfl (Nat.le_of_ble_eq_true rfl) (Nat.le_of_ble_eq_true rfl) (Nat.le_of_ble_eq_true rfl) (Nat.zero_le _) (Nat.zero_le _) hf sne (fun t e => ctX7_hasZero h p1 t e) (fun t2 hf => ?_)
    refine PW.if_ne cx qX7_areColours_14 hf (fun hf => ?_) (fun hf => ?_)
    · refine PW.iconst (v := 1) cx qX7_areColours_17 rfl ?_
      refine PW.goto cx qX7_areColours_18 ?_
      exact PW.zret cx hrt nb1 qX7_areColours_22 (le_rz hf)
    · refine PW.iconst (v := 0) cx qX7_areColours_21 rfl ?_
      exact PW.zret cx hrt nb0 qX7_areColours_22 (le_rz hf)
set_option maxRecDepth 20000 in
theorem ctX7_isPattern {g : GT} {ex : Bool} {sh : List Shp} (h : Hp) (p1 : Int32) (r0 : Bool) (hf : M_isPattern p1 = some r0) : Ct g mX7_isPattern 1 0 0 ex [.int p1] sh h (PE (some (.int (b2i r0))) sh h) := by
  refine Ct.of (L := [some (.int p1)]) (by decide) (by intro w hw; simp only [List.mem_cons, List.not_mem_nil, or_false] at hw; rcases hw with rfl <;> rfl) (Nat.le_of_ble_eq_true rfl) rfl (fun X mx => ?_)
  obtain ⟨cx, hR, hml, hrt, -⟩ := mx
  have cx : Cx g X RX7 cX7_isPattern := cx
  have hrt : X.2.2.2.2.2.2.2.1.sig.returnType = (some .boolean) := hrt
  unfold M_isPattern at hf
  refine PW.iload_n cx qX7_isPattern_0 rfl ?_
  refine PW.iconst (v := 1) cx qX7_isPattern_1 rfl ?_
  refine PW.sipush (v := 9999) cx qX7_isPattern_2 rfl ?_
  refine PW.callSRB (As := [.int p1, .int 1, .int 9999]) (st := []) cx hR qX7_isPattern_5 klX7_57 miX7_in rfl rfl (Nat.le_of_ble_eq_true rfl) (Nat.le_of_ble_eq_true rfl) (Nat.le_of_ble_eq_true rfl) (Nat.zero_le _) (Nat.zero_le _) hf sne (fun t e => ctX7_in h p1 1 9999 t e) (fun t1 hf => ?_)
  exact PW.zret cx hrt (nbb _) qX7_isPattern_8 (le_rz hf)
set_option maxRecDepth 20000 in
theorem lX7_hashOf_4 {g : GT} {X : XT} {ex : Bool} {post : Option Value → List Shp → Hp → Prop} {sh : List Shp} (mx : Mx g X mX7_hashOf 2 0 0) (hx : MSh sh) (h : Hp) (c1 : Int32) : ∀ (n : Nat) (v2 : Int32) (v3 : Int32) (r : Int32) (hf : M_hashOf_L4 h c1 n v2 v3 = some r) (kx : ∀ (x2 : Int32), r = x2 → PW g X ex (QE g X ex post 0 0) 0 0 sh h 43 [some (.ref (gB g + 140)), some (.int c1), some (.int x2), none] []), PW g X ex (QE g X ex post 0 0) 0 0 sh h 4 [some (.ref (gB g + 140)), some (.int c1), some (.int v2), some (.int v3)] [] := by
  have mx0 := mx
  obtain ⟨cx, hR, hml, hrt, -⟩ := mx0
  have cx : Cx g X RX7 cX7_hashOf := cx
  have hrt : X.2.2.2.2.2.2.2.1.sig.returnType = (some .int) := hrt
  have hi2 : 2 < X.2.2.2.2.2.2.2.2.maxLocals := by rw [hml]; exact Nat.le_of_ble_eq_true rfl
  have hi3 : 3 < X.2.2.2.2.2.2.2.2.maxLocals := by rw [hml]; exact Nat.le_of_ble_eq_true rfl
  intro n
  induction n with
  | zero =>
    intro v2 v3 r hf kx
    cases hf
  | succ n ih =>
    intro v2 v3 r hf kx
    unfold M_hashOf_L4 at hf
    refine PW.iload_n cx qX7_hashOf_4 rfl ?_
    refine PW.aload_n cx qX7_hashOf_5 rfl ?_
    refine PW.iload_n cx qX7_hashOf_6 rfl ?_
    refine PW.iconst (v := 0) cx qX7_hashOf_7 rfl ?_
    refine PW.callVRI (As := [.int c1, .int 0]) (st := [.int v3]) cx hR qX7_hashOf_8 klX7_70 mvX7_of (sh_140 hx) rfl rfl rfl rfl (Nat.le_of_ble_eq_true rfl) (Nat.le_of_ble_eq_true rfl) (Nat.le_of_ble_eq_true rfl) (Nat.zero_le _) (Nat.zero_le _) hf sne (fun t e => ctX7_of hx h c1 0 t e) (fun t1 hf => ?_)
    refine PW.callSRI (As := [.int t1]) (st := [.int v3]) cx hR qX7_hashOf_11 klX7_61 miX7_digits rfl rfl (Nat.le_of_ble_eq_true rfl) (Nat.le_of_ble_eq_true rfl) (Nat.le_of_ble_eq_true rfl) (Nat.zero_le _) (Nat.zero_le _) hf sne (fun t e => ctX7_digits h t1 t e) (fun t2 hf => ?_)
    refine PW.icmp_ge cx qX7_hashOf_14 hf (fun hf => ?_) (fun hf => ?_)
    · exact PW.locs (Lsub.keep (Lsub.keep (Lsub.keep (Lsub.drop Lsub.nil)))) (kx v2 (Option.some.inj hf).symm)
    · refine PW.bipush (v := 31) cx qX7_hashOf_17 rfl ?_
      refine PW.iload_n cx qX7_hashOf_19 rfl ?_
      refine PW.imul cx qX7_hashOf_20 ?_
      refine PW.aload_n cx qX7_hashOf_21 rfl ?_
      refine PW.iload_n cx qX7_hashOf_22 rfl ?_
      refine PW.iconst (v := 0) cx qX7_hashOf_23 rfl ?_
      refine PW.callVRI (As := [.int c1, .int 0]) (st := [.int (31 * v2)]) cx hR qX7_hashOf_24 klX7_70 mvX7_of (sh_140 hx) rfl rfl rfl rfl (Nat.le_of_ble_eq_true rfl) (Nat.le_of_ble_eq_true rfl) (Nat.le_of_ble_eq_true rfl) (Nat.zero_le _) (Nat.zero_le _) hf sne (fun t e => ctX7_of hx h c1 0 t e) (fun t3 hf => ?_)
      refine PW.iload_n cx qX7_hashOf_27 rfl ?_
      refine PW.callSRI (As := [.int t3, .int v3]) (st := [.int (31 * v2)]) cx hR qX7_hashOf_28 klX7_74 miX7_digit rfl rfl (Nat.le_of_ble_eq_true rfl) (Nat.le_of_ble_eq_true rfl) (Nat.le_of_ble_eq_true rfl) (Nat.zero_le _) (Nat.zero_le _) hf sne (fun t e => ctX7_digit h t3 v3 t e) (fun t4 hf => ?_)
      refine PW.iadd cx qX7_hashOf_31 ?_
      refine PW.sipush (v := 997) cx qX7_hashOf_32 rfl ?_
      refine PW.iremK cx qX7_hashOf_35 (by decide) ?_
      refine PW.istore_n (L' := [some (.ref (gB g + 140)), some (.int c1), some (.int (((31 * v2) + t4) - ((31 * v2) + t4) / 997 * 997)), some (.int v3)]) cx qX7_hashOf_36 hi2 rfl rfl ?_
      refine PW.iinc (v := 1) (L' := [some (.ref (gB g + 140)), some (.int c1), some (.int (((31 * v2) + t4) - ((31 * v2) + t4) / 997 * 997)), some (.int (v3 + 1))]) cx qX7_hashOf_37 rfl rfl hi3 rfl rfl ?_
      refine PW.goto cx qX7_hashOf_40 ?_
      exact PW.locs (Lsub.keep (Lsub.keep (Lsub.keep (Lsub.keep Lsub.nil)))) (ih (((31 * v2) + t4) - ((31 * v2) + t4) / 997 * 997) (v3 + 1) _ hf kx)
set_option maxRecDepth 20000 in
theorem ctX7_hashOf {g : GT} {ex : Bool} {sh : List Shp} (hx : MSh sh) (h : Hp) (p1 : Int32) (r0 : Int32) (hf : M_hashOf h p1 = some r0) : Ct g mX7_hashOf 2 0 0 ex [.ref (gB g + 140), .int p1] sh h (PE (some (.int r0)) sh h) := by
  refine Ct.of (L := [some (.ref (gB g + 140)), some (.int p1), none, none]) (by decide) (by intro w hw; simp only [List.mem_cons, List.not_mem_nil, or_false] at hw; rcases hw with rfl | rfl <;> rfl) (Nat.le_of_ble_eq_true rfl) rfl (fun X mx => ?_)
  have mx0 := mx
  obtain ⟨cx, hR, hml, hrt, -⟩ := mx0
  have cx : Cx g X RX7 cX7_hashOf := cx
  have hrt : X.2.2.2.2.2.2.2.1.sig.returnType = (some .int) := hrt
  have hi2 : 2 < X.2.2.2.2.2.2.2.2.maxLocals := by rw [hml]; exact Nat.le_of_ble_eq_true rfl
  have hi3 : 3 < X.2.2.2.2.2.2.2.2.maxLocals := by rw [hml]; exact Nat.le_of_ble_eq_true rfl
  unfold M_hashOf at hf
  refine PW.iconst (v := 0) cx qX7_hashOf_0 rfl ?_
  refine PW.istore_n (L' := [some (.ref (gB g + 140)), some (.int p1), some (.int 0), none]) cx qX7_hashOf_1 hi2 rfl rfl ?_
  refine PW.iconst (v := 0) cx qX7_hashOf_2 rfl ?_
  refine PW.istore_n (L' := [some (.ref (gB g + 140)), some (.int p1), some (.int 0), some (.int 0)]) cx qX7_hashOf_3 hi3 rfl rfl ?_
  obtain ⟨r5, er5, hf⟩ := bndO hf sne
  refine PW.locs (Lsub.keep (Lsub.keep (Lsub.keep (Lsub.keep Lsub.nil)))) (lX7_hashOf_4 mx hx h p1 FU 0 0 r5 er5 (fun xx_ e => ?_))
  subst e
  refine PW.iload_n cx qX7_hashOf_43 rfl ?_
  exact PW.iret cx hrt qX7_hashOf_44 (le_ri hf)
set_option maxRecDepth 20000 in
theorem lX7_fitsAt_2 {g : GT} {X : XT} {ex : Bool} {post : Option Value → List Shp → Hp → Prop} {sh : List Shp} (mx : Mx g X mX7_fitsAt 2 0 0) (h : Hp) (c0 : Int32) (c1 : Int32) (c2 : Int32) : ∀ (n : Nat) (v3 : Int32) (r : (Unit) ⊕ (Bool)) (hf : M_fitsAt_L2 c0 c1 c2 n v3 = some r) (kx : r = .inl () → PW g X ex (QE g X ex post 0 0) 0 0 sh h 42 [some (.int c0), some (.int c1), some (.int c2), none, none] []) (kr : ∀ y : Bool, r = .inr y → post (some (.int (b2i y))) sh h), PW g X ex (QE g X ex post 0 0) 0 0 sh h 2 [some (.int c0), some (.int c1), some (.int c2), some (.int v3), none] [] := by
  have mx0 := mx
  obtain ⟨cx, hR, hml, hrt, -⟩ := mx0
  have cx : Cx g X RX7 cX7_fitsAt := cx
  have hrt : X.2.2.2.2.2.2.2.1.sig.returnType = (some .boolean) := hrt
  have hi3 : 3 < X.2.2.2.2.2.2.2.2.maxLocals := by rw [hml]; exact Nat.le_of_ble_eq_true rfl
  have hi4 : 4 < X.2.2.2.2.2.2.2.2.maxLocals := by rw [hml]; exact Nat.le_of_ble_eq_true rfl
  intro n
  induction n with
  | zero =>
    intro v3 r hf kx kr
    cases hf
  | succ n ih =>
    intro v3 r hf kx kr
    unfold M_fitsAt_L2 at hf
    refine PW.iload_n cx qX7_fitsAt_2 rfl ?_
    refine PW.iload_n cx qX7_fitsAt_3 rfl ?_
    refine PW.callSRI (As := [.int c1]) (st := [.int v3]) cx hR qX7_fitsAt_4 klX7_61 miX7_digits rfl rfl (Nat.le_of_ble_eq_true rfl) (Nat.le_of_ble_eq_true rfl) (Nat.le_of_ble_eq_true rfl) (Nat.zero_le _) (Nat.zero_le _) hf sne (fun t e => ctX7_digits h c1 t e) (fun t1 hf => ?_)
    refine PW.icmp_ge cx qX7_fitsAt_7 hf (fun hf => ?_) (fun hf => ?_)
    · exact PW.locs (Lsub.keep (Lsub.keep (Lsub.keep (Lsub.drop (Lsub.drop Lsub.nil))))) (kx (Option.some.inj hf).symm)
    · refine PW.iload_n cx qX7_fitsAt_10 rfl ?_
      refine PW.iload_n cx qX7_fitsAt_11 rfl ?_
      refine PW.callSRI (As := [.int c1, .int v3]) (st := []) cx hR qX7_fitsAt_12 klX7_74 miX7_digit rfl rfl (Nat.le_of_ble_eq_true rfl) (Nat.le_of_ble_eq_true rfl) (Nat.le_of_ble_eq_true rfl) (Nat.zero_le _) (Nat.zero_le _) hf sne (fun t e => ctX7_digit h c1 v3 t e) (fun t2 hf => ?_)
      refine PW.istore (L' := [some (.int c0), some (.int c1), some (.int c2), some (.int v3), some (.int t2)]) cx qX7_fitsAt_15 hi4 rfl rfl ?_
      refine PW.iload cx qX7_fitsAt_17 rfl ?_
      refine PW.if_eq cx qX7_fitsAt_19 hf (fun hf => ?_) (fun hf => ?_)
      · refine PW.iinc (v := 1) (L' := [some (.int c0), some (.int c1), some (.int c2), some (.int (v3 + 1)), some (.int t2)]) cx qX7_fitsAt_36 rfl rfl hi3 rfl rfl ?_
        refine PW.goto cx qX7_fitsAt_39 ?_
        exact PW.locs (Lsub.keep (Lsub.keep (Lsub.keep (Lsub.keep (Lsub.drop Lsub.nil))))) (ih (v3 + 1) _ hf kx kr)
      · refine PW.iload cx qX7_fitsAt_22 rfl ?_
        refine PW.iload_n cx qX7_fitsAt_24 rfl ?_
        refine PW.iload_n cx qX7_fitsAt_25 rfl ?_
        refine PW.iload_n cx qX7_fitsAt_26 rfl ?_
        refine PW.iadd cx qX7_fitsAt_27 ?_
        refine PW.callSRI (As := [.int c0, .int (c2 + v3)]) (st := [.int t2]) cx hR qX7_fitsAt_28 klX7_74 miX7_digit rfl rfl (Nat.le_of_ble_eq_true rfl) (Nat.le_of_ble_eq_true rfl) (Nat.le_of_ble_eq_true rfl) (Nat.zero_le _) (Nat.zero_le _) hf sne (fun t e => ctX7_digit h c0 (c2 + v3) t e) (fun t3 hf => ?_)
        refine PW.icmp_eq cx qX7_fitsAt_31 hf (fun hf => ?_) (fun hf => ?_)
        · refine PW.iinc (v := 1) (L' := [some (.int c0), some (.int c1), some (.int c2), some (.int (v3 + 1)), some (.int t2)]) cx qX7_fitsAt_36 rfl rfl hi3 rfl rfl ?_
          refine PW.goto cx qX7_fitsAt_39 ?_
          exact PW.locs (Lsub.keep (Lsub.keep (Lsub.keep (Lsub.keep (Lsub.drop Lsub.nil))))) (ih (v3 + 1) _ hf kx kr)
        · refine PW.iconst (v := 0) cx qX7_fitsAt_34 rfl ?_
          exact PW.zret cx hrt nb0 qX7_fitsAt_35 (kr _ (Option.some.inj hf).symm)
set_option maxRecDepth 20000 in
theorem ctX7_fitsAt {g : GT} {ex : Bool} {sh : List Shp} (h : Hp) (p1 : Int32) (p2 : Int32) (p3 : Int32) (r0 : Bool) (hf : M_fitsAt p1 p2 p3 = some r0) : Ct g mX7_fitsAt 2 0 0 ex [.int p1, .int p2, .int p3] sh h (PE (some (.int (b2i r0))) sh h) := by
  refine Ct.of (L := [some (.int p1), some (.int p2), some (.int p3), none, none]) (by decide) (by intro w hw; simp only [List.mem_cons, List.not_mem_nil, or_false] at hw; rcases hw with rfl | rfl | rfl <;> rfl) (Nat.le_of_ble_eq_true rfl) rfl (fun X mx => ?_)
  have mx0 := mx
  obtain ⟨cx, hR, hml, hrt, -⟩ := mx0
  have cx : Cx g X RX7 cX7_fitsAt := cx
  have hrt : X.2.2.2.2.2.2.2.1.sig.returnType = (some .boolean) := hrt
  have hi3 : 3 < X.2.2.2.2.2.2.2.2.maxLocals := by rw [hml]; exact Nat.le_of_ble_eq_true rfl
  have hi4 : 4 < X.2.2.2.2.2.2.2.2.maxLocals := by rw [hml]; exact Nat.le_of_ble_eq_true rfl
  unfold M_fitsAt at hf
  refine PW.iconst (v := 0) cx qX7_fitsAt_0 rfl ?_
  refine PW.istore_n (L' := [some (.int p1), some (.int p2), some (.int p3), some (.int 0), none]) cx qX7_fitsAt_1 hi3 rfl rfl ?_
  obtain ⟨r4, er4, hf⟩ := bndO hf sne
  refine PW.locs (Lsub.keep (Lsub.keep (Lsub.keep (Lsub.keep (Lsub.drop Lsub.nil))))) (lX7_fitsAt_2 mx h p1 p2 p3 FU 0 r4 er4 (fun e => ?_) (fun y e => ?_))
  · subst e
    refine PW.iconst (v := 1) cx qX7_fitsAt_42 rfl ?_
    exact PW.zret cx hrt nb1 qX7_fitsAt_43 (le_rz hf)
  · subst e
    exact (le_rz hf)
set_option maxRecDepth 20000 in
theorem lX7_matchOf_10 {g : GT} {X : XT} {ex : Bool} {post : Option Value → List Shp → Hp → Prop} {sh : List Shp} (mx : Mx g X mX7_matchOf 3 0 0) (hx : MSh sh) (h : Hp) (c2 : Int32) (c3 : Int32) : ∀ (n : Nat) (v4 : Int32) (r : (Unit) ⊕ (Int32)) (hf : M_matchOf_L10 c2 c3 n v4 = some r) (kx : r = .inl () → PW g X ex (QE g X ex post 0 0) 0 0 sh h 43 [none, none, some (.int c2), some (.int c3), none] []) (kr : ∀ y : Int32, r = .inr y → post (some (.int y)) sh h), PW g X ex (QE g X ex post 0 0) 0 0 sh h 10 [none, none, some (.int c2), some (.int c3), some (.int v4)] [] := by
  have mx0 := mx
  obtain ⟨cx, hR, hml, hrt, -⟩ := mx0
  have cx : Cx g X RX7 cX7_matchOf := cx
  have hrt : X.2.2.2.2.2.2.2.1.sig.returnType = (some .int) := hrt
  have hi3 : 3 < X.2.2.2.2.2.2.2.2.maxLocals := by rw [hml]; exact Nat.le_of_ble_eq_true rfl
  have hi4 : 4 < X.2.2.2.2.2.2.2.2.maxLocals := by rw [hml]; exact Nat.le_of_ble_eq_true rfl
  intro n
  induction n with
  | zero =>
    intro v4 r hf kx kr
    cases hf
  | succ n ih =>
    intro v4 r hf kx kr
    unfold M_matchOf_L10 at hf
    refine PW.iload cx qX7_matchOf_10 rfl ?_
    refine PW.iload_n cx qX7_matchOf_12 rfl ?_
    refine PW.callSRI (As := [.int c2]) (st := [.int v4]) cx hR qX7_matchOf_13 klX7_61 miX7_digits rfl rfl (Nat.le_of_ble_eq_true rfl) (Nat.le_of_ble_eq_true rfl) (Nat.le_of_ble_eq_true rfl) (Nat.zero_le _) (Nat.zero_le _) hf sne (fun t e => ctX7_digits h c2 t e) (fun t2 hf => ?_)
    refine PW.iadd cx qX7_matchOf_16 ?_
    refine PW.iload_n cx qX7_matchOf_17 rfl ?_
    refine PW.callSRI (As := [.int c3]) (st := [.int (v4 + t2)]) cx hR qX7_matchOf_18 klX7_61 miX7_digits rfl rfl (Nat.le_of_ble_eq_true rfl) (Nat.le_of_ble_eq_true rfl) (Nat.le_of_ble_eq_true rfl) (Nat.zero_le _) (Nat.zero_le _) hf sne (fun t e => ctX7_digits h c3 t e) (fun t3 hf => ?_)
    refine PW.icmp_gt cx qX7_matchOf_21 hf (fun hf => ?_) (fun hf => ?_)
    · exact PW.locs (Lsub.drop (Lsub.drop (Lsub.keep (Lsub.keep (Lsub.drop Lsub.nil))))) (kx (Option.some.inj hf).symm)
    · refine PW.iload_n cx qX7_matchOf_24 rfl ?_
      refine PW.iload_n cx qX7_matchOf_25 rfl ?_
      refine PW.iload cx qX7_matchOf_26 rfl ?_
      refine PW.callSRB (As := [.int c3, .int c2, .int v4]) (st := []) cx hR qX7_matchOf_28 klX7_77 miX7_fitsAt rfl rfl (Nat.le_of_ble_eq_true rfl) (Nat.le_of_ble_eq_true rfl) (Nat.le_of_ble_eq_true rfl) (Nat.zero_le _) (Nat.zero_le _) hf sne (fun t e => ctX7_fitsAt h c3 c2 v4 t e) (fun t4 hf => ?_)
      refine PW.if_eq cx qX7_matchOf_31 hf (fun hf => ?_) (fun hf => ?_)
      · refine PW.iinc (v := 1) (L' := [none, none, some (.int c2), some (.int c3), some (.int (v4 + 1))]) cx qX7_matchOf_37 rfl rfl hi4 rfl rfl ?_
        refine PW.goto cx qX7_matchOf_40 ?_
        exact PW.locs (Lsub.drop (Lsub.drop (Lsub.keep (Lsub.keep (Lsub.keep Lsub.nil))))) (ih (v4 + 1) _ hf kx kr)
      · refine PW.iload cx qX7_matchOf_34 rfl ?_
        exact PW.iret cx hrt qX7_matchOf_36 (kr _ (Option.some.inj hf).symm)
set_option maxRecDepth 20000 in
theorem ctX7_matchOf {g : GT} {ex : Bool} {sh : List Shp} (hx : MSh sh) (h : Hp) (p1 : Int32) (p2 : Int32) (r0 : Int32) (hf : M_matchOf h p1 p2 = some r0) : Ct g mX7_matchOf 3 0 0 ex [.ref (gB g + 140), .int p1, .int p2] sh h (PE (some (.int r0)) sh h) := by
  refine Ct.of (L := [some (.ref (gB g + 140)), some (.int p1), some (.int p2), none, none]) (by decide) (by intro w hw; simp only [List.mem_cons, List.not_mem_nil, or_false] at hw; rcases hw with rfl | rfl | rfl <;> rfl) (Nat.le_of_ble_eq_true rfl) rfl (fun X mx => ?_)
  have mx0 := mx
  obtain ⟨cx, hR, hml, hrt, -⟩ := mx0
  have cx : Cx g X RX7 cX7_matchOf := cx
  have hrt : X.2.2.2.2.2.2.2.1.sig.returnType = (some .int) := hrt
  have hi3 : 3 < X.2.2.2.2.2.2.2.2.maxLocals := by rw [hml]; exact Nat.le_of_ble_eq_true rfl
  have hi4 : 4 < X.2.2.2.2.2.2.2.2.maxLocals := by rw [hml]; exact Nat.le_of_ble_eq_true rfl
  unfold M_matchOf at hf
  refine PW.aload_n cx qX7_matchOf_0 rfl ?_
  refine PW.iload_n cx qX7_matchOf_1 rfl ?_
  refine PW.iconst (v := 0) cx qX7_matchOf_2 rfl ?_
  refine PW.callVRI (As := [.int p1, .int 0]) (st := []) cx hR qX7_matchOf_3 klX7_70 mvX7_of (sh_140 hx) rfl rfl rfl rfl (Nat.le_of_ble_eq_true rfl) (Nat.le_of_ble_eq_true rfl) (Nat.le_of_ble_eq_true rfl) (Nat.zero_le _) (Nat.zero_le _) hf sne (fun t e => ctX7_of hx h p1 0 t e) (fun t1 hf => ?_)
  refine PW.istore_n (L' := [some (.ref (gB g + 140)), some (.int p1), some (.int p2), some (.int t1), none]) cx qX7_matchOf_6 hi3 rfl rfl ?_
  refine PW.iconst (v := 0) cx qX7_matchOf_7 rfl ?_
  refine PW.istore (L' := [some (.ref (gB g + 140)), some (.int p1), some (.int p2), some (.int t1), some (.int 0)]) cx qX7_matchOf_8 hi4 rfl rfl ?_
  obtain ⟨r5, er5, hf⟩ := bndO hf sne
  refine PW.locs (Lsub.drop (Lsub.drop (Lsub.keep (Lsub.keep (Lsub.keep Lsub.nil))))) (lX7_matchOf_10 mx hx h p2 t1 FU 0 r5 er5 (fun e => ?_) (fun y e => ?_))
  · subst e
    refine PW.iconst (v := (-1)) cx qX7_matchOf_43 rfl ?_
    exact PW.iret cx hrt qX7_matchOf_44 (le_ri hf)
  · subst e
    exact (le_ri hf)
set_option maxRecDepth 20000 in
theorem lX7_runFrom_19 {g : GT} {X : XT} {ex : Bool} {post : Option Value → List Shp → Hp → Prop} {sh : List Shp} (mx : Mx g X mX7_runFrom 2 0 0) (hx : MSh sh) (h : Hp) (c3 : Int32) (c4 : Int32) (c5 : Int32) (c6 : Int32) : ∀ (n : Nat) (v7 : Int32) (r : Int32) (hf : M_runFrom_L19 c3 c4 c5 c6 n v7 = some r) (kx : ∀ (x7 : Int32), r = x7 → PW g X ex (QE g X ex post 0 0) 0 0 sh h 72 [none, none, none, some (.int c3), some (.int c4), some (.int c5), some (.int c6), some (.int x7)] []), PW g X ex (QE g X ex post 0 0) 0 0 sh h 19 [none, none, none, some (.int c3), some (.int c4), some (.int c5), some (.int c6), some (.int v7)] [] := by
  have mx0 := mx
  obtain ⟨cx, hR, hml, hrt, -⟩ := mx0
  have cx : Cx g X RX7 cX7_runFrom := cx
  have hrt : X.2.2.2.2.2.2.2.1.sig.returnType = (some .int) := hrt
  have hi5 : 5 < X.2.2.2.2.2.2.2.2.maxLocals := by rw [hml]; exact Nat.le_of_ble_eq_true rfl
  have hi6 : 6 < X.2.2.2.2.2.2.2.2.maxLocals := by rw [hml]; exact Nat.le_of_ble_eq_true rfl
  have hi7 : 7 < X.2.2.2.2.2.2.2.2.maxLocals := by rw [hml]; exact Nat.le_of_ble_eq_true rfl
  intro n
  induction n with
  | zero =>
    intro v7 r hf kx
    cases hf
  | succ n ih =>
    intro v7 r hf kx
    unfold M_runFrom_L19 at hf
    refine PW.iload_n cx qX7_runFrom_19 rfl ?_
    refine PW.iload cx qX7_runFrom_20 rfl ?_
    refine PW.iadd cx qX7_runFrom_22 ?_
    refine PW.iload cx qX7_runFrom_23 rfl ?_
    refine PW.callSRI (As := [.int c5]) (st := [.int (c3 + v7)]) cx hR qX7_runFrom_25 klX7_61 miX7_digits rfl rfl (Nat.le_of_ble_eq_true rfl) (Nat.le_of_ble_eq_true rfl) (Nat.le_of_ble_eq_true rfl) (Nat.zero_le _) (Nat.zero_le _) hf sne (fun t e => ctX7_digits h c5 t e) (fun t3 hf => ?_)
    refine PW.icmp_ge cx qX7_runFrom_28 hf (fun hf => ?_) (fun hf => ?_)
    · exact PW.locs (Lsub.drop (Lsub.drop (Lsub.drop (Lsub.keep (Lsub.keep (Lsub.keep (Lsub.keep (Lsub.keep Lsub.nil)))))))) (kx v7 (Option.some.inj hf).symm)
    · refine PW.iload cx qX7_runFrom_31 rfl ?_
      refine PW.iload cx qX7_runFrom_33 rfl ?_
      refine PW.iadd cx qX7_runFrom_35 ?_
      refine PW.iload cx qX7_runFrom_36 rfl ?_
      refine PW.callSRI (As := [.int c6]) (st := [.int (c4 + v7)]) cx hR qX7_runFrom_38 klX7_61 miX7_digits rfl rfl (Nat.le_of_ble_eq_true rfl) (Nat.le_of_ble_eq_true rfl) (Nat.le_of_ble_eq_true rfl) (Nat.zero_le _) (Nat.zero_le _) hf sne (fun t e => ctX7_digits h c6 t e) (fun t4 hf => ?_)
      refine PW.icmp_ge cx qX7_runFrom_41 hf (fun hf => ?_) (fun hf => ?_)
      · exact PW.locs (Lsub.drop (Lsub.drop (Lsub.drop (Lsub.keep (Lsub.keep (Lsub.keep (Lsub.keep (Lsub.keep Lsub.nil)))))))) (kx v7 (Option.some.inj hf).symm)
      · refine PW.iload cx qX7_runFrom_44 rfl ?_
        refine PW.iload_n cx qX7_runFrom_46 rfl ?_
        refine PW.iload cx qX7_runFrom_47 rfl ?_
        refine PW.iadd cx qX7_runFrom_49 ?_
        refine PW.callSRI (As := [.int c5, .int (c3 + v7)]) (st := []) cx hR qX7_runFrom_50 klX7_74 miX7_digit rfl rfl (Nat.le_of_ble_eq_true rfl) (Nat.le_of_ble_eq_true rfl) (Nat.le_of_ble_eq_true rfl) (Nat.zero_le _) (Nat.zero_le _) hf sne (fun t e => ctX7_digit h c5 (c3 + v7) t e) (fun t5 hf => ?_)
        refine PW.iload cx qX7_runFrom_53 rfl ?_
        refine PW.iload cx qX7_runFrom_55 rfl ?_
        refine PW.iload cx qX7_runFrom_57 rfl ?_
        refine PW.iadd cx qX7_runFrom_59 ?_
        refine PW.callSRI (As := [.int c6, .int (c4 + v7)]) (st := [.int t5]) cx hR qX7_runFrom_60 klX7_74 miX7_digit rfl rfl (Nat.le_of_ble_eq_true rfl) (Nat.le_of_ble_eq_true rfl) (Nat.le_of_ble_eq_true rfl) (Nat.zero_le _) (Nat.zero_le _) hf sne (fun t e => ctX7_digit h c6 (c4 + v7) t e) (fun t6 hf => ?_)
        refine PW.icmp_ne cx qX7_runFrom_63 hf (fun hf => ?_) (fun hf => ?_)
        · refine PW.iinc (v := 1) (L' := [none, none, none, some (.int c3), some (.int c4), some (.int c5), some (.int c6), some (.int (v7 + 1))]) cx qX7_runFrom_66 rfl rfl hi7 rfl rfl ?_
          refine PW.goto cx qX7_runFrom_69 ?_
          exact PW.locs (Lsub.drop (Lsub.drop (Lsub.drop (Lsub.keep (Lsub.keep (Lsub.keep (Lsub.keep (Lsub.keep Lsub.nil)))))))) (ih (v7 + 1) _ hf kx)
        · exact PW.locs (Lsub.drop (Lsub.drop (Lsub.drop (Lsub.keep (Lsub.keep (Lsub.keep (Lsub.keep (Lsub.keep Lsub.nil)))))))) (kx v7 (Option.some.inj hf).symm)
set_option maxRecDepth 20000 in
theorem ctX7_runFrom {g : GT} {ex : Bool} {sh : List Shp} (hx : MSh sh) (h : Hp) (p1 : Int32) (p2 : Int32) (p3 : Int32) (p4 : Int32) (r0 : Int32) (hf : M_runFrom h p1 p2 p3 p4 = some r0) : Ct g mX7_runFrom 2 0 0 ex [.ref (gB g + 140), .int p1, .int p2, .int p3, .int p4] sh h (PE (some (.int r0)) sh h) := by
  refine Ct.of (L := [some (.ref (gB g + 140)), some (.int p1), some (.int p2), some (.int p3), some (.int p4), none, none, none]) (by decide) (by intro w hw; simp only [List.mem_cons, List.not_mem_nil, or_false] at hw; rcases hw with rfl | rfl | rfl | rfl | rfl <;> rfl) (Nat.le_of_ble_eq_true rfl) rfl (fun X mx => ?_)
  have mx0 := mx
  obtain ⟨cx, hR, hml, hrt, -⟩ := mx0
  have cx : Cx g X RX7 cX7_runFrom := cx
  have hrt : X.2.2.2.2.2.2.2.1.sig.returnType = (some .int) := hrt
  have hi5 : 5 < X.2.2.2.2.2.2.2.2.maxLocals := by rw [hml]; exact Nat.le_of_ble_eq_true rfl
  have hi6 : 6 < X.2.2.2.2.2.2.2.2.maxLocals := by rw [hml]; exact Nat.le_of_ble_eq_true rfl
  have hi7 : 7 < X.2.2.2.2.2.2.2.2.maxLocals := by rw [hml]; exact Nat.le_of_ble_eq_true rfl
  unfold M_runFrom at hf
  refine PW.aload_n cx qX7_runFrom_0 rfl ?_
  refine PW.iload_n cx qX7_runFrom_1 rfl ?_
  refine PW.iconst (v := 0) cx qX7_runFrom_2 rfl ?_
  refine PW.callVRI (As := [.int p1, .int 0]) (st := []) cx hR qX7_runFrom_3 klX7_70 mvX7_of (sh_140 hx) rfl rfl rfl rfl (Nat.le_of_ble_eq_true rfl) (Nat.le_of_ble_eq_true rfl) (Nat.le_of_ble_eq_true rfl) (Nat.zero_le _) (Nat.zero_le _) hf sne (fun t e => ctX7_of hx h p1 0 t e) (fun t1 hf => ?_)
  refine PW.istore (L' := [some (.ref (gB g + 140)), some (.int p1), some (.int p2), some (.int p3), some (.int p4), some (.int t1), none, none]) cx qX7_runFrom_6 hi5 rfl rfl ?_
  refine PW.aload_n cx qX7_runFrom_8 rfl ?_
  refine PW.iload_n cx qX7_runFrom_9 rfl ?_
  refine PW.iconst (v := 0) cx qX7_runFrom_10 rfl ?_
  refine PW.callVRI (As := [.int p2, .int 0]) (st := []) cx hR qX7_runFrom_11 klX7_70 mvX7_of (sh_140 hx) rfl rfl rfl rfl (Nat.le_of_ble_eq_true rfl) (Nat.le_of_ble_eq_true rfl) (Nat.le_of_ble_eq_true rfl) (Nat.zero_le _) (Nat.zero_le _) hf sne (fun t e => ctX7_of hx h p2 0 t e) (fun t2 hf => ?_)
  refine PW.istore (L' := [some (.ref (gB g + 140)), some (.int p1), some (.int p2), some (.int p3), some (.int p4), some (.int t1), some (.int t2), none]) cx qX7_runFrom_14 hi6 rfl rfl ?_
  refine PW.iconst (v := 0) cx qX7_runFrom_16 rfl ?_
  refine PW.istore (L' := [some (.ref (gB g + 140)), some (.int p1), some (.int p2), some (.int p3), some (.int p4), some (.int t1), some (.int t2), some (.int 0)]) cx qX7_runFrom_17 hi7 rfl rfl ?_
  obtain ⟨r7, er7, hf⟩ := bndO hf sne
  refine PW.locs (Lsub.drop (Lsub.drop (Lsub.drop (Lsub.keep (Lsub.keep (Lsub.keep (Lsub.keep (Lsub.keep Lsub.nil)))))))) (lX7_runFrom_19 mx hx h p3 p4 t1 t2 FU 0 r7 er7 (fun xx_ e => ?_))
  subst e
  refine PW.iload cx qX7_runFrom_72 rfl ?_
  exact PW.iret cx hrt qX7_runFrom_74 (le_ri hf)
set_option maxRecDepth 20000 in
theorem lX7_run_22 {g : GT} {X : XT} {ex : Bool} {post : Option Value → List Shp → Hp → Prop} {sh : List Shp} (mx : Mx g X mX7_run 3 0 0) (hx : MSh sh) (h : Hp) (c1 : Int32) (c2 : Int32) (c4 : Int32) : ∀ (n : Nat) (v3 : Int32) (v5 : Int32) (r : Int32) (hf : M_run_L22 h c1 c2 c4 n v3 v5 = some r) (kx : ∀ (x3 : Int32), r = x3 → PW g X ex (QE g X ex post 0 0) 0 0 sh h 57 [some (.ref (gB g + 140)), some (.int c1), some (.int c2), some (.int x3), some (.int c4), none] []), PW g X ex (QE g X ex post 0 0) 0 0 sh h 22 [some (.ref (gB g + 140)), some (.int c1), some (.int c2), some (.int v3), some (.int c4), some (.int v5)] [] := by
  have mx0 := mx
  obtain ⟨cx, hR, hml, hrt, -⟩ := mx0
  have cx : Cx g X RX7 cX7_run := cx
  have hrt : X.2.2.2.2.2.2.2.1.sig.returnType = (some .int) := hrt
  have hi3 : 3 < X.2.2.2.2.2.2.2.2.maxLocals := by rw [hml]; exact Nat.le_of_ble_eq_true rfl
  have hi4 : 4 < X.2.2.2.2.2.2.2.2.maxLocals := by rw [hml]; exact Nat.le_of_ble_eq_true rfl
  have hi5 : 5 < X.2.2.2.2.2.2.2.2.maxLocals := by rw [hml]; exact Nat.le_of_ble_eq_true rfl
  intro n
  induction n with
  | zero =>
    intro v3 v5 r hf kx
    cases hf
  | succ n ih =>
    intro v3 v5 r hf kx
    unfold M_run_L22 at hf
    refine PW.iload cx qX7_run_22 rfl ?_
    refine PW.aload_n cx qX7_run_24 rfl ?_
    refine PW.iload_n cx qX7_run_25 rfl ?_
    refine PW.iconst (v := 0) cx qX7_run_26 rfl ?_
    refine PW.callVRI (As := [.int c2, .int 0]) (st := [.int v5]) cx hR qX7_run_27 klX7_70 mvX7_of (sh_140 hx) rfl rfl rfl rfl (Nat.le_of_ble_eq_true rfl) (Nat.le_of_ble_eq_true rfl) (Nat.le_of_ble_eq_true rfl) (Nat.zero_le _) (Nat.zero_le _) hf sne (fun t e => ctX7_of hx h c2 0 t e) (fun t3 hf => ?_)
    refine PW.callSRI (As := [.int t3]) (st := [.int v5]) cx hR qX7_run_30 klX7_61 miX7_digits rfl rfl (Nat.le_of_ble_eq_true rfl) (Nat.le_of_ble_eq_true rfl) (Nat.le_of_ble_eq_true rfl) (Nat.zero_le _) (Nat.zero_le _) hf sne (fun t e => ctX7_digits h t3 t e) (fun t4 hf => ?_)
    refine PW.icmp_ge cx qX7_run_33 hf (fun hf => ?_) (fun hf => ?_)
    · exact PW.locs (Lsub.keep (Lsub.keep (Lsub.keep (Lsub.keep (Lsub.keep (Lsub.drop Lsub.nil)))))) (kx v3 (Option.some.inj hf).symm)
    · refine PW.iload_n cx qX7_run_36 rfl ?_
      refine PW.aload_n cx qX7_run_37 rfl ?_
      refine PW.iload_n cx qX7_run_38 rfl ?_
      refine PW.iload_n cx qX7_run_39 rfl ?_
      refine PW.iload cx qX7_run_40 rfl ?_
      refine PW.iload cx qX7_run_42 rfl ?_
      refine PW.callVRI (As := [.int c1, .int c2, .int c4, .int v5]) (st := [.int v3]) cx hR qX7_run_44 klX7_80 mvX7_runFrom (sh_140 hx) rfl rfl rfl rfl (Nat.le_of_ble_eq_true rfl) (Nat.le_of_ble_eq_true rfl) (Nat.le_of_ble_eq_true rfl) (Nat.zero_le _) (Nat.zero_le _) hf sne (fun t e => ctX7_runFrom hx h c1 c2 c4 v5 t e) (fun t5 hf => ?_)
      refine PW.mmax cx hR qX7_run_47 klX7_84 (Nat.le_of_ble_eq_true rfl) (Nat.le_of_ble_eq_true rfl) (Nat.zero_le _) (Nat.zero_le _) ?_
      refine PW.istore_n (L' := [some (.ref (gB g + 140)), some (.int c1), some (.int c2), some (.int (mxI v3 t5)), some (.int c4), some (.int v5)]) cx qX7_run_50 hi3 rfl rfl ?_
      refine PW.iinc (v := 1) (L' := [some (.ref (gB g + 140)), some (.int c1), some (.int c2), some (.int (mxI v3 t5)), some (.int c4), some (.int (v5 + 1))]) cx qX7_run_51 rfl rfl hi5 rfl rfl ?_
      refine PW.goto cx qX7_run_54 ?_
      exact PW.locs (Lsub.keep (Lsub.keep (Lsub.keep (Lsub.keep (Lsub.keep (Lsub.keep Lsub.nil)))))) (ih (mxI v3 t5) (v5 + 1) _ hf kx)
set_option maxRecDepth 20000 in
theorem lX7_run_5 {g : GT} {X : XT} {ex : Bool} {post : Option Value → List Shp → Hp → Prop} {sh : List Shp} (mx : Mx g X mX7_run 3 0 0) (hx : MSh sh) (h : Hp) (c1 : Int32) (c2 : Int32) : ∀ (n : Nat) (v3 : Int32) (v4 : Int32) (r : Int32) (hf : M_run_L5 h c1 c2 n v3 v4 = some r) (kx : ∀ (x3 : Int32), r = x3 → PW g X ex (QE g X ex post 0 0) 0 0 sh h 63 [some (.ref (gB g + 140)), some (.int c1), some (.int c2), some (.int x3), none, none] []), PW g X ex (QE g X ex post 0 0) 0 0 sh h 5 [some (.ref (gB g + 140)), some (.int c1), some (.int c2), some (.int v3), some (.int v4), none] [] := by
  have mx0 := mx
  obtain ⟨cx, hR, hml, hrt, -⟩ := mx0
  have cx : Cx g X RX7 cX7_run := cx
  have hrt : X.2.2.2.2.2.2.2.1.sig.returnType = (some .int) := hrt
  have hi3 : 3 < X.2.2.2.2.2.2.2.2.maxLocals := by rw [hml]; exact Nat.le_of_ble_eq_true rfl
  have hi4 : 4 < X.2.2.2.2.2.2.2.2.maxLocals := by rw [hml]; exact Nat.le_of_ble_eq_true rfl
  have hi5 : 5 < X.2.2.2.2.2.2.2.2.maxLocals := by rw [hml]; exact Nat.le_of_ble_eq_true rfl
  intro n
  induction n with
  | zero =>
    intro v3 v4 r hf kx
    cases hf
  | succ n ih =>
    intro v3 v4 r hf kx
    unfold M_run_L5 at hf
    refine PW.iload cx qX7_run_5 rfl ?_
    refine PW.aload_n cx qX7_run_7 rfl ?_
    refine PW.iload_n cx qX7_run_8 rfl ?_
    refine PW.iconst (v := 0) cx qX7_run_9 rfl ?_
    refine PW.callVRI (As := [.int c1, .int 0]) (st := [.int v4]) cx hR qX7_run_10 klX7_70 mvX7_of (sh_140 hx) rfl rfl rfl rfl (Nat.le_of_ble_eq_true rfl) (Nat.le_of_ble_eq_true rfl) (Nat.le_of_ble_eq_true rfl) (Nat.zero_le _) (Nat.zero_le _) hf sne (fun t e => ctX7_of hx h c1 0 t e) (fun t1 hf => ?_)
    refine PW.callSRI (As := [.int t1]) (st := [.int v4]) cx hR qX7_run_13 klX7_61 miX7_digits rfl rfl (Nat.le_of_ble_eq_true rfl) (Nat.le_of_ble_eq_true rfl) (Nat.le_of_ble_eq_true rfl) (Nat.zero_le _) (Nat.zero_le _) hf sne (fun t e => ctX7_digits h t1 t e) (fun t2 hf => ?_)
    refine PW.icmp_ge cx qX7_run_16 hf (fun hf => ?_) (fun hf => ?_)
    · exact PW.locs (Lsub.keep (Lsub.keep (Lsub.keep (Lsub.keep (Lsub.drop (Lsub.drop Lsub.nil)))))) (kx v3 (Option.some.inj hf).symm)
    · refine PW.iconst (v := 0) cx qX7_run_19 rfl ?_
      refine PW.istore (L' := [some (.ref (gB g + 140)), some (.int c1), some (.int c2), some (.int v3), some (.int v4), some (.int 0)]) cx qX7_run_20 hi5 rfl rfl ?_
      obtain ⟨r6, er6, hf⟩ := bndO hf sne
      refine PW.locs (Lsub.keep (Lsub.keep (Lsub.keep (Lsub.keep (Lsub.keep (Lsub.keep Lsub.nil)))))) (lX7_run_22 mx hx h c1 c2 v4 FU v3 0 r6 er6 (fun xx_ e => ?_))
      subst e
      refine PW.iinc (v := 1) (L' := [some (.ref (gB g + 140)), some (.int c1), some (.int c2), some (.int r6), some (.int (v4 + 1)), none]) cx qX7_run_57 rfl rfl hi4 rfl rfl ?_
      refine PW.goto cx qX7_run_60 ?_
      exact PW.locs (Lsub.keep (Lsub.keep (Lsub.keep (Lsub.keep (Lsub.keep (Lsub.drop Lsub.nil)))))) (ih r6 (v4 + 1) _ hf kx)
set_option maxRecDepth 20000 in
theorem ctX7_run {g : GT} {ex : Bool} {sh : List Shp} (hx : MSh sh) (h : Hp) (p1 : Int32) (p2 : Int32) (r0 : Int32) (hf : M_run h p1 p2 = some r0) : Ct g mX7_run 3 0 0 ex [.ref (gB g + 140), .int p1, .int p2] sh h (PE (some (.int r0)) sh h) := by
  refine Ct.of (L := [some (.ref (gB g + 140)), some (.int p1), some (.int p2), none, none, none]) (by decide) (by intro w hw; simp only [List.mem_cons, List.not_mem_nil, or_false] at hw; rcases hw with rfl | rfl | rfl <;> rfl) (Nat.le_of_ble_eq_true rfl) rfl (fun X mx => ?_)
  have mx0 := mx
  obtain ⟨cx, hR, hml, hrt, -⟩ := mx0
  have cx : Cx g X RX7 cX7_run := cx
  have hrt : X.2.2.2.2.2.2.2.1.sig.returnType = (some .int) := hrt
  have hi3 : 3 < X.2.2.2.2.2.2.2.2.maxLocals := by rw [hml]; exact Nat.le_of_ble_eq_true rfl
  have hi4 : 4 < X.2.2.2.2.2.2.2.2.maxLocals := by rw [hml]; exact Nat.le_of_ble_eq_true rfl
  have hi5 : 5 < X.2.2.2.2.2.2.2.2.maxLocals := by rw [hml]; exact Nat.le_of_ble_eq_true rfl
  unfold M_run at hf
  refine PW.iconst (v := 0) cx qX7_run_0 rfl ?_
  refine PW.istore_n (L' := [some (.ref (gB g + 140)), some (.int p1), some (.int p2), some (.int 0), none, none]) cx qX7_run_1 hi3 rfl rfl ?_
  refine PW.iconst (v := 0) cx qX7_run_2 rfl ?_
  refine PW.istore (L' := [some (.ref (gB g + 140)), some (.int p1), some (.int p2), some (.int 0), some (.int 0), none]) cx qX7_run_3 hi4 rfl rfl ?_
  obtain ⟨r7, er7, hf⟩ := bndO hf sne
  refine PW.locs (Lsub.keep (Lsub.keep (Lsub.keep (Lsub.keep (Lsub.keep (Lsub.drop Lsub.nil)))))) (lX7_run_5 mx hx h p1 p2 FU 0 0 r7 er7 (fun xx_ e => ?_))
  subst e
  refine PW.iload_n cx qX7_run_63 rfl ?_
  exact PW.iret cx hrt qX7_run_64 (le_ri hf)
set_option maxRecDepth 20000 in
theorem ctX7_homeOf {g : GT} {ex : Bool} {sh : List Shp} (hx : MSh sh) (h : Hp) (p1 : Int32) (p2 : Int32) (r0 : Int32) (hf : M_homeOf h p1 p2 = some r0) : Ct g mX7_homeOf 3 0 0 ex [.ref (gB g + 140), .int p1, .int p2] sh h (PE (some (.int r0)) sh h) := by
  refine Ct.of (L := [some (.ref (gB g + 140)), some (.int p1), some (.int p2)]) (by decide) (by intro w hw; simp only [List.mem_cons, List.not_mem_nil, or_false] at hw; rcases hw with rfl | rfl | rfl <;> rfl) (Nat.le_of_ble_eq_true rfl) rfl (fun X mx => ?_)
  obtain ⟨cx, hR, hml, hrt, -⟩ := mx
  have cx : Cx g X RX7 cX7_homeOf := cx
  have hrt : X.2.2.2.2.2.2.2.1.sig.returnType = (some .int) := hrt
  unfold M_homeOf at hf
  refine PW.aload_n cx qX7_homeOf_0 rfl ?_
  refine PW.iload_n cx qX7_homeOf_1 rfl ?_
  refine PW.callVRI (As := [.int p1]) (st := []) cx hR qX7_homeOf_2 klX7_89 mvX7_hashOf (sh_140 hx) rfl rfl rfl rfl (Nat.le_of_ble_eq_true rfl) (Nat.le_of_ble_eq_true rfl) (Nat.le_of_ble_eq_true rfl) (Nat.zero_le _) (Nat.zero_le _) hf sne (fun t e => ctX7_hashOf hx h p1 t e) (fun t1 hf => ?_)
  refine PW.aload_n cx qX7_homeOf_5 rfl ?_
  refine PW.iload_n cx qX7_homeOf_6 rfl ?_
  refine PW.callVRI (As := [.int p2]) (st := [.int t1]) cx hR qX7_homeOf_7 klX7_92 mvX7_beds (sh_140 hx) rfl rfl rfl rfl (Nat.le_of_ble_eq_true rfl) (Nat.le_of_ble_eq_true rfl) (Nat.le_of_ble_eq_true rfl) (Nat.zero_le _) (Nat.zero_le _) hf sne (fun t e => ctX7_beds hx h p2 t e) (fun t2 hf => ?_)
  refine PW.irem cx qX7_homeOf_10 hf sne (fun t3 hf => ?_)
  exact PW.iret cx hrt qX7_homeOf_11 (le_ri hf)
set_option maxRecDepth 20000 in
theorem ctX7_onWay {g : GT} {ex : Bool} {sh : List Shp} (hx : MSh sh) (h : Hp) (p1 : Int32) (p2 : Int32) (p3 : Int32) (r0 : Int32) (hf : M_onWay h p1 p2 p3 = some r0) : Ct g mX7_onWay 4 0 0 ex [.ref (gB g + 140), .int p1, .int p2, .int p3] sh h (PE (some (.int r0)) sh h) := by
  refine Ct.of (L := [some (.ref (gB g + 140)), some (.int p1), some (.int p2), some (.int p3)]) (by decide) (by intro w hw; simp only [List.mem_cons, List.not_mem_nil, or_false] at hw; rcases hw with rfl | rfl | rfl | rfl <;> rfl) (Nat.le_of_ble_eq_true rfl) rfl (fun X mx => ?_)
  obtain ⟨cx, hR, hml, hrt, -⟩ := mx
  have cx : Cx g X RX7 cX7_onWay := cx
  have hrt : X.2.2.2.2.2.2.2.1.sig.returnType = (some .int) := hrt
  unfold M_onWay at hf
  refine PW.aload_n cx qX7_onWay_0 rfl ?_
  refine PW.iload_n cx qX7_onWay_1 rfl ?_
  refine PW.iload_n cx qX7_onWay_2 rfl ?_
  refine PW.callVRI (As := [.int p1, .int p2]) (st := []) cx hR qX7_onWay_3 klX7_95 mvX7_homeOf (sh_140 hx) rfl rfl rfl rfl (Nat.le_of_ble_eq_true rfl) (Nat.le_of_ble_eq_true rfl) (Nat.le_of_ble_eq_true rfl) (Nat.zero_le _) (Nat.zero_le _) hf sne (fun t e => ctX7_homeOf hx h p1 p2 t e) (fun t1 hf => ?_)
  refine PW.iload_n cx qX7_onWay_6 rfl ?_
  refine PW.iadd cx qX7_onWay_7 ?_
  refine PW.aload_n cx qX7_onWay_8 rfl ?_
  refine PW.iload_n cx qX7_onWay_9 rfl ?_
  refine PW.callVRI (As := [.int p2]) (st := [.int (t1 + p3)]) cx hR qX7_onWay_10 klX7_92 mvX7_beds (sh_140 hx) rfl rfl rfl rfl (Nat.le_of_ble_eq_true rfl) (Nat.le_of_ble_eq_true rfl) (Nat.le_of_ble_eq_true rfl) (Nat.zero_le _) (Nat.zero_le _) hf sne (fun t e => ctX7_beds hx h p2 t e) (fun t2 hf => ?_)
  refine PW.irem cx qX7_onWay_13 hf sne (fun t3 hf => ?_)
  exact PW.iret cx hrt qX7_onWay_14 (le_ri hf)
set_option maxRecDepth 20000 in
theorem lX7_passedBy_2 {g : GT} {X : XT} {ex : Bool} {post : Option Value → List Shp → Hp → Prop} {sh : List Shp} (mx : Mx g X mX7_passedBy 5 0 0) (hx : MSh sh) (h : Hp) (c1 : Int32) (c2 : Int32) : ∀ (n : Nat) (v3 : Int32) (r : (Unit) ⊕ (Int32)) (hf : M_passedBy_L2 h c1 c2 n v3 = some r) (kx : r = .inl () → PW g X ex (QE g X ex post 0 0) 0 0 sh h 34 [some (.ref (gB g + 140)), some (.int c1), some (.int c2), none] []) (kr : ∀ y : Int32, r = .inr y → post (some (.int y)) sh h), PW g X ex (QE g X ex post 0 0) 0 0 sh h 2 [some (.ref (gB g + 140)), some (.int c1), some (.int c2), some (.int v3)] [] := by
  have mx0 := mx
  obtain ⟨cx, hR, hml, hrt, -⟩ := mx0
  have cx : Cx g X RX7 cX7_passedBy := cx
  have hrt : X.2.2.2.2.2.2.2.1.sig.returnType = (some .int) := hrt
  have hi3 : 3 < X.2.2.2.2.2.2.2.2.maxLocals := by rw [hml]; exact Nat.le_of_ble_eq_true rfl
  intro n
  induction n with
  | zero =>
    intro v3 r hf kx kr
    cases hf
  | succ n ih =>
    intro v3 r hf kx kr
    unfold M_passedBy_L2 at hf
    refine PW.iload_n cx qX7_passedBy_2 rfl ?_
    refine PW.aload_n cx qX7_passedBy_3 rfl ?_
    refine PW.iload_n cx qX7_passedBy_4 rfl ?_
    refine PW.callVRI (As := [.int c2]) (st := [.int v3]) cx hR qX7_passedBy_5 klX7_92 mvX7_beds (sh_140 hx) rfl rfl rfl rfl (Nat.le_of_ble_eq_true rfl) (Nat.le_of_ble_eq_true rfl) (Nat.le_of_ble_eq_true rfl) (Nat.zero_le _) (Nat.zero_le _) hf sne (fun t e => ctX7_beds hx h c2 t e) (fun t1 hf => ?_)
    refine PW.icmp_ge cx qX7_passedBy_8 hf (fun hf => ?_) (fun hf => ?_)
    · exact PW.locs (Lsub.keep (Lsub.keep (Lsub.keep (Lsub.drop Lsub.nil)))) (kx (Option.some.inj hf).symm)
    · refine PW.aload_n cx qX7_passedBy_11 rfl ?_
      refine PW.iload_n cx qX7_passedBy_12 rfl ?_
      refine PW.aload_n cx qX7_passedBy_13 rfl ?_
      refine PW.iload_n cx qX7_passedBy_14 rfl ?_
      refine PW.iload_n cx qX7_passedBy_15 rfl ?_
      refine PW.iload_n cx qX7_passedBy_16 rfl ?_
      refine PW.callVRI (As := [.int c1, .int c2, .int v3]) (st := [.int c2, .ref (gB g + 140)]) cx hR qX7_passedBy_17 klX7_98 mvX7_onWay (sh_140 hx) rfl rfl rfl rfl (Nat.le_of_ble_eq_true rfl) (Nat.le_of_ble_eq_true rfl) (Nat.le_of_ble_eq_true rfl) (Nat.zero_le _) (Nat.zero_le _) hf sne (fun t e => ctX7_onWay hx h c1 c2 v3 t e) (fun t2 hf => ?_)
      refine PW.callVRI (As := [.int c2, .int t2]) (st := []) cx hR qX7_passedBy_20 klX7_102 mvX7_inBed (sh_140 hx) rfl rfl rfl rfl (Nat.le_of_ble_eq_true rfl) (Nat.le_of_ble_eq_true rfl) (Nat.le_of_ble_eq_true rfl) (Nat.zero_le _) (Nat.zero_le _) hf sne (fun t e => ctX7_inBed hx h c2 t2 t e) (fun t3 hf => ?_)
      refine PW.if_ge cx qX7_passedBy_23 hf (fun hf => ?_) (fun hf => ?_)
      · refine PW.iinc (v := 1) (L' := [some (.ref (gB g + 140)), some (.int c1), some (.int c2), some (.int (v3 + 1))]) cx qX7_passedBy_28 rfl rfl hi3 rfl rfl ?_
        refine PW.goto cx qX7_passedBy_31 ?_
        exact PW.locs (Lsub.keep (Lsub.keep (Lsub.keep (Lsub.keep Lsub.nil)))) (ih (v3 + 1) _ hf kx kr)
      · refine PW.iload_n cx qX7_passedBy_26 rfl ?_
        exact PW.iret cx hrt qX7_passedBy_27 (kr _ (Option.some.inj hf).symm)
set_option maxRecDepth 20000 in
theorem ctX7_passedBy {g : GT} {ex : Bool} {sh : List Shp} (hx : MSh sh) (h : Hp) (p1 : Int32) (p2 : Int32) (r0 : Int32) (hf : M_passedBy h p1 p2 = some r0) : Ct g mX7_passedBy 5 0 0 ex [.ref (gB g + 140), .int p1, .int p2] sh h (PE (some (.int r0)) sh h) := by
  refine Ct.of (L := [some (.ref (gB g + 140)), some (.int p1), some (.int p2), none]) (by decide) (by intro w hw; simp only [List.mem_cons, List.not_mem_nil, or_false] at hw; rcases hw with rfl | rfl | rfl <;> rfl) (Nat.le_of_ble_eq_true rfl) rfl (fun X mx => ?_)
  have mx0 := mx
  obtain ⟨cx, hR, hml, hrt, -⟩ := mx0
  have cx : Cx g X RX7 cX7_passedBy := cx
  have hrt : X.2.2.2.2.2.2.2.1.sig.returnType = (some .int) := hrt
  have hi3 : 3 < X.2.2.2.2.2.2.2.2.maxLocals := by rw [hml]; exact Nat.le_of_ble_eq_true rfl
  unfold M_passedBy at hf
  refine PW.iconst (v := 0) cx qX7_passedBy_0 rfl ?_
  refine PW.istore_n (L' := [some (.ref (gB g + 140)), some (.int p1), some (.int p2), some (.int 0)]) cx qX7_passedBy_1 hi3 rfl rfl ?_
  obtain ⟨r4, er4, hf⟩ := bndO hf sne
  refine PW.locs (Lsub.keep (Lsub.keep (Lsub.keep (Lsub.keep Lsub.nil)))) (lX7_passedBy_2 mx hx h p1 p2 FU 0 r4 er4 (fun e => ?_) (fun y e => ?_))
  · subst e
    refine PW.iconst (v := (-1)) cx qX7_passedBy_34 rfl ?_
    exact PW.iret cx hrt qX7_passedBy_35 (le_ri hf)
  · subst e
    exact (le_ri hf)
set_option maxRecDepth 20000 in
theorem lX7_looks_2 {g : GT} {X : XT} {ex : Bool} {post : Option Value → List Shp → Hp → Prop} {sh : List Shp} (mx : Mx g X mX7_looks 5 0 0) (hx : MSh sh) (h : Hp) (c1 : Int32) (c2 : Int32) : ∀ (n : Nat) (v3 : Int32) (r : (Unit) ⊕ (Int32)) (hf : M_looks_L2 h c1 c2 n v3 = some r) (kx : r = .inl () → PW g X ex (QE g X ex post 0 0) 0 0 sh h 47 [some (.ref (gB g + 140)), some (.int c1), some (.int c2), none, none] []) (kr : ∀ y : Int32, r = .inr y → post (some (.int y)) sh h), PW g X ex (QE g X ex post 0 0) 0 0 sh h 2 [some (.ref (gB g + 140)), some (.int c1), some (.int c2), some (.int v3), none] [] := by
  have mx0 := mx
  obtain ⟨cx, hR, hml, hrt, -⟩ := mx0
  have cx : Cx g X RX7 cX7_looks := cx
  have hrt : X.2.2.2.2.2.2.2.1.sig.returnType = (some .int) := hrt
  have hi3 : 3 < X.2.2.2.2.2.2.2.2.maxLocals := by rw [hml]; exact Nat.le_of_ble_eq_true rfl
  have hi4 : 4 < X.2.2.2.2.2.2.2.2.maxLocals := by rw [hml]; exact Nat.le_of_ble_eq_true rfl
  intro n
  induction n with
  | zero =>
    intro v3 r hf kx kr
    cases hf
  | succ n ih =>
    intro v3 r hf kx kr
    unfold M_looks_L2 at hf
    refine PW.iload_n cx qX7_looks_2 rfl ?_
    refine PW.aload_n cx qX7_looks_3 rfl ?_
    refine PW.iload_n cx qX7_looks_4 rfl ?_
    refine PW.callVRI (As := [.int c2]) (st := [.int v3]) cx hR qX7_looks_5 klX7_92 mvX7_beds (sh_140 hx) rfl rfl rfl rfl (Nat.le_of_ble_eq_true rfl) (Nat.le_of_ble_eq_true rfl) (Nat.le_of_ble_eq_true rfl) (Nat.zero_le _) (Nat.zero_le _) hf sne (fun t e => ctX7_beds hx h c2 t e) (fun t1 hf => ?_)
    refine PW.icmp_ge cx qX7_looks_8 hf (fun hf => ?_) (fun hf => ?_)
    · exact PW.locs (Lsub.keep (Lsub.keep (Lsub.keep (Lsub.drop (Lsub.drop Lsub.nil))))) (kx (Option.some.inj hf).symm)
    · refine PW.aload_n cx qX7_looks_11 rfl ?_
      refine PW.iload_n cx qX7_looks_12 rfl ?_
      refine PW.aload_n cx qX7_looks_13 rfl ?_
      refine PW.iload_n cx qX7_looks_14 rfl ?_
      refine PW.iload_n cx qX7_looks_15 rfl ?_
      refine PW.iload_n cx qX7_looks_16 rfl ?_
      refine PW.callVRI (As := [.int c1, .int c2, .int v3]) (st := [.int c2, .ref (gB g + 140)]) cx hR qX7_looks_17 klX7_98 mvX7_onWay (sh_140 hx) rfl rfl rfl rfl (Nat.le_of_ble_eq_true rfl) (Nat.le_of_ble_eq_true rfl) (Nat.le_of_ble_eq_true rfl) (Nat.zero_le _) (Nat.zero_le _) hf sne (fun t e => ctX7_onWay hx h c1 c2 v3 t e) (fun t2 hf => ?_)
      refine PW.callVRI (As := [.int c2, .int t2]) (st := []) cx hR qX7_looks_20 klX7_102 mvX7_inBed (sh_140 hx) rfl rfl rfl rfl (Nat.le_of_ble_eq_true rfl) (Nat.le_of_ble_eq_true rfl) (Nat.le_of_ble_eq_true rfl) (Nat.zero_le _) (Nat.zero_le _) hf sne (fun t e => ctX7_inBed hx h c2 t2 t e) (fun t3 hf => ?_)
      refine PW.istore (L' := [some (.ref (gB g + 140)), some (.int c1), some (.int c2), some (.int v3), some (.int t3)]) cx qX7_looks_23 hi4 rfl rfl ?_
      refine PW.iload cx qX7_looks_25 rfl ?_
      refine PW.iload_n cx qX7_looks_27 rfl ?_
      refine PW.icmp_eq cx qX7_looks_28 hf (fun hf => ?_) (fun hf => ?_)
      · refine PW.iload_n cx qX7_looks_37 rfl ?_
        refine PW.iconst (v := 1) cx qX7_looks_38 rfl ?_
        refine PW.iadd cx qX7_looks_39 ?_
        exact PW.iret cx hrt qX7_looks_40 (kr _ (Option.some.inj hf).symm)
      · refine PW.iload cx qX7_looks_31 rfl ?_
        refine PW.iconst (v := (-1)) cx qX7_looks_33 rfl ?_
        refine PW.icmp_ne cx qX7_looks_34 hf (fun hf => ?_) (fun hf => ?_)
        · refine PW.iload_n cx qX7_looks_37 rfl ?_
          refine PW.iconst (v := 1) cx qX7_looks_38 rfl ?_
          refine PW.iadd cx qX7_looks_39 ?_
          exact PW.iret cx hrt qX7_looks_40 (kr _ (Option.some.inj hf).symm)
        · refine PW.iinc (v := 1) (L' := [some (.ref (gB g + 140)), some (.int c1), some (.int c2), some (.int (v3 + 1)), some (.int t3)]) cx qX7_looks_41 rfl rfl hi3 rfl rfl ?_
          refine PW.goto cx qX7_looks_44 ?_
          exact PW.locs (Lsub.keep (Lsub.keep (Lsub.keep (Lsub.keep (Lsub.drop Lsub.nil))))) (ih (v3 + 1) _ hf kx kr)
set_option maxRecDepth 20000 in
theorem ctX7_looks {g : GT} {ex : Bool} {sh : List Shp} (hx : MSh sh) (h : Hp) (p1 : Int32) (p2 : Int32) (r0 : Int32) (hf : M_looks h p1 p2 = some r0) : Ct g mX7_looks 5 0 0 ex [.ref (gB g + 140), .int p1, .int p2] sh h (PE (some (.int r0)) sh h) := by
  refine Ct.of (L := [some (.ref (gB g + 140)), some (.int p1), some (.int p2), none, none]) (by decide) (by intro w hw; simp only [List.mem_cons, List.not_mem_nil, or_false] at hw; rcases hw with rfl | rfl | rfl <;> rfl) (Nat.le_of_ble_eq_true rfl) rfl (fun X mx => ?_)
  have mx0 := mx
  obtain ⟨cx, hR, hml, hrt, -⟩ := mx0
  have cx : Cx g X RX7 cX7_looks := cx
  have hrt : X.2.2.2.2.2.2.2.1.sig.returnType = (some .int) := hrt
  have hi3 : 3 < X.2.2.2.2.2.2.2.2.maxLocals := by rw [hml]; exact Nat.le_of_ble_eq_true rfl
  have hi4 : 4 < X.2.2.2.2.2.2.2.2.maxLocals := by rw [hml]; exact Nat.le_of_ble_eq_true rfl
  unfold M_looks at hf
  refine PW.iconst (v := 0) cx qX7_looks_0 rfl ?_
  refine PW.istore_n (L' := [some (.ref (gB g + 140)), some (.int p1), some (.int p2), some (.int 0), none]) cx qX7_looks_1 hi3 rfl rfl ?_
  obtain ⟨r4, er4, hf⟩ := bndO hf sne
  refine PW.locs (Lsub.keep (Lsub.keep (Lsub.keep (Lsub.keep (Lsub.drop Lsub.nil))))) (lX7_looks_2 mx hx h p1 p2 FU 0 r4 er4 (fun e => ?_) (fun y e => ?_))
  · subst e
    refine PW.aload_n cx qX7_looks_47 rfl ?_
    refine PW.iload_n cx qX7_looks_48 rfl ?_
    refine PW.callVRI (As := [.int p2]) (st := []) cx hR qX7_looks_49 klX7_92 mvX7_beds (sh_140 hx) rfl rfl rfl rfl (Nat.le_of_ble_eq_true rfl) (Nat.le_of_ble_eq_true rfl) (Nat.le_of_ble_eq_true rfl) (Nat.zero_le _) (Nat.zero_le _) hf sne (fun t e => ctX7_beds hx h p2 t e) (fun t5 hf => ?_)
    exact PW.iret cx hrt qX7_looks_52 (le_ri hf)
  · subst e
    exact (le_ri hf)
set_option maxRecDepth 20000 in
theorem lX7_bedWith_2 {g : GT} {X : XT} {ex : Bool} {post : Option Value → List Shp → Hp → Prop} {sh : List Shp} (mx : Mx g X mX7_bedWith 1 0 0) (hx : MSh sh) (h : Hp) (c1 : Int32) (c2 : Int32) : ∀ (n : Nat) (v3 : Int32) (r : (Unit) ⊕ (Int32)) (hf : M_bedWith_L2 h c1 c2 n v3 = some r) (kx : r = .inl () → PW g X ex (QE g X ex post 0 0) 0 0 sh h 29 [some (.ref (gB g + 140)), some (.int c1), some (.int c2), none] []) (kr : ∀ y : Int32, r = .inr y → post (some (.int y)) sh h), PW g X ex (QE g X ex post 0 0) 0 0 sh h 2 [some (.ref (gB g + 140)), some (.int c1), some (.int c2), some (.int v3)] [] := by
  have mx0 := mx
  obtain ⟨cx, hR, hml, hrt, -⟩ := mx0
  have cx : Cx g X RX7 cX7_bedWith := cx
  have hrt : X.2.2.2.2.2.2.2.1.sig.returnType = (some .int) := hrt
  have hi3 : 3 < X.2.2.2.2.2.2.2.2.maxLocals := by rw [hml]; exact Nat.le_of_ble_eq_true rfl
  intro n
  induction n with
  | zero =>
    intro v3 r hf kx kr
    cases hf
  | succ n ih =>
    intro v3 r hf kx kr
    unfold M_bedWith_L2 at hf
    refine PW.iload_n cx qX7_bedWith_2 rfl ?_
    refine PW.aload_n cx qX7_bedWith_3 rfl ?_
    refine PW.iload_n cx qX7_bedWith_4 rfl ?_
    refine PW.callVRI (As := [.int c2]) (st := [.int v3]) cx hR qX7_bedWith_5 klX7_92 mvX7_beds (sh_140 hx) rfl rfl rfl rfl (Nat.le_of_ble_eq_true rfl) (Nat.le_of_ble_eq_true rfl) (Nat.le_of_ble_eq_true rfl) (Nat.zero_le _) (Nat.zero_le _) hf sne (fun t e => ctX7_beds hx h c2 t e) (fun t1 hf => ?_)
    refine PW.icmp_ge cx qX7_bedWith_8 hf (fun hf => ?_) (fun hf => ?_)
    · exact PW.locs (Lsub.keep (Lsub.keep (Lsub.keep (Lsub.drop Lsub.nil)))) (kx (Option.some.inj hf).symm)
    · refine PW.aload_n cx qX7_bedWith_11 rfl ?_
      refine PW.iload_n cx qX7_bedWith_12 rfl ?_
      refine PW.iload_n cx qX7_bedWith_13 rfl ?_
      refine PW.callVRI (As := [.int c2, .int v3]) (st := []) cx hR qX7_bedWith_14 klX7_102 mvX7_inBed (sh_140 hx) rfl rfl rfl rfl (Nat.le_of_ble_eq_true rfl) (Nat.le_of_ble_eq_true rfl) (Nat.le_of_ble_eq_true rfl) (Nat.zero_le _) (Nat.zero_le _) hf sne (fun t e => ctX7_inBed hx h c2 v3 t e) (fun t2 hf => ?_)
      refine PW.iload_n cx qX7_bedWith_17 rfl ?_
      refine PW.icmp_ne cx qX7_bedWith_18 hf (fun hf => ?_) (fun hf => ?_)
      · refine PW.iload_n cx qX7_bedWith_21 rfl ?_
        exact PW.iret cx hrt qX7_bedWith_22 (kr _ (Option.some.inj hf).symm)
      · refine PW.iinc (v := 1) (L' := [some (.ref (gB g + 140)), some (.int c1), some (.int c2), some (.int (v3 + 1))]) cx qX7_bedWith_23 rfl rfl hi3 rfl rfl ?_
        refine PW.goto cx qX7_bedWith_26 ?_
        exact PW.locs (Lsub.keep (Lsub.keep (Lsub.keep (Lsub.keep Lsub.nil)))) (ih (v3 + 1) _ hf kx kr)
set_option maxRecDepth 20000 in
theorem ctX7_bedWith {g : GT} {ex : Bool} {sh : List Shp} (hx : MSh sh) (h : Hp) (p1 : Int32) (p2 : Int32) (r0 : Int32) (hf : M_bedWith h p1 p2 = some r0) : Ct g mX7_bedWith 1 0 0 ex [.ref (gB g + 140), .int p1, .int p2] sh h (PE (some (.int r0)) sh h) := by
  refine Ct.of (L := [some (.ref (gB g + 140)), some (.int p1), some (.int p2), none]) (by decide) (by intro w hw; simp only [List.mem_cons, List.not_mem_nil, or_false] at hw; rcases hw with rfl | rfl | rfl <;> rfl) (Nat.le_of_ble_eq_true rfl) rfl (fun X mx => ?_)
  have mx0 := mx
  obtain ⟨cx, hR, hml, hrt, -⟩ := mx0
  have cx : Cx g X RX7 cX7_bedWith := cx
  have hrt : X.2.2.2.2.2.2.2.1.sig.returnType = (some .int) := hrt
  have hi3 : 3 < X.2.2.2.2.2.2.2.2.maxLocals := by rw [hml]; exact Nat.le_of_ble_eq_true rfl
  unfold M_bedWith at hf
  refine PW.iconst (v := 0) cx qX7_bedWith_0 rfl ?_
  refine PW.istore_n (L' := [some (.ref (gB g + 140)), some (.int p1), some (.int p2), some (.int 0)]) cx qX7_bedWith_1 hi3 rfl rfl ?_
  obtain ⟨r3, er3, hf⟩ := bndO hf sne
  refine PW.locs (Lsub.keep (Lsub.keep (Lsub.keep (Lsub.keep Lsub.nil)))) (lX7_bedWith_2 mx hx h p1 p2 FU 0 r3 er3 (fun e => ?_) (fun y e => ?_))
  · subst e
    refine PW.iconst (v := (-1)) cx qX7_bedWith_29 rfl ?_
    exact PW.iret cx hrt qX7_bedWith_30 (le_ri hf)
  · subst e
    exact (le_ri hf)
set_option maxRecDepth 20000 in
theorem lX7_reelWith_2 {g : GT} {X : XT} {ex : Bool} {post : Option Value → List Shp → Hp → Prop} {sh : List Shp} (mx : Mx g X mX7_reelWith 2 0 0) (hx : MSh sh) (h : Hp) (c1 : Int32) : ∀ (n : Nat) (v2 : Int32) (r : (Unit) ⊕ (Int32)) (hf : M_reelWith_L2 h c1 n v2 = some r) (kx : r = .inl () → PW g X ex (QE g X ex post 0 0) 0 0 sh h 30 [some (.ref (gB g + 140)), some (.int c1), none] []) (kr : ∀ y : Int32, r = .inr y → post (some (.int y)) sh h), PW g X ex (QE g X ex post 0 0) 0 0 sh h 2 [some (.ref (gB g + 140)), some (.int c1), some (.int v2)] [] := by
  have mx0 := mx
  obtain ⟨cx, hR, hml, hrt, -⟩ := mx0
  have cx : Cx g X RX7 cX7_reelWith := cx
  have hrt : X.2.2.2.2.2.2.2.1.sig.returnType = (some .int) := hrt
  have hi2 : 2 < X.2.2.2.2.2.2.2.2.maxLocals := by rw [hml]; exact Nat.le_of_ble_eq_true rfl
  intro n
  induction n with
  | zero =>
    intro v2 r hf kx kr
    cases hf
  | succ n ih =>
    intro v2 r hf kx kr
    unfold M_reelWith_L2 at hf
    refine PW.iload_n cx qX7_reelWith_2 rfl ?_
    refine PW.aload_n cx qX7_reelWith_3 rfl ?_
    refine PW.getf (t := (2, 141)) (v := .ref (gB g + 141)) cx qX7_reelWith_4 (sh_140 hx) rfl flX7_7 rfl ?_
    refine PW.iconst (v := 3) cx qX7_reelWith_7 rfl ?_
    refine PW.iald cx qX7_reelWith_8 (sh_141 hx) hf sne (fun t1 hf => ?_)
    refine PW.icmp_ge cx qX7_reelWith_9 hf (fun hf => ?_) (fun hf => ?_)
    · exact PW.locs (Lsub.keep (Lsub.keep (Lsub.drop Lsub.nil))) (kx (Option.some.inj hf).symm)
    · refine PW.aload_n cx qX7_reelWith_12 rfl ?_
      refine PW.iload_n cx qX7_reelWith_13 rfl ?_
      refine PW.iload_n cx qX7_reelWith_14 rfl ?_
      refine PW.callVRI (As := [.int c1, .int v2]) (st := []) cx hR qX7_reelWith_15 klX7_105 mvX7_bedWith (sh_140 hx) rfl rfl rfl rfl (Nat.le_of_ble_eq_true rfl) (Nat.le_of_ble_eq_true rfl) (Nat.le_of_ble_eq_true rfl) (Nat.zero_le _) (Nat.zero_le _) hf sne (fun t e => ctX7_bedWith hx h c1 v2 t e) (fun t2 hf => ?_)
      refine PW.iconst (v := (-1)) cx qX7_reelWith_18 rfl ?_
      refine PW.icmp_eq cx qX7_reelWith_19 hf (fun hf => ?_) (fun hf => ?_)
      · refine PW.iinc (v := 1) (L' := [some (.ref (gB g + 140)), some (.int c1), some (.int (v2 + 1))]) cx qX7_reelWith_24 rfl rfl hi2 rfl rfl ?_
        refine PW.goto cx qX7_reelWith_27 ?_
        exact PW.locs (Lsub.keep (Lsub.keep (Lsub.keep Lsub.nil))) (ih (v2 + 1) _ hf kx kr)
      · refine PW.iload_n cx qX7_reelWith_22 rfl ?_
        exact PW.iret cx hrt qX7_reelWith_23 (kr _ (Option.some.inj hf).symm)
set_option maxRecDepth 20000 in
theorem ctX7_reelWith {g : GT} {ex : Bool} {sh : List Shp} (hx : MSh sh) (h : Hp) (p1 : Int32) (r0 : Int32) (hf : M_reelWith h p1 = some r0) : Ct g mX7_reelWith 2 0 0 ex [.ref (gB g + 140), .int p1] sh h (PE (some (.int r0)) sh h) := by
  refine Ct.of (L := [some (.ref (gB g + 140)), some (.int p1), none]) (by decide) (by intro w hw; simp only [List.mem_cons, List.not_mem_nil, or_false] at hw; rcases hw with rfl | rfl <;> rfl) (Nat.le_of_ble_eq_true rfl) rfl (fun X mx => ?_)
  have mx0 := mx
  obtain ⟨cx, hR, hml, hrt, -⟩ := mx0
  have cx : Cx g X RX7 cX7_reelWith := cx
  have hrt : X.2.2.2.2.2.2.2.1.sig.returnType = (some .int) := hrt
  have hi2 : 2 < X.2.2.2.2.2.2.2.2.maxLocals := by rw [hml]; exact Nat.le_of_ble_eq_true rfl
  unfold M_reelWith at hf
  refine PW.iconst (v := 0) cx qX7_reelWith_0 rfl ?_
  refine PW.istore_n (L' := [some (.ref (gB g + 140)), some (.int p1), some (.int 0)]) cx qX7_reelWith_1 hi2 rfl rfl ?_
  obtain ⟨r3, er3, hf⟩ := bndO hf sne
  refine PW.locs (Lsub.keep (Lsub.keep (Lsub.keep Lsub.nil))) (lX7_reelWith_2 mx hx h p1 FU 0 r3 er3 (fun e => ?_) (fun y e => ?_))
  · subst e
    refine PW.iconst (v := (-1)) cx qX7_reelWith_30 rfl ?_
    exact PW.iret cx hrt qX7_reelWith_31 (le_ri hf)
  · subst e
    exact (le_ri hf)
set_option maxRecDepth 20000 in
theorem lX7_sleepersIn_4 {g : GT} {X : XT} {ex : Bool} {post : Option Value → List Shp → Hp → Prop} {sh : List Shp} (mx : Mx g X mX7_sleepersIn 1 0 0) (hx : MSh sh) (h : Hp) (c1 : Int32) : ∀ (n : Nat) (v2 : Int32) (v3 : Int32) (r : Int32) (hf : M_sleepersIn_L4 h c1 n v2 v3 = some r) (kx : ∀ (x2 : Int32), r = x2 → PW g X ex (QE g X ex post 0 0) 0 0 sh h 43 [some (.ref (gB g + 140)), some (.int c1), some (.int x2), none] []), PW g X ex (QE g X ex post 0 0) 0 0 sh h 4 [some (.ref (gB g + 140)), some (.int c1), some (.int v2), some (.int v3)] [] := by
  have mx0 := mx
  obtain ⟨cx, hR, hml, hrt, -⟩ := mx0
  have cx : Cx g X RX7 cX7_sleepersIn := cx
  have hrt : X.2.2.2.2.2.2.2.1.sig.returnType = (some .int) := hrt
  have hi2 : 2 < X.2.2.2.2.2.2.2.2.maxLocals := by rw [hml]; exact Nat.le_of_ble_eq_true rfl
  have hi3 : 3 < X.2.2.2.2.2.2.2.2.maxLocals := by rw [hml]; exact Nat.le_of_ble_eq_true rfl
  intro n
  induction n with
  | zero =>
    intro v2 v3 r hf kx
    cases hf
  | succ n ih =>
    intro v2 v3 r hf kx
    unfold M_sleepersIn_L4 at hf
    refine PW.iload_n cx qX7_sleepersIn_4 rfl ?_
    refine PW.aload_n cx qX7_sleepersIn_5 rfl ?_
    refine PW.iload_n cx qX7_sleepersIn_6 rfl ?_
    refine PW.callVRI (As := [.int c1]) (st := [.int v3]) cx hR qX7_sleepersIn_7 klX7_92 mvX7_beds (sh_140 hx) rfl rfl rfl rfl (Nat.le_of_ble_eq_true rfl) (Nat.le_of_ble_eq_true rfl) (Nat.le_of_ble_eq_true rfl) (Nat.zero_le _) (Nat.zero_le _) hf sne (fun t e => ctX7_beds hx h c1 t e) (fun t1 hf => ?_)
    refine PW.icmp_ge cx qX7_sleepersIn_10 hf (fun hf => ?_) (fun hf => ?_)
    · exact PW.locs (Lsub.keep (Lsub.keep (Lsub.keep (Lsub.drop Lsub.nil)))) (kx v2 (Option.some.inj hf).symm)
    · refine PW.iload_n cx qX7_sleepersIn_13 rfl ?_
      refine PW.aload_n cx qX7_sleepersIn_14 rfl ?_
      refine PW.iload_n cx qX7_sleepersIn_15 rfl ?_
      refine PW.iload_n cx qX7_sleepersIn_16 rfl ?_
      refine PW.callVRI (As := [.int c1, .int v3]) (st := [.int v2]) cx hR qX7_sleepersIn_17 klX7_102 mvX7_inBed (sh_140 hx) rfl rfl rfl rfl (Nat.le_of_ble_eq_true rfl) (Nat.le_of_ble_eq_true rfl) (Nat.le_of_ble_eq_true rfl) (Nat.zero_le _) (Nat.zero_le _) hf sne (fun t e => ctX7_inBed hx h c1 v3 t e) (fun t2 hf => ?_)
      refine PW.if_lt cx qX7_sleepersIn_20 hf (fun hf => ?_) (fun hf => ?_)
      · refine PW.iconst (v := 0) cx qX7_sleepersIn_34 rfl ?_
        refine PW.ior cx qX7_sleepersIn_35 ?_
        refine PW.istore_n (L' := [some (.ref (gB g + 140)), some (.int c1), some (.int (v2 ||| 0)), some (.int v3)]) cx qX7_sleepersIn_36 hi2 rfl rfl ?_
        refine PW.iinc (v := 1) (L' := [some (.ref (gB g + 140)), some (.int c1), some (.int (v2 ||| 0)), some (.int (v3 + 1))]) cx qX7_sleepersIn_37 rfl rfl hi3 rfl rfl ?_
        refine PW.goto cx qX7_sleepersIn_40 ?_
        exact PW.locs (Lsub.keep (Lsub.keep (Lsub.keep (Lsub.keep Lsub.nil)))) (ih (v2 ||| 0) (v3 + 1) _ hf kx)
      · refine PW.iconst (v := 1) cx qX7_sleepersIn_23 rfl ?_
        refine PW.aload_n cx qX7_sleepersIn_24 rfl ?_
        refine PW.iload_n cx qX7_sleepersIn_25 rfl ?_
        refine PW.iload_n cx qX7_sleepersIn_26 rfl ?_
        refine PW.callVRI (As := [.int c1, .int v3]) (st := [.int 1, .int v2]) cx hR qX7_sleepersIn_27 klX7_102 mvX7_inBed (sh_140 hx) rfl rfl rfl rfl (Nat.le_of_ble_eq_true rfl) (Nat.le_of_ble_eq_true rfl) (Nat.le_of_ble_eq_true rfl) (Nat.zero_le _) (Nat.zero_le _) hf sne (fun t e => ctX7_inBed hx h c1 v3 t e) (fun t3 hf => ?_)
        refine PW.ishl cx qX7_sleepersIn_30 ?_
        refine PW.goto cx qX7_sleepersIn_31 ?_
        refine PW.ior cx qX7_sleepersIn_35 ?_
        refine PW.istore_n (L' := [some (.ref (gB g + 140)), some (.int c1), some (.int (v2 ||| (1 <<< (t3 &&& 31)))), some (.int v3)]) cx qX7_sleepersIn_36 hi2 rfl rfl ?_
        refine PW.iinc (v := 1) (L' := [some (.ref (gB g + 140)), some (.int c1), some (.int (v2 ||| (1 <<< (t3 &&& 31)))), some (.int (v3 + 1))]) cx qX7_sleepersIn_37 rfl rfl hi3 rfl rfl ?_
        refine PW.goto cx qX7_sleepersIn_40 ?_
        exact PW.locs (Lsub.keep (Lsub.keep (Lsub.keep (Lsub.keep Lsub.nil)))) (ih (v2 ||| (1 <<< (t3 &&& 31))) (v3 + 1) _ hf kx)
set_option maxRecDepth 20000 in
theorem ctX7_sleepersIn {g : GT} {ex : Bool} {sh : List Shp} (hx : MSh sh) (h : Hp) (p1 : Int32) (r0 : Int32) (hf : M_sleepersIn h p1 = some r0) : Ct g mX7_sleepersIn 1 0 0 ex [.ref (gB g + 140), .int p1] sh h (PE (some (.int r0)) sh h) := by
  refine Ct.of (L := [some (.ref (gB g + 140)), some (.int p1), none, none]) (by decide) (by intro w hw; simp only [List.mem_cons, List.not_mem_nil, or_false] at hw; rcases hw with rfl | rfl <;> rfl) (Nat.le_of_ble_eq_true rfl) rfl (fun X mx => ?_)
  have mx0 := mx
  obtain ⟨cx, hR, hml, hrt, -⟩ := mx0
  have cx : Cx g X RX7 cX7_sleepersIn := cx
  have hrt : X.2.2.2.2.2.2.2.1.sig.returnType = (some .int) := hrt
  have hi2 : 2 < X.2.2.2.2.2.2.2.2.maxLocals := by rw [hml]; exact Nat.le_of_ble_eq_true rfl
  have hi3 : 3 < X.2.2.2.2.2.2.2.2.maxLocals := by rw [hml]; exact Nat.le_of_ble_eq_true rfl
  unfold M_sleepersIn at hf
  refine PW.iconst (v := 0) cx qX7_sleepersIn_0 rfl ?_
  refine PW.istore_n (L' := [some (.ref (gB g + 140)), some (.int p1), some (.int 0), none]) cx qX7_sleepersIn_1 hi2 rfl rfl ?_
  refine PW.iconst (v := 0) cx qX7_sleepersIn_2 rfl ?_
  refine PW.istore_n (L' := [some (.ref (gB g + 140)), some (.int p1), some (.int 0), some (.int 0)]) cx qX7_sleepersIn_3 hi3 rfl rfl ?_
  obtain ⟨r4, er4, hf⟩ := bndO hf sne
  refine PW.locs (Lsub.keep (Lsub.keep (Lsub.keep (Lsub.keep Lsub.nil)))) (lX7_sleepersIn_4 mx hx h p1 FU 0 0 r4 er4 (fun xx_ e => ?_))
  subst e
  refine PW.iload_n cx qX7_sleepersIn_43 rfl ?_
  exact PW.iret cx hrt qX7_sleepersIn_44 (le_ri hf)
set_option maxRecDepth 20000 in
theorem ctX7_whyStaysUp {g : GT} {ex : Bool} {sh : List Shp} (hx : MSh sh) (h : Hp) (p1 : Int32) (p2 : Int32) (r0 : Int32) (hf : M_whyStaysUp h p1 p2 = some r0) : Ct g mX7_whyStaysUp 6 0 0 ex [.ref (gB g + 140), .int p1, .int p2] sh h (PE (some (.int r0)) sh h) := by
  refine Ct.of (L := [some (.ref (gB g + 140)), some (.int p1), some (.int p2)]) (by decide) (by intro w hw; simp only [List.mem_cons, List.not_mem_nil, or_false] at hw; rcases hw with rfl | rfl | rfl <;> rfl) (Nat.le_of_ble_eq_true rfl) rfl (fun X mx => ?_)
  obtain ⟨cx, hR, hml, hrt, -⟩ := mx
  have cx : Cx g X RX7 cX7_whyStaysUp := cx
  have hrt : X.2.2.2.2.2.2.2.1.sig.returnType = (some .int) := hrt
  unfold M_whyStaysUp at hf
  refine PW.aload_n cx qX7_whyStaysUp_0 rfl ?_
  refine PW.iload_n cx qX7_whyStaysUp_1 rfl ?_
  refine PW.iconst (v := 1) cx qX7_whyStaysUp_2 rfl ?_
  refine PW.callVRI (As := [.int p1, .int 1]) (st := []) cx hR qX7_whyStaysUp_3 klX7_70 mvX7_of (sh_140 hx) rfl rfl rfl rfl (Nat.le_of_ble_eq_true rfl) (Nat.le_of_ble_eq_true rfl) (Nat.le_of_ble_eq_true rfl) (Nat.zero_le _) (Nat.zero_le _) hf sne (fun t e => ctX7_of hx h p1 1 t e) (fun t1 hf => ?_)
  refine PW.if_eq cx qX7_whyStaysUp_6 hf (fun hf => ?_) (fun hf => ?_)
  · refine PW.aload_n cx qX7_whyStaysUp_11 rfl ?_
    refine PW.iload_n cx qX7_whyStaysUp_12 rfl ?_
    refine PW.iconst (v := 2) cx qX7_whyStaysUp_13 rfl ?_
    refine PW.callVRI (As := [.int p1, .int 2]) (st := []) cx hR qX7_whyStaysUp_14 klX7_70 mvX7_of (sh_140 hx) rfl rfl rfl rfl (Nat.le_of_ble_eq_true rfl) (Nat.le_of_ble_eq_true rfl) (Nat.le_of_ble_eq_true rfl) (Nat.zero_le _) (Nat.zero_le _) hf sne (fun t e => ctX7_of hx h p1 2 t e) (fun t2 hf => ?_)
    refine PW.bipush (v := 10) cx qX7_whyStaysUp_17 rfl ?_
    refine PW.icmp_ge cx qX7_whyStaysUp_19 hf (fun hf => ?_) (fun hf => ?_)
    · refine PW.aload_n cx qX7_whyStaysUp_24 rfl ?_
      refine PW.iload_n cx qX7_whyStaysUp_25 rfl ?_
      refine PW.iload_n cx qX7_whyStaysUp_26 rfl ?_
      refine PW.callVRI (As := [.int p1, .int p2]) (st := []) cx hR qX7_whyStaysUp_27 klX7_108 mvX7_passedBy (sh_140 hx) rfl rfl rfl rfl (Nat.le_of_ble_eq_true rfl) (Nat.le_of_ble_eq_true rfl) (Nat.le_of_ble_eq_true rfl) (Nat.zero_le _) (Nat.zero_le _) hf sne (fun t e => ctX7_passedBy hx h p1 p2 t e) (fun t3 hf => ?_)
      refine PW.iconst (v := (-1)) cx qX7_whyStaysUp_30 rfl ?_
      refine PW.icmp_ne cx qX7_whyStaysUp_31 hf (fun hf => ?_) (fun hf => ?_)
      · refine PW.iconst (v := 3) cx qX7_whyStaysUp_34 rfl ?_
        refine PW.goto cx qX7_whyStaysUp_35 ?_
        exact PW.iret cx hrt qX7_whyStaysUp_39 (le_ri hf)
      · refine PW.iconst (v := 0) cx qX7_whyStaysUp_38 rfl ?_
        exact PW.iret cx hrt qX7_whyStaysUp_39 (le_ri hf)
    · refine PW.iconst (v := 2) cx qX7_whyStaysUp_22 rfl ?_
      exact PW.iret cx hrt qX7_whyStaysUp_23 (le_ri hf)
  · refine PW.iconst (v := 1) cx qX7_whyStaysUp_9 rfl ?_
    exact PW.iret cx hrt qX7_whyStaysUp_10 (le_ri hf)
set_option maxRecDepth 20000 in
theorem lX7_looksTogether_11 {g : GT} {X : XT} {ex : Bool} {post : Option Value → List Shp → Hp → Prop} {sh : List Shp} (mx : Mx g X mX7_looksTogether 6 0 0) (hx : MSh sh) (h : Hp) (c1 : Int32) (c3 : Int32) : ∀ (n : Nat) (v2 : Int32) (v4 : Int32) (r : Int32) (hf : M_looksTogether_L11 h c1 c3 n v2 v4 = some r) (kx : ∀ (x2 : Int32), r = x2 → PW g X ex (QE g X ex post 0 0) 0 0 sh h 52 [some (.ref (gB g + 140)), some (.int c1), some (.int x2), some (.int c3), none] []), PW g X ex (QE g X ex post 0 0) 0 0 sh h 11 [some (.ref (gB g + 140)), some (.int c1), some (.int v2), some (.int c3), some (.int v4)] [] := by
  have mx0 := mx
  obtain ⟨cx, hR, hml, hrt, -⟩ := mx0
  have cx : Cx g X RX7 cX7_looksTogether := cx
  have hrt : X.2.2.2.2.2.2.2.1.sig.returnType = (some .int) := hrt
  have hi2 : 2 < X.2.2.2.2.2.2.2.2.maxLocals := by rw [hml]; exact Nat.le_of_ble_eq_true rfl
  have hi3 : 3 < X.2.2.2.2.2.2.2.2.maxLocals := by rw [hml]; exact Nat.le_of_ble_eq_true rfl
  have hi4 : 4 < X.2.2.2.2.2.2.2.2.maxLocals := by rw [hml]; exact Nat.le_of_ble_eq_true rfl
  intro n
  induction n with
  | zero =>
    intro v2 v4 r hf kx
    cases hf
  | succ n ih =>
    intro v2 v4 r hf kx
    unfold M_looksTogether_L11 at hf
    refine PW.iload cx qX7_looksTogether_11 rfl ?_
    refine PW.aload_n cx qX7_looksTogether_13 rfl ?_
    refine PW.getf (t := (2, 141)) (v := .ref (gB g + 141)) cx qX7_looksTogether_14 (sh_140 hx) rfl flX7_7 rfl ?_
    refine PW.iconst (v := 2) cx qX7_looksTogether_17 rfl ?_
    refine PW.iald cx qX7_looksTogether_18 (sh_141 hx) hf sne (fun t2 hf => ?_)
    refine PW.icmp_ge cx qX7_looksTogether_19 hf (fun hf => ?_) (fun hf => ?_)
    · exact PW.locs (Lsub.keep (Lsub.keep (Lsub.keep (Lsub.keep (Lsub.drop Lsub.nil))))) (kx v2 (Option.some.inj hf).symm)
    · refine PW.iload_n cx qX7_looksTogether_22 rfl ?_
      refine PW.iload_n cx qX7_looksTogether_23 rfl ?_
      refine PW.iload cx qX7_looksTogether_24 rfl ?_
      refine PW.ishr cx qX7_looksTogether_26 ?_
      refine PW.iconst (v := 1) cx qX7_looksTogether_27 rfl ?_
      refine PW.iand cx qX7_looksTogether_28 ?_
      refine PW.iconst (v := 1) cx qX7_looksTogether_29 rfl ?_
      refine PW.icmp_ne cx qX7_looksTogether_30 hf (fun hf => ?_) (fun hf => ?_)
      · refine PW.aload_n cx qX7_looksTogether_33 rfl ?_
        refine PW.iload cx qX7_looksTogether_34 rfl ?_
        refine PW.iload_n cx qX7_looksTogether_36 rfl ?_
        refine PW.callVRI (As := [.int v4, .int c1]) (st := [.int v2]) cx hR qX7_looksTogether_37 klX7_114 mvX7_looks (sh_140 hx) rfl rfl rfl rfl (Nat.le_of_ble_eq_true rfl) (Nat.le_of_ble_eq_true rfl) (Nat.le_of_ble_eq_true rfl) (Nat.zero_le _) (Nat.zero_le _) hf sne (fun t e => ctX7_looks hx h v4 c1 t e) (fun t3 hf => ?_)
        refine PW.goto cx qX7_looksTogether_40 ?_
        refine PW.iadd cx qX7_looksTogether_44 ?_
        refine PW.istore_n (L' := [some (.ref (gB g + 140)), some (.int c1), some (.int (v2 + t3)), some (.int c3), some (.int v4)]) cx qX7_looksTogether_45 hi2 rfl rfl ?_
        refine PW.iinc (v := 1) (L' := [some (.ref (gB g + 140)), some (.int c1), some (.int (v2 + t3)), some (.int c3), some (.int (v4 + 1))]) cx qX7_looksTogether_46 rfl rfl hi4 rfl rfl ?_
        refine PW.goto cx qX7_looksTogether_49 ?_
        exact PW.locs (Lsub.keep (Lsub.keep (Lsub.keep (Lsub.keep (Lsub.keep Lsub.nil))))) (ih (v2 + t3) (v4 + 1) _ hf kx)
      · refine PW.iconst (v := 0) cx qX7_looksTogether_43 rfl ?_
        refine PW.iadd cx qX7_looksTogether_44 ?_
        refine PW.istore_n (L' := [some (.ref (gB g + 140)), some (.int c1), some (.int (v2 + 0)), some (.int c3), some (.int v4)]) cx qX7_looksTogether_45 hi2 rfl rfl ?_
        refine PW.iinc (v := 1) (L' := [some (.ref (gB g + 140)), some (.int c1), some (.int (v2 + 0)), some (.int c3), some (.int (v4 + 1))]) cx qX7_looksTogether_46 rfl rfl hi4 rfl rfl ?_
        refine PW.goto cx qX7_looksTogether_49 ?_
        exact PW.locs (Lsub.keep (Lsub.keep (Lsub.keep (Lsub.keep (Lsub.keep Lsub.nil))))) (ih (v2 + 0) (v4 + 1) _ hf kx)
set_option maxRecDepth 20000 in
theorem ctX7_looksTogether {g : GT} {ex : Bool} {sh : List Shp} (hx : MSh sh) (h : Hp) (p1 : Int32) (r0 : Int32) (hf : M_looksTogether h p1 = some r0) : Ct g mX7_looksTogether 6 0 0 ex [.ref (gB g + 140), .int p1] sh h (PE (some (.int r0)) sh h) := by
  refine Ct.of (L := [some (.ref (gB g + 140)), some (.int p1), none, none, none]) (by decide) (by intro w hw; simp only [List.mem_cons, List.not_mem_nil, or_false] at hw; rcases hw with rfl | rfl <;> rfl) (Nat.le_of_ble_eq_true rfl) rfl (fun X mx => ?_)
  have mx0 := mx
  obtain ⟨cx, hR, hml, hrt, -⟩ := mx0
  have cx : Cx g X RX7 cX7_looksTogether := cx
  have hrt : X.2.2.2.2.2.2.2.1.sig.returnType = (some .int) := hrt
  have hi2 : 2 < X.2.2.2.2.2.2.2.2.maxLocals := by rw [hml]; exact Nat.le_of_ble_eq_true rfl
  have hi3 : 3 < X.2.2.2.2.2.2.2.2.maxLocals := by rw [hml]; exact Nat.le_of_ble_eq_true rfl
  have hi4 : 4 < X.2.2.2.2.2.2.2.2.maxLocals := by rw [hml]; exact Nat.le_of_ble_eq_true rfl
  unfold M_looksTogether at hf
  refine PW.iconst (v := 0) cx qX7_looksTogether_0 rfl ?_
  refine PW.istore_n (L' := [some (.ref (gB g + 140)), some (.int p1), some (.int 0), none, none]) cx qX7_looksTogether_1 hi2 rfl rfl ?_
  refine PW.aload_n cx qX7_looksTogether_2 rfl ?_
  refine PW.iload_n cx qX7_looksTogether_3 rfl ?_
  refine PW.callVRI (As := [.int p1]) (st := []) cx hR qX7_looksTogether_4 klX7_111 mvX7_sleepersIn (sh_140 hx) rfl rfl rfl rfl (Nat.le_of_ble_eq_true rfl) (Nat.le_of_ble_eq_true rfl) (Nat.le_of_ble_eq_true rfl) (Nat.zero_le _) (Nat.zero_le _) hf sne (fun t e => ctX7_sleepersIn hx h p1 t e) (fun t1 hf => ?_)
  refine PW.istore_n (L' := [some (.ref (gB g + 140)), some (.int p1), some (.int 0), some (.int t1), none]) cx qX7_looksTogether_7 hi3 rfl rfl ?_
  refine PW.iconst (v := 0) cx qX7_looksTogether_8 rfl ?_
  refine PW.istore (L' := [some (.ref (gB g + 140)), some (.int p1), some (.int 0), some (.int t1), some (.int 0)]) cx qX7_looksTogether_9 hi4 rfl rfl ?_
  obtain ⟨r4, er4, hf⟩ := bndO hf sne
  refine PW.locs (Lsub.keep (Lsub.keep (Lsub.keep (Lsub.keep (Lsub.keep Lsub.nil))))) (lX7_looksTogether_11 mx hx h p1 t1 FU 0 0 r4 er4 (fun xx_ e => ?_))
  subst e
  refine PW.iload_n cx qX7_looksTogether_52 rfl ?_
  exact PW.iret cx hrt qX7_looksTogether_53 (le_ri hf)
set_option maxRecDepth 20000 in
theorem ctX7_adds {g : GT} {ex : Bool} {sh : List Shp} (hx : MSh sh) (h : Hp) (p1 : Int32) (r0 : Int32 × Hp) (hf : M_adds h p1 = some r0) : Ct g mX7_adds 1 0 0 ex [.ref (gB g + 140), .int p1] sh h (PE (some (.int r0.1)) sh r0.2) := by
  refine Ct.of (L := [some (.ref (gB g + 140)), some (.int p1), none]) (by decide) (by intro w hw; simp only [List.mem_cons, List.not_mem_nil, or_false] at hw; rcases hw with rfl | rfl <;> rfl) (Nat.le_of_ble_eq_true rfl) rfl (fun X mx => ?_)
  obtain ⟨cx, hR, hml, hrt, -⟩ := mx
  have cx : Cx g X RX7 cX7_adds := cx
  have hrt : X.2.2.2.2.2.2.2.1.sig.returnType = (some .int) := hrt
  have hi2 : 2 < X.2.2.2.2.2.2.2.2.maxLocals := by rw [hml]; exact Nat.le_of_ble_eq_true rfl
  unfold M_adds at hf
  refine PW.aload_n cx qX7_adds_0 rfl ?_
  refine PW.getf (t := (2, 141)) (v := .ref (gB g + 141)) cx qX7_adds_1 (sh_140 hx) rfl flX7_7 rfl ?_
  refine PW.iconst (v := 2) cx qX7_adds_4 rfl ?_
  refine PW.iald cx qX7_adds_5 (sh_141 hx) hf sne (fun t1 hf => ?_)
  refine PW.istore_n (L' := [some (.ref (gB g + 140)), some (.int p1), some (.int t1)]) cx qX7_adds_6 hi2 rfl rfl ?_
  refine PW.aload_n cx qX7_adds_7 rfl ?_
  refine PW.getf (t := (2, 141)) (v := .ref (gB g + 141)) cx qX7_adds_8 (sh_140 hx) rfl flX7_7 rfl ?_
  refine PW.iconst (v := 2) cx qX7_adds_11 rfl ?_
  refine PW.dup2 cx qX7_adds_12 rfl rfl ?_
  refine PW.iald cx qX7_adds_13 (sh_141 hx) hf sne (fun t2 hf => ?_)
  refine PW.iconst (v := 1) cx qX7_adds_14 rfl ?_
  refine PW.iadd cx qX7_adds_15 ?_
  refine PW.iast cx qX7_adds_16 (sh_141 hx) hf sne (fun h3 hf => ?_)
  refine PW.aload_n cx qX7_adds_17 rfl ?_
  refine PW.iload_n cx qX7_adds_18 rfl ?_
  refine PW.iconst (v := 0) cx qX7_adds_19 rfl ?_
  refine PW.iload_n cx qX7_adds_20 rfl ?_
  refine PW.callVWV (As := [.int t1, .int 0, .int p1]) (st := []) cx hR qX7_adds_21 klX7_117 mvX7_to (sh_140 hx) rfl rfl rfl rfl (Nat.le_of_ble_eq_true rfl) (Nat.le_of_ble_eq_true rfl) (Nat.le_of_ble_eq_true rfl) (Nat.zero_le _) (Nat.zero_le _) hf sne (fun t e => ctX7_to hx h3 t1 0 p1 t e) (fun h5 hf => ?_)
  refine PW.aload_n cx qX7_adds_24 rfl ?_
  refine PW.iload_n cx qX7_adds_25 rfl ?_
  refine PW.iconst (v := 1) cx qX7_adds_26 rfl ?_
  refine PW.iconst (v := 0) cx qX7_adds_27 rfl ?_
  refine PW.callVWV (As := [.int t1, .int 1, .int 0]) (st := []) cx hR qX7_adds_28 klX7_117 mvX7_to (sh_140 hx) rfl rfl rfl rfl (Nat.le_of_ble_eq_true rfl) (Nat.le_of_ble_eq_true rfl) (Nat.le_of_ble_eq_true rfl) (Nat.zero_le _) (Nat.zero_le _) hf sne (fun t e => ctX7_to hx h5 t1 1 0 t e) (fun h7 hf => ?_)
  refine PW.aload_n cx qX7_adds_31 rfl ?_
  refine PW.iload_n cx qX7_adds_32 rfl ?_
  refine PW.iconst (v := 2) cx qX7_adds_33 rfl ?_
  refine PW.bipush (v := 40) cx qX7_adds_34 rfl ?_
  refine PW.callVWV (As := [.int t1, .int 2, .int 40]) (st := []) cx hR qX7_adds_36 klX7_117 mvX7_to (sh_140 hx) rfl rfl rfl rfl (Nat.le_of_ble_eq_true rfl) (Nat.le_of_ble_eq_true rfl) (Nat.le_of_ble_eq_true rfl) (Nat.zero_le _) (Nat.zero_le _) hf sne (fun t e => ctX7_to hx h7 t1 2 40 t e) (fun h9 hf => ?_)
  refine PW.aload_n cx qX7_adds_39 rfl ?_
  refine PW.iload_n cx qX7_adds_40 rfl ?_
  refine PW.iconst (v := 3) cx qX7_adds_41 rfl ?_
  refine PW.iconst (v := (-1)) cx qX7_adds_42 rfl ?_
  refine PW.callVWV (As := [.int t1, .int 3, .int (-1)]) (st := []) cx hR qX7_adds_43 klX7_117 mvX7_to (sh_140 hx) rfl rfl rfl rfl (Nat.le_of_ble_eq_true rfl) (Nat.le_of_ble_eq_true rfl) (Nat.le_of_ble_eq_true rfl) (Nat.zero_le _) (Nat.zero_le _) hf sne (fun t e => ctX7_to hx h9 t1 3 (-1) t e) (fun h11 hf => ?_)
  refine PW.iload_n cx qX7_adds_46 rfl ?_
  exact PW.iret cx hrt qX7_adds_47 (le_wi hf)
set_option maxRecDepth 20000 in
theorem lX7_hangs_29 {g : GT} {X : XT} {ex : Bool} {post : Option Value → List Shp → Hp → Prop} {sh : List Shp} (mx : Mx g X mX7_hangs 1 0 0) (hx : MSh sh) (c1 : Int32) (c2 : Int32) : ∀ (n : Nat) (v3 : Int32) (h : Hp) (r : Hp) (hf : M_hangs_L29 c1 c2 n v3 h = some r) (kx : ∀ (h1 : Hp), r = h1 → PW g X ex (QE g X ex post 0 0) 0 0 sh h1 47 [some (.ref (gB g + 140)), some (.int c1), some (.int c2), none] []), PW g X ex (QE g X ex post 0 0) 0 0 sh h 29 [some (.ref (gB g + 140)), some (.int c1), some (.int c2), some (.int v3)] [] := by
  have mx0 := mx
  obtain ⟨cx, hR, hml, hrt, -⟩ := mx0
  have cx : Cx g X RX7 cX7_hangs := cx
  have hrt : X.2.2.2.2.2.2.2.1.sig.returnType = (some .int) := hrt
  have hi2 : 2 < X.2.2.2.2.2.2.2.2.maxLocals := by rw [hml]; exact Nat.le_of_ble_eq_true rfl
  have hi3 : 3 < X.2.2.2.2.2.2.2.2.maxLocals := by rw [hml]; exact Nat.le_of_ble_eq_true rfl
  intro n
  induction n with
  | zero =>
    intro v3 h r hf kx
    cases hf
  | succ n ih =>
    intro v3 h r hf kx
    unfold M_hangs_L29 at hf
    refine PW.iload_n cx qX7_hangs_29 rfl ?_
    refine PW.iload_n cx qX7_hangs_30 rfl ?_
    refine PW.icmp_ge cx qX7_hangs_31 hf (fun hf => ?_) (fun hf => ?_)
    · exact PW.locs (Lsub.keep (Lsub.keep (Lsub.keep (Lsub.drop Lsub.nil)))) (kx h (Option.some.inj hf).symm)
    · refine PW.aload_n cx qX7_hangs_34 rfl ?_
      refine PW.iload_n cx qX7_hangs_35 rfl ?_
      refine PW.iload_n cx qX7_hangs_36 rfl ?_
      refine PW.iconst (v := (-1)) cx qX7_hangs_37 rfl ?_
      refine PW.callVWV (As := [.int c2, .int v3, .int (-1)]) (st := []) cx hR qX7_hangs_38 klX7_121 mvX7_setBed (sh_140 hx) rfl rfl rfl rfl (Nat.le_of_ble_eq_true rfl) (Nat.le_of_ble_eq_true rfl) (Nat.le_of_ble_eq_true rfl) (Nat.zero_le _) (Nat.zero_le _) hf sne (fun t e => ctX7_setBed hx h c2 v3 (-1) t e) (fun h6 hf => ?_)
      refine PW.iinc (v := 1) (L' := [some (.ref (gB g + 140)), some (.int c1), some (.int c2), some (.int (v3 + 1))]) cx qX7_hangs_41 rfl rfl hi3 rfl rfl ?_
      refine PW.goto cx qX7_hangs_44 ?_
      exact PW.locs (Lsub.keep (Lsub.keep (Lsub.keep (Lsub.keep Lsub.nil)))) (ih (v3 + 1) h6 _ hf kx)
set_option maxRecDepth 20000 in
theorem ctX7_hangs {g : GT} {ex : Bool} {sh : List Shp} (hx : MSh sh) (h : Hp) (p1 : Int32) (r0 : Int32 × Hp) (hf : M_hangs h p1 = some r0) : Ct g mX7_hangs 1 0 0 ex [.ref (gB g + 140), .int p1] sh h (PE (some (.int r0.1)) sh r0.2) := by
  refine Ct.of (L := [some (.ref (gB g + 140)), some (.int p1), none, none]) (by decide) (by intro w hw; simp only [List.mem_cons, List.not_mem_nil, or_false] at hw; rcases hw with rfl | rfl <;> rfl) (Nat.le_of_ble_eq_true rfl) rfl (fun X mx => ?_)
  have mx0 := mx
  obtain ⟨cx, hR, hml, hrt, -⟩ := mx0
  have cx : Cx g X RX7 cX7_hangs := cx
  have hrt : X.2.2.2.2.2.2.2.1.sig.returnType = (some .int) := hrt
  have hi2 : 2 < X.2.2.2.2.2.2.2.2.maxLocals := by rw [hml]; exact Nat.le_of_ble_eq_true rfl
  have hi3 : 3 < X.2.2.2.2.2.2.2.2.maxLocals := by rw [hml]; exact Nat.le_of_ble_eq_true rfl
  unfold M_hangs at hf
  refine PW.aload_n cx qX7_hangs_0 rfl ?_
  refine PW.getf (t := (2, 141)) (v := .ref (gB g + 141)) cx qX7_hangs_1 (sh_140 hx) rfl flX7_7 rfl ?_
  refine PW.iconst (v := 3) cx qX7_hangs_4 rfl ?_
  refine PW.iald cx qX7_hangs_5 (sh_141 hx) hf sne (fun t1 hf => ?_)
  refine PW.istore_n (L' := [some (.ref (gB g + 140)), some (.int p1), some (.int t1), none]) cx qX7_hangs_6 hi2 rfl rfl ?_
  refine PW.aload_n cx qX7_hangs_7 rfl ?_
  refine PW.getf (t := (2, 141)) (v := .ref (gB g + 141)) cx qX7_hangs_8 (sh_140 hx) rfl flX7_7 rfl ?_
  refine PW.iconst (v := 3) cx qX7_hangs_11 rfl ?_
  refine PW.dup2 cx qX7_hangs_12 rfl rfl ?_
  refine PW.iald cx qX7_hangs_13 (sh_141 hx) hf sne (fun t2 hf => ?_)
  refine PW.iconst (v := 1) cx qX7_hangs_14 rfl ?_
  refine PW.iadd cx qX7_hangs_15 ?_
  refine PW.iast cx qX7_hangs_16 (sh_141 hx) hf sne (fun h3 hf => ?_)
  refine PW.aload_n cx qX7_hangs_17 rfl ?_
  refine PW.getf (t := (2, 141)) (v := .ref (gB g + 141)) cx qX7_hangs_18 (sh_140 hx) rfl flX7_7 rfl ?_
  refine PW.bipush (v := 56) cx qX7_hangs_21 rfl ?_
  refine PW.iload_n cx qX7_hangs_23 rfl ?_
  refine PW.iadd cx qX7_hangs_24 ?_
  refine PW.iload_n cx qX7_hangs_25 rfl ?_
  refine PW.iast cx qX7_hangs_26 (sh_141 hx) hf sne (fun h4 hf => ?_)
  refine PW.iconst (v := 0) cx qX7_hangs_27 rfl ?_
  refine PW.istore_n (L' := [some (.ref (gB g + 140)), some (.int p1), some (.int t1), some (.int 0)]) cx qX7_hangs_28 hi3 rfl rfl ?_
  obtain ⟨r7, er7, hf⟩ := bndO hf sne
  refine PW.locs (Lsub.keep (Lsub.keep (Lsub.keep (Lsub.keep Lsub.nil)))) (lX7_hangs_29 mx hx p1 t1 FU 0 h4 r7 er7 (fun xx_ e => ?_))
  subst e
  refine PW.iload_n cx qX7_hangs_47 rfl ?_
  exact PW.iret cx hrt qX7_hangs_48 (le_wi hf)
set_option maxRecDepth 20000 in
theorem ctX7_opens {g : GT} {ex : Bool} {sh : List Shp} (hx : MSh sh) (h : Hp) (p1 : Int32) (r0 : Int32 × Hp) (hf : M_opens h p1 = some r0) : Ct g mX7_opens 0 0 0 ex [.ref (gB g + 140), .int p1] sh h (PE (some (.int r0.1)) sh r0.2) := by
  refine Ct.of (L := [some (.ref (gB g + 140)), some (.int p1), none]) (by decide) (by intro w hw; simp only [List.mem_cons, List.not_mem_nil, or_false] at hw; rcases hw with rfl | rfl <;> rfl) (Nat.le_of_ble_eq_true rfl) rfl (fun X mx => ?_)
  obtain ⟨cx, hR, hml, hrt, -⟩ := mx
  have cx : Cx g X RX7 cX7_opens := cx
  have hrt : X.2.2.2.2.2.2.2.1.sig.returnType = (some .int) := hrt
  have hi2 : 2 < X.2.2.2.2.2.2.2.2.maxLocals := by rw [hml]; exact Nat.le_of_ble_eq_true rfl
  unfold M_opens at hf
  refine PW.bipush (v := 96) cx qX7_opens_0 rfl ?_
  refine PW.iconst (v := 2) cx qX7_opens_2 rfl ?_
  refine PW.aload_n cx qX7_opens_3 rfl ?_
  refine PW.getf (t := (2, 141)) (v := .ref (gB g + 141)) cx qX7_opens_4 (sh_140 hx) rfl flX7_7 rfl ?_
  refine PW.iconst (v := 4) cx qX7_opens_7 rfl ?_
  refine PW.iald cx qX7_opens_8 (sh_141 hx) hf sne (fun t1 hf => ?_)
  refine PW.imul cx qX7_opens_9 ?_
  refine PW.iadd cx qX7_opens_10 ?_
  refine PW.istore_n (L' := [some (.ref (gB g + 140)), some (.int p1), some (.int (96 + (2 * t1)))]) cx qX7_opens_11 hi2 rfl rfl ?_
  refine PW.aload_n cx qX7_opens_12 rfl ?_
  refine PW.getf (t := (2, 141)) (v := .ref (gB g + 141)) cx qX7_opens_13 (sh_140 hx) rfl flX7_7 rfl ?_
  refine PW.iload_n cx qX7_opens_16 rfl ?_
  refine PW.iconst (v := 0) cx qX7_opens_17 rfl ?_
  refine PW.iadd cx qX7_opens_18 ?_
  refine PW.iload_n cx qX7_opens_19 rfl ?_
  refine PW.iast cx qX7_opens_20 (sh_141 hx) hf sne (fun h2 hf => ?_)
  refine PW.aload_n cx qX7_opens_21 rfl ?_
  refine PW.getf (t := (2, 141)) (v := .ref (gB g + 141)) cx qX7_opens_22 (sh_140 hx) rfl flX7_7 rfl ?_
  refine PW.iload_n cx qX7_opens_25 rfl ?_
  refine PW.iconst (v := 1) cx qX7_opens_26 rfl ?_
  refine PW.iadd cx qX7_opens_27 ?_
  refine PW.iload_n cx qX7_opens_28 rfl ?_
  refine PW.iast cx qX7_opens_29 (sh_141 hx) hf sne (fun h3 hf => ?_)
  refine PW.aload_n cx qX7_opens_30 rfl ?_
  refine PW.getf (t := (2, 141)) (v := .ref (gB g + 141)) cx qX7_opens_31 (sh_140 hx) rfl flX7_7 rfl ?_
  refine PW.iconst (v := 4) cx qX7_opens_34 rfl ?_
  refine PW.dup2 cx qX7_opens_35 rfl rfl ?_
  refine PW.iald cx qX7_opens_36 (sh_141 hx) hf sne (fun t4 hf => ?_)
  refine PW.iconst (v := 1) cx qX7_opens_37 rfl ?_
  refine PW.iadd cx qX7_opens_38 ?_
  refine PW.iast cx qX7_opens_39 (sh_141 hx) hf sne (fun h5 hf => ?_)
  refine PW.aload_n cx qX7_opens_40 rfl ?_
  refine PW.getf (t := (2, 141)) (v := .ref (gB g + 141)) cx qX7_opens_41 (sh_140 hx) rfl flX7_7 rfl ?_
  refine PW.iconst (v := 4) cx qX7_opens_44 rfl ?_
  refine PW.iald cx qX7_opens_45 (sh_141 hx) hf sne (fun t6 hf => ?_)
  refine PW.iconst (v := 1) cx qX7_opens_46 rfl ?_
  refine PW.isub cx qX7_opens_47 ?_
  exact PW.iret cx hrt qX7_opens_48 (le_wi hf)
set_option maxRecDepth 20000 in
theorem ctX7_liesDown {g : GT} {ex : Bool} {sh : List Shp} (hx : MSh sh) (h : Hp) (p1 : Int32) (p2 : Int32) (r0 : Int32 × Hp) (hf : M_liesDown h p1 p2 = some r0) : Ct g mX7_liesDown 6 0 0 ex [.ref (gB g + 140), .int p1, .int p2] sh h (PE (some (.int r0.1)) sh r0.2) := by
  refine Ct.of (L := [some (.ref (gB g + 140)), some (.int p1), some (.int p2), none]) (by decide) (by intro w hw; simp only [List.mem_cons, List.not_mem_nil, or_false] at hw; rcases hw with rfl | rfl | rfl <;> rfl) (Nat.le_of_ble_eq_true rfl) rfl (fun X mx => ?_)
  obtain ⟨cx, hR, hml, hrt, -⟩ := mx
  have cx : Cx g X RX7 cX7_liesDown := cx
  have hrt : X.2.2.2.2.2.2.2.1.sig.returnType = (some .int) := hrt
  have hi3 : 3 < X.2.2.2.2.2.2.2.2.maxLocals := by rw [hml]; exact Nat.le_of_ble_eq_true rfl
  unfold M_liesDown at hf
  refine PW.aload_n cx qX7_liesDown_0 rfl ?_
  refine PW.iload_n cx qX7_liesDown_1 rfl ?_
  refine PW.iload_n cx qX7_liesDown_2 rfl ?_
  refine PW.aload_n cx qX7_liesDown_3 rfl ?_
  refine PW.iload_n cx qX7_liesDown_4 rfl ?_
  refine PW.iload_n cx qX7_liesDown_5 rfl ?_
  refine PW.callVRI (As := [.int p1, .int p2]) (st := [.int p2, .int p1, .ref (gB g + 140)]) cx hR qX7_liesDown_6 klX7_108 mvX7_passedBy (sh_140 hx) rfl rfl rfl rfl (Nat.le_of_ble_eq_true rfl) (Nat.le_of_ble_eq_true rfl) (Nat.le_of_ble_eq_true rfl) (Nat.zero_le _) (Nat.zero_le _) hf sne (fun t e => ctX7_passedBy hx h p1 p2 t e) (fun t1 hf => ?_)
  refine PW.callVRI (As := [.int p1, .int p2, .int t1]) (st := []) cx hR qX7_liesDown_9 klX7_98 mvX7_onWay (sh_140 hx) rfl rfl rfl rfl (Nat.le_of_ble_eq_true rfl) (Nat.le_of_ble_eq_true rfl) (Nat.le_of_ble_eq_true rfl) (Nat.zero_le _) (Nat.zero_le _) hf sne (fun t e => ctX7_onWay hx h p1 p2 t1 t e) (fun t2 hf => ?_)
  refine PW.istore_n (L' := [some (.ref (gB g + 140)), some (.int p1), some (.int p2), some (.int t2)]) cx qX7_liesDown_12 hi3 rfl rfl ?_
  refine PW.aload_n cx qX7_liesDown_13 rfl ?_
  refine PW.iload_n cx qX7_liesDown_14 rfl ?_
  refine PW.iload_n cx qX7_liesDown_15 rfl ?_
  refine PW.iload_n cx qX7_liesDown_16 rfl ?_
  refine PW.callVWV (As := [.int p2, .int t2, .int p1]) (st := []) cx hR qX7_liesDown_17 klX7_121 mvX7_setBed (sh_140 hx) rfl rfl rfl rfl (Nat.le_of_ble_eq_true rfl) (Nat.le_of_ble_eq_true rfl) (Nat.le_of_ble_eq_true rfl) (Nat.zero_le _) (Nat.zero_le _) hf sne (fun t e => ctX7_setBed hx h p2 t2 p1 t e) (fun h4 hf => ?_)
  refine PW.aload_n cx qX7_liesDown_20 rfl ?_
  refine PW.iload_n cx qX7_liesDown_21 rfl ?_
  refine PW.iconst (v := 1) cx qX7_liesDown_22 rfl ?_
  refine PW.iconst (v := 1) cx qX7_liesDown_23 rfl ?_
  refine PW.callVWV (As := [.int p1, .int 1, .int 1]) (st := []) cx hR qX7_liesDown_24 klX7_117 mvX7_to (sh_140 hx) rfl rfl rfl rfl (Nat.le_of_ble_eq_true rfl) (Nat.le_of_ble_eq_true rfl) (Nat.le_of_ble_eq_true rfl) (Nat.zero_le _) (Nat.zero_le _) hf sne (fun t e => ctX7_to hx h4 p1 1 1 t e) (fun h6 hf => ?_)
  refine PW.iload_n cx qX7_liesDown_27 rfl ?_
  exact PW.iret cx hrt qX7_liesDown_28 (le_wi hf)
set_option maxRecDepth 20000 in
theorem ctX7_leaves {g : GT} {ex : Bool} {sh : List Shp} (hx : MSh sh) (h : Hp) (p1 : Int32) (p2 : Int32) (r0 : Int32 × Hp) (hf : M_leaves h p1 p2 = some r0) : Ct g mX7_leaves 3 0 0 ex [.ref (gB g + 140), .int p1, .int p2] sh h (PE (some (.int r0.1)) sh r0.2) := by
  refine Ct.of (L := [some (.ref (gB g + 140)), some (.int p1), some (.int p2), none]) (by decide) (by intro w hw; simp only [List.mem_cons, List.not_mem_nil, or_false] at hw; rcases hw with rfl | rfl | rfl <;> rfl) (Nat.le_of_ble_eq_true rfl) rfl (fun X mx => ?_)
  obtain ⟨cx, hR, hml, hrt, -⟩ := mx
  have cx : Cx g X RX7 cX7_leaves := cx
  have hrt : X.2.2.2.2.2.2.2.1.sig.returnType = (some .int) := hrt
  have hi3 : 3 < X.2.2.2.2.2.2.2.2.maxLocals := by rw [hml]; exact Nat.le_of_ble_eq_true rfl
  unfold M_leaves at hf
  refine PW.aload_n cx qX7_leaves_0 rfl ?_
  refine PW.iload_n cx qX7_leaves_1 rfl ?_
  refine PW.callVRI (As := [.int p1]) (st := []) cx hR qX7_leaves_2 klX7_124 mvX7_reelWith (sh_140 hx) rfl rfl rfl rfl (Nat.le_of_ble_eq_true rfl) (Nat.le_of_ble_eq_true rfl) (Nat.le_of_ble_eq_true rfl) (Nat.zero_le _) (Nat.zero_le _) hf sne (fun t e => ctX7_reelWith hx h p1 t e) (fun t1 hf => ?_)
  refine PW.istore_n (L' := [some (.ref (gB g + 140)), some (.int p1), some (.int p2), some (.int t1)]) cx qX7_leaves_5 hi3 rfl rfl ?_
  refine PW.iload_n cx qX7_leaves_6 rfl ?_
  refine PW.iconst (v := (-1)) cx qX7_leaves_7 rfl ?_
  obtain ⟨j24, ej24, hf⟩ := lt_split hf
  have hj24 : ∀ (h_24 : Hp), j24 h_24 = some r0 → PW g X ex (QE g X ex (PE (some (.int r0.1)) sh r0.2) 0 0) 0 0 sh h_24 24 [some (.ref (gB g + 140)), some (.int p1), some (.int p2), some (.int t1)] [] := by
    intro h_24 hf
    rw [ej24] at hf
    refine PW.aload_n cx qX7_leaves_24 rfl ?_
    refine PW.iload_n cx qX7_leaves_25 rfl ?_
    refine PW.iconst (v := 1) cx qX7_leaves_26 rfl ?_
    refine PW.iload_n cx qX7_leaves_27 rfl ?_
    refine PW.callVWV (As := [.int p1, .int 1, .int p2]) (st := []) cx hR qX7_leaves_28 klX7_117 mvX7_to (sh_140 hx) rfl rfl rfl rfl (Nat.le_of_ble_eq_true rfl) (Nat.le_of_ble_eq_true rfl) (Nat.le_of_ble_eq_true rfl) (Nat.zero_le _) (Nat.zero_le _) hf sne (fun t e => ctX7_to hx h_24 p1 1 p2 t e) (fun h3 hf => ?_)
    refine PW.iload_n cx qX7_leaves_31 rfl ?_
    exact PW.iret cx hrt qX7_leaves_32 (le_wi hf)
  refine PW.icmp_eq cx qX7_leaves_8 hf (fun hf => ?_) (fun hf => ?_)
  · exact PW.locs (Lsub.keep (Lsub.keep (Lsub.keep (Lsub.keep Lsub.nil)))) (hj24 h hf)
  · refine PW.aload_n cx qX7_leaves_11 rfl ?_
    refine PW.iload_n cx qX7_leaves_12 rfl ?_
    refine PW.aload_n cx qX7_leaves_13 rfl ?_
    refine PW.iload_n cx qX7_leaves_14 rfl ?_
    refine PW.iload_n cx qX7_leaves_15 rfl ?_
    refine PW.callVRI (As := [.int p1, .int t1]) (st := [.int t1, .ref (gB g + 140)]) cx hR qX7_leaves_16 klX7_105 mvX7_bedWith (sh_140 hx) rfl rfl rfl rfl (Nat.le_of_ble_eq_true rfl) (Nat.le_of_ble_eq_true rfl) (Nat.le_of_ble_eq_true rfl) (Nat.zero_le _) (Nat.zero_le _) hf sne (fun t e => ctX7_bedWith hx h p1 t1 t e) (fun t4 hf => ?_)
    refine PW.bipush (v := (-2)) cx qX7_leaves_19 rfl ?_
    refine PW.callVWV (As := [.int t1, .int t4, .int (-2)]) (st := []) cx hR qX7_leaves_21 klX7_121 mvX7_setBed (sh_140 hx) rfl rfl rfl rfl (Nat.le_of_ble_eq_true rfl) (Nat.le_of_ble_eq_true rfl) (Nat.le_of_ble_eq_true rfl) (Nat.zero_le _) (Nat.zero_le _) hf sne (fun t e => ctX7_setBed hx h t1 t4 (-2) t e) (fun h6 hf => ?_)
    exact PW.locs (Lsub.keep (Lsub.keep (Lsub.keep (Lsub.keep Lsub.nil)))) (hj24 h6 hf)
set_option maxRecDepth 20000 in
theorem lX7_cuts_19 {g : GT} {X : XT} {ex : Bool} {post : Option Value → List Shp → Hp → Prop} {sh : List Shp} (mx : Mx g X mX7_cuts 4 0 0) (hx : MSh sh) (c1 : Int32) (c2 : Int32) (c4 : Int32) : ∀ (n : Nat) (v3 : Int32) (v5 : Int32) (h : Hp) (r : Int32 × Hp) (hf : M_cuts_L19 c1 c2 c4 n v3 v5 h = some r) (kx : ∀ (x3 : Int32) (h1 : Hp), r = (x3, h1) → PW g X ex (QE g X ex post 0 0) 0 0 sh h1 122 [some (.ref (gB g + 140)), some (.int c1), some (.int c2), some (.int x3), some (.int c4), none, none] []), PW g X ex (QE g X ex post 0 0) 0 0 sh h 19 [some (.ref (gB g + 140)), some (.int c1), some (.int c2), some (.int v3), some (.int c4), some (.int v5), none] [] := by
  have mx0 := mx
  obtain ⟨cx, hR, hml, hrt, -⟩ := mx0
  have cx : Cx g X RX7 cX7_cuts := cx
  have hrt : X.2.2.2.2.2.2.2.1.sig.returnType = (some .int) := hrt
  have hi3 : 3 < X.2.2.2.2.2.2.2.2.maxLocals := by rw [hml]; exact Nat.le_of_ble_eq_true rfl
  have hi4 : 4 < X.2.2.2.2.2.2.2.2.maxLocals := by rw [hml]; exact Nat.le_of_ble_eq_true rfl
  have hi5 : 5 < X.2.2.2.2.2.2.2.2.maxLocals := by rw [hml]; exact Nat.le_of_ble_eq_true rfl
  have hi6 : 6 < X.2.2.2.2.2.2.2.2.maxLocals := by rw [hml]; exact Nat.le_of_ble_eq_true rfl
  intro n
  induction n with
  | zero =>
    intro v3 v5 h r hf kx
    cases hf
  | succ n ih =>
    intro v3 v5 h r hf kx
    unfold M_cuts_L19 at hf
    refine PW.iload cx qX7_cuts_19 rfl ?_
    refine PW.aload_n cx qX7_cuts_21 rfl ?_
    refine PW.iload cx qX7_cuts_22 rfl ?_
    refine PW.callVRI (As := [.int c4]) (st := [.int v5]) cx hR qX7_cuts_24 klX7_92 mvX7_beds (sh_140 hx) rfl rfl rfl rfl (Nat.le_of_ble_eq_true rfl) (Nat.le_of_ble_eq_true rfl) (Nat.le_of_ble_eq_true rfl) (Nat.zero_le _) (Nat.zero_le _) hf sne (fun t e => ctX7_beds hx h c4 t e) (fun t2 hf => ?_)
    refine PW.icmp_ge cx qX7_cuts_27 hf (fun hf => ?_) (fun hf => ?_)
    · exact PW.locs (Lsub.keep (Lsub.keep (Lsub.keep (Lsub.keep (Lsub.keep (Lsub.drop (Lsub.drop Lsub.nil))))))) (kx v3 h (Option.some.inj hf).symm)
    · refine PW.aload_n cx qX7_cuts_30 rfl ?_
      refine PW.iload cx qX7_cuts_31 rfl ?_
      refine PW.iload cx qX7_cuts_33 rfl ?_
      refine PW.callVRI (As := [.int c4, .int v5]) (st := []) cx hR qX7_cuts_35 klX7_102 mvX7_inBed (sh_140 hx) rfl rfl rfl rfl (Nat.le_of_ble_eq_true rfl) (Nat.le_of_ble_eq_true rfl) (Nat.le_of_ble_eq_true rfl) (Nat.zero_le _) (Nat.zero_le _) hf sne (fun t e => ctX7_inBed hx h c4 v5 t e) (fun t3 hf => ?_)
      refine PW.istore (L' := [some (.ref (gB g + 140)), some (.int c1), some (.int c2), some (.int v3), some (.int c4), some (.int v5), some (.int t3)]) cx qX7_cuts_38 hi6 rfl rfl ?_
      refine PW.iload cx qX7_cuts_40 rfl ?_
      refine PW.if_lt cx qX7_cuts_42 hf (fun hf => ?_) (fun hf => ?_)
      · refine PW.iinc (v := 1) (L' := [some (.ref (gB g + 140)), some (.int c1), some (.int c2), some (.int v3), some (.int c4), some (.int (v5 + 1)), some (.int t3)]) cx qX7_cuts_116 rfl rfl hi5 rfl rfl ?_
        refine PW.goto cx qX7_cuts_119 ?_
        exact PW.locs (Lsub.keep (Lsub.keep (Lsub.keep (Lsub.keep (Lsub.keep (Lsub.keep (Lsub.drop Lsub.nil))))))) (ih v3 (v5 + 1) h _ hf kx)
      · refine PW.aload_n cx qX7_cuts_45 rfl ?_
        refine PW.iload_n cx qX7_cuts_46 rfl ?_
        refine PW.iconst (v := 1) cx qX7_cuts_47 rfl ?_
        refine PW.callVRI (As := [.int c1, .int 1]) (st := []) cx hR qX7_cuts_48 klX7_127 mvX7_scene (sh_140 hx) rfl rfl rfl rfl (Nat.le_of_ble_eq_true rfl) (Nat.le_of_ble_eq_true rfl) (Nat.le_of_ble_eq_true rfl) (Nat.zero_le _) (Nat.zero_le _) hf sne (fun t e => ctX7_scene hx h c1 1 t e) (fun t4 hf => ?_)
        refine PW.if_le cx qX7_cuts_51 hf (fun hf => ?_) (fun hf => ?_)
        · refine PW.iinc (v := 1) (L' := [some (.ref (gB g + 140)), some (.int c1), some (.int c2), some (.int v3), some (.int c4), some (.int (v5 + 1)), some (.int t3)]) cx qX7_cuts_116 rfl rfl hi5 rfl rfl ?_
          refine PW.goto cx qX7_cuts_119 ?_
          exact PW.locs (Lsub.keep (Lsub.keep (Lsub.keep (Lsub.keep (Lsub.keep (Lsub.keep (Lsub.drop Lsub.nil))))))) (ih v3 (v5 + 1) h _ hf kx)
        · refine PW.aload_n cx qX7_cuts_54 rfl ?_
          refine PW.iload cx qX7_cuts_55 rfl ?_
          refine PW.iload_n cx qX7_cuts_57 rfl ?_
          refine PW.callVRI (As := [.int t3, .int c2]) (st := []) cx hR qX7_cuts_58 klX7_130 mvX7_matchOf (sh_140 hx) rfl rfl rfl rfl (Nat.le_of_ble_eq_true rfl) (Nat.le_of_ble_eq_true rfl) (Nat.le_of_ble_eq_true rfl) (Nat.zero_le _) (Nat.zero_le _) hf sne (fun t e => ctX7_matchOf hx h t3 c2 t e) (fun t5 hf => ?_)
          refine PW.iconst (v := (-1)) cx qX7_cuts_61 rfl ?_
          refine PW.icmp_eq cx qX7_cuts_62 hf (fun hf => ?_) (fun hf => ?_)
          · refine PW.iinc (v := 1) (L' := [some (.ref (gB g + 140)), some (.int c1), some (.int c2), some (.int v3), some (.int c4), some (.int (v5 + 1)), some (.int t3)]) cx qX7_cuts_116 rfl rfl hi5 rfl rfl ?_
            refine PW.goto cx qX7_cuts_119 ?_
            exact PW.locs (Lsub.keep (Lsub.keep (Lsub.keep (Lsub.keep (Lsub.keep (Lsub.keep (Lsub.drop Lsub.nil))))))) (ih v3 (v5 + 1) h _ hf kx)
          · refine PW.aload_n cx qX7_cuts_65 rfl ?_
            refine PW.iload cx qX7_cuts_66 rfl ?_
            refine PW.iconst (v := 0) cx qX7_cuts_68 rfl ?_
            refine PW.callVWIc (As := [.int t3, .int 0]) (st := []) cx hR qX7_cuts_69 klX7_133 mvX7_leaves (sh_140 hx) rfl rfl rfl rfl (Nat.le_of_ble_eq_true rfl) (Nat.le_of_ble_eq_true rfl) (Nat.le_of_ble_eq_true rfl) (Nat.zero_le _) (Nat.zero_le _) hf sne (fun t e => ctX7_leaves hx h t3 0 t e) (fun t6 h7 hf => ?_)
            refine PW.pop cx qX7_cuts_72 rfl ?_
            refine PW.aload_n cx qX7_cuts_73 rfl ?_
            refine PW.iload cx qX7_cuts_74 rfl ?_
            refine PW.iconst (v := 3) cx qX7_cuts_76 rfl ?_
            refine PW.iload_n cx qX7_cuts_77 rfl ?_
            refine PW.callVWV (As := [.int t3, .int 3, .int c1]) (st := []) cx hR qX7_cuts_78 klX7_117 mvX7_to (sh_140 hx) rfl rfl rfl rfl (Nat.le_of_ble_eq_true rfl) (Nat.le_of_ble_eq_true rfl) (Nat.le_of_ble_eq_true rfl) (Nat.zero_le _) (Nat.zero_le _) hf sne (fun t e => ctX7_to hx h7 t3 3 c1 t e) (fun h9 hf => ?_)
            refine PW.aload_n cx qX7_cuts_81 rfl ?_
            refine PW.getf (t := (2, 141)) (v := .ref (gB g + 141)) cx qX7_cuts_82 (sh_140 hx) rfl flX7_7 rfl ?_
            refine PW.bipush (v := 96) cx qX7_cuts_85 rfl ?_
            refine PW.iconst (v := 2) cx qX7_cuts_87 rfl ?_
            refine PW.iload_n cx qX7_cuts_88 rfl ?_
            refine PW.imul cx qX7_cuts_89 ?_
            refine PW.iadd cx qX7_cuts_90 ?_
            refine PW.iconst (v := 1) cx qX7_cuts_91 rfl ?_
            refine PW.iadd cx qX7_cuts_92 ?_
            refine PW.dup2 cx qX7_cuts_93 rfl rfl ?_
            refine PW.iald cx qX7_cuts_94 (sh_141 hx) hf sne (fun t10 hf => ?_)
            refine PW.iconst (v := 1) cx qX7_cuts_95 rfl ?_
            refine PW.isub cx qX7_cuts_96 ?_
            refine PW.iast cx qX7_cuts_97 (sh_141 hx) hf sne (fun h11 hf => ?_)
            refine PW.aload_n cx qX7_cuts_98 rfl ?_
            refine PW.getf (t := (2, 141)) (v := .ref (gB g + 141)) cx qX7_cuts_99 (sh_140 hx) rfl flX7_7 rfl ?_
            refine PW.bipush (v := 7) cx qX7_cuts_102 rfl ?_
            refine PW.dup2 cx qX7_cuts_104 rfl rfl ?_
            refine PW.iald cx qX7_cuts_105 (sh_141 hx) hf sne (fun t12 hf => ?_)
            refine PW.iconst (v := 1) cx qX7_cuts_106 rfl ?_
            refine PW.iadd cx qX7_cuts_107 ?_
            refine PW.iast cx qX7_cuts_108 (sh_141 hx) hf sne (fun h13 hf => ?_)
            refine PW.iload_n cx qX7_cuts_109 rfl ?_
            refine PW.iconst (v := 1) cx qX7_cuts_110 rfl ?_
            refine PW.iload cx qX7_cuts_111 rfl ?_
            refine PW.ishl cx qX7_cuts_113 ?_
            refine PW.ior cx qX7_cuts_114 ?_
            refine PW.istore_n (L' := [some (.ref (gB g + 140)), some (.int c1), some (.int c2), some (.int (v3 ||| (1 <<< (t3 &&& 31)))), some (.int c4), some (.int v5), some (.int t3)]) cx qX7_cuts_115 hi3 rfl rfl ?_
            refine PW.iinc (v := 1) (L' := [some (.ref (gB g + 140)), some (.int c1), some (.int c2), some (.int (v3 ||| (1 <<< (t3 &&& 31)))), some (.int c4), some (.int (v5 + 1)), some (.int t3)]) cx qX7_cuts_116 rfl rfl hi5 rfl rfl ?_
            refine PW.goto cx qX7_cuts_119 ?_
            exact PW.locs (Lsub.keep (Lsub.keep (Lsub.keep (Lsub.keep (Lsub.keep (Lsub.keep (Lsub.drop Lsub.nil))))))) (ih (v3 ||| (1 <<< (t3 &&& 31))) (v5 + 1) h13 _ hf kx)
set_option maxRecDepth 20000 in
theorem lX7_cuts_5 {g : GT} {X : XT} {ex : Bool} {post : Option Value → List Shp → Hp → Prop} {sh : List Shp} (mx : Mx g X mX7_cuts 4 0 0) (hx : MSh sh) (c1 : Int32) (c2 : Int32) : ∀ (n : Nat) (v3 : Int32) (v4 : Int32) (h : Hp) (r : Int32 × Hp) (hf : M_cuts_L5 c1 c2 n v3 v4 h = some r) (kx : ∀ (x3 : Int32) (h1 : Hp), r = (x3, h1) → PW g X ex (QE g X ex post 0 0) 0 0 sh h1 128 [some (.ref (gB g + 140)), some (.int c1), some (.int c2), some (.int x3), none, none, none] []), PW g X ex (QE g X ex post 0 0) 0 0 sh h 5 [some (.ref (gB g + 140)), some (.int c1), some (.int c2), some (.int v3), some (.int v4), none, none] [] := by
  have mx0 := mx
  obtain ⟨cx, hR, hml, hrt, -⟩ := mx0
  have cx : Cx g X RX7 cX7_cuts := cx
  have hrt : X.2.2.2.2.2.2.2.1.sig.returnType = (some .int) := hrt
  have hi3 : 3 < X.2.2.2.2.2.2.2.2.maxLocals := by rw [hml]; exact Nat.le_of_ble_eq_true rfl
  have hi4 : 4 < X.2.2.2.2.2.2.2.2.maxLocals := by rw [hml]; exact Nat.le_of_ble_eq_true rfl
  have hi5 : 5 < X.2.2.2.2.2.2.2.2.maxLocals := by rw [hml]; exact Nat.le_of_ble_eq_true rfl
  have hi6 : 6 < X.2.2.2.2.2.2.2.2.maxLocals := by rw [hml]; exact Nat.le_of_ble_eq_true rfl
  intro n
  induction n with
  | zero =>
    intro v3 v4 h r hf kx
    cases hf
  | succ n ih =>
    intro v3 v4 h r hf kx
    unfold M_cuts_L5 at hf
    refine PW.iload cx qX7_cuts_5 rfl ?_
    refine PW.aload_n cx qX7_cuts_7 rfl ?_
    refine PW.getf (t := (2, 141)) (v := .ref (gB g + 141)) cx qX7_cuts_8 (sh_140 hx) rfl flX7_7 rfl ?_
    refine PW.iconst (v := 3) cx qX7_cuts_11 rfl ?_
    refine PW.iald cx qX7_cuts_12 (sh_141 hx) hf sne (fun t1 hf => ?_)
    refine PW.icmp_ge cx qX7_cuts_13 hf (fun hf => ?_) (fun hf => ?_)
    · exact PW.locs (Lsub.keep (Lsub.keep (Lsub.keep (Lsub.keep (Lsub.drop (Lsub.drop (Lsub.drop Lsub.nil))))))) (kx v3 h (Option.some.inj hf).symm)
    · refine PW.iconst (v := 0) cx qX7_cuts_16 rfl ?_
      refine PW.istore (L' := [some (.ref (gB g + 140)), some (.int c1), some (.int c2), some (.int v3), some (.int v4), some (.int 0), none]) cx qX7_cuts_17 hi5 rfl rfl ?_
      obtain ⟨r14, er14, hf⟩ := bndO hf sne
      refine PW.locs (Lsub.keep (Lsub.keep (Lsub.keep (Lsub.keep (Lsub.keep (Lsub.keep (Lsub.drop Lsub.nil))))))) (lX7_cuts_19 mx hx c1 c2 v4 FU v3 0 h r14 er14 (fun x3_15 h16 e => ?_))
      subst e
      refine PW.iinc (v := 1) (L' := [some (.ref (gB g + 140)), some (.int c1), some (.int c2), some (.int x3_15), some (.int (v4 + 1)), none, none]) cx qX7_cuts_122 rfl rfl hi4 rfl rfl ?_
      refine PW.goto cx qX7_cuts_125 ?_
      exact PW.locs (Lsub.keep (Lsub.keep (Lsub.keep (Lsub.keep (Lsub.keep (Lsub.drop (Lsub.drop Lsub.nil))))))) (ih x3_15 (v4 + 1) h16 _ hf kx)
set_option maxRecDepth 20000 in
theorem ctX7_cuts {g : GT} {ex : Bool} {sh : List Shp} (hx : MSh sh) (h : Hp) (p1 : Int32) (p2 : Int32) (r0 : Int32 × Hp) (hf : M_cuts h p1 p2 = some r0) : Ct g mX7_cuts 4 0 0 ex [.ref (gB g + 140), .int p1, .int p2] sh h (PE (some (.int r0.1)) sh r0.2) := by
  refine Ct.of (L := [some (.ref (gB g + 140)), some (.int p1), some (.int p2), none, none, none, none]) (by decide) (by intro w hw; simp only [List.mem_cons, List.not_mem_nil, or_false] at hw; rcases hw with rfl | rfl | rfl <;> rfl) (Nat.le_of_ble_eq_true rfl) rfl (fun X mx => ?_)
  have mx0 := mx
  obtain ⟨cx, hR, hml, hrt, -⟩ := mx0
  have cx : Cx g X RX7 cX7_cuts := cx
  have hrt : X.2.2.2.2.2.2.2.1.sig.returnType = (some .int) := hrt
  have hi3 : 3 < X.2.2.2.2.2.2.2.2.maxLocals := by rw [hml]; exact Nat.le_of_ble_eq_true rfl
  have hi4 : 4 < X.2.2.2.2.2.2.2.2.maxLocals := by rw [hml]; exact Nat.le_of_ble_eq_true rfl
  have hi5 : 5 < X.2.2.2.2.2.2.2.2.maxLocals := by rw [hml]; exact Nat.le_of_ble_eq_true rfl
  have hi6 : 6 < X.2.2.2.2.2.2.2.2.maxLocals := by rw [hml]; exact Nat.le_of_ble_eq_true rfl
  unfold M_cuts at hf
  refine PW.iconst (v := 0) cx qX7_cuts_0 rfl ?_
  refine PW.istore_n (L' := [some (.ref (gB g + 140)), some (.int p1), some (.int p2), some (.int 0), none, none, none]) cx qX7_cuts_1 hi3 rfl rfl ?_
  refine PW.iconst (v := 0) cx qX7_cuts_2 rfl ?_
  refine PW.istore (L' := [some (.ref (gB g + 140)), some (.int p1), some (.int p2), some (.int 0), some (.int 0), none, none]) cx qX7_cuts_3 hi4 rfl rfl ?_
  obtain ⟨r17, er17, hf⟩ := bndO hf sne
  refine PW.locs (Lsub.keep (Lsub.keep (Lsub.keep (Lsub.keep (Lsub.keep (Lsub.drop (Lsub.drop Lsub.nil))))))) (lX7_cuts_5 mx hx p1 p2 FU 0 0 h r17 er17 (fun x3_18 h19 e => ?_))
  subst e
  refine PW.iload_n cx qX7_cuts_128 rfl ?_
  exact PW.iret cx hrt qX7_cuts_129 (le_wi hf)
set_option maxRecDepth 20000 in
theorem lX7_airs_11 {g : GT} {X : XT} {ex : Bool} {post : Option Value → List Shp → Hp → Prop} {sh : List Shp} (mx : Mx g X mX7_airs 7 0 0) (hx : MSh sh) (c1 : Int32) (d2 : Int32) : ∀ (n : Nat) (v3 : Int32) (v4 : Int32) (h : Hp) (r : Int32 × Hp) (hf : M_airs_L11 c1 n v3 v4 h = some r) (kx : ∀ (x3 : Int32) (h1 : Hp), r = (x3, h1) → PW g X ex (QE g X ex post 0 0) 0 0 sh h1 55 [some (.ref (gB g + 140)), some (.int c1), some (.int d2), some (.int x3), none] []), PW g X ex (QE g X ex post 0 0) 0 0 sh h 11 [some (.ref (gB g + 140)), some (.int c1), some (.int d2), some (.int v3), some (.int v4)] [] := by
  have mx0 := mx
  obtain ⟨cx, hR, hml, hrt, -⟩ := mx0
  have cx : Cx g X RX7 cX7_airs := cx
  have hrt : X.2.2.2.2.2.2.2.1.sig.returnType = (some .int) := hrt
  have hi2 : 2 < X.2.2.2.2.2.2.2.2.maxLocals := by rw [hml]; exact Nat.le_of_ble_eq_true rfl
  have hi3 : 3 < X.2.2.2.2.2.2.2.2.maxLocals := by rw [hml]; exact Nat.le_of_ble_eq_true rfl
  have hi4 : 4 < X.2.2.2.2.2.2.2.2.maxLocals := by rw [hml]; exact Nat.le_of_ble_eq_true rfl
  intro n
  induction n with
  | zero =>
    intro v3 v4 h r hf kx
    cases hf
  | succ n ih =>
    intro v3 v4 h r hf kx
    unfold M_airs_L11 at hf
    refine PW.iload cx qX7_airs_11 rfl ?_
    refine PW.aload_n cx qX7_airs_13 rfl ?_
    refine PW.iload_n cx qX7_airs_14 rfl ?_
    refine PW.callVRI (As := [.int c1]) (st := [.int v4]) cx hR qX7_airs_15 klX7_92 mvX7_beds (sh_140 hx) rfl rfl rfl rfl (Nat.le_of_ble_eq_true rfl) (Nat.le_of_ble_eq_true rfl) (Nat.le_of_ble_eq_true rfl) (Nat.zero_le _) (Nat.zero_le _) hf sne (fun t e => ctX7_beds hx h c1 t e) (fun t2 hf => ?_)
    refine PW.icmp_ge cx qX7_airs_18 hf (fun hf => ?_) (fun hf => ?_)
    · exact PW.locs (Lsub.keep (Lsub.keep (Lsub.keep (Lsub.keep (Lsub.drop Lsub.nil))))) (kx v3 h (Option.some.inj hf).symm)
    · refine PW.iload_n cx qX7_airs_21 rfl ?_
      refine PW.aload_n cx qX7_airs_22 rfl ?_
      refine PW.iload_n cx qX7_airs_23 rfl ?_
      refine PW.iload cx qX7_airs_24 rfl ?_
      refine PW.callVRI (As := [.int c1, .int v4]) (st := [.int v3]) cx hR qX7_airs_26 klX7_102 mvX7_inBed (sh_140 hx) rfl rfl rfl rfl (Nat.le_of_ble_eq_true rfl) (Nat.le_of_ble_eq_true rfl) (Nat.le_of_ble_eq_true rfl) (Nat.zero_le _) (Nat.zero_le _) hf sne (fun t e => ctX7_inBed hx h c1 v4 t e) (fun t3 hf => ?_)
      refine PW.bipush (v := (-2)) cx qX7_airs_29 rfl ?_
      obtain ⟨j39, ej39, hf⟩ := lt_split hf
      have hj39 : ∀ (z0_39 : Bool), j39 z0_39 = some r → PW g X ex (QE g X ex post 0 0) 0 0 sh h 39 [some (.ref (gB g + 140)), some (.int c1), some (.int d2), none, some (.int v4)] [.int (b2i z0_39), .int v3] := by
        intro z0_39 hf
        rw [ej39] at hf
        refine PW.iadd cx qX7_airs_39 ?_
        refine PW.istore_n (L' := [some (.ref (gB g + 140)), some (.int c1), some (.int d2), some (.int (v3 + (b2i z0_39))), some (.int v4)]) cx qX7_airs_40 hi3 rfl rfl ?_
        refine PW.aload_n cx qX7_airs_41 rfl ?_
        refine PW.iload_n cx qX7_airs_42 rfl ?_
        refine PW.iload cx qX7_airs_43 rfl ?_
        refine PW.iconst (v := (-1)) cx qX7_airs_45 rfl ?_
        refine PW.callVWV (As := [.int c1, .int v4, .int (-1)]) (st := []) cx hR qX7_airs_46 klX7_121 mvX7_setBed (sh_140 hx) rfl rfl rfl rfl (Nat.le_of_ble_eq_true rfl) (Nat.le_of_ble_eq_true rfl) (Nat.le_of_ble_eq_true rfl) (Nat.zero_le _) (Nat.zero_le _) hf sne (fun t e => ctX7_setBed hx h c1 v4 (-1) t e) (fun h5 hf => ?_)
        refine PW.iinc (v := 1) (L' := [some (.ref (gB g + 140)), some (.int c1), some (.int d2), some (.int (v3 + (b2i z0_39))), some (.int (v4 + 1))]) cx qX7_airs_49 rfl rfl hi4 rfl rfl ?_
        refine PW.goto cx qX7_airs_52 ?_
        exact PW.locs (Lsub.keep (Lsub.keep (Lsub.keep (Lsub.keep (Lsub.keep Lsub.nil))))) (ih (v3 + (b2i z0_39)) (v4 + 1) h5 _ hf kx)
      refine PW.icmp_ne cx qX7_airs_31 hf (fun hf => ?_) (fun hf => ?_)
      · refine PW.iconst (v := 1) cx qX7_airs_34 rfl ?_
        refine PW.goto cx qX7_airs_35 ?_
        exact PW.locs (Lsub.keep (Lsub.keep (Lsub.keep (Lsub.drop (Lsub.keep Lsub.nil))))) (hj39 true hf)
      · refine PW.iconst (v := 0) cx qX7_airs_38 rfl ?_
        exact PW.locs (Lsub.keep (Lsub.keep (Lsub.keep (Lsub.drop (Lsub.keep Lsub.nil))))) (hj39 false hf)
set_option maxRecDepth 20000 in
theorem lX7_airs_58 {g : GT} {X : XT} {ex : Bool} {post : Option Value → List Shp → Hp → Prop} {sh : List Shp} (mx : Mx g X mX7_airs 7 0 0) (hx : MSh sh) (c1 : Int32) (c2 : Int32) (d3 : Int32) : ∀ (n : Nat) (v4 : Int32) (h : Hp) (r : Hp) (hf : M_airs_L58 c1 c2 n v4 h = some r) (kx : ∀ (h1 : Hp), r = h1 → PW g X ex (QE g X ex post 0 0) 0 0 sh h1 93 [some (.ref (gB g + 140)), some (.int c1), some (.int c2), some (.int d3), none] []), PW g X ex (QE g X ex post 0 0) 0 0 sh h 58 [some (.ref (gB g + 140)), some (.int c1), some (.int c2), some (.int d3), some (.int v4)] [] := by
  have mx0 := mx
  obtain ⟨cx, hR, hml, hrt, -⟩ := mx0
  have cx : Cx g X RX7 cX7_airs := cx
  have hrt : X.2.2.2.2.2.2.2.1.sig.returnType = (some .int) := hrt
  have hi2 : 2 < X.2.2.2.2.2.2.2.2.maxLocals := by rw [hml]; exact Nat.le_of_ble_eq_true rfl
  have hi3 : 3 < X.2.2.2.2.2.2.2.2.maxLocals := by rw [hml]; exact Nat.le_of_ble_eq_true rfl
  have hi4 : 4 < X.2.2.2.2.2.2.2.2.maxLocals := by rw [hml]; exact Nat.le_of_ble_eq_true rfl
  intro n
  induction n with
  | zero =>
    intro v4 h r hf kx
    cases hf
  | succ n ih =>
    intro v4 h r hf kx
    unfold M_airs_L58 at hf
    refine PW.iload cx qX7_airs_58 rfl ?_
    refine PW.aload_n cx qX7_airs_60 rfl ?_
    refine PW.getf (t := (2, 141)) (v := .ref (gB g + 141)) cx qX7_airs_61 (sh_140 hx) rfl flX7_7 rfl ?_
    refine PW.iconst (v := 2) cx qX7_airs_64 rfl ?_
    refine PW.iald cx qX7_airs_65 (sh_141 hx) hf sne (fun t9 hf => ?_)
    refine PW.icmp_ge cx qX7_airs_66 hf (fun hf => ?_) (fun hf => ?_)
    · exact PW.locs (Lsub.keep (Lsub.keep (Lsub.keep (Lsub.keep (Lsub.drop Lsub.nil))))) (kx h (Option.some.inj hf).symm)
    · refine PW.iload_n cx qX7_airs_69 rfl ?_
      refine PW.iload cx qX7_airs_70 rfl ?_
      refine PW.ishr cx qX7_airs_72 ?_
      refine PW.iconst (v := 1) cx qX7_airs_73 rfl ?_
      refine PW.iand cx qX7_airs_74 ?_
      refine PW.iconst (v := 1) cx qX7_airs_75 rfl ?_
      refine PW.icmp_ne cx qX7_airs_76 hf (fun hf => ?_) (fun hf => ?_)
      · refine PW.aload_n cx qX7_airs_79 rfl ?_
        refine PW.iload cx qX7_airs_80 rfl ?_
        refine PW.iload_n cx qX7_airs_82 rfl ?_
        refine PW.callVWIc (As := [.int v4, .int c1]) (st := []) cx hR qX7_airs_83 klX7_136 mvX7_liesDown (sh_140 hx) rfl rfl rfl rfl (Nat.le_of_ble_eq_true rfl) (Nat.le_of_ble_eq_true rfl) (Nat.le_of_ble_eq_true rfl) (Nat.zero_le _) (Nat.zero_le _) hf sne (fun t e => ctX7_liesDown hx h v4 c1 t e) (fun t10 h11 hf => ?_)
        refine PW.pop cx qX7_airs_86 rfl ?_
        refine PW.iinc (v := 1) (L' := [some (.ref (gB g + 140)), some (.int c1), some (.int c2), some (.int d3), some (.int (v4 + 1))]) cx qX7_airs_87 rfl rfl hi4 rfl rfl ?_
        refine PW.goto cx qX7_airs_90 ?_
        exact PW.locs (Lsub.keep (Lsub.keep (Lsub.keep (Lsub.keep (Lsub.keep Lsub.nil))))) (ih (v4 + 1) h11 _ hf kx)
      · refine PW.iinc (v := 1) (L' := [some (.ref (gB g + 140)), some (.int c1), some (.int c2), some (.int d3), some (.int (v4 + 1))]) cx qX7_airs_87 rfl rfl hi4 rfl rfl ?_
        refine PW.goto cx qX7_airs_90 ?_
        exact PW.locs (Lsub.keep (Lsub.keep (Lsub.keep (Lsub.keep (Lsub.keep Lsub.nil))))) (ih (v4 + 1) h _ hf kx)
set_option maxRecDepth 20000 in
theorem ctX7_airs {g : GT} {ex : Bool} {sh : List Shp} (hx : MSh sh) (h : Hp) (p1 : Int32) (r0 : Int32 × Hp) (hf : M_airs h p1 = some r0) : Ct g mX7_airs 7 0 0 ex [.ref (gB g + 140), .int p1] sh h (PE (some (.int r0.1)) sh r0.2) := by
  refine Ct.of (L := [some (.ref (gB g + 140)), some (.int p1), none, none, none]) (by decide) (by intro w hw; simp only [List.mem_cons, List.not_mem_nil, or_false] at hw; rcases hw with rfl | rfl <;> rfl) (Nat.le_of_ble_eq_true rfl) rfl (fun X mx => ?_)
  have mx0 := mx
  obtain ⟨cx, hR, hml, hrt, -⟩ := mx0
  have cx : Cx g X RX7 cX7_airs := cx
  have hrt : X.2.2.2.2.2.2.2.1.sig.returnType = (some .int) := hrt
  have hi2 : 2 < X.2.2.2.2.2.2.2.2.maxLocals := by rw [hml]; exact Nat.le_of_ble_eq_true rfl
  have hi3 : 3 < X.2.2.2.2.2.2.2.2.maxLocals := by rw [hml]; exact Nat.le_of_ble_eq_true rfl
  have hi4 : 4 < X.2.2.2.2.2.2.2.2.maxLocals := by rw [hml]; exact Nat.le_of_ble_eq_true rfl
  unfold M_airs at hf
  refine PW.aload_n cx qX7_airs_0 rfl ?_
  refine PW.iload_n cx qX7_airs_1 rfl ?_
  refine PW.callVRI (As := [.int p1]) (st := []) cx hR qX7_airs_2 klX7_111 mvX7_sleepersIn (sh_140 hx) rfl rfl rfl rfl (Nat.le_of_ble_eq_true rfl) (Nat.le_of_ble_eq_true rfl) (Nat.le_of_ble_eq_true rfl) (Nat.zero_le _) (Nat.zero_le _) hf sne (fun t e => ctX7_sleepersIn hx h p1 t e) (fun t1 hf => ?_)
  refine PW.istore_n (L' := [some (.ref (gB g + 140)), some (.int p1), some (.int t1), none, none]) cx qX7_airs_5 hi2 rfl rfl ?_
  refine PW.iconst (v := 0) cx qX7_airs_6 rfl ?_
  refine PW.istore_n (L' := [some (.ref (gB g + 140)), some (.int p1), some (.int t1), some (.int 0), none]) cx qX7_airs_7 hi3 rfl rfl ?_
  refine PW.iconst (v := 0) cx qX7_airs_8 rfl ?_
  refine PW.istore (L' := [some (.ref (gB g + 140)), some (.int p1), some (.int t1), some (.int 0), some (.int 0)]) cx qX7_airs_9 hi4 rfl rfl ?_
  obtain ⟨r6, er6, hf⟩ := bndO hf sne
  refine PW.locs (Lsub.keep (Lsub.keep (Lsub.keep (Lsub.keep (Lsub.keep Lsub.nil))))) (lX7_airs_11 mx hx p1 t1 FU 0 0 h r6 er6 (fun x3_7 h8 e => ?_))
  subst e
  refine PW.iconst (v := 0) cx qX7_airs_55 rfl ?_
  refine PW.istore (L' := [some (.ref (gB g + 140)), some (.int p1), some (.int t1), some (.int x3_7), some (.int 0)]) cx qX7_airs_56 hi4 rfl rfl ?_
  obtain ⟨r12, er12, hf⟩ := bndO hf sne
  refine PW.locs (Lsub.keep (Lsub.keep (Lsub.keep (Lsub.keep (Lsub.keep Lsub.nil))))) (lX7_airs_58 mx hx p1 t1 x3_7 FU 0 h8 r12 er12 (fun xx_ e => ?_))
  subst e
  refine PW.iload_n cx qX7_airs_93 rfl ?_
  exact PW.iret cx hrt qX7_airs_94 (le_wi hf)
set_option maxRecDepth 20000 in
theorem ctX7_canFeed {g : GT} {ex : Bool} {sh : List Shp} (hx : MSh sh) (h : Hp) (p1 : Int32) (p2 : Int32) (r0 : Bool) (hf : M_canFeed h p1 p2 = some r0) : Ct g mX7_canFeed 1 0 0 ex [.ref (gB g + 140), .int p1, .int p2] sh h (PE (some (.int (b2i r0))) sh h) := by
  refine Ct.of (L := [some (.ref (gB g + 140)), some (.int p1), some (.int p2)]) (by decide) (by intro w hw; simp only [List.mem_cons, List.not_mem_nil, or_false] at hw; rcases hw with rfl | rfl | rfl <;> rfl) (Nat.le_of_ble_eq_true rfl) rfl (fun X mx => ?_)
  obtain ⟨cx, hR, hml, hrt, -⟩ := mx
  have cx : Cx g X RX7 cX7_canFeed := cx
  have hrt : X.2.2.2.2.2.2.2.1.sig.returnType = (some .boolean) := hrt
  unfold M_canFeed at hf
  refine PW.aload_n cx qX7_canFeed_0 rfl ?_
  refine PW.iload_n cx qX7_canFeed_1 rfl ?_
  refine PW.iconst (v := 1) cx qX7_canFeed_2 rfl ?_
  refine PW.callVRI (As := [.int p1, .int 1]) (st := []) cx hR qX7_canFeed_3 klX7_70 mvX7_of (sh_140 hx) rfl rfl rfl rfl (Nat.le_of_ble_eq_true rfl) (Nat.le_of_ble_eq_true rfl) (Nat.le_of_ble_eq_true rfl) (Nat.zero_le _) (Nat.zero_le _) hf sne (fun t e => ctX7_of hx h p1 1 t e) (fun t1 hf => ?_)
  refine PW.if_ne cx qX7_canFeed_6 hf (fun hf => ?_) (fun hf => ?_)
  · refine PW.aload_n cx qX7_canFeed_9 rfl ?_
    refine PW.getf (t := (2, 141)) (v := .ref (gB g + 141)) cx qX7_canFeed_10 (sh_140 hx) rfl flX7_7 rfl ?_
    refine PW.iconst (v := 1) cx qX7_canFeed_13 rfl ?_
    refine PW.iald cx qX7_canFeed_14 (sh_141 hx) hf sne (fun t2 hf => ?_)
    refine PW.iload_n cx qX7_canFeed_15 rfl ?_
    refine PW.icmp_lt cx qX7_canFeed_16 hf (fun hf => ?_) (fun hf => ?_)
    · refine PW.iconst (v := 0) cx qX7_canFeed_36 rfl ?_
      exact PW.zret cx hrt nb0 qX7_canFeed_37 (le_rz hf)
    · refine PW.aload_n cx qX7_canFeed_19 rfl ?_
      refine PW.iload_n cx qX7_canFeed_20 rfl ?_
      refine PW.iconst (v := 2) cx qX7_canFeed_21 rfl ?_
      refine PW.callVRI (As := [.int p1, .int 2]) (st := []) cx hR qX7_canFeed_22 klX7_70 mvX7_of (sh_140 hx) rfl rfl rfl rfl (Nat.le_of_ble_eq_true rfl) (Nat.le_of_ble_eq_true rfl) (Nat.le_of_ble_eq_true rfl) (Nat.zero_le _) (Nat.zero_le _) hf sne (fun t e => ctX7_of hx h p1 2 t e) (fun t3 hf => ?_)
      refine PW.iload_n cx qX7_canFeed_25 rfl ?_
      refine PW.iadd cx qX7_canFeed_26 ?_
      refine PW.bipush (v := 99) cx qX7_canFeed_27 rfl ?_
      refine PW.icmp_gt cx qX7_canFeed_29 hf (fun hf => ?_) (fun hf => ?_)
      · refine PW.iconst (v := 0) cx qX7_canFeed_36 rfl ?_
        exact PW.zret cx hrt nb0 qX7_canFeed_37 (le_rz hf)
      · refine PW.iconst (v := 1) cx qX7_canFeed_32 rfl ?_
        refine PW.goto cx qX7_canFeed_33 ?_
        exact PW.zret cx hrt nb1 qX7_canFeed_37 (le_rz hf)
  · refine PW.iconst (v := 0) cx qX7_canFeed_36 rfl ?_
    exact PW.zret cx hrt nb0 qX7_canFeed_37 (le_rz hf)
set_option maxRecDepth 20000 in
theorem ctX7_feeds {g : GT} {ex : Bool} {sh : List Shp} (hx : MSh sh) (h : Hp) (p1 : Int32) (p2 : Int32) (r0 : Int32 × Hp) (hf : M_feeds h p1 p2 = some r0) : Ct g mX7_feeds 1 0 0 ex [.ref (gB g + 140), .int p1, .int p2] sh h (PE (some (.int r0.1)) sh r0.2) := by
  refine Ct.of (L := [some (.ref (gB g + 140)), some (.int p1), some (.int p2)]) (by decide) (by intro w hw; simp only [List.mem_cons, List.not_mem_nil, or_false] at hw; rcases hw with rfl | rfl | rfl <;> rfl) (Nat.le_of_ble_eq_true rfl) rfl (fun X mx => ?_)
  obtain ⟨cx, hR, hml, hrt, -⟩ := mx
  have cx : Cx g X RX7 cX7_feeds := cx
  have hrt : X.2.2.2.2.2.2.2.1.sig.returnType = (some .int) := hrt
  unfold M_feeds at hf
  refine PW.aload_n cx qX7_feeds_0 rfl ?_
  refine PW.iload_n cx qX7_feeds_1 rfl ?_
  refine PW.iconst (v := 2) cx qX7_feeds_2 rfl ?_
  refine PW.aload_n cx qX7_feeds_3 rfl ?_
  refine PW.iload_n cx qX7_feeds_4 rfl ?_
  refine PW.iconst (v := 2) cx qX7_feeds_5 rfl ?_
  refine PW.callVRI (As := [.int p1, .int 2]) (st := [.int 2, .int p1, .ref (gB g + 140)]) cx hR qX7_feeds_6 klX7_70 mvX7_of (sh_140 hx) rfl rfl rfl rfl (Nat.le_of_ble_eq_true rfl) (Nat.le_of_ble_eq_true rfl) (Nat.le_of_ble_eq_true rfl) (Nat.zero_le _) (Nat.zero_le _) hf sne (fun t e => ctX7_of hx h p1 2 t e) (fun t1 hf => ?_)
  refine PW.iload_n cx qX7_feeds_9 rfl ?_
  refine PW.iadd cx qX7_feeds_10 ?_
  refine PW.callVWV (As := [.int p1, .int 2, .int (t1 + p2)]) (st := []) cx hR qX7_feeds_11 klX7_117 mvX7_to (sh_140 hx) rfl rfl rfl rfl (Nat.le_of_ble_eq_true rfl) (Nat.le_of_ble_eq_true rfl) (Nat.le_of_ble_eq_true rfl) (Nat.zero_le _) (Nat.zero_le _) hf sne (fun t e => ctX7_to hx h p1 2 (t1 + p2) t e) (fun h3 hf => ?_)
  refine PW.aload_n cx qX7_feeds_14 rfl ?_
  refine PW.getf (t := (2, 141)) (v := .ref (gB g + 141)) cx qX7_feeds_15 (sh_140 hx) rfl flX7_7 rfl ?_
  refine PW.iconst (v := 1) cx qX7_feeds_18 rfl ?_
  refine PW.dup2 cx qX7_feeds_19 rfl rfl ?_
  refine PW.iald cx qX7_feeds_20 (sh_141 hx) hf sne (fun t4 hf => ?_)
  refine PW.iload_n cx qX7_feeds_21 rfl ?_
  refine PW.isub cx qX7_feeds_22 ?_
  refine PW.iast cx qX7_feeds_23 (sh_141 hx) hf sne (fun h5 hf => ?_)
  refine PW.aload_n cx qX7_feeds_24 rfl ?_
  refine PW.getf (t := (2, 141)) (v := .ref (gB g + 141)) cx qX7_feeds_25 (sh_140 hx) rfl flX7_7 rfl ?_
  refine PW.bipush (v := 6) cx qX7_feeds_28 rfl ?_
  refine PW.dup2 cx qX7_feeds_30 rfl rfl ?_
  refine PW.iald cx qX7_feeds_31 (sh_141 hx) hf sne (fun t6 hf => ?_)
  refine PW.iload_n cx qX7_feeds_32 rfl ?_
  refine PW.iadd cx qX7_feeds_33 ?_
  refine PW.iast cx qX7_feeds_34 (sh_141 hx) hf sne (fun h7 hf => ?_)
  refine PW.aload_n cx qX7_feeds_35 rfl ?_
  refine PW.iload_n cx qX7_feeds_36 rfl ?_
  refine PW.iconst (v := 2) cx qX7_feeds_37 rfl ?_
  refine PW.callVRI (As := [.int p1, .int 2]) (st := []) cx hR qX7_feeds_38 klX7_70 mvX7_of (sh_140 hx) rfl rfl rfl rfl (Nat.le_of_ble_eq_true rfl) (Nat.le_of_ble_eq_true rfl) (Nat.le_of_ble_eq_true rfl) (Nat.zero_le _) (Nat.zero_le _) hf sne (fun t e => ctX7_of hx h7 p1 2 t e) (fun t8 hf => ?_)
  exact PW.iret cx hrt qX7_feeds_41 (le_wi hf)
set_option maxRecDepth 20000 in
theorem lX7_paints_6 {g : GT} {X : XT} {ex : Bool} {post : Option Value → List Shp → Hp → Prop} {sh : List Shp} (mx : Mx g X mX7_paints 3 0 0) (hx : MSh sh) (h : Hp) (c1 : Int32) (c2 : Int32) (c3 : Int32) : ∀ (n : Nat) (v4 : Int32) (v5 : Int32) (r : Int32) (hf : M_paints_L6 h c1 c2 c3 n v4 v5 = some r) (kx : ∀ (x4 : Int32), r = x4 → PW g X ex (QE g X ex post 0 0) 0 0 sh h 55 [some (.ref (gB g + 140)), some (.int c1), some (.int c2), some (.int c3), some (.int x4), none] []), PW g X ex (QE g X ex post 0 0) 0 0 sh h 6 [some (.ref (gB g + 140)), some (.int c1), some (.int c2), some (.int c3), some (.int v4), some (.int v5)] [] := by
  have mx0 := mx
  obtain ⟨cx, hR, hml, hrt, -⟩ := mx0
  have cx : Cx g X RX7 cX7_paints := cx
  have hrt : X.2.2.2.2.2.2.2.1.sig.returnType = (some .int) := hrt
  have hi4 : 4 < X.2.2.2.2.2.2.2.2.maxLocals := by rw [hml]; exact Nat.le_of_ble_eq_true rfl
  have hi5 : 5 < X.2.2.2.2.2.2.2.2.maxLocals := by rw [hml]; exact Nat.le_of_ble_eq_true rfl
  intro n
  induction n with
  | zero =>
    intro v4 v5 r hf kx
    cases hf
  | succ n ih =>
    intro v4 v5 r hf kx
    unfold M_paints_L6 at hf
    refine PW.iload cx qX7_paints_6 rfl ?_
    refine PW.aload_n cx qX7_paints_8 rfl ?_
    refine PW.iload_n cx qX7_paints_9 rfl ?_
    refine PW.iconst (v := 0) cx qX7_paints_10 rfl ?_
    refine PW.callVRI (As := [.int c1, .int 0]) (st := [.int v5]) cx hR qX7_paints_11 klX7_70 mvX7_of (sh_140 hx) rfl rfl rfl rfl (Nat.le_of_ble_eq_true rfl) (Nat.le_of_ble_eq_true rfl) (Nat.le_of_ble_eq_true rfl) (Nat.zero_le _) (Nat.zero_le _) hf sne (fun t e => ctX7_of hx h c1 0 t e) (fun t1 hf => ?_)
    refine PW.callSRI (As := [.int t1]) (st := [.int v5]) cx hR qX7_paints_14 klX7_61 miX7_digits rfl rfl (Nat.le_of_ble_eq_true rfl) (Nat.le_of_ble_eq_true rfl) (Nat.le_of_ble_eq_true rfl) (Nat.zero_le _) (Nat.zero_le _) hf sne (fun t e => ctX7_digits h t1 t e) (fun t2 hf => ?_)
    refine PW.icmp_ge cx qX7_paints_17 hf (fun hf => ?_) (fun hf => ?_)
    · exact PW.locs (Lsub.keep (Lsub.keep (Lsub.keep (Lsub.keep (Lsub.keep (Lsub.drop Lsub.nil)))))) (kx v4 (Option.some.inj hf).symm)
    · refine PW.bipush (v := 10) cx qX7_paints_20 rfl ?_
      refine PW.iload cx qX7_paints_22 rfl ?_
      refine PW.imul cx qX7_paints_24 ?_
      refine PW.iload cx qX7_paints_25 rfl ?_
      refine PW.iload_n cx qX7_paints_27 rfl ?_
      refine PW.icmp_ne cx qX7_paints_28 hf (fun hf => ?_) (fun hf => ?_)
      · refine PW.iload_n cx qX7_paints_31 rfl ?_
        refine PW.goto cx qX7_paints_32 ?_
        refine PW.iadd cx qX7_paints_46 ?_
        refine PW.istore (L' := [some (.ref (gB g + 140)), some (.int c1), some (.int c2), some (.int c3), some (.int ((10 * v4) + c3)), some (.int v5)]) cx qX7_paints_47 hi4 rfl rfl ?_
        refine PW.iinc (v := 1) (L' := [some (.ref (gB g + 140)), some (.int c1), some (.int c2), some (.int c3), some (.int ((10 * v4) + c3)), some (.int (v5 + 1))]) cx qX7_paints_49 rfl rfl hi5 rfl rfl ?_
        refine PW.goto cx qX7_paints_52 ?_
        exact PW.locs (Lsub.keep (Lsub.keep (Lsub.keep (Lsub.keep (Lsub.keep (Lsub.keep Lsub.nil)))))) (ih ((10 * v4) + c3) (v5 + 1) _ hf kx)
      · refine PW.aload_n cx qX7_paints_35 rfl ?_
        refine PW.iload_n cx qX7_paints_36 rfl ?_
        refine PW.iconst (v := 0) cx qX7_paints_37 rfl ?_
        refine PW.callVRI (As := [.int c1, .int 0]) (st := [.int (10 * v4)]) cx hR qX7_paints_38 klX7_70 mvX7_of (sh_140 hx) rfl rfl rfl rfl (Nat.le_of_ble_eq_true rfl) (Nat.le_of_ble_eq_true rfl) (Nat.le_of_ble_eq_true rfl) (Nat.zero_le _) (Nat.zero_le _) hf sne (fun t e => ctX7_of hx h c1 0 t e) (fun t3 hf => ?_)
        refine PW.iload cx qX7_paints_41 rfl ?_
        refine PW.callSRI (As := [.int t3, .int v5]) (st := [.int (10 * v4)]) cx hR qX7_paints_43 klX7_74 miX7_digit rfl rfl (Nat.le_of_ble_eq_true rfl) (Nat.le_of_ble_eq_true rfl) (Nat.le_of_ble_eq_true rfl) (Nat.zero_le _) (Nat.zero_le _) hf sne (fun t e => ctX7_digit h t3 v5 t e) (fun t4 hf => ?_)
        refine PW.iadd cx qX7_paints_46 ?_
        refine PW.istore (L' := [some (.ref (gB g + 140)), some (.int c1), some (.int c2), some (.int c3), some (.int ((10 * v4) + t4)), some (.int v5)]) cx qX7_paints_47 hi4 rfl rfl ?_
        refine PW.iinc (v := 1) (L' := [some (.ref (gB g + 140)), some (.int c1), some (.int c2), some (.int c3), some (.int ((10 * v4) + t4)), some (.int (v5 + 1))]) cx qX7_paints_49 rfl rfl hi5 rfl rfl ?_
        refine PW.goto cx qX7_paints_52 ?_
        exact PW.locs (Lsub.keep (Lsub.keep (Lsub.keep (Lsub.keep (Lsub.keep (Lsub.keep Lsub.nil)))))) (ih ((10 * v4) + t4) (v5 + 1) _ hf kx)
set_option maxRecDepth 20000 in
theorem ctX7_paints {g : GT} {ex : Bool} {sh : List Shp} (hx : MSh sh) (h : Hp) (p1 : Int32) (p2 : Int32) (p3 : Int32) (r0 : Int32 × Hp) (hf : M_paints h p1 p2 p3 = some r0) : Ct g mX7_paints 3 0 0 ex [.ref (gB g + 140), .int p1, .int p2, .int p3] sh h (PE (some (.int r0.1)) sh r0.2) := by
  refine Ct.of (L := [some (.ref (gB g + 140)), some (.int p1), some (.int p2), some (.int p3), none, none]) (by decide) (by intro w hw; simp only [List.mem_cons, List.not_mem_nil, or_false] at hw; rcases hw with rfl | rfl | rfl | rfl <;> rfl) (Nat.le_of_ble_eq_true rfl) rfl (fun X mx => ?_)
  have mx0 := mx
  obtain ⟨cx, hR, hml, hrt, -⟩ := mx0
  have cx : Cx g X RX7 cX7_paints := cx
  have hrt : X.2.2.2.2.2.2.2.1.sig.returnType = (some .int) := hrt
  have hi4 : 4 < X.2.2.2.2.2.2.2.2.maxLocals := by rw [hml]; exact Nat.le_of_ble_eq_true rfl
  have hi5 : 5 < X.2.2.2.2.2.2.2.2.maxLocals := by rw [hml]; exact Nat.le_of_ble_eq_true rfl
  unfold M_paints at hf
  refine PW.iconst (v := 0) cx qX7_paints_0 rfl ?_
  refine PW.istore (L' := [some (.ref (gB g + 140)), some (.int p1), some (.int p2), some (.int p3), some (.int 0), none]) cx qX7_paints_1 hi4 rfl rfl ?_
  refine PW.iconst (v := 0) cx qX7_paints_3 rfl ?_
  refine PW.istore (L' := [some (.ref (gB g + 140)), some (.int p1), some (.int p2), some (.int p3), some (.int 0), some (.int 0)]) cx qX7_paints_4 hi5 rfl rfl ?_
  obtain ⟨r5, er5, hf⟩ := bndO hf sne
  refine PW.locs (Lsub.keep (Lsub.keep (Lsub.keep (Lsub.keep (Lsub.keep (Lsub.keep Lsub.nil)))))) (lX7_paints_6 mx hx h p1 p2 p3 FU 0 0 r5 er5 (fun xx_ e => ?_))
  subst e
  refine PW.aload_n cx qX7_paints_55 rfl ?_
  refine PW.iload_n cx qX7_paints_56 rfl ?_
  refine PW.iconst (v := 0) cx qX7_paints_57 rfl ?_
  refine PW.iload cx qX7_paints_58 rfl ?_
  refine PW.callVWV (As := [.int p1, .int 0, .int r5]) (st := []) cx hR qX7_paints_60 klX7_117 mvX7_to (sh_140 hx) rfl rfl rfl rfl (Nat.le_of_ble_eq_true rfl) (Nat.le_of_ble_eq_true rfl) (Nat.le_of_ble_eq_true rfl) (Nat.zero_le _) (Nat.zero_le _) hf sne (fun t e => ctX7_to hx h p1 0 r5 t e) (fun h7 hf => ?_)
  refine PW.aload_n cx qX7_paints_63 rfl ?_
  refine PW.iload_n cx qX7_paints_64 rfl ?_
  refine PW.callVRI (As := [.int p1]) (st := []) cx hR qX7_paints_65 klX7_89 mvX7_hashOf (sh_140 hx) rfl rfl rfl rfl (Nat.le_of_ble_eq_true rfl) (Nat.le_of_ble_eq_true rfl) (Nat.le_of_ble_eq_true rfl) (Nat.zero_le _) (Nat.zero_le _) hf sne (fun t e => ctX7_hashOf hx h7 p1 t e) (fun t8 hf => ?_)
  exact PW.iret cx hrt qX7_paints_68 (le_wi hf)
set_option maxRecDepth 20000 in
theorem ctX7_burns {g : GT} {ex : Bool} {sh : List Shp} (hx : MSh sh) (h : Hp) (p1 : Int32) (r0 : Bool × Hp) (hf : M_burns h p1 = some r0) : Ct g mX7_burns 4 0 0 ex [.ref (gB g + 140), .int p1] sh h (PE (some (.int (b2i r0.1))) sh r0.2) := by
  refine Ct.of (L := [some (.ref (gB g + 140)), some (.int p1), none]) (by decide) (by intro w hw; simp only [List.mem_cons, List.not_mem_nil, or_false] at hw; rcases hw with rfl | rfl <;> rfl) (Nat.le_of_ble_eq_true rfl) rfl (fun X mx => ?_)
  obtain ⟨cx, hR, hml, hrt, -⟩ := mx
  have cx : Cx g X RX7 cX7_burns := cx
  have hrt : X.2.2.2.2.2.2.2.1.sig.returnType = (some .boolean) := hrt
  have hi2 : 2 < X.2.2.2.2.2.2.2.2.maxLocals := by rw [hml]; exact Nat.le_of_ble_eq_true rfl
  unfold M_burns at hf
  refine PW.aload_n cx qX7_burns_0 rfl ?_
  refine PW.iload_n cx qX7_burns_1 rfl ?_
  refine PW.iconst (v := 1) cx qX7_burns_2 rfl ?_
  refine PW.callVRI (As := [.int p1, .int 1]) (st := []) cx hR qX7_burns_3 klX7_70 mvX7_of (sh_140 hx) rfl rfl rfl rfl (Nat.le_of_ble_eq_true rfl) (Nat.le_of_ble_eq_true rfl) (Nat.le_of_ble_eq_true rfl) (Nat.zero_le _) (Nat.zero_le _) hf sne (fun t e => ctX7_of hx h p1 1 t e) (fun t1 hf => ?_)
  refine PW.iconst (v := 2) cx qX7_burns_6 rfl ?_
  refine PW.icmp_ne cx qX7_burns_7 hf (fun hf => ?_) (fun hf => ?_)
  · refine PW.iconst (v := 0) cx qX7_burns_10 rfl ?_
    exact PW.zret cx hrt nb0 qX7_burns_11 (le_wz hf)
  · refine PW.aload_n cx qX7_burns_12 rfl ?_
    refine PW.iload_n cx qX7_burns_13 rfl ?_
    refine PW.iconst (v := 2) cx qX7_burns_14 rfl ?_
    refine PW.callVRI (As := [.int p1, .int 2]) (st := []) cx hR qX7_burns_15 klX7_70 mvX7_of (sh_140 hx) rfl rfl rfl rfl (Nat.le_of_ble_eq_true rfl) (Nat.le_of_ble_eq_true rfl) (Nat.le_of_ble_eq_true rfl) (Nat.zero_le _) (Nat.zero_le _) hf sne (fun t e => ctX7_of hx h p1 2 t e) (fun t2 hf => ?_)
    refine PW.aload_n cx qX7_burns_18 rfl ?_
    refine PW.iload_n cx qX7_burns_19 rfl ?_
    refine PW.iconst (v := 1) cx qX7_burns_20 rfl ?_
    refine PW.callVRI (As := [.int p1, .int 1]) (st := [.int t2]) cx hR qX7_burns_21 klX7_70 mvX7_of (sh_140 hx) rfl rfl rfl rfl (Nat.le_of_ble_eq_true rfl) (Nat.le_of_ble_eq_true rfl) (Nat.le_of_ble_eq_true rfl) (Nat.zero_le _) (Nat.zero_le _) hf sne (fun t e => ctX7_of hx h p1 1 t e) (fun t3 hf => ?_)
    refine PW.iconst (v := 1) cx qX7_burns_24 rfl ?_
    obtain ⟨j33, ej33, hf⟩ := lt_split hf
    have hj33 : ∀ (z0_33 : Int32), j33 z0_33 = some r0 → PW g X ex (QE g X ex (PE (some (.int (b2i r0.1))) sh r0.2) 0 0) 0 0 sh h 33 [some (.ref (gB g + 140)), some (.int p1), none] [.int z0_33, .int t2] := by
      intro z0_33 hf
      rw [ej33] at hf
      refine PW.mmin cx hR qX7_burns_33 klX7_139 (Nat.le_of_ble_eq_true rfl) (Nat.le_of_ble_eq_true rfl) (Nat.zero_le _) (Nat.zero_le _) ?_
      refine PW.istore_n (L' := [some (.ref (gB g + 140)), some (.int p1), some (.int (mnI t2 z0_33))]) cx qX7_burns_36 hi2 rfl rfl ?_
      refine PW.aload_n cx qX7_burns_37 rfl ?_
      refine PW.iload_n cx qX7_burns_38 rfl ?_
      refine PW.iconst (v := 2) cx qX7_burns_39 rfl ?_
      refine PW.aload_n cx qX7_burns_40 rfl ?_
      refine PW.iload_n cx qX7_burns_41 rfl ?_
      refine PW.iconst (v := 2) cx qX7_burns_42 rfl ?_
      refine PW.callVRI (As := [.int p1, .int 2]) (st := [.int 2, .int p1, .ref (gB g + 140)]) cx hR qX7_burns_43 klX7_70 mvX7_of (sh_140 hx) rfl rfl rfl rfl (Nat.le_of_ble_eq_true rfl) (Nat.le_of_ble_eq_true rfl) (Nat.le_of_ble_eq_true rfl) (Nat.zero_le _) (Nat.zero_le _) hf sne (fun t e => ctX7_of hx h p1 2 t e) (fun t4 hf => ?_)
      refine PW.iload_n cx qX7_burns_46 rfl ?_
      refine PW.isub cx qX7_burns_47 ?_
      refine PW.callVWV (As := [.int p1, .int 2, .int (t4 - (mnI t2 z0_33))]) (st := []) cx hR qX7_burns_48 klX7_117 mvX7_to (sh_140 hx) rfl rfl rfl rfl (Nat.le_of_ble_eq_true rfl) (Nat.le_of_ble_eq_true rfl) (Nat.le_of_ble_eq_true rfl) (Nat.zero_le _) (Nat.zero_le _) hf sne (fun t e => ctX7_to hx h p1 2 (t4 - (mnI t2 z0_33)) t e) (fun h6 hf => ?_)
      refine PW.aload_n cx qX7_burns_51 rfl ?_
      refine PW.getf (t := (2, 141)) (v := .ref (gB g + 141)) cx qX7_burns_52 (sh_140 hx) rfl flX7_7 rfl ?_
      refine PW.iconst (v := 5) cx qX7_burns_55 rfl ?_
      refine PW.dup2 cx qX7_burns_56 rfl rfl ?_
      refine PW.iald cx qX7_burns_57 (sh_141 hx) hf sne (fun t7 hf => ?_)
      refine PW.iload_n cx qX7_burns_58 rfl ?_
      refine PW.iadd cx qX7_burns_59 ?_
      refine PW.iast cx qX7_burns_60 (sh_141 hx) hf sne (fun h8 hf => ?_)
      refine PW.aload_n cx qX7_burns_61 rfl ?_
      refine PW.iload_n cx qX7_burns_62 rfl ?_
      refine PW.iconst (v := 2) cx qX7_burns_63 rfl ?_
      refine PW.callVRI (As := [.int p1, .int 2]) (st := []) cx hR qX7_burns_64 klX7_70 mvX7_of (sh_140 hx) rfl rfl rfl rfl (Nat.le_of_ble_eq_true rfl) (Nat.le_of_ble_eq_true rfl) (Nat.le_of_ble_eq_true rfl) (Nat.zero_le _) (Nat.zero_le _) hf sne (fun t e => ctX7_of hx h8 p1 2 t e) (fun t9 hf => ?_)
      obtain ⟨j77, ej77, hf⟩ := lt_split hf
      have hj77 : ∀ (h_77 : Hp), j77 h_77 = some r0 → PW g X ex (QE g X ex (PE (some (.int (b2i r0.1))) sh r0.2) 0 0) 0 0 sh h_77 77 [some (.ref (gB g + 140)), some (.int p1), none] [] := by
        intro h_77 hf
        rw [ej77] at hf
        refine PW.aload_n cx qX7_burns_77 rfl ?_
        refine PW.iload_n cx qX7_burns_78 rfl ?_
        refine PW.iconst (v := 2) cx qX7_burns_79 rfl ?_
        refine PW.callVRI (As := [.int p1, .int 2]) (st := []) cx hR qX7_burns_80 klX7_70 mvX7_of (sh_140 hx) rfl rfl rfl rfl (Nat.le_of_ble_eq_true rfl) (Nat.le_of_ble_eq_true rfl) (Nat.le_of_ble_eq_true rfl) (Nat.zero_le _) (Nat.zero_le _) hf sne (fun t e => ctX7_of hx h_77 p1 2 t e) (fun t10 hf => ?_)
        refine PW.if_ne cx qX7_burns_83 hf (fun hf => ?_) (fun hf => ?_)
        · refine PW.iconst (v := 1) cx qX7_burns_86 rfl ?_
          refine PW.goto cx qX7_burns_87 ?_
          exact PW.zret cx hrt nb1 qX7_burns_91 (le_wz hf)
        · refine PW.iconst (v := 0) cx qX7_burns_90 rfl ?_
          exact PW.zret cx hrt nb0 qX7_burns_91 (le_wz hf)
      refine PW.if_ne cx qX7_burns_67 hf (fun hf => ?_) (fun hf => ?_)
      · refine PW.aload_n cx qX7_burns_70 rfl ?_
        refine PW.iload_n cx qX7_burns_71 rfl ?_
        refine PW.iconst (v := 2) cx qX7_burns_72 rfl ?_
        refine PW.callVWIc (As := [.int p1, .int 2]) (st := []) cx hR qX7_burns_73 klX7_133 mvX7_leaves (sh_140 hx) rfl rfl rfl rfl (Nat.le_of_ble_eq_true rfl) (Nat.le_of_ble_eq_true rfl) (Nat.le_of_ble_eq_true rfl) (Nat.zero_le _) (Nat.zero_le _) hf sne (fun t e => ctX7_leaves hx h8 p1 2 t e) (fun t11 h12 hf => ?_)
        refine PW.pop cx qX7_burns_76 rfl ?_
        exact PW.locs (Lsub.keep (Lsub.keep (Lsub.drop Lsub.nil))) (hj77 h12 hf)
      · exact PW.locs (Lsub.keep (Lsub.keep (Lsub.drop Lsub.nil))) (hj77 h8 hf)
    refine PW.icmp_ne cx qX7_burns_25 hf (fun hf => ?_) (fun hf => ?_)
    · refine PW.iconst (v := 1) cx qX7_burns_28 rfl ?_
      refine PW.goto cx qX7_burns_29 ?_
      exact PW.locs (Lsub.keep (Lsub.keep (Lsub.drop Lsub.nil))) (hj33 1 hf)
    · refine PW.iconst (v := 4) cx qX7_burns_32 rfl ?_
      exact PW.locs (Lsub.keep (Lsub.keep (Lsub.drop Lsub.nil))) (hj33 4 hf)
set_option maxRecDepth 20000 in
theorem lX7_passes_22 {g : GT} {X : XT} {ex : Bool} {post : Option Value → List Shp → Hp → Prop} {sh : List Shp} (mx : Mx g X mX7_passes 5 0 0) (hx : MSh sh) (d1 : Int32) (d3 : Int32) : ∀ (n : Nat) (v2 : Int32) (v4 : Int32) (h : Hp) (r : Int32 × Hp) (hf : M_passes_L22 n v2 v4 h = some r) (kx : ∀ (x2 : Int32) (h1 : Hp), r = (x2, h1) → PW g X ex (QE g X ex post 0 0) 0 0 sh h1 56 [some (.ref (gB g + 140)), some (.int d1), some (.int x2), some (.int d3), none, none] []), PW g X ex (QE g X ex post 0 0) 0 0 sh h 22 [some (.ref (gB g + 140)), some (.int d1), some (.int v2), some (.int d3), some (.int v4), none] [] := by
  have mx0 := mx
  obtain ⟨cx, hR, hml, hrt, -⟩ := mx0
  have cx : Cx g X RX7 cX7_passes := cx
  have hrt : X.2.2.2.2.2.2.2.1.sig.returnType = (some .int) := hrt
  have hi2 : 2 < X.2.2.2.2.2.2.2.2.maxLocals := by rw [hml]; exact Nat.le_of_ble_eq_true rfl
  have hi3 : 3 < X.2.2.2.2.2.2.2.2.maxLocals := by rw [hml]; exact Nat.le_of_ble_eq_true rfl
  have hi4 : 4 < X.2.2.2.2.2.2.2.2.maxLocals := by rw [hml]; exact Nat.le_of_ble_eq_true rfl
  have hi5 : 5 < X.2.2.2.2.2.2.2.2.maxLocals := by rw [hml]; exact Nat.le_of_ble_eq_true rfl
  intro n
  induction n with
  | zero =>
    intro v2 v4 h r hf kx
    cases hf
  | succ n ih =>
    intro v2 v4 h r hf kx
    unfold M_passes_L22 at hf
    refine PW.iload cx qX7_passes_22 rfl ?_
    refine PW.aload_n cx qX7_passes_24 rfl ?_
    refine PW.getf (t := (2, 141)) (v := .ref (gB g + 141)) cx qX7_passes_25 (sh_140 hx) rfl flX7_7 rfl ?_
    refine PW.iconst (v := 2) cx qX7_passes_28 rfl ?_
    refine PW.iald cx qX7_passes_29 (sh_141 hx) hf sne (fun t3 hf => ?_)
    refine PW.icmp_ge cx qX7_passes_30 hf (fun hf => ?_) (fun hf => ?_)
    · exact PW.locs (Lsub.keep (Lsub.keep (Lsub.keep (Lsub.keep (Lsub.drop (Lsub.drop Lsub.nil)))))) (kx v2 h (Option.some.inj hf).symm)
    · refine PW.iload_n cx qX7_passes_33 rfl ?_
      refine PW.aload_n cx qX7_passes_34 rfl ?_
      refine PW.iload cx qX7_passes_35 rfl ?_
      refine PW.callVWBc (As := [.int v4]) (st := [.int v2]) cx hR qX7_passes_37 klX7_142 mvX7_burns (sh_140 hx) rfl rfl rfl rfl (Nat.le_of_ble_eq_true rfl) (Nat.le_of_ble_eq_true rfl) (Nat.le_of_ble_eq_true rfl) (Nat.zero_le _) (Nat.zero_le _) hf sne (fun t e => ctX7_burns hx h v4 t e) (fun t4 h5 hf => ?_)
      refine PW.if_eq cx qX7_passes_40 hf (fun hf => ?_) (fun hf => ?_)
      · refine PW.iconst (v := 0) cx qX7_passes_47 rfl ?_
        refine PW.iadd cx qX7_passes_48 ?_
        refine PW.istore_n (L' := [some (.ref (gB g + 140)), some (.int d1), some (.int (v2 + 0)), some (.int d3), some (.int v4), none]) cx qX7_passes_49 hi2 rfl rfl ?_
        refine PW.iinc (v := 1) (L' := [some (.ref (gB g + 140)), some (.int d1), some (.int (v2 + 0)), some (.int d3), some (.int (v4 + 1)), none]) cx qX7_passes_50 rfl rfl hi4 rfl rfl ?_
        refine PW.goto cx qX7_passes_53 ?_
        exact PW.locs (Lsub.keep (Lsub.keep (Lsub.keep (Lsub.keep (Lsub.keep (Lsub.drop Lsub.nil)))))) (ih (v2 + 0) (v4 + 1) h5 _ hf kx)
      · refine PW.iconst (v := 1) cx qX7_passes_43 rfl ?_
        refine PW.goto cx qX7_passes_44 ?_
        refine PW.iadd cx qX7_passes_48 ?_
        refine PW.istore_n (L' := [some (.ref (gB g + 140)), some (.int d1), some (.int (v2 + 1)), some (.int d3), some (.int v4), none]) cx qX7_passes_49 hi2 rfl rfl ?_
        refine PW.iinc (v := 1) (L' := [some (.ref (gB g + 140)), some (.int d1), some (.int (v2 + 1)), some (.int d3), some (.int (v4 + 1)), none]) cx qX7_passes_50 rfl rfl hi4 rfl rfl ?_
        refine PW.goto cx qX7_passes_53 ?_
        exact PW.locs (Lsub.keep (Lsub.keep (Lsub.keep (Lsub.keep (Lsub.keep (Lsub.drop Lsub.nil)))))) (ih (v2 + 1) (v4 + 1) h5 _ hf kx)
set_option maxRecDepth 20000 in
theorem lX7_passes_59 {g : GT} {X : XT} {ex : Bool} {post : Option Value → List Shp → Hp → Prop} {sh : List Shp} (mx : Mx g X mX7_passes 5 0 0) (hx : MSh sh) (d1 : Int32) (d2 : Int32) (d3 : Int32) : ∀ (n : Nat) (v4 : Int32) (h : Hp) (r : Hp) (hf : M_passes_L59 n v4 h = some r) (kx : ∀ (h1 : Hp), r = h1 → PW g X ex (QE g X ex post 0 0) 0 0 sh h1 117 [some (.ref (gB g + 140)), some (.int d1), some (.int d2), some (.int d3), none, none] []), PW g X ex (QE g X ex post 0 0) 0 0 sh h 59 [some (.ref (gB g + 140)), some (.int d1), some (.int d2), some (.int d3), some (.int v4), none] [] := by
  have mx0 := mx
  obtain ⟨cx, hR, hml, hrt, -⟩ := mx0
  have cx : Cx g X RX7 cX7_passes := cx
  have hrt : X.2.2.2.2.2.2.2.1.sig.returnType = (some .int) := hrt
  have hi2 : 2 < X.2.2.2.2.2.2.2.2.maxLocals := by rw [hml]; exact Nat.le_of_ble_eq_true rfl
  have hi3 : 3 < X.2.2.2.2.2.2.2.2.maxLocals := by rw [hml]; exact Nat.le_of_ble_eq_true rfl
  have hi4 : 4 < X.2.2.2.2.2.2.2.2.maxLocals := by rw [hml]; exact Nat.le_of_ble_eq_true rfl
  have hi5 : 5 < X.2.2.2.2.2.2.2.2.maxLocals := by rw [hml]; exact Nat.le_of_ble_eq_true rfl
  intro n
  induction n with
  | zero =>
    intro v4 h r hf kx
    cases hf
  | succ n ih =>
    intro v4 h r hf kx
    unfold M_passes_L59 at hf
    refine PW.iload cx qX7_passes_59 rfl ?_
    refine PW.aload_n cx qX7_passes_61 rfl ?_
    refine PW.getf (t := (2, 141)) (v := .ref (gB g + 141)) cx qX7_passes_62 (sh_140 hx) rfl flX7_7 rfl ?_
    refine PW.iconst (v := 4) cx qX7_passes_65 rfl ?_
    refine PW.iald cx qX7_passes_66 (sh_141 hx) hf sne (fun t9 hf => ?_)
    refine PW.icmp_ge cx qX7_passes_67 hf (fun hf => ?_) (fun hf => ?_)
    · exact PW.locs (Lsub.keep (Lsub.keep (Lsub.keep (Lsub.keep (Lsub.drop (Lsub.drop Lsub.nil)))))) (kx h (Option.some.inj hf).symm)
    · refine PW.bipush (v := 96) cx qX7_passes_70 rfl ?_
      refine PW.iconst (v := 2) cx qX7_passes_72 rfl ?_
      refine PW.iload cx qX7_passes_73 rfl ?_
      refine PW.imul cx qX7_passes_75 ?_
      refine PW.iadd cx qX7_passes_76 ?_
      refine PW.istore (L' := [some (.ref (gB g + 140)), some (.int d1), some (.int d2), some (.int d3), some (.int v4), some (.int (96 + (2 * v4)))]) cx qX7_passes_77 hi5 rfl rfl ?_
      refine PW.aload_n cx qX7_passes_79 rfl ?_
      refine PW.getf (t := (2, 141)) (v := .ref (gB g + 141)) cx qX7_passes_80 (sh_140 hx) rfl flX7_7 rfl ?_
      refine PW.iload cx qX7_passes_83 rfl ?_
      refine PW.iconst (v := 1) cx qX7_passes_85 rfl ?_
      refine PW.iadd cx qX7_passes_86 ?_
      refine PW.aload_n cx qX7_passes_87 rfl ?_
      refine PW.getf (t := (2, 141)) (v := .ref (gB g + 141)) cx qX7_passes_88 (sh_140 hx) rfl flX7_7 rfl ?_
      refine PW.iload cx qX7_passes_91 rfl ?_
      refine PW.iconst (v := 0) cx qX7_passes_93 rfl ?_
      refine PW.iadd cx qX7_passes_94 ?_
      refine PW.iald cx qX7_passes_95 (sh_141 hx) hf sne (fun t10 hf => ?_)
      refine PW.aload_n cx qX7_passes_96 rfl ?_
      refine PW.getf (t := (2, 141)) (v := .ref (gB g + 141)) cx qX7_passes_97 (sh_140 hx) rfl flX7_7 rfl ?_
      refine PW.iload cx qX7_passes_100 rfl ?_
      refine PW.iconst (v := 1) cx qX7_passes_102 rfl ?_
      refine PW.iadd cx qX7_passes_103 ?_
      refine PW.iald cx qX7_passes_104 (sh_141 hx) hf sne (fun t11 hf => ?_)
      refine PW.iconst (v := 1) cx qX7_passes_105 rfl ?_
      refine PW.iadd cx qX7_passes_106 ?_
      refine PW.mmin cx hR qX7_passes_107 klX7_139 (Nat.le_of_ble_eq_true rfl) (Nat.le_of_ble_eq_true rfl) (Nat.zero_le _) (Nat.zero_le _) ?_
      refine PW.iast cx qX7_passes_110 (sh_141 hx) hf sne (fun h12 hf => ?_)
      refine PW.iinc (v := 1) (L' := [some (.ref (gB g + 140)), some (.int d1), some (.int d2), some (.int d3), some (.int (v4 + 1)), some (.int (96 + (2 * v4)))]) cx qX7_passes_111 rfl rfl hi4 rfl rfl ?_
      refine PW.goto cx qX7_passes_114 ?_
      exact PW.locs (Lsub.keep (Lsub.keep (Lsub.keep (Lsub.keep (Lsub.keep (Lsub.drop Lsub.nil)))))) (ih (v4 + 1) h12 _ hf kx)
set_option maxRecDepth 20000 in
theorem lX7_passes_4 {g : GT} {X : XT} {ex : Bool} {post : Option Value → List Shp → Hp → Prop} {sh : List Shp} (mx : Mx g X mX7_passes 5 0 0) (hx : MSh sh) (c1 : Int32) : ∀ (n : Nat) (v2 : Int32) (v3 : Int32) (h : Hp) (r : Int32 × Hp) (hf : M_passes_L4 c1 n v2 v3 h = some r) (kx : ∀ (x2 : Int32) (h1 : Hp), r = (x2, h1) → PW g X ex (QE g X ex post 0 0) 0 0 sh h1 123 [some (.ref (gB g + 140)), some (.int c1), some (.int x2), none, none, none] []), PW g X ex (QE g X ex post 0 0) 0 0 sh h 4 [some (.ref (gB g + 140)), some (.int c1), some (.int v2), some (.int v3), none, none] [] := by
  have mx0 := mx
  obtain ⟨cx, hR, hml, hrt, -⟩ := mx0
  have cx : Cx g X RX7 cX7_passes := cx
  have hrt : X.2.2.2.2.2.2.2.1.sig.returnType = (some .int) := hrt
  have hi2 : 2 < X.2.2.2.2.2.2.2.2.maxLocals := by rw [hml]; exact Nat.le_of_ble_eq_true rfl
  have hi3 : 3 < X.2.2.2.2.2.2.2.2.maxLocals := by rw [hml]; exact Nat.le_of_ble_eq_true rfl
  have hi4 : 4 < X.2.2.2.2.2.2.2.2.maxLocals := by rw [hml]; exact Nat.le_of_ble_eq_true rfl
  have hi5 : 5 < X.2.2.2.2.2.2.2.2.maxLocals := by rw [hml]; exact Nat.le_of_ble_eq_true rfl
  intro n
  induction n with
  | zero =>
    intro v2 v3 h r hf kx
    cases hf
  | succ n ih =>
    intro v2 v3 h r hf kx
    unfold M_passes_L4 at hf
    refine PW.iload_n cx qX7_passes_4 rfl ?_
    refine PW.iload_n cx qX7_passes_5 rfl ?_
    refine PW.icmp_ge cx qX7_passes_6 hf (fun hf => ?_) (fun hf => ?_)
    · exact PW.locs (Lsub.keep (Lsub.keep (Lsub.keep (Lsub.drop (Lsub.drop (Lsub.drop Lsub.nil)))))) (kx v2 h (Option.some.inj hf).symm)
    · refine PW.aload_n cx qX7_passes_9 rfl ?_
      refine PW.getf (t := (2, 141)) (v := .ref (gB g + 141)) cx qX7_passes_10 (sh_140 hx) rfl flX7_7 rfl ?_
      refine PW.iconst (v := 0) cx qX7_passes_13 rfl ?_
      refine PW.dup2 cx qX7_passes_14 rfl rfl ?_
      refine PW.iald cx qX7_passes_15 (sh_141 hx) hf sne (fun t1 hf => ?_)
      refine PW.iconst (v := 1) cx qX7_passes_16 rfl ?_
      refine PW.iadd cx qX7_passes_17 ?_
      refine PW.iast cx qX7_passes_18 (sh_141 hx) hf sne (fun h2 hf => ?_)
      refine PW.iconst (v := 0) cx qX7_passes_19 rfl ?_
      refine PW.istore (L' := [some (.ref (gB g + 140)), some (.int c1), some (.int v2), some (.int v3), some (.int 0), none]) cx qX7_passes_20 hi4 rfl rfl ?_
      obtain ⟨r6, er6, hf⟩ := bndO hf sne
      refine PW.locs (Lsub.keep (Lsub.keep (Lsub.keep (Lsub.keep (Lsub.keep (Lsub.drop Lsub.nil)))))) (lX7_passes_22 mx hx c1 v3 FU v2 0 h2 r6 er6 (fun x2_7 h8 e => ?_))
      subst e
      refine PW.iconst (v := 0) cx qX7_passes_56 rfl ?_
      refine PW.istore (L' := [some (.ref (gB g + 140)), some (.int c1), some (.int x2_7), some (.int v3), some (.int 0), none]) cx qX7_passes_57 hi4 rfl rfl ?_
      obtain ⟨r13, er13, hf⟩ := bndO hf sne
      refine PW.locs (Lsub.keep (Lsub.keep (Lsub.keep (Lsub.keep (Lsub.keep (Lsub.drop Lsub.nil)))))) (lX7_passes_59 mx hx c1 x2_7 v3 FU 0 h8 r13 er13 (fun xx_ e => ?_))
      subst e
      refine PW.iinc (v := 1) (L' := [some (.ref (gB g + 140)), some (.int c1), some (.int x2_7), some (.int (v3 + 1)), none, none]) cx qX7_passes_117 rfl rfl hi3 rfl rfl ?_
      refine PW.goto cx qX7_passes_120 ?_
      exact PW.locs (Lsub.keep (Lsub.keep (Lsub.keep (Lsub.keep (Lsub.drop (Lsub.drop Lsub.nil)))))) (ih x2_7 (v3 + 1) r13 _ hf kx)
set_option maxRecDepth 20000 in
theorem ctX7_passes {g : GT} {ex : Bool} {sh : List Shp} (hx : MSh sh) (h : Hp) (p1 : Int32) (r0 : Int32 × Hp) (hf : M_passes h p1 = some r0) : Ct g mX7_passes 5 0 0 ex [.ref (gB g + 140), .int p1] sh h (PE (some (.int r0.1)) sh r0.2) := by
  refine Ct.of (L := [some (.ref (gB g + 140)), some (.int p1), none, none, none, none]) (by decide) (by intro w hw; simp only [List.mem_cons, List.not_mem_nil, or_false] at hw; rcases hw with rfl | rfl <;> rfl) (Nat.le_of_ble_eq_true rfl) rfl (fun X mx => ?_)
  have mx0 := mx
  obtain ⟨cx, hR, hml, hrt, -⟩ := mx0
  have cx : Cx g X RX7 cX7_passes := cx
  have hrt : X.2.2.2.2.2.2.2.1.sig.returnType = (some .int) := hrt
  have hi2 : 2 < X.2.2.2.2.2.2.2.2.maxLocals := by rw [hml]; exact Nat.le_of_ble_eq_true rfl
  have hi3 : 3 < X.2.2.2.2.2.2.2.2.maxLocals := by rw [hml]; exact Nat.le_of_ble_eq_true rfl
  have hi4 : 4 < X.2.2.2.2.2.2.2.2.maxLocals := by rw [hml]; exact Nat.le_of_ble_eq_true rfl
  have hi5 : 5 < X.2.2.2.2.2.2.2.2.maxLocals := by rw [hml]; exact Nat.le_of_ble_eq_true rfl
  unfold M_passes at hf
  refine PW.iconst (v := 0) cx qX7_passes_0 rfl ?_
  refine PW.istore_n (L' := [some (.ref (gB g + 140)), some (.int p1), some (.int 0), none, none, none]) cx qX7_passes_1 hi2 rfl rfl ?_
  refine PW.iconst (v := 0) cx qX7_passes_2 rfl ?_
  refine PW.istore_n (L' := [some (.ref (gB g + 140)), some (.int p1), some (.int 0), some (.int 0), none, none]) cx qX7_passes_3 hi3 rfl rfl ?_
  obtain ⟨r14, er14, hf⟩ := bndO hf sne
  refine PW.locs (Lsub.keep (Lsub.keep (Lsub.keep (Lsub.keep (Lsub.drop (Lsub.drop Lsub.nil)))))) (lX7_passes_4 mx hx p1 FU 0 0 h r14 er14 (fun x2_15 h16 e => ?_))
  subst e
  refine PW.iload_n cx qX7_passes_123 rfl ?_
  exact PW.iret cx hrt qX7_passes_124 (le_wi hf)
set_option maxRecDepth 20000 in
theorem lX7_setAside_2 {g : GT} {X : XT} {ex : Bool} {post : Option Value → List Shp → Hp → Prop} {sh : List Shp} (mx : Mx g X mX7_setAside 0 0 0) (hx : MSh sh) : ∀ (n : Nat) (v1 : Int32) (h : Hp) (r : Hp) (hf : M_setAside_L2 n v1 h = some r) (kx : ∀ (h1 : Hp), r = h1 → PW g X ex (QE g X ex post 0 0) 0 0 sh h1 26 [some (.ref (gB g + 140)), none] []), PW g X ex (QE g X ex post 0 0) 0 0 sh h 2 [some (.ref (gB g + 140)), some (.int v1)] [] := by
  have mx0 := mx
  obtain ⟨cx, hR, hml, hrt, -⟩ := mx0
  have cx : Cx g X RX7 cX7_setAside := cx
  have hrt : X.2.2.2.2.2.2.2.1.sig.returnType = none := hrt
  have hi1 : 1 < X.2.2.2.2.2.2.2.2.maxLocals := by rw [hml]; exact Nat.le_of_ble_eq_true rfl
  intro n
  induction n with
  | zero =>
    intro v1 h r hf kx
    cases hf
  | succ n ih =>
    intro v1 h r hf kx
    unfold M_setAside_L2 at hf
    refine PW.iload_n cx qX7_setAside_2 rfl ?_
    refine PW.bipush (v := 106) cx qX7_setAside_3 rfl ?_
    refine PW.icmp_ge cx qX7_setAside_5 hf (fun hf => ?_) (fun hf => ?_)
    · exact PW.locs (Lsub.keep (Lsub.drop Lsub.nil)) (kx h (Option.some.inj hf).symm)
    · refine PW.aload_n cx qX7_setAside_8 rfl ?_
      refine PW.getf (t := (2, 143)) (v := .ref (gB g + 143)) cx qX7_setAside_9 (sh_140 hx) rfl flX7_16 rfl ?_
      refine PW.iload_n cx qX7_setAside_12 rfl ?_
      refine PW.aload_n cx qX7_setAside_13 rfl ?_
      refine PW.getf (t := (2, 141)) (v := .ref (gB g + 141)) cx qX7_setAside_14 (sh_140 hx) rfl flX7_7 rfl ?_
      refine PW.iload_n cx qX7_setAside_17 rfl ?_
      refine PW.iald cx qX7_setAside_18 (sh_141 hx) hf sne (fun t1 hf => ?_)
      refine PW.iast cx qX7_setAside_19 (sh_143 hx) hf sne (fun h2 hf => ?_)
      refine PW.iinc (v := 1) (L' := [some (.ref (gB g + 140)), some (.int (v1 + 1))]) cx qX7_setAside_20 rfl rfl hi1 rfl rfl ?_
      refine PW.goto cx qX7_setAside_23 ?_
      exact PW.locs (Lsub.keep (Lsub.keep Lsub.nil)) (ih (v1 + 1) h2 _ hf kx)
set_option maxRecDepth 20000 in
theorem ctX7_setAside {g : GT} {ex : Bool} {sh : List Shp} (hx : MSh sh) (h : Hp) (r0 : Hp) (hf : M_setAside h = some r0) : Ct g mX7_setAside 0 0 0 ex [.ref (gB g + 140)] sh h (PE none sh r0) := by
  refine Ct.of (L := [some (.ref (gB g + 140)), none]) (by decide) (by intro w hw; simp only [List.mem_cons, List.not_mem_nil, or_false] at hw; rcases hw with rfl <;> rfl) (Nat.le_of_ble_eq_true rfl) rfl (fun X mx => ?_)
  have mx0 := mx
  obtain ⟨cx, hR, hml, hrt, -⟩ := mx0
  have cx : Cx g X RX7 cX7_setAside := cx
  have hrt : X.2.2.2.2.2.2.2.1.sig.returnType = none := hrt
  have hi1 : 1 < X.2.2.2.2.2.2.2.2.maxLocals := by rw [hml]; exact Nat.le_of_ble_eq_true rfl
  unfold M_setAside at hf
  refine PW.iconst (v := 0) cx qX7_setAside_0 rfl ?_
  refine PW.istore_n (L' := [some (.ref (gB g + 140)), some (.int 0)]) cx qX7_setAside_1 hi1 rfl rfl ?_
  obtain ⟨r3, er3, hf⟩ := bndO hf sne
  refine PW.locs (Lsub.keep (Lsub.keep Lsub.nil)) (lX7_setAside_2 mx hx FU 0 h r3 er3 (fun xx_ e => ?_))
  subst e
  exact PW.vret cx hrt qX7_setAside_26 (le_wv hf)
set_option maxRecDepth 20000 in
theorem lX7_bringBack_2 {g : GT} {X : XT} {ex : Bool} {post : Option Value → List Shp → Hp → Prop} {sh : List Shp} (mx : Mx g X mX7_bringBack 0 0 0) (hx : MSh sh) : ∀ (n : Nat) (v1 : Int32) (h : Hp) (r : Hp) (hf : M_bringBack_L2 n v1 h = some r) (kx : ∀ (h1 : Hp), r = h1 → PW g X ex (QE g X ex post 0 0) 0 0 sh h1 26 [some (.ref (gB g + 140)), none] []), PW g X ex (QE g X ex post 0 0) 0 0 sh h 2 [some (.ref (gB g + 140)), some (.int v1)] [] := by
  have mx0 := mx
  obtain ⟨cx, hR, hml, hrt, -⟩ := mx0
  have cx : Cx g X RX7 cX7_bringBack := cx
  have hrt : X.2.2.2.2.2.2.2.1.sig.returnType = none := hrt
  have hi1 : 1 < X.2.2.2.2.2.2.2.2.maxLocals := by rw [hml]; exact Nat.le_of_ble_eq_true rfl
  intro n
  induction n with
  | zero =>
    intro v1 h r hf kx
    cases hf
  | succ n ih =>
    intro v1 h r hf kx
    unfold M_bringBack_L2 at hf
    refine PW.iload_n cx qX7_bringBack_2 rfl ?_
    refine PW.bipush (v := 106) cx qX7_bringBack_3 rfl ?_
    refine PW.icmp_ge cx qX7_bringBack_5 hf (fun hf => ?_) (fun hf => ?_)
    · exact PW.locs (Lsub.keep (Lsub.drop Lsub.nil)) (kx h (Option.some.inj hf).symm)
    · refine PW.aload_n cx qX7_bringBack_8 rfl ?_
      refine PW.getf (t := (2, 141)) (v := .ref (gB g + 141)) cx qX7_bringBack_9 (sh_140 hx) rfl flX7_7 rfl ?_
      refine PW.iload_n cx qX7_bringBack_12 rfl ?_
      refine PW.aload_n cx qX7_bringBack_13 rfl ?_
      refine PW.getf (t := (2, 143)) (v := .ref (gB g + 143)) cx qX7_bringBack_14 (sh_140 hx) rfl flX7_16 rfl ?_
      refine PW.iload_n cx qX7_bringBack_17 rfl ?_
      refine PW.iald cx qX7_bringBack_18 (sh_143 hx) hf sne (fun t1 hf => ?_)
      refine PW.iast cx qX7_bringBack_19 (sh_141 hx) hf sne (fun h2 hf => ?_)
      refine PW.iinc (v := 1) (L' := [some (.ref (gB g + 140)), some (.int (v1 + 1))]) cx qX7_bringBack_20 rfl rfl hi1 rfl rfl ?_
      refine PW.goto cx qX7_bringBack_23 ?_
      exact PW.locs (Lsub.keep (Lsub.keep Lsub.nil)) (ih (v1 + 1) h2 _ hf kx)
set_option maxRecDepth 20000 in
theorem ctX7_bringBack {g : GT} {ex : Bool} {sh : List Shp} (hx : MSh sh) (h : Hp) (r0 : Hp) (hf : M_bringBack h = some r0) : Ct g mX7_bringBack 0 0 0 ex [.ref (gB g + 140)] sh h (PE none sh r0) := by
  refine Ct.of (L := [some (.ref (gB g + 140)), none]) (by decide) (by intro w hw; simp only [List.mem_cons, List.not_mem_nil, or_false] at hw; rcases hw with rfl <;> rfl) (Nat.le_of_ble_eq_true rfl) rfl (fun X mx => ?_)
  have mx0 := mx
  obtain ⟨cx, hR, hml, hrt, -⟩ := mx0
  have cx : Cx g X RX7 cX7_bringBack := cx
  have hrt : X.2.2.2.2.2.2.2.1.sig.returnType = none := hrt
  have hi1 : 1 < X.2.2.2.2.2.2.2.2.maxLocals := by rw [hml]; exact Nat.le_of_ble_eq_true rfl
  unfold M_bringBack at hf
  refine PW.iconst (v := 0) cx qX7_bringBack_0 rfl ?_
  refine PW.istore_n (L' := [some (.ref (gB g + 140)), some (.int 0)]) cx qX7_bringBack_1 hi1 rfl rfl ?_
  obtain ⟨r3, er3, hf⟩ := bndO hf sne
  refine PW.locs (Lsub.keep (Lsub.keep Lsub.nil)) (lX7_bringBack_2 mx hx FU 0 h r3 er3 (fun xx_ e => ?_))
  subst e
  exact PW.vret cx hrt qX7_bringBack_26 (le_wv hf)
set_option maxRecDepth 20000 in
theorem lX7_tell_2 {g : GT} {X : XT} {ex : Bool} {post : Option Value → List Shp → Hp → Prop} {sh : List Shp} (mx : Mx g X mX7_tell 5 0 0) (hx : MSh sh) (c1 : Int32) : ∀ (n : Nat) (v2 : Int32) (h : Hp) (r : Hp) (hf : M_tell_L2 c1 n v2 h = some r) (kx : ∀ (h1 : Hp), r = h1 → PW g X ex (QE g X ex post 0 0) 0 0 sh h1 40 [some (.ref (gB g + 140)), some (.ref (ga g (c1 : Int32).toNatClampNeg)), none] []), PW g X ex (QE g X ex post 0 0) 0 0 sh h 2 [some (.ref (gB g + 140)), some (.ref (ga g (c1 : Int32).toNatClampNeg)), some (.int v2)] [] := by
  have mx0 := mx
  obtain ⟨cx, hR, hml, hrt, -⟩ := mx0
  have cx : Cx g X RX7 cX7_tell := cx
  have hrt : X.2.2.2.2.2.2.2.1.sig.returnType = none := hrt
  have hi2 : 2 < X.2.2.2.2.2.2.2.2.maxLocals := by rw [hml]; exact Nat.le_of_ble_eq_true rfl
  intro n
  induction n with
  | zero =>
    intro v2 h r hf kx
    cases hf
  | succ n ih =>
    intro v2 h r hf kx
    unfold M_tell_L2 at hf
    refine PW.iload_n cx qX7_tell_2 rfl ?_
    refine PW.aload_n cx qX7_tell_3 rfl ?_
    refine PW.slen cx hR qX7_tell_4 klX7_145 (Nat.le_of_ble_eq_true rfl) (Nat.le_of_ble_eq_true rfl) (Nat.zero_le _) (Nat.zero_le _) hf sne (fun t1 hf => ?_)
    refine PW.icmp_ge cx qX7_tell_7 hf (fun hf => ?_) (fun hf => ?_)
    · exact PW.locs (Lsub.keep (Lsub.keep (Lsub.drop Lsub.nil))) (kx h (Option.some.inj hf).symm)
    · refine PW.aload_n cx qX7_tell_10 rfl ?_
      refine PW.getf (t := (2, 147)) (v := .ref (gB g + 147)) cx qX7_tell_11 (sh_140 hx) rfl flX7_28 rfl ?_
      refine PW.aload_n cx qX7_tell_14 rfl ?_
      refine PW.getf (t := (0, 0)) (v := .int (rd h 140 10)) cx qX7_tell_15 (sh_140 hx) rfl flX7_151 rfl ?_
      refine PW.aload_n cx qX7_tell_18 rfl ?_
      refine PW.iload_n cx qX7_tell_19 rfl ?_
      refine PW.schar cx hR qX7_tell_20 klX7_154 (Nat.le_of_ble_eq_true rfl) (Nat.le_of_ble_eq_true rfl) (Nat.zero_le _) (Nat.zero_le _) hf sne (fun t2 hf => ?_)
      refine PW.iast cx qX7_tell_23 (sh_147 hx) hf sne (fun h3 hf => ?_)
      refine PW.aload_n cx qX7_tell_24 rfl ?_
      refine PW.dup cx qX7_tell_25 rfl ?_
      refine PW.getf (t := (0, 0)) (v := .int (rd h3 140 10)) cx qX7_tell_26 (sh_140 hx) rfl flX7_151 rfl ?_
      refine PW.iconst (v := 1) cx qX7_tell_29 rfl ?_
      refine PW.iadd cx qX7_tell_30 ?_
      refine PW.putiN cx qX7_tell_31 (sh_140 hx) rfl fpX7_151 hf (fun h4 hf => ?_)
      refine PW.iinc (v := 1) (L' := [some (.ref (gB g + 140)), some (.ref (ga g (c1 : Int32).toNatClampNeg)), some (.int (v2 + 1))]) cx qX7_tell_34 rfl rfl hi2 rfl rfl ?_
      refine PW.goto cx qX7_tell_37 ?_
      exact PW.locs (Lsub.keep (Lsub.keep (Lsub.keep Lsub.nil))) (ih (v2 + 1) h4 _ hf kx)
set_option maxRecDepth 20000 in
theorem ctX7_tell {g : GT} {ex : Bool} {sh : List Shp} (hx : MSh sh) (h : Hp) (p1 : Int32) (r0 : Hp) (hf : M_tell h p1 = some r0) : Ct g mX7_tell 5 0 0 ex [.ref (gB g + 140), .ref (ga g (p1 : Int32).toNatClampNeg)] sh h (PE none sh r0) := by
  refine Ct.of (L := [some (.ref (gB g + 140)), some (.ref (ga g (p1 : Int32).toNatClampNeg)), none]) (by decide) (by intro w hw; simp only [List.mem_cons, List.not_mem_nil, or_false] at hw; rcases hw with rfl | rfl <;> rfl) (Nat.le_of_ble_eq_true rfl) rfl (fun X mx => ?_)
  have mx0 := mx
  obtain ⟨cx, hR, hml, hrt, -⟩ := mx0
  have cx : Cx g X RX7 cX7_tell := cx
  have hrt : X.2.2.2.2.2.2.2.1.sig.returnType = none := hrt
  have hi2 : 2 < X.2.2.2.2.2.2.2.2.maxLocals := by rw [hml]; exact Nat.le_of_ble_eq_true rfl
  unfold M_tell at hf
  refine PW.iconst (v := 0) cx qX7_tell_0 rfl ?_
  refine PW.istore_n (L' := [some (.ref (gB g + 140)), some (.ref (ga g (p1 : Int32).toNatClampNeg)), some (.int 0)]) cx qX7_tell_1 hi2 rfl rfl ?_
  obtain ⟨r5, er5, hf⟩ := bndO hf sne
  refine PW.locs (Lsub.keep (Lsub.keep (Lsub.keep Lsub.nil))) (lX7_tell_2 mx hx p1 FU 0 h r5 er5 (fun xx_ e => ?_))
  subst e
  exact PW.vret cx hrt qX7_tell_40 (le_wv hf)
set_option maxRecDepth 20000 in
theorem ctX7_sortOf {g : GT} {ex : Bool} {sh : List Shp} (h : Hp) (p1 : Int32) (r0 : Int32) (hf : M_sortOf p1 = some r0) : Ct g mX7_sortOf 0 0 0 ex [.int p1] sh h (PE (some (.int r0)) sh h) := by
  refine Ct.of (L := [some (.int p1)]) (by decide) (by intro w hw; simp only [List.mem_cons, List.not_mem_nil, or_false] at hw; rcases hw with rfl <;> rfl) (Nat.le_of_ble_eq_true rfl) rfl (fun X mx => ?_)
  obtain ⟨cx, hR, hml, hrt, -⟩ := mx
  have cx : Cx g X RX7 cX7_sortOf := cx
  have hrt : X.2.2.2.2.2.2.2.1.sig.returnType = (some .int) := hrt
  unfold M_sortOf at hf
  refine PW.iload_n cx qX7_sortOf_0 rfl ?_
  refine PW.bipush (v := 59) cx qX7_sortOf_1 rfl ?_
  refine PW.icmp_ne cx qX7_sortOf_3 hf (fun hf => ?_) (fun hf => ?_)
  · refine PW.iconst (v := 1) cx qX7_sortOf_6 rfl ?_
    refine PW.goto cx qX7_sortOf_7 ?_
    exact PW.iret cx hrt qX7_sortOf_64 (le_ri hf)
  · refine PW.iload_n cx qX7_sortOf_10 rfl ?_
    refine PW.bipush (v := 97) cx qX7_sortOf_11 rfl ?_
    obtain ⟨j26, ej26, hf⟩ := lt_split hf
    have hj26 : ∀ (u_26 : Unit), j26 u_26 = some r0 → PW g X ex (QE g X ex (PE (some (.int r0)) sh h) 0 0) 0 0 sh h 26 [some (.int p1)] [] := by
      intro u_26 hf
      rw [ej26] at hf
      refine PW.iload_n cx qX7_sortOf_26 rfl ?_
      refine PW.bipush (v := 48) cx qX7_sortOf_27 rfl ?_
      obtain ⟨j42, ej42, hf⟩ := lt_split hf
      have hj42 : ∀ (u_42 : Unit), j42 u_42 = some r0 → PW g X ex (QE g X ex (PE (some (.int r0)) sh h) 0 0) 0 0 sh h 42 [some (.int p1)] [] := by
        intro u_42 hf
        rw [ej42] at hf
        refine PW.iload_n cx qX7_sortOf_42 rfl ?_
        refine PW.bipush (v := 40) cx qX7_sortOf_43 rfl ?_
        refine PW.icmp_ne cx qX7_sortOf_45 hf (fun hf => ?_) (fun hf => ?_)
        · refine PW.iconst (v := 4) cx qX7_sortOf_48 rfl ?_
          refine PW.goto cx qX7_sortOf_49 ?_
          exact PW.iret cx hrt qX7_sortOf_64 (le_ri hf)
        · refine PW.iload_n cx qX7_sortOf_52 rfl ?_
          refine PW.bipush (v := 41) cx qX7_sortOf_53 rfl ?_
          refine PW.icmp_ne cx qX7_sortOf_55 hf (fun hf => ?_) (fun hf => ?_)
          · refine PW.iconst (v := 5) cx qX7_sortOf_58 rfl ?_
            refine PW.goto cx qX7_sortOf_59 ?_
            exact PW.iret cx hrt qX7_sortOf_64 (le_ri hf)
          · refine PW.bipush (v := 6) cx qX7_sortOf_62 rfl ?_
            exact PW.iret cx hrt qX7_sortOf_64 (le_ri hf)
      refine PW.icmp_lt cx qX7_sortOf_29 hf (fun hf => ?_) (fun hf => ?_)
      · exact PW.locs (Lsub.keep Lsub.nil) (hj42 () hf)
      · refine PW.iload_n cx qX7_sortOf_32 rfl ?_
        refine PW.bipush (v := 57) cx qX7_sortOf_33 rfl ?_
        refine PW.icmp_gt cx qX7_sortOf_35 hf (fun hf => ?_) (fun hf => ?_)
        · exact PW.locs (Lsub.keep Lsub.nil) (hj42 () hf)
        · refine PW.iconst (v := 3) cx qX7_sortOf_38 rfl ?_
          refine PW.goto cx qX7_sortOf_39 ?_
          exact PW.iret cx hrt qX7_sortOf_64 (le_ri hf)
    refine PW.icmp_lt cx qX7_sortOf_13 hf (fun hf => ?_) (fun hf => ?_)
    · exact PW.locs (Lsub.keep Lsub.nil) (hj26 () hf)
    · refine PW.iload_n cx qX7_sortOf_16 rfl ?_
      refine PW.bipush (v := 122) cx qX7_sortOf_17 rfl ?_
      refine PW.icmp_gt cx qX7_sortOf_19 hf (fun hf => ?_) (fun hf => ?_)
      · exact PW.locs (Lsub.keep Lsub.nil) (hj26 () hf)
      · refine PW.iconst (v := 2) cx qX7_sortOf_22 rfl ?_
        refine PW.goto cx qX7_sortOf_23 ?_
        exact PW.iret cx hrt qX7_sortOf_64 (le_ri hf)
set_option maxRecDepth 20000 in
theorem lX7_next_8 {g : GT} {X : XT} {ex : Bool} {post : Option Value → List Shp → Hp → Prop} {sh : List Shp} (mx : Mx g X mX7_next 1 0 0) (hx : MSh sh) : ∀ (n : Nat) (h : Hp) (r : Hp) (hf : M_next_L8 n h = some r) (kx : ∀ (h1 : Hp), r = h1 → PW g X ex (QE g X ex post 0 0) 0 0 sh h1 60 [some (.ref (gB g + 140)), none] []), PW g X ex (QE g X ex post 0 0) 0 0 sh h 8 [some (.ref (gB g + 140)), none] [] := by
  have mx0 := mx
  obtain ⟨cx, hR, hml, hrt, -⟩ := mx0
  have cx : Cx g X RX7 cX7_next := cx
  have hrt : X.2.2.2.2.2.2.2.1.sig.returnType = none := hrt
  have hi1 : 1 < X.2.2.2.2.2.2.2.2.maxLocals := by rw [hml]; exact Nat.le_of_ble_eq_true rfl
  intro n
  induction n with
  | zero =>
    intro h r hf kx
    cases hf
  | succ n ih =>
    intro h r hf kx
    unfold M_next_L8 at hf
    refine PW.aload_n cx qX7_next_8 rfl ?_
    refine PW.getf (t := (0, 0)) (v := .int (rd h 140 17)) cx qX7_next_9 (sh_140 hx) rfl flX7_161 rfl ?_
    refine PW.aload_n cx qX7_next_12 rfl ?_
    refine PW.getf (t := (0, 0)) (v := .int (rd h 140 10)) cx qX7_next_13 (sh_140 hx) rfl flX7_151 rfl ?_
    refine PW.icmp_ge cx qX7_next_16 hf (fun hf => ?_) (fun hf => ?_)
    · exact PW.locs (Lsub.keep (Lsub.drop Lsub.nil)) (kx h (Option.some.inj hf).symm)
    · refine PW.aload_n cx qX7_next_19 rfl ?_
      refine PW.getf (t := (2, 147)) (v := .ref (gB g + 147)) cx qX7_next_20 (sh_140 hx) rfl flX7_28 rfl ?_
      refine PW.aload_n cx qX7_next_23 rfl ?_
      refine PW.getf (t := (0, 0)) (v := .int (rd h 140 17)) cx qX7_next_24 (sh_140 hx) rfl flX7_161 rfl ?_
      refine PW.iald cx qX7_next_27 (sh_147 hx) hf sne (fun t2 hf => ?_)
      refine PW.bipush (v := 32) cx qX7_next_28 rfl ?_
      obtain ⟨j47, ej47, hf⟩ := lt_split hf
      have hj47 : ∀ (u_47 : Unit), j47 u_47 = some r → PW g X ex (QE g X ex post 0 0) 0 0 sh h 47 [some (.ref (gB g + 140)), none] [] := by
        intro u_47 hf
        rw [ej47] at hf
        refine PW.aload_n cx qX7_next_47 rfl ?_
        refine PW.dup cx qX7_next_48 rfl ?_
        refine PW.getf (t := (0, 0)) (v := .int (rd h 140 17)) cx qX7_next_49 (sh_140 hx) rfl flX7_161 rfl ?_
        refine PW.iconst (v := 1) cx qX7_next_52 rfl ?_
        refine PW.iadd cx qX7_next_53 ?_
        refine PW.putiN cx qX7_next_54 (sh_140 hx) rfl fpX7_161 hf (fun h3 hf => ?_)
        refine PW.goto cx qX7_next_57 ?_
        exact PW.locs (Lsub.keep (Lsub.drop Lsub.nil)) (ih h3 _ hf kx)
      refine PW.icmp_eq cx qX7_next_30 hf (fun hf => ?_) (fun hf => ?_)
      · exact PW.locs (Lsub.keep (Lsub.drop Lsub.nil)) (hj47 () hf)
      · refine PW.aload_n cx qX7_next_33 rfl ?_
        refine PW.getf (t := (2, 147)) (v := .ref (gB g + 147)) cx qX7_next_34 (sh_140 hx) rfl flX7_28 rfl ?_
        refine PW.aload_n cx qX7_next_37 rfl ?_
        refine PW.getf (t := (0, 0)) (v := .int (rd h 140 17)) cx qX7_next_38 (sh_140 hx) rfl flX7_161 rfl ?_
        refine PW.iald cx qX7_next_41 (sh_147 hx) hf sne (fun t4 hf => ?_)
        refine PW.bipush (v := 10) cx qX7_next_42 rfl ?_
        refine PW.icmp_ne cx qX7_next_44 hf (fun hf => ?_) (fun hf => ?_)
        · exact PW.locs (Lsub.keep (Lsub.drop Lsub.nil)) (hj47 () hf)
        · exact PW.locs (Lsub.keep (Lsub.drop Lsub.nil)) (kx h (Option.some.inj hf).symm)
set_option maxRecDepth 20000 in
theorem lX7_next_111 {g : GT} {X : XT} {ex : Bool} {post : Option Value → List Shp → Hp → Prop} {sh : List Shp} (mx : Mx g X mX7_next 1 0 0) (hx : MSh sh) : ∀ (n : Nat) (h : Hp) (r : Hp) (hf : M_next_L111 n h = some r) (kx : ∀ (h1 : Hp), r = h1 → PW g X ex (QE g X ex post 0 0) 0 0 sh h1 170 [some (.ref (gB g + 140)), none] []), PW g X ex (QE g X ex post 0 0) 0 0 sh h 111 [some (.ref (gB g + 140)), none] [] := by
  have mx0 := mx
  obtain ⟨cx, hR, hml, hrt, -⟩ := mx0
  have cx : Cx g X RX7 cX7_next := cx
  have hrt : X.2.2.2.2.2.2.2.1.sig.returnType = none := hrt
  have hi1 : 1 < X.2.2.2.2.2.2.2.2.maxLocals := by rw [hml]; exact Nat.le_of_ble_eq_true rfl
  intro n
  induction n with
  | zero =>
    intro h r hf kx
    cases hf
  | succ n ih =>
    intro h r hf kx
    unfold M_next_L111 at hf
    refine PW.aload_n cx qX7_next_111 rfl ?_
    refine PW.getf (t := (0, 0)) (v := .int (rd h 140 16)) cx qX7_next_112 (sh_140 hx) rfl flX7_164 rfl ?_
    refine PW.iconst (v := 2) cx qX7_next_115 rfl ?_
    obtain ⟨j127, ej127, hf⟩ := lt_split hf
    have hj127 : ∀ (u_127 : Unit), j127 u_127 = some r → PW g X ex (QE g X ex post 0 0) 0 0 sh h 127 [some (.ref (gB g + 140)), none] [] := by
      intro u_127 hf
      rw [ej127] at hf
      refine PW.aload_n cx qX7_next_127 rfl ?_
      refine PW.getf (t := (0, 0)) (v := .int (rd h 140 18)) cx qX7_next_128 (sh_140 hx) rfl flX7_158 rfl ?_
      refine PW.aload_n cx qX7_next_131 rfl ?_
      refine PW.getf (t := (0, 0)) (v := .int (rd h 140 10)) cx qX7_next_132 (sh_140 hx) rfl flX7_151 rfl ?_
      refine PW.icmp_ge cx qX7_next_135 hf (fun hf => ?_) (fun hf => ?_)
      · exact PW.locs (Lsub.keep (Lsub.drop Lsub.nil)) (kx h (Option.some.inj hf).symm)
      · refine PW.aload_n cx qX7_next_138 rfl ?_
        refine PW.getf (t := (2, 147)) (v := .ref (gB g + 147)) cx qX7_next_139 (sh_140 hx) rfl flX7_28 rfl ?_
        refine PW.aload_n cx qX7_next_142 rfl ?_
        refine PW.getf (t := (0, 0)) (v := .int (rd h 140 18)) cx qX7_next_143 (sh_140 hx) rfl flX7_158 rfl ?_
        refine PW.iald cx qX7_next_146 (sh_147 hx) hf sne (fun t12 hf => ?_)
        refine PW.callSRI (As := [.int t12]) (st := []) cx hR qX7_next_147 klX7_167 miX7_sortOf rfl rfl (Nat.le_of_ble_eq_true rfl) (Nat.le_of_ble_eq_true rfl) (Nat.le_of_ble_eq_true rfl) (Nat.zero_le _) (Nat.zero_le _) hf sne (fun t e => ctX7_sortOf h t12 t e) (fun t13 hf => ?_)
        refine PW.aload_n cx qX7_next_150 rfl ?_
        refine PW.getf (t := (0, 0)) (v := .int (rd h 140 16)) cx qX7_next_151 (sh_140 hx) rfl flX7_164 rfl ?_
        refine PW.icmp_ne cx qX7_next_154 hf (fun hf => ?_) (fun hf => ?_)
        · refine PW.aload_n cx qX7_next_157 rfl ?_
          refine PW.dup cx qX7_next_158 rfl ?_
          refine PW.getf (t := (0, 0)) (v := .int (rd h 140 18)) cx qX7_next_159 (sh_140 hx) rfl flX7_158 rfl ?_
          refine PW.iconst (v := 1) cx qX7_next_162 rfl ?_
          refine PW.iadd cx qX7_next_163 ?_
          refine PW.putiN cx qX7_next_164 (sh_140 hx) rfl fpX7_158 hf (fun h14 hf => ?_)
          refine PW.goto cx qX7_next_167 ?_
          exact PW.locs (Lsub.keep (Lsub.drop Lsub.nil)) (ih h14 _ hf kx)
        · exact PW.locs (Lsub.keep (Lsub.drop Lsub.nil)) (kx h (Option.some.inj hf).symm)
    refine PW.icmp_eq cx qX7_next_116 hf (fun hf => ?_) (fun hf => ?_)
    · exact PW.locs (Lsub.keep (Lsub.drop Lsub.nil)) (hj127 () hf)
    · refine PW.aload_n cx qX7_next_119 rfl ?_
      refine PW.getf (t := (0, 0)) (v := .int (rd h 140 16)) cx qX7_next_120 (sh_140 hx) rfl flX7_164 rfl ?_
      refine PW.iconst (v := 3) cx qX7_next_123 rfl ?_
      refine PW.icmp_ne cx qX7_next_124 hf (fun hf => ?_) (fun hf => ?_)
      · exact PW.locs (Lsub.keep (Lsub.drop Lsub.nil)) (hj127 () hf)
      · exact PW.locs (Lsub.keep (Lsub.drop Lsub.nil)) (kx h (Option.some.inj hf).symm)
set_option maxRecDepth 20000 in
theorem lX7_next_208 {g : GT} {X : XT} {ex : Bool} {post : Option Value → List Shp → Hp → Prop} {sh : List Shp} (mx : Mx g X mX7_next 1 0 0) (hx : MSh sh) : ∀ (n : Nat) (v1 : Int32) (h : Hp) (r : Hp) (hf : M_next_L208 n v1 h = some r) (kx : ∀ (h1 : Hp), r = h1 → PW g X ex (QE g X ex post 0 0) 0 0 sh h1 251 [some (.ref (gB g + 140)), none] []), PW g X ex (QE g X ex post 0 0) 0 0 sh h 208 [some (.ref (gB g + 140)), some (.int v1)] [] := by
  have mx0 := mx
  obtain ⟨cx, hR, hml, hrt, -⟩ := mx0
  have cx : Cx g X RX7 cX7_next := cx
  have hrt : X.2.2.2.2.2.2.2.1.sig.returnType = none := hrt
  have hi1 : 1 < X.2.2.2.2.2.2.2.2.maxLocals := by rw [hml]; exact Nat.le_of_ble_eq_true rfl
  intro n
  induction n with
  | zero =>
    intro v1 h r hf kx
    cases hf
  | succ n ih =>
    intro v1 h r hf kx
    unfold M_next_L208 at hf
    refine PW.iload_n cx qX7_next_208 rfl ?_
    refine PW.aload_n cx qX7_next_209 rfl ?_
    refine PW.getf (t := (0, 0)) (v := .int (rd h 140 18)) cx qX7_next_210 (sh_140 hx) rfl flX7_158 rfl ?_
    refine PW.icmp_ge cx qX7_next_213 hf (fun hf => ?_) (fun hf => ?_)
    · exact PW.locs (Lsub.keep (Lsub.drop Lsub.nil)) (kx h (Option.some.inj hf).symm)
    · refine PW.aload_n cx qX7_next_216 rfl ?_
      refine PW.getf (t := (0, 0)) (v := .int (rd h 140 16)) cx qX7_next_217 (sh_140 hx) rfl flX7_164 rfl ?_
      refine PW.iconst (v := 3) cx qX7_next_220 rfl ?_
      refine PW.icmp_ne cx qX7_next_221 hf (fun hf => ?_) (fun hf => ?_)
      · refine PW.aload_n cx qX7_next_224 rfl ?_
        refine PW.bipush (v := 10) cx qX7_next_225 rfl ?_
        refine PW.aload_n cx qX7_next_227 rfl ?_
        refine PW.getf (t := (0, 0)) (v := .int (rd h 140 19)) cx qX7_next_228 (sh_140 hx) rfl flX7_170 rfl ?_
        refine PW.imul cx qX7_next_231 ?_
        refine PW.aload_n cx qX7_next_232 rfl ?_
        refine PW.getf (t := (2, 147)) (v := .ref (gB g + 147)) cx qX7_next_233 (sh_140 hx) rfl flX7_28 rfl ?_
        refine PW.iload_n cx qX7_next_236 rfl ?_
        refine PW.iald cx qX7_next_237 (sh_147 hx) hf sne (fun t17 hf => ?_)
        refine PW.iadd cx qX7_next_238 ?_
        refine PW.bipush (v := 48) cx qX7_next_239 rfl ?_
        refine PW.isub cx qX7_next_241 ?_
        refine PW.putiN cx qX7_next_242 (sh_140 hx) rfl fpX7_170 hf (fun h18 hf => ?_)
        refine PW.iinc (v := 1) (L' := [some (.ref (gB g + 140)), some (.int (v1 + 1))]) cx qX7_next_245 rfl rfl hi1 rfl rfl ?_
        refine PW.goto cx qX7_next_248 ?_
        exact PW.locs (Lsub.keep (Lsub.keep Lsub.nil)) (ih (v1 + 1) h18 _ hf kx)
      · exact PW.locs (Lsub.keep (Lsub.drop Lsub.nil)) (kx h (Option.some.inj hf).symm)
set_option maxRecDepth 20000 in
theorem ctX7_next {g : GT} {ex : Bool} {sh : List Shp} (hx : MSh sh) (h : Hp) (r0 : Hp) (hf : M_next h = some r0) : Ct g mX7_next 1 0 0 ex [.ref (gB g + 140)] sh h (PE none sh r0) := by
  refine Ct.of (L := [some (.ref (gB g + 140)), none]) (by decide) (by intro w hw; simp only [List.mem_cons, List.not_mem_nil, or_false] at hw; rcases hw with rfl <;> rfl) (Nat.le_of_ble_eq_true rfl) rfl (fun X mx => ?_)
  have mx0 := mx
  obtain ⟨cx, hR, hml, hrt, -⟩ := mx0
  have cx : Cx g X RX7 cX7_next := cx
  have hrt : X.2.2.2.2.2.2.2.1.sig.returnType = none := hrt
  have hi1 : 1 < X.2.2.2.2.2.2.2.2.maxLocals := by rw [hml]; exact Nat.le_of_ble_eq_true rfl
  unfold M_next at hf
  refine PW.aload_n cx qX7_next_0 rfl ?_
  refine PW.aload_n cx qX7_next_1 rfl ?_
  refine PW.getf (t := (0, 0)) (v := .int (rd h 140 18)) cx qX7_next_2 (sh_140 hx) rfl flX7_158 rfl ?_
  refine PW.putiN cx qX7_next_5 (sh_140 hx) rfl fpX7_161 hf (fun h1 hf => ?_)
  obtain ⟨r5, er5, hf⟩ := bndO hf sne
  refine PW.locs (Lsub.keep (Lsub.drop Lsub.nil)) (lX7_next_8 mx hx FU h1 r5 er5 (fun xx_ e => ?_))
  subst e
  refine PW.aload_n cx qX7_next_60 rfl ?_
  refine PW.aload_n cx qX7_next_61 rfl ?_
  refine PW.getf (t := (0, 0)) (v := .int (rd r5 140 17)) cx qX7_next_62 (sh_140 hx) rfl flX7_161 rfl ?_
  refine PW.putiN cx qX7_next_65 (sh_140 hx) rfl fpX7_158 hf (fun h6 hf => ?_)
  refine PW.aload_n cx qX7_next_68 rfl ?_
  refine PW.getf (t := (0, 0)) (v := .int (rd h6 140 17)) cx qX7_next_69 (sh_140 hx) rfl flX7_161 rfl ?_
  refine PW.aload_n cx qX7_next_72 rfl ?_
  refine PW.getf (t := (0, 0)) (v := .int (rd h6 140 10)) cx qX7_next_73 (sh_140 hx) rfl flX7_151 rfl ?_
  refine PW.icmp_ne cx qX7_next_76 hf (fun hf => ?_) (fun hf => ?_)
  · refine PW.aload_n cx qX7_next_79 rfl ?_
    refine PW.iconst (v := 0) cx qX7_next_80 rfl ?_
    refine PW.putiN cx qX7_next_81 (sh_140 hx) rfl fpX7_164 hf (fun h7 hf => ?_)
    exact PW.vret cx hrt qX7_next_84 (le_wv hf)
  · refine PW.aload_n cx qX7_next_85 rfl ?_
    refine PW.aload_n cx qX7_next_86 rfl ?_
    refine PW.getf (t := (2, 147)) (v := .ref (gB g + 147)) cx qX7_next_87 (sh_140 hx) rfl flX7_28 rfl ?_
    refine PW.aload_n cx qX7_next_90 rfl ?_
    refine PW.getf (t := (0, 0)) (v := .int (rd h6 140 17)) cx qX7_next_91 (sh_140 hx) rfl flX7_161 rfl ?_
    refine PW.iald cx qX7_next_94 (sh_147 hx) hf sne (fun t8 hf => ?_)
    refine PW.callSRI (As := [.int t8]) (st := [.ref (gB g + 140)]) cx hR qX7_next_95 klX7_167 miX7_sortOf rfl rfl (Nat.le_of_ble_eq_true rfl) (Nat.le_of_ble_eq_true rfl) (Nat.le_of_ble_eq_true rfl) (Nat.zero_le _) (Nat.zero_le _) hf sne (fun t e => ctX7_sortOf h6 t8 t e) (fun t9 hf => ?_)
    refine PW.putiN cx qX7_next_98 (sh_140 hx) rfl fpX7_164 hf (fun h10 hf => ?_)
    refine PW.aload_n cx qX7_next_101 rfl ?_
    refine PW.dup cx qX7_next_102 rfl ?_
    refine PW.getf (t := (0, 0)) (v := .int (rd h10 140 18)) cx qX7_next_103 (sh_140 hx) rfl flX7_158 rfl ?_
    refine PW.iconst (v := 1) cx qX7_next_106 rfl ?_
    refine PW.iadd cx qX7_next_107 ?_
    refine PW.putiN cx qX7_next_108 (sh_140 hx) rfl fpX7_158 hf (fun h11 hf => ?_)
    obtain ⟨r15, er15, hf⟩ := bndO hf sne
    refine PW.locs (Lsub.keep (Lsub.drop Lsub.nil)) (lX7_next_111 mx hx FU h11 r15 er15 (fun xx_ e => ?_))
    subst e
    refine PW.aload_n cx qX7_next_170 rfl ?_
    refine PW.getf (t := (0, 0)) (v := .int (rd r15 140 16)) cx qX7_next_171 (sh_140 hx) rfl flX7_164 rfl ?_
    refine PW.iconst (v := 3) cx qX7_next_174 rfl ?_
    obtain ⟨j198, ej198, hf⟩ := lt_split hf
    have hj198 : ∀ (h_198 : Hp), j198 h_198 = some r0 → PW g X ex (QE g X ex (PE none sh r0) 0 0) 0 0 sh h_198 198 [some (.ref (gB g + 140)), none] [] := by
      intro h_198 hf
      rw [ej198] at hf
      refine PW.aload_n cx qX7_next_198 rfl ?_
      refine PW.iconst (v := 0) cx qX7_next_199 rfl ?_
      refine PW.putiN cx qX7_next_200 (sh_140 hx) rfl fpX7_170 hf (fun h16 hf => ?_)
      refine PW.aload_n cx qX7_next_203 rfl ?_
      refine PW.getf (t := (0, 0)) (v := .int (rd h16 140 17)) cx qX7_next_204 (sh_140 hx) rfl flX7_161 rfl ?_
      refine PW.istore_n (L' := [some (.ref (gB g + 140)), some (.int (rd h16 140 17))]) cx qX7_next_207 hi1 rfl rfl ?_
      obtain ⟨r19, er19, hf⟩ := bndO hf sne
      refine PW.locs (Lsub.keep (Lsub.keep Lsub.nil)) (lX7_next_208 mx hx FU (rd h16 140 17) h16 r19 er19 (fun xx_ e => ?_))
      subst e
      exact PW.vret cx hrt qX7_next_251 (le_wv hf)
    refine PW.icmp_ne cx qX7_next_175 hf (fun hf => ?_) (fun hf => ?_)
    · refine PW.aload_n cx qX7_next_178 rfl ?_
      refine PW.getf (t := (0, 0)) (v := .int (rd r15 140 18)) cx qX7_next_179 (sh_140 hx) rfl flX7_158 rfl ?_
      refine PW.aload_n cx qX7_next_182 rfl ?_
      refine PW.getf (t := (0, 0)) (v := .int (rd r15 140 17)) cx qX7_next_183 (sh_140 hx) rfl flX7_161 rfl ?_
      refine PW.isub cx qX7_next_186 ?_
      refine PW.bipush (v := 8) cx qX7_next_187 rfl ?_
      refine PW.icmp_le cx qX7_next_189 hf (fun hf => ?_) (fun hf => ?_)
      · exact PW.locs (Lsub.keep (Lsub.drop Lsub.nil)) (hj198 r15 hf)
      · refine PW.aload_n cx qX7_next_192 rfl ?_
        refine PW.bipush (v := 6) cx qX7_next_193 rfl ?_
        refine PW.putiN cx qX7_next_195 (sh_140 hx) rfl fpX7_164 hf (fun h20 hf => ?_)
        exact PW.locs (Lsub.keep (Lsub.drop Lsub.nil)) (hj198 h20 hf)
    · exact PW.locs (Lsub.keep (Lsub.drop Lsub.nil)) (hj198 r15 hf)
set_option maxRecDepth 20000 in
theorem lX7_says_28 {g : GT} {X : XT} {ex : Bool} {post : Option Value → List Shp → Hp → Prop} {sh : List Shp} (mx : Mx g X mX7_says 5 0 0) (hx : MSh sh) (h : Hp) (c1 : Int32) : ∀ (n : Nat) (v2 : Int32) (r : (Unit) ⊕ (Bool)) (hf : M_says_L28 h c1 n v2 = some r) (kx : r = .inl () → PW g X ex (QE g X ex post 0 0) 0 0 sh h 63 [some (.ref (gB g + 140)), some (.ref (ga g (c1 : Int32).toNatClampNeg)), none] []) (kr : ∀ y : Bool, r = .inr y → post (some (.int (b2i y))) sh h), PW g X ex (QE g X ex post 0 0) 0 0 sh h 28 [some (.ref (gB g + 140)), some (.ref (ga g (c1 : Int32).toNatClampNeg)), some (.int v2)] [] := by
  have mx0 := mx
  obtain ⟨cx, hR, hml, hrt, -⟩ := mx0
  have cx : Cx g X RX7 cX7_says := cx
  have hrt : X.2.2.2.2.2.2.2.1.sig.returnType = (some .boolean) := hrt
  have hi2 : 2 < X.2.2.2.2.2.2.2.2.maxLocals := by rw [hml]; exact Nat.le_of_ble_eq_true rfl
  intro n
  induction n with
  | zero =>
    intro v2 r hf kx kr
    cases hf
  | succ n ih =>
    intro v2 r hf kx kr
    unfold M_says_L28 at hf
    refine PW.iload_n cx qX7_says_28 rfl ?_
    refine PW.aload_n cx qX7_says_29 rfl ?_
    refine PW.slen cx hR qX7_says_30 klX7_145 (Nat.le_of_ble_eq_true rfl) (Nat.le_of_ble_eq_true rfl) (Nat.zero_le _) (Nat.zero_le _) hf sne (fun t2 hf => ?_)
    refine PW.icmp_ge cx qX7_says_33 hf (fun hf => ?_) (fun hf => ?_)
    · exact PW.locs (Lsub.keep (Lsub.keep (Lsub.drop Lsub.nil))) (kx (Option.some.inj hf).symm)
    · refine PW.aload_n cx qX7_says_36 rfl ?_
      refine PW.getf (t := (2, 147)) (v := .ref (gB g + 147)) cx qX7_says_37 (sh_140 hx) rfl flX7_28 rfl ?_
      refine PW.aload_n cx qX7_says_40 rfl ?_
      refine PW.getf (t := (0, 0)) (v := .int (rd h 140 17)) cx qX7_says_41 (sh_140 hx) rfl flX7_161 rfl ?_
      refine PW.iload_n cx qX7_says_44 rfl ?_
      refine PW.iadd cx qX7_says_45 ?_
      refine PW.iald cx qX7_says_46 (sh_147 hx) hf sne (fun t3 hf => ?_)
      refine PW.aload_n cx qX7_says_47 rfl ?_
      refine PW.iload_n cx qX7_says_48 rfl ?_
      refine PW.schar cx hR qX7_says_49 klX7_154 (Nat.le_of_ble_eq_true rfl) (Nat.le_of_ble_eq_true rfl) (Nat.zero_le _) (Nat.zero_le _) hf sne (fun t4 hf => ?_)
      refine PW.icmp_eq cx qX7_says_52 hf (fun hf => ?_) (fun hf => ?_)
      · refine PW.iinc (v := 1) (L' := [some (.ref (gB g + 140)), some (.ref (ga g (c1 : Int32).toNatClampNeg)), some (.int (v2 + 1))]) cx qX7_says_57 rfl rfl hi2 rfl rfl ?_
        refine PW.goto cx qX7_says_60 ?_
        exact PW.locs (Lsub.keep (Lsub.keep (Lsub.keep Lsub.nil))) (ih (v2 + 1) _ hf kx kr)
      · refine PW.iconst (v := 0) cx qX7_says_55 rfl ?_
        exact PW.zret cx hrt nb0 qX7_says_56 (kr _ (Option.some.inj hf).symm)
set_option maxRecDepth 20000 in
theorem ctX7_says {g : GT} {ex : Bool} {sh : List Shp} (hx : MSh sh) (h : Hp) (p1 : Int32) (r0 : Bool) (hf : M_says h p1 = some r0) : Ct g mX7_says 5 0 0 ex [.ref (gB g + 140), .ref (ga g (p1 : Int32).toNatClampNeg)] sh h (PE (some (.int (b2i r0))) sh h) := by
  refine Ct.of (L := [some (.ref (gB g + 140)), some (.ref (ga g (p1 : Int32).toNatClampNeg)), none]) (by decide) (by intro w hw; simp only [List.mem_cons, List.not_mem_nil, or_false] at hw; rcases hw with rfl | rfl <;> rfl) (Nat.le_of_ble_eq_true rfl) rfl (fun X mx => ?_)
  have mx0 := mx
  obtain ⟨cx, hR, hml, hrt, -⟩ := mx0
  have cx : Cx g X RX7 cX7_says := cx
  have hrt : X.2.2.2.2.2.2.2.1.sig.returnType = (some .boolean) := hrt
  have hi2 : 2 < X.2.2.2.2.2.2.2.2.maxLocals := by rw [hml]; exact Nat.le_of_ble_eq_true rfl
  unfold M_says at hf
  refine PW.aload_n cx qX7_says_0 rfl ?_
  refine PW.getf (t := (0, 0)) (v := .int (rd h 140 16)) cx qX7_says_1 (sh_140 hx) rfl flX7_164 rfl ?_
  refine PW.iconst (v := 2) cx qX7_says_4 rfl ?_
  refine PW.icmp_ne cx qX7_says_5 hf (fun hf => ?_) (fun hf => ?_)
  · refine PW.aload_n cx qX7_says_8 rfl ?_
    refine PW.getf (t := (0, 0)) (v := .int (rd h 140 18)) cx qX7_says_9 (sh_140 hx) rfl flX7_158 rfl ?_
    refine PW.aload_n cx qX7_says_12 rfl ?_
    refine PW.getf (t := (0, 0)) (v := .int (rd h 140 17)) cx qX7_says_13 (sh_140 hx) rfl flX7_161 rfl ?_
    refine PW.isub cx qX7_says_16 ?_
    refine PW.aload_n cx qX7_says_17 rfl ?_
    refine PW.slen cx hR qX7_says_18 klX7_145 (Nat.le_of_ble_eq_true rfl) (Nat.le_of_ble_eq_true rfl) (Nat.zero_le _) (Nat.zero_le _) hf sne (fun t1 hf => ?_)
    refine PW.icmp_eq cx qX7_says_21 hf (fun hf => ?_) (fun hf => ?_)
    · refine PW.iconst (v := 0) cx qX7_says_26 rfl ?_
      refine PW.istore_n (L' := [some (.ref (gB g + 140)), some (.ref (ga g (p1 : Int32).toNatClampNeg)), some (.int 0)]) cx qX7_says_27 hi2 rfl rfl ?_
      obtain ⟨r5, er5, hf⟩ := bndO hf sne
      refine PW.locs (Lsub.keep (Lsub.keep (Lsub.keep Lsub.nil))) (lX7_says_28 mx hx h p1 FU 0 r5 er5 (fun e => ?_) (fun y e => ?_))
      · subst e
        refine PW.iconst (v := 1) cx qX7_says_63 rfl ?_
        exact PW.zret cx hrt nb1 qX7_says_64 (le_rz hf)
      · subst e
        exact (le_rz hf)
    · refine PW.iconst (v := 0) cx qX7_says_24 rfl ?_
      exact PW.zret cx hrt nb0 qX7_says_25 (le_rz hf)
  · refine PW.iconst (v := 0) cx qX7_says_24 rfl ?_
    exact PW.zret cx hrt nb0 qX7_says_25 (le_rz hf)
set_option maxRecDepth 20000 in
theorem ctX7_fail {g : GT} {ex : Bool} {sh : List Shp} (hx : MSh sh) (h : Hp) (p1 : Int32) (r0 : Bool × Hp) (hf : M_fail h p1 = some r0) : Ct g mX7_fail 0 0 0 ex [.ref (gB g + 140), .int p1] sh h (PE (some (.int (b2i r0.1))) sh r0.2) := by
  refine Ct.of (L := [some (.ref (gB g + 140)), some (.int p1)]) (by decide) (by intro w hw; simp only [List.mem_cons, List.not_mem_nil, or_false] at hw; rcases hw with rfl | rfl <;> rfl) (Nat.le_of_ble_eq_true rfl) rfl (fun X mx => ?_)
  obtain ⟨cx, hR, hml, hrt, -⟩ := mx
  have cx : Cx g X RX7 cX7_fail := cx
  have hrt : X.2.2.2.2.2.2.2.1.sig.returnType = (some .boolean) := hrt
  unfold M_fail at hf
  refine PW.aload_n cx qX7_fail_0 rfl ?_
  refine PW.getf (t := (0, 0)) (v := .int (rd h 140 11)) cx qX7_fail_1 (sh_140 hx) rfl flX7_173 rfl ?_
  refine PW.if_ne cx qX7_fail_4 hf (fun hf => ?_) (fun hf => ?_)
  · refine PW.aload_n cx qX7_fail_7 rfl ?_
    refine PW.iload_n cx qX7_fail_8 rfl ?_
    refine PW.putiN cx qX7_fail_9 (sh_140 hx) rfl fpX7_173 hf (fun h1 hf => ?_)
    refine PW.aload_n cx qX7_fail_12 rfl ?_
    refine PW.aload_n cx qX7_fail_13 rfl ?_
    refine PW.getf (t := (0, 0)) (v := .int (rd h1 140 17)) cx qX7_fail_14 (sh_140 hx) rfl flX7_161 rfl ?_
    refine PW.putiN cx qX7_fail_17 (sh_140 hx) rfl fpX7_31 hf (fun h2 hf => ?_)
    refine PW.iconst (v := 0) cx qX7_fail_20 rfl ?_
    exact PW.zret cx hrt nb0 qX7_fail_21 (le_wz hf)
  · refine PW.iconst (v := 0) cx qX7_fail_20 rfl ?_
    exact PW.zret cx hrt nb0 qX7_fail_21 (le_wz hf)
set_option maxRecDepth 20000 in
theorem ctX7_is {g : GT} {ex : Bool} {sh : List Shp} (hx : MSh sh) (h : Hp) (p1 : Int32) (r0 : Bool × Hp) (hf : M_is h p1 = some r0) : Ct g mX7_is 1 0 0 ex [.ref (gB g + 140), .int p1] sh h (PE (some (.int (b2i r0.1))) sh r0.2) := by
  refine Ct.of (L := [some (.ref (gB g + 140)), some (.int p1)]) (by decide) (by intro w hw; simp only [List.mem_cons, List.not_mem_nil, or_false] at hw; rcases hw with rfl | rfl <;> rfl) (Nat.le_of_ble_eq_true rfl) rfl (fun X mx => ?_)
  obtain ⟨cx, hR, hml, hrt, -⟩ := mx
  have cx : Cx g X RX7 cX7_is := cx
  have hrt : X.2.2.2.2.2.2.2.1.sig.returnType = (some .boolean) := hrt
  unfold M_is at hf
  refine PW.aload_n cx qX7_is_0 rfl ?_
  refine PW.getf (t := (0, 0)) (v := .int (rd h 140 16)) cx qX7_is_1 (sh_140 hx) rfl flX7_164 rfl ?_
  refine PW.iload_n cx qX7_is_4 rfl ?_
  refine PW.icmp_eq cx qX7_is_5 hf (fun hf => ?_) (fun hf => ?_)
  · refine PW.iconst (v := 1) cx qX7_is_16 rfl ?_
    refine PW.goto cx qX7_is_17 ?_
    exact PW.zret cx hrt nb1 qX7_is_21 (le_wz hf)
  · refine PW.aload_n cx qX7_is_8 rfl ?_
    refine PW.iconst (v := 1) cx qX7_is_9 rfl ?_
    refine PW.callVWBc (As := [.int 1]) (st := []) cx hR qX7_is_10 klX7_176 mvX7_fail (sh_140 hx) rfl rfl rfl rfl (Nat.le_of_ble_eq_true rfl) (Nat.le_of_ble_eq_true rfl) (Nat.le_of_ble_eq_true rfl) (Nat.zero_le _) (Nat.zero_le _) hf sne (fun t e => ctX7_fail hx h 1 t e) (fun t1 h2 hf => ?_)
    refine PW.if_eq cx qX7_is_13 hf (fun hf => ?_) (fun hf => ?_)
    · refine PW.iconst (v := 0) cx qX7_is_20 rfl ?_
      exact PW.zret cx hrt nb0 qX7_is_21 (le_wz hf)
    · refine PW.iconst (v := 1) cx qX7_is_16 rfl ?_
      refine PW.goto cx qX7_is_17 ?_
      exact PW.zret cx hrt nb1 qX7_is_21 (le_wz hf)
set_option maxRecDepth 20000 in
theorem ctX7_number {g : GT} {ex : Bool} {sh : List Shp} (hx : MSh sh) (h : Hp) (p1 : Int32) (p2 : Int32) (p3 : Int32) (r0 : Bool × Hp) (hf : M_number h p1 p2 p3 = some r0) : Ct g mX7_number 2 0 0 ex [.ref (gB g + 140), .int p1, .int p2, .int p3] sh h (PE (some (.int (b2i r0.1))) sh r0.2) := by
  refine Ct.of (L := [some (.ref (gB g + 140)), some (.int p1), some (.int p2), some (.int p3)]) (by decide) (by intro w hw; simp only [List.mem_cons, List.not_mem_nil, or_false] at hw; rcases hw with rfl | rfl | rfl | rfl <;> rfl) (Nat.le_of_ble_eq_true rfl) rfl (fun X mx => ?_)
  obtain ⟨cx, hR, hml, hrt, -⟩ := mx
  have cx : Cx g X RX7 cX7_number := cx
  have hrt : X.2.2.2.2.2.2.2.1.sig.returnType = (some .boolean) := hrt
  unfold M_number at hf
  refine PW.aload_n cx qX7_number_0 rfl ?_
  refine PW.iconst (v := 3) cx qX7_number_1 rfl ?_
  refine PW.callVWBc (As := [.int 3]) (st := []) cx hR qX7_number_2 klX7_179 mvX7_is (sh_140 hx) rfl rfl rfl rfl (Nat.le_of_ble_eq_true rfl) (Nat.le_of_ble_eq_true rfl) (Nat.le_of_ble_eq_true rfl) (Nat.zero_le _) (Nat.zero_le _) hf sne (fun t e => ctX7_is hx h 3 t e) (fun t1 h2 hf => ?_)
  refine PW.if_ne cx qX7_number_5 hf (fun hf => ?_) (fun hf => ?_)
  · refine PW.iconst (v := 0) cx qX7_number_8 rfl ?_
    exact PW.zret cx hrt nb0 qX7_number_9 (le_wz hf)
  · refine PW.aload_n cx qX7_number_10 rfl ?_
    refine PW.getf (t := (0, 0)) (v := .int (rd h2 140 19)) cx qX7_number_11 (sh_140 hx) rfl flX7_170 rfl ?_
    refine PW.iload_n cx qX7_number_14 rfl ?_
    refine PW.iload_n cx qX7_number_15 rfl ?_
    refine PW.callSRB (As := [.int (rd h2 140 19), .int p2, .int p3]) (st := []) cx hR qX7_number_16 klX7_57 miX7_in rfl rfl (Nat.le_of_ble_eq_true rfl) (Nat.le_of_ble_eq_true rfl) (Nat.le_of_ble_eq_true rfl) (Nat.zero_le _) (Nat.zero_le _) hf sne (fun t e => ctX7_in h2 (rd h2 140 19) p2 p3 t e) (fun t3 hf => ?_)
    refine PW.if_ne cx qX7_number_19 hf (fun hf => ?_) (fun hf => ?_)
    · refine PW.aload_n cx qX7_number_22 rfl ?_
      refine PW.iconst (v := 2) cx qX7_number_23 rfl ?_
      refine PW.callVWBc (As := [.int 2]) (st := []) cx hR qX7_number_24 klX7_176 mvX7_fail (sh_140 hx) rfl rfl rfl rfl (Nat.le_of_ble_eq_true rfl) (Nat.le_of_ble_eq_true rfl) (Nat.le_of_ble_eq_true rfl) (Nat.zero_le _) (Nat.zero_le _) hf sne (fun t e => ctX7_fail hx h2 2 t e) (fun t4 h5 hf => ?_)
      exact PW.zret cx hrt (nbb _) qX7_number_27 (le_wz hf)
    · refine PW.aload_n cx qX7_number_28 rfl ?_
      refine PW.getf (t := (2, 149)) (v := .ref (gB g + 149)) cx qX7_number_29 (sh_140 hx) rfl flX7_39 rfl ?_
      refine PW.iload_n cx qX7_number_32 rfl ?_
      refine PW.aload_n cx qX7_number_33 rfl ?_
      refine PW.getf (t := (0, 0)) (v := .int (rd h2 140 19)) cx qX7_number_34 (sh_140 hx) rfl flX7_170 rfl ?_
      refine PW.iast cx qX7_number_37 (sh_149 hx) hf sne (fun h6 hf => ?_)
      refine PW.aload_n cx qX7_number_38 rfl ?_
      refine PW.callVWV (As := []) (st := []) cx hR qX7_number_39 klX7_182 mvX7_next (sh_140 hx) rfl rfl rfl rfl (Nat.le_of_ble_eq_true rfl) (Nat.le_of_ble_eq_true rfl) (Nat.le_of_ble_eq_true rfl) (Nat.zero_le _) (Nat.zero_le _) hf sne (fun t e => ctX7_next hx h6 t e) (fun h8 hf => ?_)
      refine PW.iconst (v := 1) cx qX7_number_42 rfl ?_
      exact PW.zret cx hrt nb1 qX7_number_43 (le_wz hf)
set_option maxRecDepth 20000 in
theorem ctX7_clipAt {g : GT} {ex : Bool} {sh : List Shp} (hx : MSh sh) (h : Hp) (p1 : Int32) (r0 : Bool × Hp) (hf : M_clipAt h p1 = some r0) : Ct g mX7_clipAt 3 0 0 ex [.ref (gB g + 140), .int p1] sh h (PE (some (.int (b2i r0.1))) sh r0.2) := by
  refine Ct.of (L := [some (.ref (gB g + 140)), some (.int p1)]) (by decide) (by intro w hw; simp only [List.mem_cons, List.not_mem_nil, or_false] at hw; rcases hw with rfl | rfl <;> rfl) (Nat.le_of_ble_eq_true rfl) rfl (fun X mx => ?_)
  obtain ⟨cx, hR, hml, hrt, -⟩ := mx
  have cx : Cx g X RX7 cX7_clipAt := cx
  have hrt : X.2.2.2.2.2.2.2.1.sig.returnType = (some .boolean) := hrt
  unfold M_clipAt at hf
  refine PW.aload_n cx qX7_clipAt_0 rfl ?_
  refine PW.iload_n cx qX7_clipAt_1 rfl ?_
  refine PW.iconst (v := 0) cx qX7_clipAt_2 rfl ?_
  refine PW.aload_n cx qX7_clipAt_3 rfl ?_
  refine PW.getf (t := (2, 141)) (v := .ref (gB g + 141)) cx qX7_clipAt_4 (sh_140 hx) rfl flX7_7 rfl ?_
  refine PW.iconst (v := 2) cx qX7_clipAt_7 rfl ?_
  refine PW.iald cx qX7_clipAt_8 (sh_141 hx) hf sne (fun t1 hf => ?_)
  refine PW.iconst (v := 1) cx qX7_clipAt_9 rfl ?_
  refine PW.isub cx qX7_clipAt_10 ?_
  refine PW.callVWBc (As := [.int p1, .int 0, .int (t1 - 1)]) (st := []) cx hR qX7_clipAt_11 klX7_185 mvX7_number (sh_140 hx) rfl rfl rfl rfl (Nat.le_of_ble_eq_true rfl) (Nat.le_of_ble_eq_true rfl) (Nat.le_of_ble_eq_true rfl) (Nat.zero_le _) (Nat.zero_le _) hf sne (fun t e => ctX7_number hx h p1 0 (t1 - 1) t e) (fun t2 h3 hf => ?_)
  exact PW.zret cx hrt (nbb _) qX7_clipAt_14 (le_wz hf)
set_option maxRecDepth 20000 in
theorem ctX7_stops {g : GT} {ex : Bool} {sh : List Shp} (hx : MSh sh) (h : Hp) (p1 : Bool) (r0 : Bool × Hp) (hf : M_stops h p1 = some r0) : Ct g mX7_stops 2 0 0 ex [.ref (gB g + 140), .int (b2i p1)] sh h (PE (some (.int (b2i r0.1))) sh r0.2) := by
  refine Ct.of (L := [some (.ref (gB g + 140)), some (.int (b2i p1))]) (by decide) (by intro w hw; simp only [List.mem_cons, List.not_mem_nil, or_false] at hw; rcases hw with rfl | rfl <;> rfl) (Nat.le_of_ble_eq_true rfl) rfl (fun X mx => ?_)
  obtain ⟨cx, hR, hml, hrt, -⟩ := mx
  have cx : Cx g X RX7 cX7_stops := cx
  have hrt : X.2.2.2.2.2.2.2.1.sig.returnType = (some .boolean) := hrt
  unfold M_stops at hf
  refine PW.aload_n cx qX7_stops_0 rfl ?_
  refine PW.iconst (v := 1) cx qX7_stops_1 rfl ?_
  refine PW.callVWBc (As := [.int 1]) (st := []) cx hR qX7_stops_2 klX7_179 mvX7_is (sh_140 hx) rfl rfl rfl rfl (Nat.le_of_ble_eq_true rfl) (Nat.le_of_ble_eq_true rfl) (Nat.le_of_ble_eq_true rfl) (Nat.zero_le _) (Nat.zero_le _) hf sne (fun t e => ctX7_is hx h 1 t e) (fun t1 h2 hf => ?_)
  refine PW.if_eq cx qX7_stops_5 hf (fun hf => ?_) (fun hf => ?_)
  · refine PW.iconst (v := 0) cx qX7_stops_24 rfl ?_
    exact PW.zret cx hrt nb0 qX7_stops_25 (le_wz hf)
  · refine PW.iload_n cx qX7_stops_8 rfl ?_
    refine PW.if_ne cx qX7_stops_9 hf (fun hf => ?_) (fun hf => ?_)
    · refine PW.aload_n cx qX7_stops_12 rfl ?_
      refine PW.iconst (v := 3) cx qX7_stops_13 rfl ?_
      refine PW.callVWBc (As := [.int 3]) (st := []) cx hR qX7_stops_14 klX7_176 mvX7_fail (sh_140 hx) rfl rfl rfl rfl (Nat.le_of_ble_eq_true rfl) (Nat.le_of_ble_eq_true rfl) (Nat.le_of_ble_eq_true rfl) (Nat.zero_le _) (Nat.zero_le _) hf sne (fun t e => ctX7_fail hx h2 3 t e) (fun t3 h4 hf => ?_)
      refine PW.if_eq cx qX7_stops_17 hf (fun hf => ?_) (fun hf => ?_)
      · refine PW.iconst (v := 0) cx qX7_stops_24 rfl ?_
        exact PW.zret cx hrt nb0 qX7_stops_25 (le_wz hf)
      · refine PW.iconst (v := 1) cx qX7_stops_20 rfl ?_
        refine PW.goto cx qX7_stops_21 ?_
        exact PW.zret cx hrt nb1 qX7_stops_25 (le_wz hf)
    · refine PW.iconst (v := 1) cx qX7_stops_20 rfl ?_
      refine PW.goto cx qX7_stops_21 ?_
      exact PW.zret cx hrt nb1 qX7_stops_25 (le_wz hf)
set_option maxRecDepth 20000 in
theorem ctX7_readsClip {g : GT} {ex : Bool} {sh : List Shp} (hx : MSh sh) (h : Hp) (r0 : Bool × Hp) (hf : M_readsClip h = some r0) : Ct g mX7_readsClip 3 0 0 ex [.ref (gB g + 140)] sh h (PE (some (.int (b2i r0.1))) sh r0.2) := by
  refine Ct.of (L := [some (.ref (gB g + 140))]) (by decide) (by intro w hw; simp only [List.mem_cons, List.not_mem_nil, or_false] at hw; rcases hw with rfl <;> rfl) (Nat.le_of_ble_eq_true rfl) rfl (fun X mx => ?_)
  obtain ⟨cx, hR, hml, hrt, -⟩ := mx
  have cx : Cx g X RX7 cX7_readsClip := cx
  have hrt : X.2.2.2.2.2.2.2.1.sig.returnType = (some .boolean) := hrt
  unfold M_readsClip at hf
  refine PW.aload_n cx qX7_readsClip_0 rfl ?_
  refine PW.getf (t := (0, 0)) (v := .int (rd h 140 16)) cx qX7_readsClip_1 (sh_140 hx) rfl flX7_164 rfl ?_
  refine PW.iconst (v := 3) cx qX7_readsClip_4 rfl ?_
  obtain ⟨j24, ej24, hf⟩ := lt_split hf
  have hj24 : ∀ (u_24 : Unit), j24 u_24 = some r0 → PW g X ex (QE g X ex (PE (some (.int (b2i r0.1))) sh r0.2) 0 0) 0 0 sh h 24 [some (.ref (gB g + 140))] [] := by
    intro u_24 hf
    rw [ej24] at hf
    refine PW.aload_n cx qX7_readsClip_24 rfl ?_
    refine PW.iconst (v := 0) cx qX7_readsClip_25 rfl ?_
    refine PW.iconst (v := 1) cx qX7_readsClip_26 rfl ?_
    refine PW.ldc (v := 99999999) cx qX7_readsClip_27 kcX7_65 ?_
    refine PW.callVWBc (As := [.int 0, .int 1, .int 99999999]) (st := []) cx hR qX7_readsClip_29 klX7_185 mvX7_number (sh_140 hx) rfl rfl rfl rfl (Nat.le_of_ble_eq_true rfl) (Nat.le_of_ble_eq_true rfl) (Nat.le_of_ble_eq_true rfl) (Nat.zero_le _) (Nat.zero_le _) hf sne (fun t e => ctX7_number hx h 0 1 99999999 t e) (fun t1 h2 hf => ?_)
    refine PW.if_eq cx qX7_readsClip_32 hf (fun hf => ?_) (fun hf => ?_)
    · refine PW.iconst (v := 0) cx qX7_readsClip_58 rfl ?_
      exact PW.zret cx hrt nb0 qX7_readsClip_59 (le_wz hf)
    · refine PW.aload_n cx qX7_readsClip_35 rfl ?_
      refine PW.aload_n cx qX7_readsClip_36 rfl ?_
      refine PW.getf (t := (2, 141)) (v := .ref (gB g + 141)) cx qX7_readsClip_37 (sh_140 hx) rfl flX7_7 rfl ?_
      refine PW.iconst (v := 2) cx qX7_readsClip_40 rfl ?_
      refine PW.iald cx qX7_readsClip_41 (sh_141 hx) hf sne (fun t3 hf => ?_)
      refine PW.bipush (v := 12) cx qX7_readsClip_42 rfl ?_
      obtain ⟨j52, ej52, hf⟩ := lt_split hf
      have hj52 : ∀ (z0_52 : Bool), j52 z0_52 = some r0 → PW g X ex (QE g X ex (PE (some (.int (b2i r0.1))) sh r0.2) 0 0) 0 0 sh h2 52 [some (.ref (gB g + 140))] [.int (b2i z0_52), .ref (gB g + 140)] := by
        intro z0_52 hf
        rw [ej52] at hf
        refine PW.callVWBc (As := [.int (b2i z0_52)]) (st := []) cx hR qX7_readsClip_52 klX7_191 mvX7_stops (sh_140 hx) rfl rfl rfl rfl (Nat.le_of_ble_eq_true rfl) (Nat.le_of_ble_eq_true rfl) (Nat.le_of_ble_eq_true rfl) (Nat.zero_le _) (Nat.zero_le _) hf sne (fun t e => ctX7_stops hx h2 z0_52 t e) (fun t4 h5 hf => ?_)
        refine PW.if_ne cx qX7_readsClip_55 hf (fun hf => ?_) (fun hf => ?_)
        · refine PW.iconst (v := 0) cx qX7_readsClip_58 rfl ?_
          exact PW.zret cx hrt nb0 qX7_readsClip_59 (le_wz hf)
        · refine PW.aload_n cx qX7_readsClip_60 rfl ?_
          refine PW.aload_n cx qX7_readsClip_61 rfl ?_
          refine PW.getf (t := (2, 149)) (v := .ref (gB g + 149)) cx qX7_readsClip_62 (sh_140 hx) rfl flX7_39 rfl ?_
          refine PW.iconst (v := 0) cx qX7_readsClip_65 rfl ?_
          refine PW.iald cx qX7_readsClip_66 (sh_149 hx) hf sne (fun t6 hf => ?_)
          refine PW.callVWIc (As := [.int t6]) (st := []) cx hR qX7_readsClip_67 klX7_195 mvX7_adds (sh_140 hx) rfl rfl rfl rfl (Nat.le_of_ble_eq_true rfl) (Nat.le_of_ble_eq_true rfl) (Nat.le_of_ble_eq_true rfl) (Nat.zero_le _) (Nat.zero_le _) hf sne (fun t e => ctX7_adds hx h5 t6 t e) (fun t7 h8 hf => ?_)
          refine PW.pop cx qX7_readsClip_70 rfl ?_
          refine PW.iconst (v := 1) cx qX7_readsClip_71 rfl ?_
          exact PW.zret cx hrt nb1 qX7_readsClip_72 (le_wz hf)
      refine PW.icmp_ge cx qX7_readsClip_44 hf (fun hf => ?_) (fun hf => ?_)
      · refine PW.iconst (v := 0) cx qX7_readsClip_51 rfl ?_
        exact PW.locs (Lsub.keep Lsub.nil) (hj52 false hf)
      · refine PW.iconst (v := 1) cx qX7_readsClip_47 rfl ?_
        refine PW.goto cx qX7_readsClip_48 ?_
        exact PW.locs (Lsub.keep Lsub.nil) (hj52 true hf)
  refine PW.icmp_ne cx qX7_readsClip_5 hf (fun hf => ?_) (fun hf => ?_)
  · refine PW.aload_n cx qX7_readsClip_8 rfl ?_
    refine PW.getf (t := (0, 0)) (v := .int (rd h 140 19)) cx qX7_readsClip_9 (sh_140 hx) rfl flX7_170 rfl ?_
    refine PW.callSRB (As := [.int (rd h 140 19)]) (st := []) cx hR qX7_readsClip_12 klX7_188 miX7_areColours rfl rfl (Nat.le_of_ble_eq_true rfl) (Nat.le_of_ble_eq_true rfl) (Nat.le_of_ble_eq_true rfl) (Nat.zero_le _) (Nat.zero_le _) hf sne (fun t e => ctX7_areColours h (rd h 140 19) t e) (fun t9 hf => ?_)
    refine PW.if_ne cx qX7_readsClip_15 hf (fun hf => ?_) (fun hf => ?_)
    · refine PW.aload_n cx qX7_readsClip_18 rfl ?_
      refine PW.iconst (v := 2) cx qX7_readsClip_19 rfl ?_
      refine PW.callVWBc (As := [.int 2]) (st := []) cx hR qX7_readsClip_20 klX7_176 mvX7_fail (sh_140 hx) rfl rfl rfl rfl (Nat.le_of_ble_eq_true rfl) (Nat.le_of_ble_eq_true rfl) (Nat.le_of_ble_eq_true rfl) (Nat.zero_le _) (Nat.zero_le _) hf sne (fun t e => ctX7_fail hx h 2 t e) (fun t10 h11 hf => ?_)
      exact PW.zret cx hrt (nbb _) qX7_readsClip_23 (le_wz hf)
    · exact PW.locs (Lsub.keep Lsub.nil) (hj24 () hf)
  · exact PW.locs (Lsub.keep Lsub.nil) (hj24 () hf)
