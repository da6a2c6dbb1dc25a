set_option maxRecDepth 20000 in
theorem ctX7_sceneCount {g : GT} {ex : Bool} {sh : List Shp} (hx : MSh sh) (h : Hp) (r0 : Int32 × Hp) (hf : M_sceneCount h = some r0) : Ct g mX7_sceneCount 1 0 0 ex [.ref (gB g + 140)] sh h (PE (some (.int r0.1)) sh r0.2) := by
  refine Ct.of (L := [some (.ref (gB g + 140))]) (by decide) (by intro w hw; simp only [List.mem_cons, List.not_mem_nil, or_false] at hw; rcases hw with rfl <;> rfl) (Nat.le_of_ble_eq_true rfl) rfl (fun X mx => ?_)
  obtain ⟨cx, hR, hml, hrt, -⟩ := mx
  have cx : Cx g X RX7 cX7_sceneCount := cx
  have hrt : X.2.2.2.2.2.2.2.1.sig.returnType = (some .int) := hrt
  unfold M_sceneCount at hf
  refine PW.aload_n cx qX7_sceneCount_0 rfl ?_
  refine PW.iconst (v := 4) cx qX7_sceneCount_1 rfl ?_
  refine PW.callVWIc (As := [.int 4]) (st := []) cx hR qX7_sceneCount_2 klX7_353 mvX7_told (sh_140 hx) rfl rfl rfl rfl (Nat.le_of_ble_eq_true rfl) (Nat.le_of_ble_eq_true rfl) (Nat.le_of_ble_eq_true rfl) (Nat.zero_le _) (Nat.zero_le _) hf sne (fun t e => ctX7_told hx h 4 t e) (fun t1 h2 hf => ?_)
  exact PW.iret cx hrt qX7_sceneCount_5 (le_wi hf)
set_option maxRecDepth 20000 in
theorem ctX7_springs {g : GT} {ex : Bool} {sh : List Shp} (hx : MSh sh) (h : Hp) (p1 : Int32) (r0 : Int32 × Hp) (hf : M_springs h p1 = some r0) : Ct g mX7_springs 2 0 0 ex [.ref (gB g + 140), .int p1] sh h (PE (some (.int r0.1)) sh r0.2) := by
  refine Ct.of (L := [some (.ref (gB g + 140)), some (.int p1)]) (by decide) (by intro w hw; simp only [List.mem_cons, List.not_mem_nil, or_false] at hw; rcases hw with rfl | rfl <;> rfl) (Nat.le_of_ble_eq_true rfl) rfl (fun X mx => ?_)
  obtain ⟨cx, hR, hml, hrt, -⟩ := mx
  have cx : Cx g X RX7 cX7_springs := cx
  have hrt : X.2.2.2.2.2.2.2.1.sig.returnType = (some .int) := hrt
  unfold M_springs at hf
  refine PW.aload_n cx qX7_springs_0 rfl ?_
  refine PW.aload_n cx qX7_springs_1 rfl ?_
  refine PW.iload_n cx qX7_springs_2 rfl ?_
  refine PW.callVRB (As := [.int p1]) (st := [.ref (gB g + 140)]) cx hR qX7_springs_3 klX7_340 mvX7_isScene (sh_140 hx) rfl rfl rfl rfl (Nat.le_of_ble_eq_true rfl) (Nat.le_of_ble_eq_true rfl) (Nat.le_of_ble_eq_true rfl) (Nat.zero_le _) (Nat.zero_le _) hf sne (fun t e => ctX7_isScene hx h p1 t e) (fun t1 hf => ?_)
  obtain ⟨j14, ej14, hf⟩ := lt_split hf
  have hj14 : ∀ (z0_14 : Bool), j14 z0_14 = some r0 → PW g X ex (QE g X ex (PE (some (.int r0.1)) sh r0.2) 0 0) 0 0 sh h 14 [some (.ref (gB g + 140)), some (.int p1)] [.int (b2i z0_14), .ref (gB g + 140)] := by
    intro z0_14 hf
    rw [ej14] at hf
    refine PW.callVWBc (As := [.int (b2i z0_14)]) (st := []) cx hR qX7_springs_14 klX7_319 mvX7_throwsOne (sh_140 hx) rfl rfl rfl rfl (Nat.le_of_ble_eq_true rfl) (Nat.le_of_ble_eq_true rfl) (Nat.le_of_ble_eq_true rfl) (Nat.zero_le _) (Nat.zero_le _) hf sne (fun t e => ctX7_throwsOne hx h z0_14 t e) (fun t2 h3 hf => ?_)
    refine PW.if_eq cx qX7_springs_17 hf (fun hf => ?_) (fun hf => ?_)
    · refine PW.aload_n cx qX7_springs_24 rfl ?_
      refine PW.iload_n cx qX7_springs_25 rfl ?_
      refine PW.iconst (v := 1) cx qX7_springs_26 rfl ?_
      refine PW.callVRI (As := [.int p1, .int 1]) (st := []) cx hR qX7_springs_27 klX7_127 mvX7_scene (sh_140 hx) rfl rfl rfl rfl (Nat.le_of_ble_eq_true rfl) (Nat.le_of_ble_eq_true rfl) (Nat.le_of_ble_eq_true rfl) (Nat.zero_le _) (Nat.zero_le _) hf sne (fun t e => ctX7_scene hx h3 p1 1 t e) (fun t4 hf => ?_)
      exact PW.iret cx hrt qX7_springs_30 (le_wi hf)
    · refine PW.iconst (v := 0) cx qX7_springs_20 rfl ?_
      refine PW.goto cx qX7_springs_21 ?_
      exact PW.iret cx hrt qX7_springs_30 (le_wi hf)
  refine PW.if_ne cx qX7_springs_6 hf (fun hf => ?_) (fun hf => ?_)
  · refine PW.iconst (v := 1) cx qX7_springs_9 rfl ?_
    refine PW.goto cx qX7_springs_10 ?_
    exact PW.locs (Lsub.keep (Lsub.keep Lsub.nil)) (hj14 true hf)
  · refine PW.iconst (v := 0) cx qX7_springs_13 rfl ?_
    exact PW.locs (Lsub.keep (Lsub.keep Lsub.nil)) (hj14 false hf)
set_option maxRecDepth 20000 in
theorem ctX7_clipTold {g : GT} {ex : Bool} {sh : List Shp} (hx : MSh sh) (h : Hp) (p1 : Int32) (p2 : Int32) (r0 : Int32 × Hp) (hf : M_clipTold h p1 p2 = some r0) : Ct g mX7_clipTold 2 0 0 ex [.ref (gB g + 140), .int p1, .int p2] sh h (PE (some (.int r0.1)) sh r0.2) := by
  refine Ct.of (L := [some (.ref (gB g + 140)), some (.int p1), some (.int p2)]) (by decide) (by intro w hw; simp only [List.mem_cons, List.not_mem_nil, or_false] at hw; rcases hw with rfl | rfl | rfl <;> rfl) (Nat.le_of_ble_eq_true rfl) rfl (fun X mx => ?_)
  obtain ⟨cx, hR, hml, hrt, -⟩ := mx
  have cx : Cx g X RX7 cX7_clipTold := cx
  have hrt : X.2.2.2.2.2.2.2.1.sig.returnType = (some .int) := hrt
  unfold M_clipTold at hf
  refine PW.aload_n cx qX7_clipTold_0 rfl ?_
  refine PW.aload_n cx qX7_clipTold_1 rfl ?_
  refine PW.iload_n cx qX7_clipTold_2 rfl ?_
  refine PW.callVRB (As := [.int p1]) (st := [.ref (gB g + 140)]) cx hR qX7_clipTold_3 klX7_334 mvX7_isClip (sh_140 hx) rfl rfl rfl rfl (Nat.le_of_ble_eq_true rfl) (Nat.le_of_ble_eq_true rfl) (Nat.le_of_ble_eq_true rfl) (Nat.zero_le _) (Nat.zero_le _) hf sne (fun t e => ctX7_isClip hx h p1 t e) (fun t1 hf => ?_)
  obtain ⟨j14, ej14, hf⟩ := lt_split hf
  have hj14 : ∀ (z0_14 : Bool), j14 z0_14 = some r0 → PW g X ex (QE g X ex (PE (some (.int r0.1)) sh r0.2) 0 0) 0 0 sh h 14 [some (.ref (gB g + 140)), some (.int p1), some (.int p2)] [.int (b2i z0_14), .ref (gB g + 140)] := by
    intro z0_14 hf
    rw [ej14] at hf
    refine PW.callVWBc (As := [.int (b2i z0_14)]) (st := []) cx hR qX7_clipTold_14 klX7_319 mvX7_throwsOne (sh_140 hx) rfl rfl rfl rfl (Nat.le_of_ble_eq_true rfl) (Nat.le_of_ble_eq_true rfl) (Nat.le_of_ble_eq_true rfl) (Nat.zero_le _) (Nat.zero_le _) hf sne (fun t e => ctX7_throwsOne hx h z0_14 t e) (fun t2 h3 hf => ?_)
    refine PW.if_eq cx qX7_clipTold_17 hf (fun hf => ?_) (fun hf => ?_)
    · refine PW.aload_n cx qX7_clipTold_24 rfl ?_
      refine PW.iload_n cx qX7_clipTold_25 rfl ?_
      refine PW.iload_n cx qX7_clipTold_26 rfl ?_
      refine PW.callVRI (As := [.int p1, .int p2]) (st := []) cx hR qX7_clipTold_27 klX7_70 mvX7_of (sh_140 hx) rfl rfl rfl rfl (Nat.le_of_ble_eq_true rfl) (Nat.le_of_ble_eq_true rfl) (Nat.le_of_ble_eq_true rfl) (Nat.zero_le _) (Nat.zero_le _) hf sne (fun t e => ctX7_of hx h3 p1 p2 t e) (fun t4 hf => ?_)
      exact PW.iret cx hrt qX7_clipTold_30 (le_wi hf)
    · refine PW.iconst (v := 0) cx qX7_clipTold_20 rfl ?_
      refine PW.goto cx qX7_clipTold_21 ?_
      exact PW.iret cx hrt qX7_clipTold_30 (le_wi hf)
  refine PW.if_ne cx qX7_clipTold_6 hf (fun hf => ?_) (fun hf => ?_)
  · refine PW.iconst (v := 1) cx qX7_clipTold_9 rfl ?_
    refine PW.goto cx qX7_clipTold_10 ?_
    exact PW.locs (Lsub.keep (Lsub.keep (Lsub.keep Lsub.nil))) (hj14 true hf)
  · refine PW.iconst (v := 0) cx qX7_clipTold_13 rfl ?_
    exact PW.locs (Lsub.keep (Lsub.keep (Lsub.keep Lsub.nil))) (hj14 false hf)
set_option maxRecDepth 20000 in
theorem ctX7_state {g : GT} {ex : Bool} {sh : List Shp} (hx : MSh sh) (h : Hp) (p1 : Int32) (r0 : Int32 × Hp) (hf : M_state h p1 = some r0) : Ct g mX7_state 3 0 0 ex [.ref (gB g + 140), .int p1] sh h (PE (some (.int r0.1)) sh r0.2) := by
  refine Ct.of (L := [some (.ref (gB g + 140)), some (.int p1)]) (by decide) (by intro w hw; simp only [List.mem_cons, List.not_mem_nil, or_false] at hw; rcases hw with rfl | rfl <;> rfl) (Nat.le_of_ble_eq_true rfl) rfl (fun X mx => ?_)
  obtain ⟨cx, hR, hml, hrt, -⟩ := mx
  have cx : Cx g X RX7 cX7_state := cx
  have hrt : X.2.2.2.2.2.2.2.1.sig.returnType = (some .int) := hrt
  unfold M_state at hf
  refine PW.aload_n cx qX7_state_0 rfl ?_
  refine PW.iload_n cx qX7_state_1 rfl ?_
  refine PW.iconst (v := 1) cx qX7_state_2 rfl ?_
  refine PW.callVWIc (As := [.int p1, .int 1]) (st := []) cx hR qX7_state_3 klX7_356 mvX7_clipTold (sh_140 hx) rfl rfl rfl rfl (Nat.le_of_ble_eq_true rfl) (Nat.le_of_ble_eq_true rfl) (Nat.le_of_ble_eq_true rfl) (Nat.zero_le _) (Nat.zero_le _) hf sne (fun t e => ctX7_clipTold hx h p1 1 t e) (fun t1 h2 hf => ?_)
  exact PW.iret cx hrt qX7_state_6 (le_wi hf)
set_option maxRecDepth 20000 in
theorem ctX7_colours {g : GT} {ex : Bool} {sh : List Shp} (hx : MSh sh) (h : Hp) (p1 : Int32) (r0 : Int32 × Hp) (hf : M_colours h p1 = some r0) : Ct g mX7_colours 3 0 0 ex [.ref (gB g + 140), .int p1] sh h (PE (some (.int r0.1)) sh r0.2) := by
  refine Ct.of (L := [some (.ref (gB g + 140)), some (.int p1)]) (by decide) (by intro w hw; simp only [List.mem_cons, List.not_mem_nil, or_false] at hw; rcases hw with rfl | rfl <;> rfl) (Nat.le_of_ble_eq_true rfl) rfl (fun X mx => ?_)
  obtain ⟨cx, hR, hml, hrt, -⟩ := mx
  have cx : Cx g X RX7 cX7_colours := cx
  have hrt : X.2.2.2.2.2.2.2.1.sig.returnType = (some .int) := hrt
  unfold M_colours at hf
  refine PW.aload_n cx qX7_colours_0 rfl ?_
  refine PW.iload_n cx qX7_colours_1 rfl ?_
  refine PW.iconst (v := 0) cx qX7_colours_2 rfl ?_
  refine PW.callVWIc (As := [.int p1, .int 0]) (st := []) cx hR qX7_colours_3 klX7_356 mvX7_clipTold (sh_140 hx) rfl rfl rfl rfl (Nat.le_of_ble_eq_true rfl) (Nat.le_of_ble_eq_true rfl) (Nat.le_of_ble_eq_true rfl) (Nat.zero_le _) (Nat.zero_le _) hf sne (fun t e => ctX7_clipTold hx h p1 0 t e) (fun t1 h2 hf => ?_)
  exact PW.iret cx hrt qX7_colours_6 (le_wi hf)
set_option maxRecDepth 20000 in
theorem ctX7_length {g : GT} {ex : Bool} {sh : List Shp} (hx : MSh sh) (h : Hp) (p1 : Int32) (r0 : Int32 × Hp) (hf : M_length h p1 = some r0) : Ct g mX7_length 2 0 0 ex [.ref (gB g + 140), .int p1] sh h (PE (some (.int r0.1)) sh r0.2) := by
  refine Ct.of (L := [some (.ref (gB g + 140)), some (.int p1)]) (by decide) (by intro w hw; simp only [List.mem_cons, List.not_mem_nil, or_false] at hw; rcases hw with rfl | rfl <;> rfl) (Nat.le_of_ble_eq_true rfl) rfl (fun X mx => ?_)
  obtain ⟨cx, hR, hml, hrt, -⟩ := mx
  have cx : Cx g X RX7 cX7_length := cx
  have hrt : X.2.2.2.2.2.2.2.1.sig.returnType = (some .int) := hrt
  unfold M_length at hf
  refine PW.aload_n cx qX7_length_0 rfl ?_
  refine PW.aload_n cx qX7_length_1 rfl ?_
  refine PW.iload_n cx qX7_length_2 rfl ?_
  refine PW.callVRB (As := [.int p1]) (st := [.ref (gB g + 140)]) cx hR qX7_length_3 klX7_334 mvX7_isClip (sh_140 hx) rfl rfl rfl rfl (Nat.le_of_ble_eq_true rfl) (Nat.le_of_ble_eq_true rfl) (Nat.le_of_ble_eq_true rfl) (Nat.zero_le _) (Nat.zero_le _) hf sne (fun t e => ctX7_isClip hx h p1 t e) (fun t1 hf => ?_)
  obtain ⟨j14, ej14, hf⟩ := lt_split hf
  have hj14 : ∀ (z0_14 : Bool), j14 z0_14 = some r0 → PW g X ex (QE g X ex (PE (some (.int r0.1)) sh r0.2) 0 0) 0 0 sh h 14 [some (.ref (gB g + 140)), some (.int p1)] [.int (b2i z0_14), .ref (gB g + 140)] := by
    intro z0_14 hf
    rw [ej14] at hf
    refine PW.callVWBc (As := [.int (b2i z0_14)]) (st := []) cx hR qX7_length_14 klX7_319 mvX7_throwsOne (sh_140 hx) rfl rfl rfl rfl (Nat.le_of_ble_eq_true rfl) (Nat.le_of_ble_eq_true rfl) (Nat.le_of_ble_eq_true rfl) (Nat.zero_le _) (Nat.zero_le _) hf sne (fun t e => ctX7_throwsOne hx h z0_14 t e) (fun t2 h3 hf => ?_)
    refine PW.if_eq cx qX7_length_17 hf (fun hf => ?_) (fun hf => ?_)
    · refine PW.aload_n cx qX7_length_24 rfl ?_
      refine PW.iload_n cx qX7_length_25 rfl ?_
      refine PW.iconst (v := 0) cx qX7_length_26 rfl ?_
      refine PW.callVRI (As := [.int p1, .int 0]) (st := []) cx hR qX7_length_27 klX7_70 mvX7_of (sh_140 hx) rfl rfl rfl rfl (Nat.le_of_ble_eq_true rfl) (Nat.le_of_ble_eq_true rfl) (Nat.le_of_ble_eq_true rfl) (Nat.zero_le _) (Nat.zero_le _) hf sne (fun t e => ctX7_of hx h3 p1 0 t e) (fun t4 hf => ?_)
      refine PW.callSRI (As := [.int t4]) (st := []) cx hR qX7_length_30 klX7_61 miX7_digits rfl rfl (Nat.le_of_ble_eq_true rfl) (Nat.le_of_ble_eq_true rfl) (Nat.le_of_ble_eq_true rfl) (Nat.zero_le _) (Nat.zero_le _) hf sne (fun t e => ctX7_digits h3 t4 t e) (fun t5 hf => ?_)
      exact PW.iret cx hrt qX7_length_33 (le_wi hf)
    · refine PW.iconst (v := 0) cx qX7_length_20 rfl ?_
      refine PW.goto cx qX7_length_21 ?_
      exact PW.iret cx hrt qX7_length_33 (le_wi hf)
  refine PW.if_ne cx qX7_length_6 hf (fun hf => ?_) (fun hf => ?_)
  · refine PW.iconst (v := 1) cx qX7_length_9 rfl ?_
    refine PW.goto cx qX7_length_10 ?_
    exact PW.locs (Lsub.keep (Lsub.keep Lsub.nil)) (hj14 true hf)
  · refine PW.iconst (v := 0) cx qX7_length_13 rfl ?_
    exact PW.locs (Lsub.keep (Lsub.keep Lsub.nil)) (hj14 false hf)
set_option maxRecDepth 20000 in
theorem ctX7_hash {g : GT} {ex : Bool} {sh : List Shp} (hx : MSh sh) (h : Hp) (p1 : Int32) (r0 : Int32 × Hp) (hf : M_hash h p1 = some r0) : Ct g mX7_hash 3 0 0 ex [.ref (gB g + 140), .int p1] sh h (PE (some (.int r0.1)) sh r0.2) := by
  refine Ct.of (L := [some (.ref (gB g + 140)), some (.int p1)]) (by decide) (by intro w hw; simp only [List.mem_cons, List.not_mem_nil, or_false] at hw; rcases hw with rfl | rfl <;> rfl) (Nat.le_of_ble_eq_true rfl) rfl (fun X mx => ?_)
  obtain ⟨cx, hR, hml, hrt, -⟩ := mx
  have cx : Cx g X RX7 cX7_hash := cx
  have hrt : X.2.2.2.2.2.2.2.1.sig.returnType = (some .int) := hrt
  unfold M_hash at hf
  refine PW.aload_n cx qX7_hash_0 rfl ?_
  refine PW.aload_n cx qX7_hash_1 rfl ?_
  refine PW.iload_n cx qX7_hash_2 rfl ?_
  refine PW.callVRB (As := [.int p1]) (st := [.ref (gB g + 140)]) cx hR qX7_hash_3 klX7_334 mvX7_isClip (sh_140 hx) rfl rfl rfl rfl (Nat.le_of_ble_eq_true rfl) (Nat.le_of_ble_eq_true rfl) (Nat.le_of_ble_eq_true rfl) (Nat.zero_le _) (Nat.zero_le _) hf sne (fun t e => ctX7_isClip hx h p1 t e) (fun t1 hf => ?_)
  obtain ⟨j14, ej14, hf⟩ := lt_split hf
  have hj14 : ∀ (z0_14 : Bool), j14 z0_14 = some r0 → PW g X ex (QE g X ex (PE (some (.int r0.1)) sh r0.2) 0 0) 0 0 sh h 14 [some (.ref (gB g + 140)), some (.int p1)] [.int (b2i z0_14), .ref (gB g + 140)] := by
    intro z0_14 hf
    rw [ej14] at hf
    refine PW.callVWBc (As := [.int (b2i z0_14)]) (st := []) cx hR qX7_hash_14 klX7_319 mvX7_throwsOne (sh_140 hx) rfl rfl rfl rfl (Nat.le_of_ble_eq_true rfl) (Nat.le_of_ble_eq_true rfl) (Nat.le_of_ble_eq_true rfl) (Nat.zero_le _) (Nat.zero_le _) hf sne (fun t e => ctX7_throwsOne hx h z0_14 t e) (fun t2 h3 hf => ?_)
    refine PW.if_eq cx qX7_hash_17 hf (fun hf => ?_) (fun hf => ?_)
    · refine PW.aload_n cx qX7_hash_24 rfl ?_
      refine PW.iload_n cx qX7_hash_25 rfl ?_
      refine PW.callVRI (As := [.int p1]) (st := []) cx hR qX7_hash_26 klX7_89 mvX7_hashOf (sh_140 hx) rfl rfl rfl rfl (Nat.le_of_ble_eq_true rfl) (Nat.le_of_ble_eq_true rfl) (Nat.le_of_ble_eq_true rfl) (Nat.zero_le _) (Nat.zero_le _) hf sne (fun t e => ctX7_hashOf hx h3 p1 t e) (fun t4 hf => ?_)
      exact PW.iret cx hrt qX7_hash_29 (le_wi hf)
    · refine PW.iconst (v := 0) cx qX7_hash_20 rfl ?_
      refine PW.goto cx qX7_hash_21 ?_
      exact PW.iret cx hrt qX7_hash_29 (le_wi hf)
  refine PW.if_ne cx qX7_hash_6 hf (fun hf => ?_) (fun hf => ?_)
  · refine PW.iconst (v := 1) cx qX7_hash_9 rfl ?_
    refine PW.goto cx qX7_hash_10 ?_
    exact PW.locs (Lsub.keep (Lsub.keep Lsub.nil)) (hj14 true hf)
  · refine PW.iconst (v := 0) cx qX7_hash_13 rfl ?_
    exact PW.locs (Lsub.keep (Lsub.keep Lsub.nil)) (hj14 false hf)
set_option maxRecDepth 20000 in
theorem ctX7_fat {g : GT} {ex : Bool} {sh : List Shp} (hx : MSh sh) (h : Hp) (p1 : Int32) (r0 : Int32 × Hp) (hf : M_fat h p1 = some r0) : Ct g mX7_fat 3 0 0 ex [.ref (gB g + 140), .int p1] sh h (PE (some (.int r0.1)) sh r0.2) := by
  refine Ct.of (L := [some (.ref (gB g + 140)), some (.int p1)]) (by decide) (by intro w hw; simp only [List.mem_cons, List.not_mem_nil, or_false] at hw; rcases hw with rfl | rfl <;> rfl) (Nat.le_of_ble_eq_true rfl) rfl (fun X mx => ?_)
  obtain ⟨cx, hR, hml, hrt, -⟩ := mx
  have cx : Cx g X RX7 cX7_fat := cx
  have hrt : X.2.2.2.2.2.2.2.1.sig.returnType = (some .int) := hrt
  unfold M_fat at hf
  refine PW.aload_n cx qX7_fat_0 rfl ?_
  refine PW.iload_n cx qX7_fat_1 rfl ?_
  refine PW.iconst (v := 2) cx qX7_fat_2 rfl ?_
  refine PW.callVWIc (As := [.int p1, .int 2]) (st := []) cx hR qX7_fat_3 klX7_356 mvX7_clipTold (sh_140 hx) rfl rfl rfl rfl (Nat.le_of_ble_eq_true rfl) (Nat.le_of_ble_eq_true rfl) (Nat.le_of_ble_eq_true rfl) (Nat.zero_le _) (Nat.zero_le _) hf sne (fun t e => ctX7_clipTold hx h p1 2 t e) (fun t1 h2 hf => ?_)
  exact PW.iret cx hrt qX7_fat_6 (le_wi hf)
set_option maxRecDepth 20000 in
theorem ctX7_reelOf {g : GT} {ex : Bool} {sh : List Shp} (hx : MSh sh) (h : Hp) (p1 : Int32) (r0 : Int32 × Hp) (hf : M_reelOf h p1 = some r0) : Ct g mX7_reelOf 3 0 0 ex [.ref (gB g + 140), .int p1] sh h (PE (some (.int r0.1)) sh r0.2) := by
  refine Ct.of (L := [some (.ref (gB g + 140)), some (.int p1)]) (by decide) (by intro w hw; simp only [List.mem_cons, List.not_mem_nil, or_false] at hw; rcases hw with rfl | rfl <;> rfl) (Nat.le_of_ble_eq_true rfl) rfl (fun X mx => ?_)
  obtain ⟨cx, hR, hml, hrt, -⟩ := mx
  have cx : Cx g X RX7 cX7_reelOf := cx
  have hrt : X.2.2.2.2.2.2.2.1.sig.returnType = (some .int) := hrt
  unfold M_reelOf at hf
  refine PW.aload_n cx qX7_reelOf_0 rfl ?_
  refine PW.aload_n cx qX7_reelOf_1 rfl ?_
  refine PW.iload_n cx qX7_reelOf_2 rfl ?_
  refine PW.callVRB (As := [.int p1]) (st := [.ref (gB g + 140)]) cx hR qX7_reelOf_3 klX7_334 mvX7_isClip (sh_140 hx) rfl rfl rfl rfl (Nat.le_of_ble_eq_true rfl) (Nat.le_of_ble_eq_true rfl) (Nat.le_of_ble_eq_true rfl) (Nat.zero_le _) (Nat.zero_le _) hf sne (fun t e => ctX7_isClip hx h p1 t e) (fun t1 hf => ?_)
  obtain ⟨j14, ej14, hf⟩ := lt_split hf
  have hj14 : ∀ (z0_14 : Bool), j14 z0_14 = some r0 → PW g X ex (QE g X ex (PE (some (.int r0.1)) sh r0.2) 0 0) 0 0 sh h 14 [some (.ref (gB g + 140)), some (.int p1)] [.int (b2i z0_14), .ref (gB g + 140)] := by
    intro z0_14 hf
    rw [ej14] at hf
    refine PW.callVWBc (As := [.int (b2i z0_14)]) (st := []) cx hR qX7_reelOf_14 klX7_319 mvX7_throwsOne (sh_140 hx) rfl rfl rfl rfl (Nat.le_of_ble_eq_true rfl) (Nat.le_of_ble_eq_true rfl) (Nat.le_of_ble_eq_true rfl) (Nat.zero_le _) (Nat.zero_le _) hf sne (fun t e => ctX7_throwsOne hx h z0_14 t e) (fun t2 h3 hf => ?_)
    refine PW.if_eq cx qX7_reelOf_17 hf (fun hf => ?_) (fun hf => ?_)
    · refine PW.aload_n cx qX7_reelOf_24 rfl ?_
      refine PW.iload_n cx qX7_reelOf_25 rfl ?_
      refine PW.callVRI (As := [.int p1]) (st := []) cx hR qX7_reelOf_26 klX7_124 mvX7_reelWith (sh_140 hx) rfl rfl rfl rfl (Nat.le_of_ble_eq_true rfl) (Nat.le_of_ble_eq_true rfl) (Nat.le_of_ble_eq_true rfl) (Nat.zero_le _) (Nat.zero_le _) hf sne (fun t e => ctX7_reelWith hx h3 p1 t e) (fun t4 hf => ?_)
      exact PW.iret cx hrt qX7_reelOf_29 (le_wi hf)
    · refine PW.iconst (v := 0) cx qX7_reelOf_20 rfl ?_
      refine PW.goto cx qX7_reelOf_21 ?_
      exact PW.iret cx hrt qX7_reelOf_29 (le_wi hf)
  refine PW.if_ne cx qX7_reelOf_6 hf (fun hf => ?_) (fun hf => ?_)
  · refine PW.iconst (v := 1) cx qX7_reelOf_9 rfl ?_
    refine PW.goto cx qX7_reelOf_10 ?_
    exact PW.locs (Lsub.keep (Lsub.keep Lsub.nil)) (hj14 true hf)
  · refine PW.iconst (v := 0) cx qX7_reelOf_13 rfl ?_
    exact PW.locs (Lsub.keep (Lsub.keep Lsub.nil)) (hj14 false hf)
set_option maxRecDepth 20000 in
theorem ctX7_bedOf {g : GT} {ex : Bool} {sh : List Shp} (hx : MSh sh) (h : Hp) (p1 : Int32) (r0 : Int32 × Hp) (hf : M_bedOf h p1 = some r0) : Ct g mX7_bedOf 3 0 0 ex [.ref (gB g + 140), .int p1] sh h (PE (some (.int r0.1)) sh r0.2) := by
  refine Ct.of (L := [some (.ref (gB g + 140)), some (.int p1), none]) (by decide) (by intro w hw; simp only [List.mem_cons, List.not_mem_nil, or_false] at hw; rcases hw with rfl | rfl <;> rfl) (Nat.le_of_ble_eq_true rfl) rfl (fun X mx => ?_)
  obtain ⟨cx, hR, hml, hrt, -⟩ := mx
  have cx : Cx g X RX7 cX7_bedOf := cx
  have hrt : X.2.2.2.2.2.2.2.1.sig.returnType = (some .int) := hrt
  have hi2 : 2 < X.2.2.2.2.2.2.2.2.maxLocals := by rw [hml]; exact Nat.le_of_ble_eq_true rfl
  unfold M_bedOf at hf
  refine PW.aload_n cx qX7_bedOf_0 rfl ?_
  refine PW.aload_n cx qX7_bedOf_1 rfl ?_
  refine PW.iload_n cx qX7_bedOf_2 rfl ?_
  refine PW.callVRB (As := [.int p1]) (st := [.ref (gB g + 140)]) cx hR qX7_bedOf_3 klX7_334 mvX7_isClip (sh_140 hx) rfl rfl rfl rfl (Nat.le_of_ble_eq_true rfl) (Nat.le_of_ble_eq_true rfl) (Nat.le_of_ble_eq_true rfl) (Nat.zero_le _) (Nat.zero_le _) hf sne (fun t e => ctX7_isClip hx h p1 t e) (fun t1 hf => ?_)
  obtain ⟨j14, ej14, hf⟩ := lt_split hf
  have hj14 : ∀ (z0_14 : Bool), j14 z0_14 = some r0 → PW g X ex (QE g X ex (PE (some (.int r0.1)) sh r0.2) 0 0) 0 0 sh h 14 [some (.ref (gB g + 140)), some (.int p1), none] [.int (b2i z0_14), .ref (gB g + 140)] := by
    intro z0_14 hf
    rw [ej14] at hf
    refine PW.callVWBc (As := [.int (b2i z0_14)]) (st := []) cx hR qX7_bedOf_14 klX7_319 mvX7_throwsOne (sh_140 hx) rfl rfl rfl rfl (Nat.le_of_ble_eq_true rfl) (Nat.le_of_ble_eq_true rfl) (Nat.le_of_ble_eq_true rfl) (Nat.zero_le _) (Nat.zero_le _) hf sne (fun t e => ctX7_throwsOne hx h z0_14 t e) (fun t2 h3 hf => ?_)
    refine PW.if_eq cx qX7_bedOf_17 hf (fun hf => ?_) (fun hf => ?_)
    · refine PW.aload_n cx qX7_bedOf_22 rfl ?_
      refine PW.iload_n cx qX7_bedOf_23 rfl ?_
      refine PW.callVRI (As := [.int p1]) (st := []) cx hR qX7_bedOf_24 klX7_124 mvX7_reelWith (sh_140 hx) rfl rfl rfl rfl (Nat.le_of_ble_eq_true rfl) (Nat.le_of_ble_eq_true rfl) (Nat.le_of_ble_eq_true rfl) (Nat.zero_le _) (Nat.zero_le _) hf sne (fun t e => ctX7_reelWith hx h3 p1 t e) (fun t4 hf => ?_)
      refine PW.istore_n (L' := [some (.ref (gB g + 140)), some (.int p1), some (.int t4)]) cx qX7_bedOf_27 hi2 rfl rfl ?_
      refine PW.iload_n cx qX7_bedOf_28 rfl ?_
      refine PW.iconst (v := (-1)) cx qX7_bedOf_29 rfl ?_
      refine PW.icmp_ne cx qX7_bedOf_30 hf (fun hf => ?_) (fun hf => ?_)
      · refine PW.iconst (v := (-1)) cx qX7_bedOf_33 rfl ?_
        refine PW.goto cx qX7_bedOf_34 ?_
        exact PW.iret cx hrt qX7_bedOf_43 (le_wi hf)
      · refine PW.aload_n cx qX7_bedOf_37 rfl ?_
        refine PW.iload_n cx qX7_bedOf_38 rfl ?_
        refine PW.iload_n cx qX7_bedOf_39 rfl ?_
        refine PW.callVRI (As := [.int p1, .int t4]) (st := []) cx hR qX7_bedOf_40 klX7_105 mvX7_bedWith (sh_140 hx) rfl rfl rfl rfl (Nat.le_of_ble_eq_true rfl) (Nat.le_of_ble_eq_true rfl) (Nat.le_of_ble_eq_true rfl) (Nat.zero_le _) (Nat.zero_le _) hf sne (fun t e => ctX7_bedWith hx h3 p1 t4 t e) (fun t5 hf => ?_)
        exact PW.iret cx hrt qX7_bedOf_43 (le_wi hf)
    · refine PW.iconst (v := 0) cx qX7_bedOf_20 rfl ?_
      exact PW.iret cx hrt qX7_bedOf_21 (le_wi hf)
  refine PW.if_ne cx qX7_bedOf_6 hf (fun hf => ?_) (fun hf => ?_)
  · refine PW.iconst (v := 1) cx qX7_bedOf_9 rfl ?_
    refine PW.goto cx qX7_bedOf_10 ?_
    exact PW.locs (Lsub.keep (Lsub.keep (Lsub.drop Lsub.nil))) (hj14 true hf)
  · refine PW.iconst (v := 0) cx qX7_bedOf_13 rfl ?_
    exact PW.locs (Lsub.keep (Lsub.keep (Lsub.drop Lsub.nil))) (hj14 false hf)
set_option maxRecDepth 20000 in
theorem ctX7_sceneOf {g : GT} {ex : Bool} {sh : List Shp} (hx : MSh sh) (h : Hp) (p1 : Int32) (r0 : Int32 × Hp) (hf : M_sceneOf h p1 = some r0) : Ct g mX7_sceneOf 3 0 0 ex [.ref (gB g + 140), .int p1] sh h (PE (some (.int r0.1)) sh r0.2) := by
  refine Ct.of (L := [some (.ref (gB g + 140)), some (.int p1)]) (by decide) (by intro w hw; simp only [List.mem_cons, List.not_mem_nil, or_false] at hw; rcases hw with rfl | rfl <;> rfl) (Nat.le_of_ble_eq_true rfl) rfl (fun X mx => ?_)
  obtain ⟨cx, hR, hml, hrt, -⟩ := mx
  have cx : Cx g X RX7 cX7_sceneOf := cx
  have hrt : X.2.2.2.2.2.2.2.1.sig.returnType = (some .int) := hrt
  unfold M_sceneOf at hf
  refine PW.aload_n cx qX7_sceneOf_0 rfl ?_
  refine PW.iload_n cx qX7_sceneOf_1 rfl ?_
  refine PW.iconst (v := 3) cx qX7_sceneOf_2 rfl ?_
  refine PW.callVWIc (As := [.int p1, .int 3]) (st := []) cx hR qX7_sceneOf_3 klX7_356 mvX7_clipTold (sh_140 hx) rfl rfl rfl rfl (Nat.le_of_ble_eq_true rfl) (Nat.le_of_ble_eq_true rfl) (Nat.le_of_ble_eq_true rfl) (Nat.zero_le _) (Nat.zero_le _) hf sne (fun t e => ctX7_clipTold hx h p1 3 t e) (fun t1 h2 hf => ?_)
  exact PW.iret cx hrt qX7_sceneOf_6 (le_wi hf)
set_option maxRecDepth 20000 in
theorem ctX7_commonRun {g : GT} {ex : Bool} {sh : List Shp} (hx : MSh sh) (h : Hp) (p1 : Int32) (p2 : Int32) (r0 : Int32 × Hp) (hf : M_commonRun h p1 p2 = some r0) : Ct g mX7_commonRun 4 0 0 ex [.ref (gB g + 140), .int p1, .int p2] sh h (PE (some (.int r0.1)) sh r0.2) := by
  refine Ct.of (L := [some (.ref (gB g + 140)), some (.int p1), some (.int p2)]) (by decide) (by intro w hw; simp only [List.mem_cons, List.not_mem_nil, or_false] at hw; rcases hw with rfl | rfl | rfl <;> rfl) (Nat.le_of_ble_eq_true rfl) rfl (fun X mx => ?_)
  obtain ⟨cx, hR, hml, hrt, -⟩ := mx
  have cx : Cx g X RX7 cX7_commonRun := cx
  have hrt : X.2.2.2.2.2.2.2.1.sig.returnType = (some .int) := hrt
  unfold M_commonRun at hf
  refine PW.aload_n cx qX7_commonRun_0 rfl ?_
  refine PW.aload_n cx qX7_commonRun_1 rfl ?_
  refine PW.iload_n cx qX7_commonRun_2 rfl ?_
  refine PW.callVRB (As := [.int p1]) (st := [.ref (gB g + 140)]) cx hR qX7_commonRun_3 klX7_334 mvX7_isClip (sh_140 hx) rfl rfl rfl rfl (Nat.le_of_ble_eq_true rfl) (Nat.le_of_ble_eq_true rfl) (Nat.le_of_ble_eq_true rfl) (Nat.zero_le _) (Nat.zero_le _) hf sne (fun t e => ctX7_isClip hx h p1 t e) (fun t1 hf => ?_)
  obtain ⟨j22, ej22, hf⟩ := lt_split hf
  have hj22 : ∀ (z0_22 : Bool), j22 z0_22 = some r0 → PW g X ex (QE g X ex (PE (some (.int r0.1)) sh r0.2) 0 0) 0 0 sh h 22 [some (.ref (gB g + 140)), some (.int p1), some (.int p2)] [.int (b2i z0_22), .ref (gB g + 140)] := by
    intro z0_22 hf
    rw [ej22] at hf
    refine PW.callVWBc (As := [.int (b2i z0_22)]) (st := []) cx hR qX7_commonRun_22 klX7_319 mvX7_throwsOne (sh_140 hx) rfl rfl rfl rfl (Nat.le_of_ble_eq_true rfl) (Nat.le_of_ble_eq_true rfl) (Nat.le_of_ble_eq_true rfl) (Nat.zero_le _) (Nat.zero_le _) hf sne (fun t e => ctX7_throwsOne hx h z0_22 t e) (fun t2 h3 hf => ?_)
    refine PW.if_eq cx qX7_commonRun_25 hf (fun hf => ?_) (fun hf => ?_)
    · refine PW.aload_n cx qX7_commonRun_32 rfl ?_
      refine PW.iload_n cx qX7_commonRun_33 rfl ?_
      refine PW.iload_n cx qX7_commonRun_34 rfl ?_
      refine PW.callVRI (As := [.int p1, .int p2]) (st := []) cx hR qX7_commonRun_35 klX7_359 mvX7_run (sh_140 hx) rfl rfl rfl rfl (Nat.le_of_ble_eq_true rfl) (Nat.le_of_ble_eq_true rfl) (Nat.le_of_ble_eq_true rfl) (Nat.zero_le _) (Nat.zero_le _) hf sne (fun t e => ctX7_run hx h3 p1 p2 t e) (fun t4 hf => ?_)
      exact PW.iret cx hrt qX7_commonRun_38 (le_wi hf)
    · refine PW.iconst (v := 0) cx qX7_commonRun_28 rfl ?_
      refine PW.goto cx qX7_commonRun_29 ?_
      exact PW.iret cx hrt qX7_commonRun_38 (le_wi hf)
  obtain ⟨j17, ej17, hf⟩ := lt_split hf
  have hj17 : ∀ (u_17 : Unit), j17 u_17 = some r0 → PW g X ex (QE g X ex (PE (some (.int r0.1)) sh r0.2) 0 0) 0 0 sh h 17 [some (.ref (gB g + 140)), some (.int p1), some (.int p2)] [.ref (gB g + 140)] := by
    intro u_17 hf
    rw [ej17] at hf
    refine PW.iconst (v := 1) cx qX7_commonRun_17 rfl ?_
    refine PW.goto cx qX7_commonRun_18 ?_
    exact PW.locs (Lsub.keep (Lsub.keep (Lsub.keep Lsub.nil))) (hj22 true hf)
  refine PW.if_eq cx qX7_commonRun_6 hf (fun hf => ?_) (fun hf => ?_)
  · exact PW.locs (Lsub.keep (Lsub.keep (Lsub.keep Lsub.nil))) (hj17 () hf)
  · refine PW.aload_n cx qX7_commonRun_9 rfl ?_
    refine PW.iload_n cx qX7_commonRun_10 rfl ?_
    refine PW.callVRB (As := [.int p2]) (st := [.ref (gB g + 140)]) cx hR qX7_commonRun_11 klX7_334 mvX7_isClip (sh_140 hx) rfl rfl rfl rfl (Nat.le_of_ble_eq_true rfl) (Nat.le_of_ble_eq_true rfl) (Nat.le_of_ble_eq_true rfl) (Nat.zero_le _) (Nat.zero_le _) hf sne (fun t e => ctX7_isClip hx h p2 t e) (fun t5 hf => ?_)
    refine PW.if_ne cx qX7_commonRun_14 hf (fun hf => ?_) (fun hf => ?_)
    · exact PW.locs (Lsub.keep (Lsub.keep (Lsub.keep Lsub.nil))) (hj17 () hf)
    · refine PW.iconst (v := 0) cx qX7_commonRun_21 rfl ?_
      exact PW.locs (Lsub.keep (Lsub.keep (Lsub.keep Lsub.nil))) (hj22 false hf)
set_option maxRecDepth 20000 in
theorem lX7_nearestClip_26 {g : GT} {X : XT} {ex : Bool} {post : Option Value → List Shp → Hp → Prop} {sh : List Shp} (mx : Mx g X mX7_nearestClip 4 0 0) (hx : MSh sh) (h : Hp) (c1 : Int32) : ∀ (n : Nat) (v2 : Int32) (v3 : Int32) (r : Int32) (hf : M_nearestClip_L26 h c1 n v2 v3 = some r) (kx : ∀ (x2 : Int32), r = x2 → PW g X ex (QE g X ex post 0 0) 0 0 sh h 69 [some (.ref (gB g + 140)), some (.int c1), some (.int x2), none] []), PW g X ex (QE g X ex post 0 0) 0 0 sh h 26 [some (.ref (gB g + 140)), some (.int c1), some (.int v2), some (.int v3)] [] := by
  have mx0 := mx
  obtain ⟨cx, hR, hml, hrt, -⟩ := mx0
  have cx : Cx g X RX7 cX7_nearestClip := cx
  have hrt : X.2.2.2.2.2.2.2.1.sig.returnType = (some .int) := hrt
  have hi2 : 2 < X.2.2.2.2.2.2.2.2.maxLocals := by rw [hml]; exact Nat.le_of_ble_eq_true rfl
  have hi3 : 3 < X.2.2.2.2.2.2.2.2.maxLocals := by rw [hml]; exact Nat.le_of_ble_eq_true rfl
  intro n
  induction n with
  | zero =>
    intro v2 v3 r hf kx
    cases hf
  | succ n ih =>
    intro v2 v3 r hf kx
    unfold M_nearestClip_L26 at hf
    refine PW.iload_n cx qX7_nearestClip_26 rfl ?_
    refine PW.aload_n cx qX7_nearestClip_27 rfl ?_
    refine PW.getf (t := (2, 141)) (v := .ref (gB g + 141)) cx qX7_nearestClip_28 (sh_140 hx) rfl flX7_7 rfl ?_
    refine PW.iconst (v := 2) cx qX7_nearestClip_31 rfl ?_
    refine PW.iald cx qX7_nearestClip_32 (sh_141 hx) hf sne (fun t4 hf => ?_)
    refine PW.icmp_ge cx qX7_nearestClip_33 hf (fun hf => ?_) (fun hf => ?_)
    · exact PW.locs (Lsub.keep (Lsub.keep (Lsub.keep (Lsub.drop Lsub.nil)))) (kx v2 (Option.some.inj hf).symm)
    · refine PW.iload_n cx qX7_nearestClip_36 rfl ?_
      refine PW.iload_n cx qX7_nearestClip_37 rfl ?_
      refine PW.icmp_eq cx qX7_nearestClip_38 hf (fun hf => ?_) (fun hf => ?_)
      · refine PW.iinc (v := 1) (L' := [some (.ref (gB g + 140)), some (.int c1), some (.int v2), some (.int (v3 + 1))]) cx qX7_nearestClip_63 rfl rfl hi3 rfl rfl ?_
        refine PW.goto cx qX7_nearestClip_66 ?_
        exact PW.locs (Lsub.keep (Lsub.keep (Lsub.keep (Lsub.keep Lsub.nil)))) (ih v2 (v3 + 1) _ hf kx)
      · refine PW.iload_n cx qX7_nearestClip_41 rfl ?_
        refine PW.iconst (v := (-1)) cx qX7_nearestClip_42 rfl ?_
        refine PW.icmp_eq cx qX7_nearestClip_43 hf (fun hf => ?_) (fun hf => ?_)
        · refine PW.iload_n cx qX7_nearestClip_61 rfl ?_
          refine PW.istore_n (L' := [some (.ref (gB g + 140)), some (.int c1), some (.int v3), some (.int v3)]) cx qX7_nearestClip_62 hi2 rfl rfl ?_
          refine PW.iinc (v := 1) (L' := [some (.ref (gB g + 140)), some (.int c1), some (.int v3), some (.int (v3 + 1))]) cx qX7_nearestClip_63 rfl rfl hi3 rfl rfl ?_
          refine PW.goto cx qX7_nearestClip_66 ?_
          exact PW.locs (Lsub.keep (Lsub.keep (Lsub.keep (Lsub.keep Lsub.nil)))) (ih v3 (v3 + 1) _ hf kx)
        · refine PW.aload_n cx qX7_nearestClip_46 rfl ?_
          refine PW.iload_n cx qX7_nearestClip_47 rfl ?_
          refine PW.iload_n cx qX7_nearestClip_48 rfl ?_
          refine PW.callVRI (As := [.int c1, .int v3]) (st := []) cx hR qX7_nearestClip_49 klX7_359 mvX7_run (sh_140 hx) rfl rfl rfl rfl (Nat.le_of_ble_eq_true rfl) (Nat.le_of_ble_eq_true rfl) (Nat.le_of_ble_eq_true rfl) (Nat.zero_le _) (Nat.zero_le _) hf sne (fun t e => ctX7_run hx h c1 v3 t e) (fun t5 hf => ?_)
          refine PW.aload_n cx qX7_nearestClip_52 rfl ?_
          refine PW.iload_n cx qX7_nearestClip_53 rfl ?_
          refine PW.iload_n cx qX7_nearestClip_54 rfl ?_
          refine PW.callVRI (As := [.int c1, .int v2]) (st := [.int t5]) cx hR qX7_nearestClip_55 klX7_359 mvX7_run (sh_140 hx) rfl rfl rfl rfl (Nat.le_of_ble_eq_true rfl) (Nat.le_of_ble_eq_true rfl) (Nat.le_of_ble_eq_true rfl) (Nat.zero_le _) (Nat.zero_le _) hf sne (fun t e => ctX7_run hx h c1 v2 t e) (fun t6 hf => ?_)
          refine PW.icmp_le cx qX7_nearestClip_58 hf (fun hf => ?_) (fun hf => ?_)
          · refine PW.iinc (v := 1) (L' := [some (.ref (gB g + 140)), some (.int c1), some (.int v2), some (.int (v3 + 1))]) cx qX7_nearestClip_63 rfl rfl hi3 rfl rfl ?_
            refine PW.goto cx qX7_nearestClip_66 ?_
            exact PW.locs (Lsub.keep (Lsub.keep (Lsub.keep (Lsub.keep Lsub.nil)))) (ih v2 (v3 + 1) _ hf kx)
          · refine PW.iload_n cx qX7_nearestClip_61 rfl ?_
            refine PW.istore_n (L' := [some (.ref (gB g + 140)), some (.int c1), some (.int v3), some (.int v3)]) cx qX7_nearestClip_62 hi2 rfl rfl ?_
            refine PW.iinc (v := 1) (L' := [some (.ref (gB g + 140)), some (.int c1), some (.int v3), some (.int (v3 + 1))]) cx qX7_nearestClip_63 rfl rfl hi3 rfl rfl ?_
            refine PW.goto cx qX7_nearestClip_66 ?_
            exact PW.locs (Lsub.keep (Lsub.keep (Lsub.keep (Lsub.keep Lsub.nil)))) (ih v3 (v3 + 1) _ hf kx)
set_option maxRecDepth 20000 in
theorem ctX7_nearestClip {g : GT} {ex : Bool} {sh : List Shp} (hx : MSh sh) (h : Hp) (p1 : Int32) (r0 : Int32 × Hp) (hf : M_nearestClip h p1 = some r0) : Ct g mX7_nearestClip 4 0 0 ex [.ref (gB g + 140), .int p1] sh h (PE (some (.int r0.1)) sh r0.2) := by
  refine Ct.of (L := [some (.ref (gB g + 140)), some (.int p1), none, none]) (by decide) (by intro w hw; simp only [List.mem_cons, List.not_mem_nil, or_false] at hw; rcases hw with rfl | rfl <;> rfl) (Nat.le_of_ble_eq_true rfl) rfl (fun X mx => ?_)
  have mx0 := mx
  obtain ⟨cx, hR, hml, hrt, -⟩ := mx0
  have cx : Cx g X RX7 cX7_nearestClip := cx
  have hrt : X.2.2.2.2.2.2.2.1.sig.returnType = (some .int) := hrt
  have hi2 : 2 < X.2.2.2.2.2.2.2.2.maxLocals := by rw [hml]; exact Nat.le_of_ble_eq_true rfl
  have hi3 : 3 < X.2.2.2.2.2.2.2.2.maxLocals := by rw [hml]; exact Nat.le_of_ble_eq_true rfl
  unfold M_nearestClip at hf
  refine PW.aload_n cx qX7_nearestClip_0 rfl ?_
  refine PW.aload_n cx qX7_nearestClip_1 rfl ?_
  refine PW.iload_n cx qX7_nearestClip_2 rfl ?_
  refine PW.callVRB (As := [.int p1]) (st := [.ref (gB g + 140)]) cx hR qX7_nearestClip_3 klX7_334 mvX7_isClip (sh_140 hx) rfl rfl rfl rfl (Nat.le_of_ble_eq_true rfl) (Nat.le_of_ble_eq_true rfl) (Nat.le_of_ble_eq_true rfl) (Nat.zero_le _) (Nat.zero_le _) hf sne (fun t e => ctX7_isClip hx h p1 t e) (fun t1 hf => ?_)
  obtain ⟨j14, ej14, hf⟩ := lt_split hf
  have hj14 : ∀ (z0_14 : Bool), j14 z0_14 = some r0 → PW g X ex (QE g X ex (PE (some (.int r0.1)) sh r0.2) 0 0) 0 0 sh h 14 [some (.ref (gB g + 140)), some (.int p1), none, none] [.int (b2i z0_14), .ref (gB g + 140)] := by
    intro z0_14 hf
    rw [ej14] at hf
    refine PW.callVWBc (As := [.int (b2i z0_14)]) (st := []) cx hR qX7_nearestClip_14 klX7_319 mvX7_throwsOne (sh_140 hx) rfl rfl rfl rfl (Nat.le_of_ble_eq_true rfl) (Nat.le_of_ble_eq_true rfl) (Nat.le_of_ble_eq_true rfl) (Nat.zero_le _) (Nat.zero_le _) hf sne (fun t e => ctX7_throwsOne hx h z0_14 t e) (fun t2 h3 hf => ?_)
    refine PW.if_eq cx qX7_nearestClip_17 hf (fun hf => ?_) (fun hf => ?_)
    · refine PW.iconst (v := (-1)) cx qX7_nearestClip_22 rfl ?_
      refine PW.istore_n (L' := [some (.ref (gB g + 140)), some (.int p1), some (.int (-1)), none]) cx qX7_nearestClip_23 hi2 rfl rfl ?_
      refine PW.iconst (v := 0) cx qX7_nearestClip_24 rfl ?_
      refine PW.istore_n (L' := [some (.ref (gB g + 140)), some (.int p1), some (.int (-1)), some (.int 0)]) cx qX7_nearestClip_25 hi3 rfl rfl ?_
      obtain ⟨r7, er7, hf⟩ := bndO hf sne
      refine PW.locs (Lsub.keep (Lsub.keep (Lsub.keep (Lsub.keep Lsub.nil)))) (lX7_nearestClip_26 mx hx h3 p1 FU (-1) 0 r7 er7 (fun xx_ e => ?_))
      subst e
      refine PW.iload_n cx qX7_nearestClip_69 rfl ?_
      exact PW.iret cx hrt qX7_nearestClip_70 (le_wi hf)
    · refine PW.iconst (v := 0) cx qX7_nearestClip_20 rfl ?_
      exact PW.iret cx hrt qX7_nearestClip_21 (le_wi hf)
  refine PW.if_ne cx qX7_nearestClip_6 hf (fun hf => ?_) (fun hf => ?_)
  · refine PW.iconst (v := 1) cx qX7_nearestClip_9 rfl ?_
    refine PW.goto cx qX7_nearestClip_10 ?_
    exact PW.locs (Lsub.keep (Lsub.keep (Lsub.drop (Lsub.drop Lsub.nil)))) (hj14 true hf)
  · refine PW.iconst (v := 0) cx qX7_nearestClip_13 rfl ?_
    exact PW.locs (Lsub.keep (Lsub.keep (Lsub.drop (Lsub.drop Lsub.nil)))) (hj14 false hf)
set_option maxRecDepth 20000 in
theorem lX7_twinsOf_26 {g : GT} {X : XT} {ex : Bool} {post : Option Value → List Shp → Hp → Prop} {sh : List Shp} (mx : Mx g X mX7_twinsOf 3 0 0) (hx : MSh sh) (h : Hp) (c1 : Int32) : ∀ (n : Nat) (v2 : Int32) (v3 : Int32) (r : Int32) (hf : M_twinsOf_L26 h c1 n v2 v3 = some r) (kx : ∀ (x2 : Int32), r = x2 → PW g X ex (QE g X ex post 0 0) 0 0 sh h 70 [some (.ref (gB g + 140)), some (.int c1), some (.int x2), none] []), PW g X ex (QE g X ex post 0 0) 0 0 sh h 26 [some (.ref (gB g + 140)), some (.int c1), some (.int v2), some (.int v3)] [] := by
  have mx0 := mx
  obtain ⟨cx, hR, hml, hrt, -⟩ := mx0
  have cx : Cx g X RX7 cX7_twinsOf := cx
  have hrt : X.2.2.2.2.2.2.2.1.sig.returnType = (some .int) := hrt
  have hi2 : 2 < X.2.2.2.2.2.2.2.2.maxLocals := by rw [hml]; exact Nat.le_of_ble_eq_true rfl
  have hi3 : 3 < X.2.2.2.2.2.2.2.2.maxLocals := by rw [hml]; exact Nat.le_of_ble_eq_true rfl
  intro n
  induction n with
  | zero =>
    intro v2 v3 r hf kx
    cases hf
  | succ n ih =>
    intro v2 v3 r hf kx
    unfold M_twinsOf_L26 at hf
    refine PW.iload_n cx qX7_twinsOf_26 rfl ?_
    refine PW.aload_n cx qX7_twinsOf_27 rfl ?_
    refine PW.getf (t := (2, 141)) (v := .ref (gB g + 141)) cx qX7_twinsOf_28 (sh_140 hx) rfl flX7_7 rfl ?_
    refine PW.iconst (v := 2) cx qX7_twinsOf_31 rfl ?_
    refine PW.iald cx qX7_twinsOf_32 (sh_141 hx) hf sne (fun t4 hf => ?_)
    refine PW.icmp_ge cx qX7_twinsOf_33 hf (fun hf => ?_) (fun hf => ?_)
    · exact PW.locs (Lsub.keep (Lsub.keep (Lsub.keep (Lsub.drop Lsub.nil)))) (kx v2 (Option.some.inj hf).symm)
    · refine PW.iload_n cx qX7_twinsOf_36 rfl ?_
      refine PW.iload_n cx qX7_twinsOf_37 rfl ?_
      refine PW.iload_n cx qX7_twinsOf_38 rfl ?_
      refine PW.icmp_eq cx qX7_twinsOf_39 hf (fun hf => ?_) (fun hf => ?_)
      · refine PW.iconst (v := 0) cx qX7_twinsOf_61 rfl ?_
        refine PW.ior cx qX7_twinsOf_62 ?_
        refine PW.istore_n (L' := [some (.ref (gB g + 140)), some (.int c1), some (.int (v2 ||| 0)), some (.int v3)]) cx qX7_twinsOf_63 hi2 rfl rfl ?_
        refine PW.iinc (v := 1) (L' := [some (.ref (gB g + 140)), some (.int c1), some (.int (v2 ||| 0)), some (.int (v3 + 1))]) cx qX7_twinsOf_64 rfl rfl hi3 rfl rfl ?_
        refine PW.goto cx qX7_twinsOf_67 ?_
        exact PW.locs (Lsub.keep (Lsub.keep (Lsub.keep (Lsub.keep Lsub.nil)))) (ih (v2 ||| 0) (v3 + 1) _ hf kx)
      · refine PW.aload_n cx qX7_twinsOf_42 rfl ?_
        refine PW.iload_n cx qX7_twinsOf_43 rfl ?_
        refine PW.callVRI (As := [.int v3]) (st := [.int v2]) cx hR qX7_twinsOf_44 klX7_89 mvX7_hashOf (sh_140 hx) rfl rfl rfl rfl (Nat.le_of_ble_eq_true rfl) (Nat.le_of_ble_eq_true rfl) (Nat.le_of_ble_eq_true rfl) (Nat.zero_le _) (Nat.zero_le _) hf sne (fun t e => ctX7_hashOf hx h v3 t e) (fun t5 hf => ?_)
        refine PW.aload_n cx qX7_twinsOf_47 rfl ?_
        refine PW.iload_n cx qX7_twinsOf_48 rfl ?_
        refine PW.callVRI (As := [.int c1]) (st := [.int t5, .int v2]) cx hR qX7_twinsOf_49 klX7_89 mvX7_hashOf (sh_140 hx) rfl rfl rfl rfl (Nat.le_of_ble_eq_true rfl) (Nat.le_of_ble_eq_true rfl) (Nat.le_of_ble_eq_true rfl) (Nat.zero_le _) (Nat.zero_le _) hf sne (fun t e => ctX7_hashOf hx h c1 t e) (fun t6 hf => ?_)
        refine PW.icmp_ne cx qX7_twinsOf_52 hf (fun hf => ?_) (fun hf => ?_)
        · refine PW.iconst (v := 1) cx qX7_twinsOf_55 rfl ?_
          refine PW.iload_n cx qX7_twinsOf_56 rfl ?_
          refine PW.ishl cx qX7_twinsOf_57 ?_
          refine PW.goto cx qX7_twinsOf_58 ?_
          refine PW.ior cx qX7_twinsOf_62 ?_
          refine PW.istore_n (L' := [some (.ref (gB g + 140)), some (.int c1), some (.int (v2 ||| (1 <<< (v3 &&& 31)))), some (.int v3)]) cx qX7_twinsOf_63 hi2 rfl rfl ?_
          refine PW.iinc (v := 1) (L' := [some (.ref (gB g + 140)), some (.int c1), some (.int (v2 ||| (1 <<< (v3 &&& 31)))), some (.int (v3 + 1))]) cx qX7_twinsOf_64 rfl rfl hi3 rfl rfl ?_
          refine PW.goto cx qX7_twinsOf_67 ?_
          exact PW.locs (Lsub.keep (Lsub.keep (Lsub.keep (Lsub.keep Lsub.nil)))) (ih (v2 ||| (1 <<< (v3 &&& 31))) (v3 + 1) _ hf kx)
        · refine PW.iconst (v := 0) cx qX7_twinsOf_61 rfl ?_
          refine PW.ior cx qX7_twinsOf_62 ?_
          refine PW.istore_n (L' := [some (.ref (gB g + 140)), some (.int c1), some (.int (v2 ||| 0)), some (.int v3)]) cx qX7_twinsOf_63 hi2 rfl rfl ?_
          refine PW.iinc (v := 1) (L' := [some (.ref (gB g + 140)), some (.int c1), some (.int (v2 ||| 0)), some (.int (v3 + 1))]) cx qX7_twinsOf_64 rfl rfl hi3 rfl rfl ?_
          refine PW.goto cx qX7_twinsOf_67 ?_
          exact PW.locs (Lsub.keep (Lsub.keep (Lsub.keep (Lsub.keep Lsub.nil)))) (ih (v2 ||| 0) (v3 + 1) _ hf kx)
set_option maxRecDepth 20000 in
theorem ctX7_twinsOf {g : GT} {ex : Bool} {sh : List Shp} (hx : MSh sh) (h : Hp) (p1 : Int32) (r0 : Int32 × Hp) (hf : M_twinsOf h p1 = some r0) : Ct g mX7_twinsOf 3 0 0 ex [.ref (gB g + 140), .int p1] sh h (PE (some (.int r0.1)) sh r0.2) := by
  refine Ct.of (L := [some (.ref (gB g + 140)), some (.int p1), none, none]) (by decide) (by intro w hw; simp only [List.mem_cons, List.not_mem_nil, or_false] at hw; rcases hw with rfl | rfl <;> rfl) (Nat.le_of_ble_eq_true rfl) rfl (fun X mx => ?_)
  have mx0 := mx
  obtain ⟨cx, hR, hml, hrt, -⟩ := mx0
  have cx : Cx g X RX7 cX7_twinsOf := cx
  have hrt : X.2.2.2.2.2.2.2.1.sig.returnType = (some .int) := hrt
  have hi2 : 2 < X.2.2.2.2.2.2.2.2.maxLocals := by rw [hml]; exact Nat.le_of_ble_eq_true rfl
  have hi3 : 3 < X.2.2.2.2.2.2.2.2.maxLocals := by rw [hml]; exact Nat.le_of_ble_eq_true rfl
  unfold M_twinsOf at hf
  refine PW.aload_n cx qX7_twinsOf_0 rfl ?_
  refine PW.aload_n cx qX7_twinsOf_1 rfl ?_
  refine PW.iload_n cx qX7_twinsOf_2 rfl ?_
  refine PW.callVRB (As := [.int p1]) (st := [.ref (gB g + 140)]) cx hR qX7_twinsOf_3 klX7_334 mvX7_isClip (sh_140 hx) rfl rfl rfl rfl (Nat.le_of_ble_eq_true rfl) (Nat.le_of_ble_eq_true rfl) (Nat.le_of_ble_eq_true rfl) (Nat.zero_le _) (Nat.zero_le _) hf sne (fun t e => ctX7_isClip hx h p1 t e) (fun t1 hf => ?_)
  obtain ⟨j14, ej14, hf⟩ := lt_split hf
  have hj14 : ∀ (z0_14 : Bool), j14 z0_14 = some r0 → PW g X ex (QE g X ex (PE (some (.int r0.1)) sh r0.2) 0 0) 0 0 sh h 14 [some (.ref (gB g + 140)), some (.int p1), none, none] [.int (b2i z0_14), .ref (gB g + 140)] := by
    intro z0_14 hf
    rw [ej14] at hf
    refine PW.callVWBc (As := [.int (b2i z0_14)]) (st := []) cx hR qX7_twinsOf_14 klX7_319 mvX7_throwsOne (sh_140 hx) rfl rfl rfl rfl (Nat.le_of_ble_eq_true rfl) (Nat.le_of_ble_eq_true rfl) (Nat.le_of_ble_eq_true rfl) (Nat.zero_le _) (Nat.zero_le _) hf sne (fun t e => ctX7_throwsOne hx h z0_14 t e) (fun t2 h3 hf => ?_)
    refine PW.if_eq cx qX7_twinsOf_17 hf (fun hf => ?_) (fun hf => ?_)
    · refine PW.iconst (v := 0) cx qX7_twinsOf_22 rfl ?_
      refine PW.istore_n (L' := [some (.ref (gB g + 140)), some (.int p1), some (.int 0), none]) cx qX7_twinsOf_23 hi2 rfl rfl ?_
      refine PW.iconst (v := 0) cx qX7_twinsOf_24 rfl ?_
      refine PW.istore_n (L' := [some (.ref (gB g + 140)), some (.int p1), some (.int 0), some (.int 0)]) cx qX7_twinsOf_25 hi3 rfl rfl ?_
      obtain ⟨r7, er7, hf⟩ := bndO hf sne
      refine PW.locs (Lsub.keep (Lsub.keep (Lsub.keep (Lsub.keep Lsub.nil)))) (lX7_twinsOf_26 mx hx h3 p1 FU 0 0 r7 er7 (fun xx_ e => ?_))
      subst e
      refine PW.iload_n cx qX7_twinsOf_70 rfl ?_
      exact PW.iret cx hrt qX7_twinsOf_71 (le_wi hf)
    · refine PW.iconst (v := 0) cx qX7_twinsOf_20 rfl ?_
      exact PW.iret cx hrt qX7_twinsOf_21 (le_wi hf)
  refine PW.if_ne cx qX7_twinsOf_6 hf (fun hf => ?_) (fun hf => ?_)
  · refine PW.iconst (v := 1) cx qX7_twinsOf_9 rfl ?_
    refine PW.goto cx qX7_twinsOf_10 ?_
    exact PW.locs (Lsub.keep (Lsub.keep (Lsub.drop (Lsub.drop Lsub.nil)))) (hj14 true hf)
  · refine PW.iconst (v := 0) cx qX7_twinsOf_13 rfl ?_
    exact PW.locs (Lsub.keep (Lsub.keep (Lsub.drop (Lsub.drop Lsub.nil)))) (hj14 false hf)
set_option maxRecDepth 20000 in
theorem ctX7_weeksToFade {g : GT} {ex : Bool} {sh : List Shp} (hx : MSh sh) (h : Hp) (p1 : Int32) (r0 : Int32 × Hp) (hf : M_weeksToFade h p1 = some r0) : Ct g mX7_weeksToFade 2 0 0 ex [.ref (gB g + 140), .int p1] sh h (PE (some (.int r0.1)) sh r0.2) := by
  refine Ct.of (L := [some (.ref (gB g + 140)), some (.int p1)]) (by decide) (by intro w hw; simp only [List.mem_cons, List.not_mem_nil, or_false] at hw; rcases hw with rfl | rfl <;> rfl) (Nat.le_of_ble_eq_true rfl) rfl (fun X mx => ?_)
  obtain ⟨cx, hR, hml, hrt, -⟩ := mx
  have cx : Cx g X RX7 cX7_weeksToFade := cx
  have hrt : X.2.2.2.2.2.2.2.1.sig.returnType = (some .int) := hrt
  unfold M_weeksToFade at hf
  refine PW.aload_n cx qX7_weeksToFade_0 rfl ?_
  refine PW.aload_n cx qX7_weeksToFade_1 rfl ?_
  refine PW.iload_n cx qX7_weeksToFade_2 rfl ?_
  refine PW.callVRB (As := [.int p1]) (st := [.ref (gB g + 140)]) cx hR qX7_weeksToFade_3 klX7_334 mvX7_isClip (sh_140 hx) rfl rfl rfl rfl (Nat.le_of_ble_eq_true rfl) (Nat.le_of_ble_eq_true rfl) (Nat.le_of_ble_eq_true rfl) (Nat.zero_le _) (Nat.zero_le _) hf sne (fun t e => ctX7_isClip hx h p1 t e) (fun t1 hf => ?_)
  obtain ⟨j14, ej14, hf⟩ := lt_split hf
  have hj14 : ∀ (z0_14 : Bool), j14 z0_14 = some r0 → PW g X ex (QE g X ex (PE (some (.int r0.1)) sh r0.2) 0 0) 0 0 sh h 14 [some (.ref (gB g + 140)), some (.int p1)] [.int (b2i z0_14), .ref (gB g + 140)] := by
    intro z0_14 hf
    rw [ej14] at hf
    refine PW.callVWBc (As := [.int (b2i z0_14)]) (st := []) cx hR qX7_weeksToFade_14 klX7_319 mvX7_throwsOne (sh_140 hx) rfl rfl rfl rfl (Nat.le_of_ble_eq_true rfl) (Nat.le_of_ble_eq_true rfl) (Nat.le_of_ble_eq_true rfl) (Nat.zero_le _) (Nat.zero_le _) hf sne (fun t e => ctX7_throwsOne hx h z0_14 t e) (fun t2 h3 hf => ?_)
    refine PW.if_ne cx qX7_weeksToFade_17 hf (fun hf => ?_) (fun hf => ?_)
    · refine PW.aload_n cx qX7_weeksToFade_20 rfl ?_
      refine PW.iload_n cx qX7_weeksToFade_21 rfl ?_
      refine PW.iconst (v := 1) cx qX7_weeksToFade_22 rfl ?_
      refine PW.callVRI (As := [.int p1, .int 1]) (st := []) cx hR qX7_weeksToFade_23 klX7_70 mvX7_of (sh_140 hx) rfl rfl rfl rfl (Nat.le_of_ble_eq_true rfl) (Nat.le_of_ble_eq_true rfl) (Nat.le_of_ble_eq_true rfl) (Nat.zero_le _) (Nat.zero_le _) hf sne (fun t e => ctX7_of hx h3 p1 1 t e) (fun t4 hf => ?_)
      refine PW.iconst (v := 2) cx qX7_weeksToFade_26 rfl ?_
      refine PW.icmp_ne cx qX7_weeksToFade_27 hf (fun hf => ?_) (fun hf => ?_)
      · refine PW.iconst (v := 0) cx qX7_weeksToFade_30 rfl ?_
        exact PW.iret cx hrt qX7_weeksToFade_31 (le_wi hf)
      · refine PW.aload_n cx qX7_weeksToFade_32 rfl ?_
        refine PW.iload_n cx qX7_weeksToFade_33 rfl ?_
        refine PW.iconst (v := 1) cx qX7_weeksToFade_34 rfl ?_
        refine PW.callVRI (As := [.int p1, .int 1]) (st := []) cx hR qX7_weeksToFade_35 klX7_70 mvX7_of (sh_140 hx) rfl rfl rfl rfl (Nat.le_of_ble_eq_true rfl) (Nat.le_of_ble_eq_true rfl) (Nat.le_of_ble_eq_true rfl) (Nat.zero_le _) (Nat.zero_le _) hf sne (fun t e => ctX7_of hx h3 p1 1 t e) (fun t5 hf => ?_)
        refine PW.iconst (v := 1) cx qX7_weeksToFade_38 rfl ?_
        refine PW.icmp_ne cx qX7_weeksToFade_39 hf (fun hf => ?_) (fun hf => ?_)
        · refine PW.aload_n cx qX7_weeksToFade_42 rfl ?_
          refine PW.iload_n cx qX7_weeksToFade_43 rfl ?_
          refine PW.iconst (v := 2) cx qX7_weeksToFade_44 rfl ?_
          refine PW.callVRI (As := [.int p1, .int 2]) (st := []) cx hR qX7_weeksToFade_45 klX7_70 mvX7_of (sh_140 hx) rfl rfl rfl rfl (Nat.le_of_ble_eq_true rfl) (Nat.le_of_ble_eq_true rfl) (Nat.le_of_ble_eq_true rfl) (Nat.zero_le _) (Nat.zero_le _) hf sne (fun t e => ctX7_of hx h3 p1 2 t e) (fun t6 hf => ?_)
          refine PW.goto cx qX7_weeksToFade_48 ?_
          exact PW.iret cx hrt qX7_weeksToFade_61 (le_wi hf)
        · refine PW.aload_n cx qX7_weeksToFade_51 rfl ?_
          refine PW.iload_n cx qX7_weeksToFade_52 rfl ?_
          refine PW.iconst (v := 2) cx qX7_weeksToFade_53 rfl ?_
          refine PW.callVRI (As := [.int p1, .int 2]) (st := []) cx hR qX7_weeksToFade_54 klX7_70 mvX7_of (sh_140 hx) rfl rfl rfl rfl (Nat.le_of_ble_eq_true rfl) (Nat.le_of_ble_eq_true rfl) (Nat.le_of_ble_eq_true rfl) (Nat.zero_le _) (Nat.zero_le _) hf sne (fun t e => ctX7_of hx h3 p1 2 t e) (fun t7 hf => ?_)
          refine PW.iconst (v := 3) cx qX7_weeksToFade_57 rfl ?_
          refine PW.iadd cx qX7_weeksToFade_58 ?_
          refine PW.iconst (v := 4) cx qX7_weeksToFade_59 rfl ?_
          refine PW.idivK cx qX7_weeksToFade_60 (by decide) ?_
          exact PW.iret cx hrt qX7_weeksToFade_61 (le_wi hf)
    · refine PW.iconst (v := 0) cx qX7_weeksToFade_30 rfl ?_
      exact PW.iret cx hrt qX7_weeksToFade_31 (le_wi hf)
  refine PW.if_ne cx qX7_weeksToFade_6 hf (fun hf => ?_) (fun hf => ?_)
  · refine PW.iconst (v := 1) cx qX7_weeksToFade_9 rfl ?_
    refine PW.goto cx qX7_weeksToFade_10 ?_
    exact PW.locs (Lsub.keep (Lsub.keep Lsub.nil)) (hj14 true hf)
  · refine PW.iconst (v := 0) cx qX7_weeksToFade_13 rfl ?_
    exact PW.locs (Lsub.keep (Lsub.keep Lsub.nil)) (hj14 false hf)
set_option maxRecDepth 20000 in
theorem ctX7_bedCount {g : GT} {ex : Bool} {sh : List Shp} (hx : MSh sh) (h : Hp) (p1 : Int32) (r0 : Int32 × Hp) (hf : M_bedCount h p1 = some r0) : Ct g mX7_bedCount 2 0 0 ex [.ref (gB g + 140), .int p1] sh h (PE (some (.int r0.1)) sh r0.2) := by
  refine Ct.of (L := [some (.ref (gB g + 140)), some (.int p1)]) (by decide) (by intro w hw; simp only [List.mem_cons, List.not_mem_nil, or_false] at hw; rcases hw with rfl | rfl <;> rfl) (Nat.le_of_ble_eq_true rfl) rfl (fun X mx => ?_)
  obtain ⟨cx, hR, hml, hrt, -⟩ := mx
  have cx : Cx g X RX7 cX7_bedCount := cx
  have hrt : X.2.2.2.2.2.2.2.1.sig.returnType = (some .int) := hrt
  unfold M_bedCount at hf
  refine PW.aload_n cx qX7_bedCount_0 rfl ?_
  refine PW.aload_n cx qX7_bedCount_1 rfl ?_
  refine PW.iload_n cx qX7_bedCount_2 rfl ?_
  refine PW.callVRB (As := [.int p1]) (st := [.ref (gB g + 140)]) cx hR qX7_bedCount_3 klX7_337 mvX7_isReel (sh_140 hx) rfl rfl rfl rfl (Nat.le_of_ble_eq_true rfl) (Nat.le_of_ble_eq_true rfl) (Nat.le_of_ble_eq_true rfl) (Nat.zero_le _) (Nat.zero_le _) hf sne (fun t e => ctX7_isReel hx h p1 t e) (fun t1 hf => ?_)
  obtain ⟨j14, ej14, hf⟩ := lt_split hf
  have hj14 : ∀ (z0_14 : Bool), j14 z0_14 = some r0 → PW g X ex (QE g X ex (PE (some (.int r0.1)) sh r0.2) 0 0) 0 0 sh h 14 [some (.ref (gB g + 140)), some (.int p1)] [.int (b2i z0_14), .ref (gB g + 140)] := by
    intro z0_14 hf
    rw [ej14] at hf
    refine PW.callVWBc (As := [.int (b2i z0_14)]) (st := []) cx hR qX7_bedCount_14 klX7_319 mvX7_throwsOne (sh_140 hx) rfl rfl rfl rfl (Nat.le_of_ble_eq_true rfl) (Nat.le_of_ble_eq_true rfl) (Nat.le_of_ble_eq_true rfl) (Nat.zero_le _) (Nat.zero_le _) hf sne (fun t e => ctX7_throwsOne hx h z0_14 t e) (fun t2 h3 hf => ?_)
    refine PW.if_eq cx qX7_bedCount_17 hf (fun hf => ?_) (fun hf => ?_)
    · refine PW.aload_n cx qX7_bedCount_24 rfl ?_
      refine PW.iload_n cx qX7_bedCount_25 rfl ?_
      refine PW.callVRI (As := [.int p1]) (st := []) cx hR qX7_bedCount_26 klX7_92 mvX7_beds (sh_140 hx) rfl rfl rfl rfl (Nat.le_of_ble_eq_true rfl) (Nat.le_of_ble_eq_true rfl) (Nat.le_of_ble_eq_true rfl) (Nat.zero_le _) (Nat.zero_le _) hf sne (fun t e => ctX7_beds hx h3 p1 t e) (fun t4 hf => ?_)
      exact PW.iret cx hrt qX7_bedCount_29 (le_wi hf)
    · refine PW.iconst (v := 0) cx qX7_bedCount_20 rfl ?_
      refine PW.goto cx qX7_bedCount_21 ?_
      exact PW.iret cx hrt qX7_bedCount_29 (le_wi hf)
  refine PW.if_ne cx qX7_bedCount_6 hf (fun hf => ?_) (fun hf => ?_)
  · refine PW.iconst (v := 1) cx qX7_bedCount_9 rfl ?_
    refine PW.goto cx qX7_bedCount_10 ?_
    exact PW.locs (Lsub.keep (Lsub.keep Lsub.nil)) (hj14 true hf)
  · refine PW.iconst (v := 0) cx qX7_bedCount_13 rfl ?_
    exact PW.locs (Lsub.keep (Lsub.keep Lsub.nil)) (hj14 false hf)
set_option maxRecDepth 20000 in
theorem ctX7_bed {g : GT} {ex : Bool} {sh : List Shp} (hx : MSh sh) (h : Hp) (p1 : Int32) (p2 : Int32) (r0 : Int32 × Hp) (hf : M_bed h p1 p2 = some r0) : Ct g mX7_bed 2 0 0 ex [.ref (gB g + 140), .int p1, .int p2] sh h (PE (some (.int r0.1)) sh r0.2) := by
  refine Ct.of (L := [some (.ref (gB g + 140)), some (.int p1), some (.int p2)]) (by decide) (by intro w hw; simp only [List.mem_cons, List.not_mem_nil, or_false] at hw; rcases hw with rfl | rfl | rfl <;> rfl) (Nat.le_of_ble_eq_true rfl) rfl (fun X mx => ?_)
  obtain ⟨cx, hR, hml, hrt, -⟩ := mx
  have cx : Cx g X RX7 cX7_bed := cx
  have hrt : X.2.2.2.2.2.2.2.1.sig.returnType = (some .int) := hrt
  unfold M_bed at hf
  refine PW.aload_n cx qX7_bed_0 rfl ?_
  refine PW.aload_n cx qX7_bed_1 rfl ?_
  refine PW.iload_n cx qX7_bed_2 rfl ?_
  refine PW.callVRB (As := [.int p1]) (st := [.ref (gB g + 140)]) cx hR qX7_bed_3 klX7_337 mvX7_isReel (sh_140 hx) rfl rfl rfl rfl (Nat.le_of_ble_eq_true rfl) (Nat.le_of_ble_eq_true rfl) (Nat.le_of_ble_eq_true rfl) (Nat.zero_le _) (Nat.zero_le _) hf sne (fun t e => ctX7_isReel hx h p1 t e) (fun t1 hf => ?_)
  obtain ⟨j29, ej29, hf⟩ := lt_split hf
  have hj29 : ∀ (z0_29 : Bool), j29 z0_29 = some r0 → PW g X ex (QE g X ex (PE (some (.int r0.1)) sh r0.2) 0 0) 0 0 sh h 29 [some (.ref (gB g + 140)), some (.int p1), some (.int p2)] [.int (b2i z0_29), .ref (gB g + 140)] := by
    intro z0_29 hf
    rw [ej29] at hf
    refine PW.callVWBc (As := [.int (b2i z0_29)]) (st := []) cx hR qX7_bed_29 klX7_319 mvX7_throwsOne (sh_140 hx) rfl rfl rfl rfl (Nat.le_of_ble_eq_true rfl) (Nat.le_of_ble_eq_true rfl) (Nat.le_of_ble_eq_true rfl) (Nat.zero_le _) (Nat.zero_le _) hf sne (fun t e => ctX7_throwsOne hx h z0_29 t e) (fun t2 h3 hf => ?_)
    refine PW.if_eq cx qX7_bed_32 hf (fun hf => ?_) (fun hf => ?_)
    · refine PW.aload_n cx qX7_bed_39 rfl ?_
      refine PW.iload_n cx qX7_bed_40 rfl ?_
      refine PW.iload_n cx qX7_bed_41 rfl ?_
      refine PW.callVRI (As := [.int p1, .int p2]) (st := []) cx hR qX7_bed_42 klX7_102 mvX7_inBed (sh_140 hx) rfl rfl rfl rfl (Nat.le_of_ble_eq_true rfl) (Nat.le_of_ble_eq_true rfl) (Nat.le_of_ble_eq_true rfl) (Nat.zero_le _) (Nat.zero_le _) hf sne (fun t e => ctX7_inBed hx h3 p1 p2 t e) (fun t4 hf => ?_)
      exact PW.iret cx hrt qX7_bed_45 (le_wi hf)
    · refine PW.iconst (v := 0) cx qX7_bed_35 rfl ?_
      refine PW.goto cx qX7_bed_36 ?_
      exact PW.iret cx hrt qX7_bed_45 (le_wi hf)
  obtain ⟨j24, ej24, hf⟩ := lt_split hf
  have hj24 : ∀ (u_24 : Unit), j24 u_24 = some r0 → PW g X ex (QE g X ex (PE (some (.int r0.1)) sh r0.2) 0 0) 0 0 sh h 24 [some (.ref (gB g + 140)), some (.int p1), some (.int p2)] [.ref (gB g + 140)] := by
    intro u_24 hf
    rw [ej24] at hf
    refine PW.iconst (v := 1) cx qX7_bed_24 rfl ?_
    refine PW.goto cx qX7_bed_25 ?_
    exact PW.locs (Lsub.keep (Lsub.keep (Lsub.keep Lsub.nil))) (hj29 true hf)
  refine PW.if_eq cx qX7_bed_6 hf (fun hf => ?_) (fun hf => ?_)
  · exact PW.locs (Lsub.keep (Lsub.keep (Lsub.keep Lsub.nil))) (hj24 () hf)
  · refine PW.iload_n cx qX7_bed_9 rfl ?_
    refine PW.iconst (v := 0) cx qX7_bed_10 rfl ?_
    refine PW.aload_n cx qX7_bed_11 rfl ?_
    refine PW.iload_n cx qX7_bed_12 rfl ?_
    refine PW.callVRI (As := [.int p1]) (st := [.int 0, .int p2, .ref (gB g + 140)]) cx hR qX7_bed_13 klX7_92 mvX7_beds (sh_140 hx) rfl rfl rfl rfl (Nat.le_of_ble_eq_true rfl) (Nat.le_of_ble_eq_true rfl) (Nat.le_of_ble_eq_true rfl) (Nat.zero_le _) (Nat.zero_le _) hf sne (fun t e => ctX7_beds hx h p1 t e) (fun t5 hf => ?_)
    refine PW.iconst (v := 1) cx qX7_bed_16 rfl ?_
    refine PW.isub cx qX7_bed_17 ?_
    refine PW.callSRB (As := [.int p2, .int 0, .int (t5 - 1)]) (st := [.ref (gB g + 140)]) cx hR qX7_bed_18 klX7_57 miX7_in rfl rfl (Nat.le_of_ble_eq_true rfl) (Nat.le_of_ble_eq_true rfl) (Nat.le_of_ble_eq_true rfl) (Nat.zero_le _) (Nat.zero_le _) hf sne (fun t e => ctX7_in h p2 0 (t5 - 1) t e) (fun t6 hf => ?_)
    refine PW.if_ne cx qX7_bed_21 hf (fun hf => ?_) (fun hf => ?_)
    · exact PW.locs (Lsub.keep (Lsub.keep (Lsub.keep Lsub.nil))) (hj24 () hf)
    · refine PW.iconst (v := 0) cx qX7_bed_28 rfl ?_
      exact PW.locs (Lsub.keep (Lsub.keep (Lsub.keep Lsub.nil))) (hj29 false hf)
set_option maxRecDepth 20000 in
theorem ctX7_sleepers {g : GT} {ex : Bool} {sh : List Shp} (hx : MSh sh) (h : Hp) (p1 : Int32) (r0 : Int32 × Hp) (hf : M_sleepers h p1 = some r0) : Ct g mX7_sleepers 2 0 0 ex [.ref (gB g + 140), .int p1] sh h (PE (some (.int r0.1)) sh r0.2) := by
  refine Ct.of (L := [some (.ref (gB g + 140)), some (.int p1)]) (by decide) (by intro w hw; simp only [List.mem_cons, List.not_mem_nil, or_false] at hw; rcases hw with rfl | rfl <;> rfl) (Nat.le_of_ble_eq_true rfl) rfl (fun X mx => ?_)
  obtain ⟨cx, hR, hml, hrt, -⟩ := mx
  have cx : Cx g X RX7 cX7_sleepers := cx
  have hrt : X.2.2.2.2.2.2.2.1.sig.returnType = (some .int) := hrt
  unfold M_sleepers at hf
  refine PW.aload_n cx qX7_sleepers_0 rfl ?_
  refine PW.aload_n cx qX7_sleepers_1 rfl ?_
  refine PW.iload_n cx qX7_sleepers_2 rfl ?_
  refine PW.callVRB (As := [.int p1]) (st := [.ref (gB g + 140)]) cx hR qX7_sleepers_3 klX7_337 mvX7_isReel (sh_140 hx) rfl rfl rfl rfl (Nat.le_of_ble_eq_true rfl) (Nat.le_of_ble_eq_true rfl) (Nat.le_of_ble_eq_true rfl) (Nat.zero_le _) (Nat.zero_le _) hf sne (fun t e => ctX7_isReel hx h p1 t e) (fun t1 hf => ?_)
  obtain ⟨j14, ej14, hf⟩ := lt_split hf
  have hj14 : ∀ (z0_14 : Bool), j14 z0_14 = some r0 → PW g X ex (QE g X ex (PE (some (.int r0.1)) sh r0.2) 0 0) 0 0 sh h 14 [some (.ref (gB g + 140)), some (.int p1)] [.int (b2i z0_14), .ref (gB g + 140)] := by
    intro z0_14 hf
    rw [ej14] at hf
    refine PW.callVWBc (As := [.int (b2i z0_14)]) (st := []) cx hR qX7_sleepers_14 klX7_319 mvX7_throwsOne (sh_140 hx) rfl rfl rfl rfl (Nat.le_of_ble_eq_true rfl) (Nat.le_of_ble_eq_true rfl) (Nat.le_of_ble_eq_true rfl) (Nat.zero_le _) (Nat.zero_le _) hf sne (fun t e => ctX7_throwsOne hx h z0_14 t e) (fun t2 h3 hf => ?_)
    refine PW.if_eq cx qX7_sleepers_17 hf (fun hf => ?_) (fun hf => ?_)
    · refine PW.aload_n cx qX7_sleepers_24 rfl ?_
      refine PW.iload_n cx qX7_sleepers_25 rfl ?_
      refine PW.callVRI (As := [.int p1]) (st := []) cx hR qX7_sleepers_26 klX7_111 mvX7_sleepersIn (sh_140 hx) rfl rfl rfl rfl (Nat.le_of_ble_eq_true rfl) (Nat.le_of_ble_eq_true rfl) (Nat.le_of_ble_eq_true rfl) (Nat.zero_le _) (Nat.zero_le _) hf sne (fun t e => ctX7_sleepersIn hx h3 p1 t e) (fun t4 hf => ?_)
      exact PW.iret cx hrt qX7_sleepers_29 (le_wi hf)
    · refine PW.iconst (v := 0) cx qX7_sleepers_20 rfl ?_
      refine PW.goto cx qX7_sleepers_21 ?_
      exact PW.iret cx hrt qX7_sleepers_29 (le_wi hf)
  refine PW.if_ne cx qX7_sleepers_6 hf (fun hf => ?_) (fun hf => ?_)
  · refine PW.iconst (v := 1) cx qX7_sleepers_9 rfl ?_
    refine PW.goto cx qX7_sleepers_10 ?_
    exact PW.locs (Lsub.keep (Lsub.keep Lsub.nil)) (hj14 true hf)
  · refine PW.iconst (v := 0) cx qX7_sleepers_13 rfl ?_
    exact PW.locs (Lsub.keep (Lsub.keep Lsub.nil)) (hj14 false hf)
set_option maxRecDepth 20000 in
theorem ctX7_throwsPair {g : GT} {ex : Bool} {sh : List Shp} (hx : MSh sh) (h : Hp) (p1 : Int32) (p2 : Int32) (r0 : Bool × Hp) (hf : M_throwsPair h p1 p2 = some r0) : Ct g mX7_throwsPair 2 0 0 ex [.ref (gB g + 140), .int p1, .int p2] sh h (PE (some (.int (b2i r0.1))) sh r0.2) := by
  refine Ct.of (L := [some (.ref (gB g + 140)), some (.int p1), some (.int p2)]) (by decide) (by intro w hw; simp only [List.mem_cons, List.not_mem_nil, or_false] at hw; rcases hw with rfl | rfl | rfl <;> rfl) (Nat.le_of_ble_eq_true rfl) rfl (fun X mx => ?_)
  obtain ⟨cx, hR, hml, hrt, -⟩ := mx
  have cx : Cx g X RX7 cX7_throwsPair := cx
  have hrt : X.2.2.2.2.2.2.2.1.sig.returnType = (some .boolean) := hrt
  unfold M_throwsPair at hf
  refine PW.aload_n cx qX7_throwsPair_0 rfl ?_
  refine PW.aload_n cx qX7_throwsPair_1 rfl ?_
  refine PW.iload_n cx qX7_throwsPair_2 rfl ?_
  refine PW.callVRB (As := [.int p1]) (st := [.ref (gB g + 140)]) cx hR qX7_throwsPair_3 klX7_334 mvX7_isClip (sh_140 hx) rfl rfl rfl rfl (Nat.le_of_ble_eq_true rfl) (Nat.le_of_ble_eq_true rfl) (Nat.le_of_ble_eq_true rfl) (Nat.zero_le _) (Nat.zero_le _) hf sne (fun t e => ctX7_isClip hx h p1 t e) (fun t1 hf => ?_)
  refine PW.if_eq cx qX7_throwsPair_6 hf (fun hf => ?_) (fun hf => ?_)
  · refine PW.iconst (v := 1) cx qX7_throwsPair_17 rfl ?_
    refine PW.goto cx qX7_throwsPair_18 ?_
    refine PW.callVWBc (As := [.int 1]) (st := []) cx hR qX7_throwsPair_22 klX7_319 mvX7_throwsOne (sh_140 hx) rfl rfl rfl rfl (Nat.le_of_ble_eq_true rfl) (Nat.le_of_ble_eq_true rfl) (Nat.le_of_ble_eq_true rfl) (Nat.zero_le _) (Nat.zero_le _) hf sne (fun t e => ctX7_throwsOne hx h true t e) (fun t2 h3 hf => ?_)
    exact PW.zret cx hrt (nbb _) qX7_throwsPair_25 (le_wz hf)
  · refine PW.aload_n cx qX7_throwsPair_9 rfl ?_
    refine PW.iload_n cx qX7_throwsPair_10 rfl ?_
    refine PW.callVRB (As := [.int p2]) (st := [.ref (gB g + 140)]) cx hR qX7_throwsPair_11 klX7_337 mvX7_isReel (sh_140 hx) rfl rfl rfl rfl (Nat.le_of_ble_eq_true rfl) (Nat.le_of_ble_eq_true rfl) (Nat.le_of_ble_eq_true rfl) (Nat.zero_le _) (Nat.zero_le _) hf sne (fun t e => ctX7_isReel hx h p2 t e) (fun t4 hf => ?_)
    refine PW.if_ne cx qX7_throwsPair_14 hf (fun hf => ?_) (fun hf => ?_)
    · refine PW.iconst (v := 1) cx qX7_throwsPair_17 rfl ?_
      refine PW.goto cx qX7_throwsPair_18 ?_
      refine PW.callVWBc (As := [.int 1]) (st := []) cx hR qX7_throwsPair_22 klX7_319 mvX7_throwsOne (sh_140 hx) rfl rfl rfl rfl (Nat.le_of_ble_eq_true rfl) (Nat.le_of_ble_eq_true rfl) (Nat.le_of_ble_eq_true rfl) (Nat.zero_le _) (Nat.zero_le _) hf sne (fun t e => ctX7_throwsOne hx h true t e) (fun t5 h6 hf => ?_)
      exact PW.zret cx hrt (nbb _) qX7_throwsPair_25 (le_wz hf)
    · refine PW.iconst (v := 0) cx qX7_throwsPair_21 rfl ?_
      refine PW.callVWBc (As := [.int 0]) (st := []) cx hR qX7_throwsPair_22 klX7_319 mvX7_throwsOne (sh_140 hx) rfl rfl rfl rfl (Nat.le_of_ble_eq_true rfl) (Nat.le_of_ble_eq_true rfl) (Nat.le_of_ble_eq_true rfl) (Nat.zero_le _) (Nat.zero_le _) hf sne (fun t e => ctX7_throwsOne hx h false t e) (fun t7 h8 hf => ?_)
      exact PW.zret cx hrt (nbb _) qX7_throwsPair_25 (le_wz hf)
set_option maxRecDepth 20000 in
theorem ctX7_home {g : GT} {ex : Bool} {sh : List Shp} (hx : MSh sh) (h : Hp) (p1 : Int32) (p2 : Int32) (r0 : Int32 × Hp) (hf : M_home h p1 p2 = some r0) : Ct g mX7_home 4 0 0 ex [.ref (gB g + 140), .int p1, .int p2] sh h (PE (some (.int r0.1)) sh r0.2) := by
  refine Ct.of (L := [some (.ref (gB g + 140)), some (.int p1), some (.int p2)]) (by decide) (by intro w hw; simp only [List.mem_cons, List.not_mem_nil, or_false] at hw; rcases hw with rfl | rfl | rfl <;> rfl) (Nat.le_of_ble_eq_true rfl) rfl (fun X mx => ?_)
  obtain ⟨cx, hR, hml, hrt, -⟩ := mx
  have cx : Cx g X RX7 cX7_home := cx
  have hrt : X.2.2.2.2.2.2.2.1.sig.returnType = (some .int) := hrt
  unfold M_home at hf
  refine PW.aload_n cx qX7_home_0 rfl ?_
  refine PW.iload_n cx qX7_home_1 rfl ?_
  refine PW.iload_n cx qX7_home_2 rfl ?_
  refine PW.callVWBc (As := [.int p1, .int p2]) (st := []) cx hR qX7_home_3 klX7_362 mvX7_throwsPair (sh_140 hx) rfl rfl rfl rfl (Nat.le_of_ble_eq_true rfl) (Nat.le_of_ble_eq_true rfl) (Nat.le_of_ble_eq_true rfl) (Nat.zero_le _) (Nat.zero_le _) hf sne (fun t e => ctX7_throwsPair hx h p1 p2 t e) (fun t1 h2 hf => ?_)
  refine PW.if_eq cx qX7_home_6 hf (fun hf => ?_) (fun hf => ?_)
  · refine PW.aload_n cx qX7_home_13 rfl ?_
    refine PW.iload_n cx qX7_home_14 rfl ?_
    refine PW.iload_n cx qX7_home_15 rfl ?_
    refine PW.callVRI (As := [.int p1, .int p2]) (st := []) cx hR qX7_home_16 klX7_95 mvX7_homeOf (sh_140 hx) rfl rfl rfl rfl (Nat.le_of_ble_eq_true rfl) (Nat.le_of_ble_eq_true rfl) (Nat.le_of_ble_eq_true rfl) (Nat.zero_le _) (Nat.zero_le _) hf sne (fun t e => ctX7_homeOf hx h2 p1 p2 t e) (fun t3 hf => ?_)
    exact PW.iret cx hrt qX7_home_19 (le_wi hf)
  · refine PW.iconst (v := 0) cx qX7_home_9 rfl ?_
    refine PW.goto cx qX7_home_10 ?_
    exact PW.iret cx hrt qX7_home_19 (le_wi hf)
set_option maxRecDepth 20000 in
theorem ctX7_whyNoSleep {g : GT} {ex : Bool} {sh : List Shp} (hx : MSh sh) (h : Hp) (p1 : Int32) (p2 : Int32) (r0 : Int32 × Hp) (hf : M_whyNoSleep h p1 p2 = some r0) : Ct g mX7_whyNoSleep 7 0 0 ex [.ref (gB g + 140), .int p1, .int p2] sh h (PE (some (.int r0.1)) sh r0.2) := by
  refine Ct.of (L := [some (.ref (gB g + 140)), some (.int p1), some (.int p2)]) (by decide) (by intro w hw; simp only [List.mem_cons, List.not_mem_nil, or_false] at hw; rcases hw with rfl | rfl | rfl <;> rfl) (Nat.le_of_ble_eq_true rfl) rfl (fun X mx => ?_)
  obtain ⟨cx, hR, hml, hrt, -⟩ := mx
  have cx : Cx g X RX7 cX7_whyNoSleep := cx
  have hrt : X.2.2.2.2.2.2.2.1.sig.returnType = (some .int) := hrt
  unfold M_whyNoSleep at hf
  refine PW.aload_n cx qX7_whyNoSleep_0 rfl ?_
  refine PW.iload_n cx qX7_whyNoSleep_1 rfl ?_
  refine PW.iload_n cx qX7_whyNoSleep_2 rfl ?_
  refine PW.callVWBc (As := [.int p1, .int p2]) (st := []) cx hR qX7_whyNoSleep_3 klX7_362 mvX7_throwsPair (sh_140 hx) rfl rfl rfl rfl (Nat.le_of_ble_eq_true rfl) (Nat.le_of_ble_eq_true rfl) (Nat.le_of_ble_eq_true rfl) (Nat.zero_le _) (Nat.zero_le _) hf sne (fun t e => ctX7_throwsPair hx h p1 p2 t e) (fun t1 h2 hf => ?_)
  refine PW.if_eq cx qX7_whyNoSleep_6 hf (fun hf => ?_) (fun hf => ?_)
  · refine PW.aload_n cx qX7_whyNoSleep_13 rfl ?_
    refine PW.iload_n cx qX7_whyNoSleep_14 rfl ?_
    refine PW.iload_n cx qX7_whyNoSleep_15 rfl ?_
    refine PW.callVRI (As := [.int p1, .int p2]) (st := []) cx hR qX7_whyNoSleep_16 klX7_207 mvX7_whyStaysUp (sh_140 hx) rfl rfl rfl rfl (Nat.le_of_ble_eq_true rfl) (Nat.le_of_ble_eq_true rfl) (Nat.le_of_ble_eq_true rfl) (Nat.zero_le _) (Nat.zero_le _) hf sne (fun t e => ctX7_whyStaysUp hx h2 p1 p2 t e) (fun t3 hf => ?_)
    exact PW.iret cx hrt qX7_whyNoSleep_19 (le_wi hf)
  · refine PW.iconst (v := 0) cx qX7_whyNoSleep_9 rfl ?_
    refine PW.goto cx qX7_whyNoSleep_10 ?_
    exact PW.iret cx hrt qX7_whyNoSleep_19 (le_wi hf)
set_option maxRecDepth 20000 in
theorem ctX7_bedFor {g : GT} {ex : Bool} {sh : List Shp} (hx : MSh sh) (h : Hp) (p1 : Int32) (p2 : Int32) (r0 : Int32 × Hp) (hf : M_bedFor h p1 p2 = some r0) : Ct g mX7_bedFor 7 0 0 ex [.ref (gB g + 140), .int p1, .int p2] sh h (PE (some (.int r0.1)) sh r0.2) := by
  refine Ct.of (L := [some (.ref (gB g + 140)), some (.int p1), some (.int p2)]) (by decide) (by intro w hw; simp only [List.mem_cons, List.not_mem_nil, or_false] at hw; rcases hw with rfl | rfl | rfl <;> rfl) (Nat.le_of_ble_eq_true rfl) rfl (fun X mx => ?_)
  obtain ⟨cx, hR, hml, hrt, -⟩ := mx
  have cx : Cx g X RX7 cX7_bedFor := cx
  have hrt : X.2.2.2.2.2.2.2.1.sig.returnType = (some .int) := hrt
  unfold M_bedFor at hf
  refine PW.aload_n cx qX7_bedFor_0 rfl ?_
  refine PW.iload_n cx qX7_bedFor_1 rfl ?_
  refine PW.iload_n cx qX7_bedFor_2 rfl ?_
  refine PW.callVWBc (As := [.int p1, .int p2]) (st := []) cx hR qX7_bedFor_3 klX7_362 mvX7_throwsPair (sh_140 hx) rfl rfl rfl rfl (Nat.le_of_ble_eq_true rfl) (Nat.le_of_ble_eq_true rfl) (Nat.le_of_ble_eq_true rfl) (Nat.zero_le _) (Nat.zero_le _) hf sne (fun t e => ctX7_throwsPair hx h p1 p2 t e) (fun t1 h2 hf => ?_)
  refine PW.if_eq cx qX7_bedFor_6 hf (fun hf => ?_) (fun hf => ?_)
  · refine PW.aload_n cx qX7_bedFor_11 rfl ?_
    refine PW.iload_n cx qX7_bedFor_12 rfl ?_
    refine PW.iload_n cx qX7_bedFor_13 rfl ?_
    refine PW.callVRI (As := [.int p1, .int p2]) (st := []) cx hR qX7_bedFor_14 klX7_207 mvX7_whyStaysUp (sh_140 hx) rfl rfl rfl rfl (Nat.le_of_ble_eq_true rfl) (Nat.le_of_ble_eq_true rfl) (Nat.le_of_ble_eq_true rfl) (Nat.zero_le _) (Nat.zero_le _) hf sne (fun t e => ctX7_whyStaysUp hx h2 p1 p2 t e) (fun t3 hf => ?_)
    refine PW.if_ne cx qX7_bedFor_17 hf (fun hf => ?_) (fun hf => ?_)
    · refine PW.aload_n cx qX7_bedFor_20 rfl ?_
      refine PW.iload_n cx qX7_bedFor_21 rfl ?_
      refine PW.iload_n cx qX7_bedFor_22 rfl ?_
      refine PW.aload_n cx qX7_bedFor_23 rfl ?_
      refine PW.iload_n cx qX7_bedFor_24 rfl ?_
      refine PW.iload_n cx qX7_bedFor_25 rfl ?_
      refine PW.callVRI (As := [.int p1, .int p2]) (st := [.int p2, .int p1, .ref (gB g + 140)]) cx hR qX7_bedFor_26 klX7_108 mvX7_passedBy (sh_140 hx) rfl rfl rfl rfl (Nat.le_of_ble_eq_true rfl) (Nat.le_of_ble_eq_true rfl) (Nat.le_of_ble_eq_true rfl) (Nat.zero_le _) (Nat.zero_le _) hf sne (fun t e => ctX7_passedBy hx h2 p1 p2 t e) (fun t4 hf => ?_)
      refine PW.callVRI (As := [.int p1, .int p2, .int t4]) (st := []) cx hR qX7_bedFor_29 klX7_98 mvX7_onWay (sh_140 hx) rfl rfl rfl rfl (Nat.le_of_ble_eq_true rfl) (Nat.le_of_ble_eq_true rfl) (Nat.le_of_ble_eq_true rfl) (Nat.zero_le _) (Nat.zero_le _) hf sne (fun t e => ctX7_onWay hx h2 p1 p2 t4 t e) (fun t5 hf => ?_)
      refine PW.goto cx qX7_bedFor_32 ?_
      exact PW.iret cx hrt qX7_bedFor_36 (le_wi hf)
    · refine PW.iconst (v := (-1)) cx qX7_bedFor_35 rfl ?_
      exact PW.iret cx hrt qX7_bedFor_36 (le_wi hf)
  · refine PW.iconst (v := 0) cx qX7_bedFor_9 rfl ?_
    exact PW.iret cx hrt qX7_bedFor_10 (le_wi hf)
set_option maxRecDepth 20000 in
theorem ctX7_looksFor {g : GT} {ex : Bool} {sh : List Shp} (hx : MSh sh) (h : Hp) (p1 : Int32) (p2 : Int32) (r0 : Int32 × Hp) (hf : M_looksFor h p1 p2 = some r0) : Ct g mX7_looksFor 6 0 0 ex [.ref (gB g + 140), .int p1, .int p2] sh h (PE (some (.int r0.1)) sh r0.2) := by
  refine Ct.of (L := [some (.ref (gB g + 140)), some (.int p1), some (.int p2)]) (by decide) (by intro w hw; simp only [List.mem_cons, List.not_mem_nil, or_false] at hw; rcases hw with rfl | rfl | rfl <;> rfl) (Nat.le_of_ble_eq_true rfl) rfl (fun X mx => ?_)
  obtain ⟨cx, hR, hml, hrt, -⟩ := mx
  have cx : Cx g X RX7 cX7_looksFor := cx
  have hrt : X.2.2.2.2.2.2.2.1.sig.returnType = (some .int) := hrt
  unfold M_looksFor at hf
  refine PW.aload_n cx qX7_looksFor_0 rfl ?_
  refine PW.iload_n cx qX7_looksFor_1 rfl ?_
  refine PW.iload_n cx qX7_looksFor_2 rfl ?_
  refine PW.callVWBc (As := [.int p1, .int p2]) (st := []) cx hR qX7_looksFor_3 klX7_362 mvX7_throwsPair (sh_140 hx) rfl rfl rfl rfl (Nat.le_of_ble_eq_true rfl) (Nat.le_of_ble_eq_true rfl) (Nat.le_of_ble_eq_true rfl) (Nat.zero_le _) (Nat.zero_le _) hf sne (fun t e => ctX7_throwsPair hx h p1 p2 t e) (fun t1 h2 hf => ?_)
  refine PW.if_eq cx qX7_looksFor_6 hf (fun hf => ?_) (fun hf => ?_)
  · refine PW.aload_n cx qX7_looksFor_13 rfl ?_
    refine PW.iload_n cx qX7_looksFor_14 rfl ?_
    refine PW.iload_n cx qX7_looksFor_15 rfl ?_
    refine PW.callVRI (As := [.int p1, .int p2]) (st := []) cx hR qX7_looksFor_16 klX7_114 mvX7_looks (sh_140 hx) rfl rfl rfl rfl (Nat.le_of_ble_eq_true rfl) (Nat.le_of_ble_eq_true rfl) (Nat.le_of_ble_eq_true rfl) (Nat.zero_le _) (Nat.zero_le _) hf sne (fun t e => ctX7_looks hx h2 p1 p2 t e) (fun t3 hf => ?_)
    exact PW.iret cx hrt qX7_looksFor_19 (le_wi hf)
  · refine PW.iconst (v := 0) cx qX7_looksFor_9 rfl ?_
    refine PW.goto cx qX7_looksFor_10 ?_
    exact PW.iret cx hrt qX7_looksFor_19 (le_wi hf)
set_option maxRecDepth 20000 in
theorem lX7_longestLook_26 {g : GT} {X : XT} {ex : Bool} {post : Option Value → List Shp → Hp → Prop} {sh : List Shp} (mx : Mx g X mX7_longestLook 6 0 0) (hx : MSh sh) (h : Hp) (c1 : Int32) : ∀ (n : Nat) (v2 : Int32) (v3 : Int32) (r : Int32) (hf : M_longestLook_L26 h c1 n v2 v3 = some r) (kx : ∀ (x2 : Int32), r = x2 → PW g X ex (QE g X ex post 0 0) 0 0 sh h 70 [some (.ref (gB g + 140)), some (.int c1), some (.int x2), none] []), PW g X ex (QE g X ex post 0 0) 0 0 sh h 26 [some (.ref (gB g + 140)), some (.int c1), some (.int v2), some (.int v3)] [] := by
  have mx0 := mx
  obtain ⟨cx, hR, hml, hrt, -⟩ := mx0
  have cx : Cx g X RX7 cX7_longestLook := cx
  have hrt : X.2.2.2.2.2.2.2.1.sig.returnType = (some .int) := hrt
  have hi2 : 2 < X.2.2.2.2.2.2.2.2.maxLocals := by rw [hml]; exact Nat.le_of_ble_eq_true rfl
  have hi3 : 3 < X.2.2.2.2.2.2.2.2.maxLocals := by rw [hml]; exact Nat.le_of_ble_eq_true rfl
  intro n
  induction n with
  | zero =>
    intro v2 v3 r hf kx
    cases hf
  | succ n ih =>
    intro v2 v3 r hf kx
    unfold M_longestLook_L26 at hf
    refine PW.iload_n cx qX7_longestLook_26 rfl ?_
    refine PW.aload_n cx qX7_longestLook_27 rfl ?_
    refine PW.iload_n cx qX7_longestLook_28 rfl ?_
    refine PW.callVRI (As := [.int c1]) (st := [.int v3]) cx hR qX7_longestLook_29 klX7_92 mvX7_beds (sh_140 hx) rfl rfl rfl rfl (Nat.le_of_ble_eq_true rfl) (Nat.le_of_ble_eq_true rfl) (Nat.le_of_ble_eq_true rfl) (Nat.zero_le _) (Nat.zero_le _) hf sne (fun t e => ctX7_beds hx h c1 t e) (fun t4 hf => ?_)
    refine PW.icmp_ge cx qX7_longestLook_32 hf (fun hf => ?_) (fun hf => ?_)
    · exact PW.locs (Lsub.keep (Lsub.keep (Lsub.keep (Lsub.drop Lsub.nil)))) (kx v2 (Option.some.inj hf).symm)
    · refine PW.aload_n cx qX7_longestLook_35 rfl ?_
      refine PW.iload_n cx qX7_longestLook_36 rfl ?_
      refine PW.iload_n cx qX7_longestLook_37 rfl ?_
      refine PW.callVRI (As := [.int c1, .int v3]) (st := []) cx hR qX7_longestLook_38 klX7_102 mvX7_inBed (sh_140 hx) rfl rfl rfl rfl (Nat.le_of_ble_eq_true rfl) (Nat.le_of_ble_eq_true rfl) (Nat.le_of_ble_eq_true rfl) (Nat.zero_le _) (Nat.zero_le _) hf sne (fun t e => ctX7_inBed hx h c1 v3 t e) (fun t5 hf => ?_)
      refine PW.if_lt cx qX7_longestLook_41 hf (fun hf => ?_) (fun hf => ?_)
      · refine PW.iload_n cx qX7_longestLook_62 rfl ?_
        refine PW.istore_n (L' := [some (.ref (gB g + 140)), some (.int c1), some (.int v2), some (.int v3)]) cx qX7_longestLook_63 hi2 rfl rfl ?_
        refine PW.iinc (v := 1) (L' := [some (.ref (gB g + 140)), some (.int c1), some (.int v2), some (.int (v3 + 1))]) cx qX7_longestLook_64 rfl rfl hi3 rfl rfl ?_
        refine PW.goto cx qX7_longestLook_67 ?_
        exact PW.locs (Lsub.keep (Lsub.keep (Lsub.keep (Lsub.keep Lsub.nil)))) (ih v2 (v3 + 1) _ hf kx)
      · refine PW.iload_n cx qX7_longestLook_44 rfl ?_
        refine PW.aload_n cx qX7_longestLook_45 rfl ?_
        refine PW.aload_n cx qX7_longestLook_46 rfl ?_
        refine PW.iload_n cx qX7_longestLook_47 rfl ?_
        refine PW.iload_n cx qX7_longestLook_48 rfl ?_
        refine PW.callVRI (As := [.int c1, .int v3]) (st := [.ref (gB g + 140), .int v2]) cx hR qX7_longestLook_49 klX7_102 mvX7_inBed (sh_140 hx) rfl rfl rfl rfl (Nat.le_of_ble_eq_true rfl) (Nat.le_of_ble_eq_true rfl) (Nat.le_of_ble_eq_true rfl) (Nat.zero_le _) (Nat.zero_le _) hf sne (fun t e => ctX7_inBed hx h c1 v3 t e) (fun t6 hf => ?_)
        refine PW.iload_n cx qX7_longestLook_52 rfl ?_
        refine PW.callVRI (As := [.int t6, .int c1]) (st := [.int v2]) cx hR qX7_longestLook_53 klX7_114 mvX7_looks (sh_140 hx) rfl rfl rfl rfl (Nat.le_of_ble_eq_true rfl) (Nat.le_of_ble_eq_true rfl) (Nat.le_of_ble_eq_true rfl) (Nat.zero_le _) (Nat.zero_le _) hf sne (fun t e => ctX7_looks hx h t6 c1 t e) (fun t7 hf => ?_)
        refine PW.mmax cx hR qX7_longestLook_56 klX7_84 (Nat.le_of_ble_eq_true rfl) (Nat.le_of_ble_eq_true rfl) (Nat.zero_le _) (Nat.zero_le _) ?_
        refine PW.goto cx qX7_longestLook_59 ?_
        refine PW.istore_n (L' := [some (.ref (gB g + 140)), some (.int c1), some (.int (mxI v2 t7)), some (.int v3)]) cx qX7_longestLook_63 hi2 rfl rfl ?_
        refine PW.iinc (v := 1) (L' := [some (.ref (gB g + 140)), some (.int c1), some (.int (mxI v2 t7)), some (.int (v3 + 1))]) cx qX7_longestLook_64 rfl rfl hi3 rfl rfl ?_
        refine PW.goto cx qX7_longestLook_67 ?_
        exact PW.locs (Lsub.keep (Lsub.keep (Lsub.keep (Lsub.keep Lsub.nil)))) (ih (mxI v2 t7) (v3 + 1) _ hf kx)
set_option maxRecDepth 20000 in
theorem ctX7_longestLook {g : GT} {ex : Bool} {sh : List Shp} (hx : MSh sh) (h : Hp) (p1 : Int32) (r0 : Int32 × Hp) (hf : M_longestLook h p1 = some r0) : Ct g mX7_longestLook 6 0 0 ex [.ref (gB g + 140), .int p1] sh h (PE (some (.int r0.1)) sh r0.2) := by
  refine Ct.of (L := [some (.ref (gB g + 140)), some (.int p1), none, none]) (by decide) (by intro w hw; simp only [List.mem_cons, List.not_mem_nil, or_false] at hw; rcases hw with rfl | rfl <;> rfl) (Nat.le_of_ble_eq_true rfl) rfl (fun X mx => ?_)
  have mx0 := mx
  obtain ⟨cx, hR, hml, hrt, -⟩ := mx0
  have cx : Cx g X RX7 cX7_longestLook := cx
  have hrt : X.2.2.2.2.2.2.2.1.sig.returnType = (some .int) := hrt
  have hi2 : 2 < X.2.2.2.2.2.2.2.2.maxLocals := by rw [hml]; exact Nat.le_of_ble_eq_true rfl
  have hi3 : 3 < X.2.2.2.2.2.2.2.2.maxLocals := by rw [hml]; exact Nat.le_of_ble_eq_true rfl
  unfold M_longestLook at hf
  refine PW.aload_n cx qX7_longestLook_0 rfl ?_
  refine PW.aload_n cx qX7_longestLook_1 rfl ?_
  refine PW.iload_n cx qX7_longestLook_2 rfl ?_
  refine PW.callVRB (As := [.int p1]) (st := [.ref (gB g + 140)]) cx hR qX7_longestLook_3 klX7_337 mvX7_isReel (sh_140 hx) rfl rfl rfl rfl (Nat.le_of_ble_eq_true rfl) (Nat.le_of_ble_eq_true rfl) (Nat.le_of_ble_eq_true rfl) (Nat.zero_le _) (Nat.zero_le _) hf sne (fun t e => ctX7_isReel hx h p1 t e) (fun t1 hf => ?_)
  obtain ⟨j14, ej14, hf⟩ := lt_split hf
  have hj14 : ∀ (z0_14 : Bool), j14 z0_14 = some r0 → PW g X ex (QE g X ex (PE (some (.int r0.1)) sh r0.2) 0 0) 0 0 sh h 14 [some (.ref (gB g + 140)), some (.int p1), none, none] [.int (b2i z0_14), .ref (gB g + 140)] := by
    intro z0_14 hf
    rw [ej14] at hf
    refine PW.callVWBc (As := [.int (b2i z0_14)]) (st := []) cx hR qX7_longestLook_14 klX7_319 mvX7_throwsOne (sh_140 hx) rfl rfl rfl rfl (Nat.le_of_ble_eq_true rfl) (Nat.le_of_ble_eq_true rfl) (Nat.le_of_ble_eq_true rfl) (Nat.zero_le _) (Nat.zero_le _) hf sne (fun t e => ctX7_throwsOne hx h z0_14 t e) (fun t2 h3 hf => ?_)
    refine PW.if_eq cx qX7_longestLook_17 hf (fun hf => ?_) (fun hf => ?_)
    · refine PW.iconst (v := 0) cx qX7_longestLook_22 rfl ?_
      refine PW.istore_n (L' := [some (.ref (gB g + 140)), some (.int p1), some (.int 0), none]) cx qX7_longestLook_23 hi2 rfl rfl ?_
      refine PW.iconst (v := 0) cx qX7_longestLook_24 rfl ?_
      refine PW.istore_n (L' := [some (.ref (gB g + 140)), some (.int p1), some (.int 0), some (.int 0)]) cx qX7_longestLook_25 hi3 rfl rfl ?_
      obtain ⟨r8, er8, hf⟩ := bndO hf sne
      refine PW.locs (Lsub.keep (Lsub.keep (Lsub.keep (Lsub.keep Lsub.nil)))) (lX7_longestLook_26 mx hx h3 p1 FU 0 0 r8 er8 (fun xx_ e => ?_))
      subst e
      refine PW.iload_n cx qX7_longestLook_70 rfl ?_
      exact PW.iret cx hrt qX7_longestLook_71 (le_wi hf)
    · refine PW.iconst (v := 0) cx qX7_longestLook_20 rfl ?_
      exact PW.iret cx hrt qX7_longestLook_21 (le_wi hf)
  refine PW.if_ne cx qX7_longestLook_6 hf (fun hf => ?_) (fun hf => ?_)
  · refine PW.iconst (v := 1) cx qX7_longestLook_9 rfl ?_
    refine PW.goto cx qX7_longestLook_10 ?_
    exact PW.locs (Lsub.keep (Lsub.keep (Lsub.drop (Lsub.drop Lsub.nil)))) (hj14 true hf)
  · refine PW.iconst (v := 0) cx qX7_longestLook_13 rfl ?_
    exact PW.locs (Lsub.keep (Lsub.keep (Lsub.drop (Lsub.drop Lsub.nil)))) (hj14 false hf)
set_option maxRecDepth 20000 in
theorem ctX7_looksIfAired {g : GT} {ex : Bool} {sh : List Shp} (hx : MSh sh) (h : Hp) (p1 : Int32) (r0 : Int32 × Hp) (hf : M_looksIfAired h p1 = some r0) : Ct g mX7_looksIfAired 8 0 0 ex [.ref (gB g + 140), .int p1] sh h (PE (some (.int r0.1)) sh r0.2) := by
  refine Ct.of (L := [some (.ref (gB g + 140)), some (.int p1), none]) (by decide) (by intro w hw; simp only [List.mem_cons, List.not_mem_nil, or_false] at hw; rcases hw with rfl | rfl <;> rfl) (Nat.le_of_ble_eq_true rfl) rfl (fun X mx => ?_)
  obtain ⟨cx, hR, hml, hrt, -⟩ := mx
  have cx : Cx g X RX7 cX7_looksIfAired := cx
  have hrt : X.2.2.2.2.2.2.2.1.sig.returnType = (some .int) := hrt
  have hi2 : 2 < X.2.2.2.2.2.2.2.2.maxLocals := by rw [hml]; exact Nat.le_of_ble_eq_true rfl
  unfold M_looksIfAired at hf
  refine PW.aload_n cx qX7_looksIfAired_0 rfl ?_
  refine PW.aload_n cx qX7_looksIfAired_1 rfl ?_
  refine PW.iload_n cx qX7_looksIfAired_2 rfl ?_
  refine PW.callVRB (As := [.int p1]) (st := [.ref (gB g + 140)]) cx hR qX7_looksIfAired_3 klX7_337 mvX7_isReel (sh_140 hx) rfl rfl rfl rfl (Nat.le_of_ble_eq_true rfl) (Nat.le_of_ble_eq_true rfl) (Nat.le_of_ble_eq_true rfl) (Nat.zero_le _) (Nat.zero_le _) hf sne (fun t e => ctX7_isReel hx h p1 t e) (fun t1 hf => ?_)
  obtain ⟨j14, ej14, hf⟩ := lt_split hf
  have hj14 : ∀ (z0_14 : Bool), j14 z0_14 = some r0 → PW g X ex (QE g X ex (PE (some (.int r0.1)) sh r0.2) 0 0) 0 0 sh h 14 [some (.ref (gB g + 140)), some (.int p1), none] [.int (b2i z0_14), .ref (gB g + 140)] := by
    intro z0_14 hf
    rw [ej14] at hf
    refine PW.callVWBc (As := [.int (b2i z0_14)]) (st := []) cx hR qX7_looksIfAired_14 klX7_319 mvX7_throwsOne (sh_140 hx) rfl rfl rfl rfl (Nat.le_of_ble_eq_true rfl) (Nat.le_of_ble_eq_true rfl) (Nat.le_of_ble_eq_true rfl) (Nat.zero_le _) (Nat.zero_le _) hf sne (fun t e => ctX7_throwsOne hx h z0_14 t e) (fun t2 h3 hf => ?_)
    refine PW.if_eq cx qX7_looksIfAired_17 hf (fun hf => ?_) (fun hf => ?_)
    · refine PW.aload_n cx qX7_looksIfAired_22 rfl ?_
      refine PW.callVWV (As := []) (st := []) cx hR qX7_looksIfAired_23 klX7_365 mvX7_setAside (sh_140 hx) rfl rfl rfl rfl (Nat.le_of_ble_eq_true rfl) (Nat.le_of_ble_eq_true rfl) (Nat.le_of_ble_eq_true rfl) (Nat.zero_le _) (Nat.zero_le _) hf sne (fun t e => ctX7_setAside hx h3 t e) (fun h5 hf => ?_)
      refine PW.aload_n cx qX7_looksIfAired_26 rfl ?_
      refine PW.iload_n cx qX7_looksIfAired_27 rfl ?_
      refine PW.callVWIc (As := [.int p1]) (st := []) cx hR qX7_looksIfAired_28 klX7_213 mvX7_airs (sh_140 hx) rfl rfl rfl rfl (Nat.le_of_ble_eq_true rfl) (Nat.le_of_ble_eq_true rfl) (Nat.le_of_ble_eq_true rfl) (Nat.zero_le _) (Nat.zero_le _) hf sne (fun t e => ctX7_airs hx h5 p1 t e) (fun t6 h7 hf => ?_)
      refine PW.pop cx qX7_looksIfAired_31 rfl ?_
      refine PW.aload_n cx qX7_looksIfAired_32 rfl ?_
      refine PW.iload_n cx qX7_looksIfAired_33 rfl ?_
      refine PW.callVRI (As := [.int p1]) (st := []) cx hR qX7_looksIfAired_34 klX7_368 mvX7_looksTogether (sh_140 hx) rfl rfl rfl rfl (Nat.le_of_ble_eq_true rfl) (Nat.le_of_ble_eq_true rfl) (Nat.le_of_ble_eq_true rfl) (Nat.zero_le _) (Nat.zero_le _) hf sne (fun t e => ctX7_looksTogether hx h7 p1 t e) (fun t8 hf => ?_)
      refine PW.istore_n (L' := [some (.ref (gB g + 140)), some (.int p1), some (.int t8)]) cx qX7_looksIfAired_37 hi2 rfl rfl ?_
      refine PW.aload_n cx qX7_looksIfAired_38 rfl ?_
      refine PW.callVWV (As := []) (st := []) cx hR qX7_looksIfAired_39 klX7_371 mvX7_bringBack (sh_140 hx) rfl rfl rfl rfl (Nat.le_of_ble_eq_true rfl) (Nat.le_of_ble_eq_true rfl) (Nat.le_of_ble_eq_true rfl) (Nat.zero_le _) (Nat.zero_le _) hf sne (fun t e => ctX7_bringBack hx h7 t e) (fun h10 hf => ?_)
      refine PW.iload_n cx qX7_looksIfAired_42 rfl ?_
      exact PW.iret cx hrt qX7_looksIfAired_43 (le_wi hf)
    · refine PW.iconst (v := 0) cx qX7_looksIfAired_20 rfl ?_
      exact PW.iret cx hrt qX7_looksIfAired_21 (le_wi hf)
  refine PW.if_ne cx qX7_looksIfAired_6 hf (fun hf => ?_) (fun hf => ?_)
  · refine PW.iconst (v := 1) cx qX7_looksIfAired_9 rfl ?_
    refine PW.goto cx qX7_looksIfAired_10 ?_
    exact PW.locs (Lsub.keep (Lsub.keep (Lsub.drop Lsub.nil))) (hj14 true hf)
  · refine PW.iconst (v := 0) cx qX7_looksIfAired_13 rfl ?_
    exact PW.locs (Lsub.keep (Lsub.keep (Lsub.drop Lsub.nil))) (hj14 false hf)
set_option maxRecDepth 20000 in
theorem lX7_longestCluster_29 {g : GT} {X : XT} {ex : Bool} {post : Option Value → List Shp → Hp → Prop} {sh : List Shp} (mx : Mx g X mX7_longestCluster 2 0 0) (hx : MSh sh) (h : Hp) (c1 : Int32) : ∀ (n : Nat) (v2 : Int32) (v3 : Int32) (v4 : Int32) (r : Int32) (hf : M_longestCluster_L29 h c1 n v2 v3 v4 = some r) (kx : ∀ (x2 : Int32), r = x2 → PW g X ex (QE g X ex post 0 0) 0 0 sh h 78 [some (.ref (gB g + 140)), some (.int c1), some (.int x2), none, none] []), PW g X ex (QE g X ex post 0 0) 0 0 sh h 29 [some (.ref (gB g + 140)), some (.int c1), some (.int v2), some (.int v3), some (.int v4)] [] := by
  have mx0 := mx
  obtain ⟨cx, hR, hml, hrt, -⟩ := mx0
  have cx : Cx g X RX7 cX7_longestCluster := cx
  have hrt : X.2.2.2.2.2.2.2.1.sig.returnType = (some .int) := hrt
  have hi2 : 2 < X.2.2.2.2.2.2.2.2.maxLocals := by rw [hml]; exact Nat.le_of_ble_eq_true rfl
  have hi3 : 3 < X.2.2.2.2.2.2.2.2.maxLocals := by rw [hml]; exact Nat.le_of_ble_eq_true rfl
  have hi4 : 4 < X.2.2.2.2.2.2.2.2.maxLocals := by rw [hml]; exact Nat.le_of_ble_eq_true rfl
  intro n
  induction n with
  | zero =>
    intro v2 v3 v4 r hf kx
    cases hf
  | succ n ih =>
    intro v2 v3 v4 r hf kx
    unfold M_longestCluster_L29 at hf
    refine PW.iload cx qX7_longestCluster_29 rfl ?_
    refine PW.iconst (v := 2) cx qX7_longestCluster_31 rfl ?_
    refine PW.aload_n cx qX7_longestCluster_32 rfl ?_
    refine PW.iload_n cx qX7_longestCluster_33 rfl ?_
    refine PW.callVRI (As := [.int c1]) (st := [.int 2, .int v4]) cx hR qX7_longestCluster_34 klX7_92 mvX7_beds (sh_140 hx) rfl rfl rfl rfl (Nat.le_of_ble_eq_true rfl) (Nat.le_of_ble_eq_true rfl) (Nat.le_of_ble_eq_true rfl) (Nat.zero_le _) (Nat.zero_le _) hf sne (fun t e => ctX7_beds hx h c1 t e) (fun t4 hf => ?_)
    refine PW.imul cx qX7_longestCluster_37 ?_
    refine PW.icmp_ge cx qX7_longestCluster_38 hf (fun hf => ?_) (fun hf => ?_)
    · exact PW.locs (Lsub.keep (Lsub.keep (Lsub.keep (Lsub.drop (Lsub.drop Lsub.nil))))) (kx v2 (Option.some.inj hf).symm)
    · refine PW.aload_n cx qX7_longestCluster_41 rfl ?_
      refine PW.iload_n cx qX7_longestCluster_42 rfl ?_
      refine PW.iload cx qX7_longestCluster_43 rfl ?_
      refine PW.aload_n cx qX7_longestCluster_45 rfl ?_
      refine PW.iload_n cx qX7_longestCluster_46 rfl ?_
      refine PW.callVRI (As := [.int c1]) (st := [.int v4, .int c1, .ref (gB g + 140)]) cx hR qX7_longestCluster_47 klX7_92 mvX7_beds (sh_140 hx) rfl rfl rfl rfl (Nat.le_of_ble_eq_true rfl) (Nat.le_of_ble_eq_true rfl) (Nat.le_of_ble_eq_true rfl) (Nat.zero_le _) (Nat.zero_le _) hf sne (fun t e => ctX7_beds hx h c1 t e) (fun t5 hf => ?_)
      refine PW.irem cx qX7_longestCluster_50 hf sne (fun t6 hf => ?_)
      refine PW.callVRI (As := [.int c1, .int t6]) (st := []) cx hR qX7_longestCluster_51 klX7_102 mvX7_inBed (sh_140 hx) rfl rfl rfl rfl (Nat.le_of_ble_eq_true rfl) (Nat.le_of_ble_eq_true rfl) (Nat.le_of_ble_eq_true rfl) (Nat.zero_le _) (Nat.zero_le _) hf sne (fun t e => ctX7_inBed hx h c1 t6 t e) (fun t7 hf => ?_)
      refine PW.iconst (v := (-1)) cx qX7_longestCluster_54 rfl ?_
      obtain ⟨j65, ej65, hf⟩ := lt_split hf
      have hj65 : ∀ (z0_65 : Int32), j65 z0_65 = some r → PW g X ex (QE g X ex post 0 0) 0 0 sh h 65 [some (.ref (gB g + 140)), some (.int c1), some (.int v2), none, some (.int v4)] [.int z0_65] := by
        intro z0_65 hf
        rw [ej65] at hf
        refine PW.istore_n (L' := [some (.ref (gB g + 140)), some (.int c1), some (.int v2), some (.int z0_65), some (.int v4)]) cx qX7_longestCluster_65 hi3 rfl rfl ?_
        refine PW.iload_n cx qX7_longestCluster_66 rfl ?_
        refine PW.iload_n cx qX7_longestCluster_67 rfl ?_
        refine PW.mmax cx hR qX7_longestCluster_68 klX7_84 (Nat.le_of_ble_eq_true rfl) (Nat.le_of_ble_eq_true rfl) (Nat.zero_le _) (Nat.zero_le _) ?_
        refine PW.istore_n (L' := [some (.ref (gB g + 140)), some (.int c1), some (.int (mxI v2 z0_65)), some (.int z0_65), some (.int v4)]) cx qX7_longestCluster_71 hi2 rfl rfl ?_
        refine PW.iinc (v := 1) (L' := [some (.ref (gB g + 140)), some (.int c1), some (.int (mxI v2 z0_65)), some (.int z0_65), some (.int (v4 + 1))]) cx qX7_longestCluster_72 rfl rfl hi4 rfl rfl ?_
        refine PW.goto cx qX7_longestCluster_75 ?_
        exact PW.locs (Lsub.keep (Lsub.keep (Lsub.keep (Lsub.keep (Lsub.keep Lsub.nil))))) (ih (mxI v2 z0_65) z0_65 (v4 + 1) _ hf kx)
      refine PW.icmp_ne cx qX7_longestCluster_55 hf (fun hf => ?_) (fun hf => ?_)
      · refine PW.iconst (v := 0) cx qX7_longestCluster_58 rfl ?_
        refine PW.goto cx qX7_longestCluster_59 ?_
        exact PW.locs (Lsub.keep (Lsub.keep (Lsub.keep (Lsub.drop (Lsub.keep Lsub.nil))))) (hj65 0 hf)
      · refine PW.iload_n cx qX7_longestCluster_62 rfl ?_
        refine PW.iconst (v := 1) cx qX7_longestCluster_63 rfl ?_
        refine PW.iadd cx qX7_longestCluster_64 ?_
        exact PW.locs (Lsub.keep (Lsub.keep (Lsub.keep (Lsub.drop (Lsub.keep Lsub.nil))))) (hj65 (v3 + 1) hf)
set_option maxRecDepth 20000 in
theorem ctX7_longestCluster {g : GT} {ex : Bool} {sh : List Shp} (hx : MSh sh) (h : Hp) (p1 : Int32) (r0 : Int32 × Hp) (hf : M_longestCluster h p1 = some r0) : Ct g mX7_longestCluster 2 0 0 ex [.ref (gB g + 140), .int p1] sh h (PE (some (.int r0.1)) sh r0.2) := by
  refine Ct.of (L := [some (.ref (gB g + 140)), some (.int p1), none, none, none]) (by decide) (by intro w hw; simp only [List.mem_cons, List.not_mem_nil, or_false] at hw; rcases hw with rfl | rfl <;> rfl) (Nat.le_of_ble_eq_true rfl) rfl (fun X mx => ?_)
  have mx0 := mx
  obtain ⟨cx, hR, hml, hrt, -⟩ := mx0
  have cx : Cx g X RX7 cX7_longestCluster := cx
  have hrt : X.2.2.2.2.2.2.2.1.sig.returnType = (some .int) := hrt
  have hi2 : 2 < X.2.2.2.2.2.2.2.2.maxLocals := by rw [hml]; exact Nat.le_of_ble_eq_true rfl
  have hi3 : 3 < X.2.2.2.2.2.2.2.2.maxLocals := by rw [hml]; exact Nat.le_of_ble_eq_true rfl
  have hi4 : 4 < X.2.2.2.2.2.2.2.2.maxLocals := by rw [hml]; exact Nat.le_of_ble_eq_true rfl
  unfold M_longestCluster at hf
  refine PW.aload_n cx qX7_longestCluster_0 rfl ?_
  refine PW.aload_n cx qX7_longestCluster_1 rfl ?_
  refine PW.iload_n cx qX7_longestCluster_2 rfl ?_
  refine PW.callVRB (As := [.int p1]) (st := [.ref (gB g + 140)]) cx hR qX7_longestCluster_3 klX7_337 mvX7_isReel (sh_140 hx) rfl rfl rfl rfl (Nat.le_of_ble_eq_true rfl) (Nat.le_of_ble_eq_true rfl) (Nat.le_of_ble_eq_true rfl) (Nat.zero_le _) (Nat.zero_le _) hf sne (fun t e => ctX7_isReel hx h p1 t e) (fun t1 hf => ?_)
  obtain ⟨j14, ej14, hf⟩ := lt_split hf
  have hj14 : ∀ (z0_14 : Bool), j14 z0_14 = some r0 → PW g X ex (QE g X ex (PE (some (.int r0.1)) sh r0.2) 0 0) 0 0 sh h 14 [some (.ref (gB g + 140)), some (.int p1), none, none, none] [.int (b2i z0_14), .ref (gB g + 140)] := by
    intro z0_14 hf
    rw [ej14] at hf
    refine PW.callVWBc (As := [.int (b2i z0_14)]) (st := []) cx hR qX7_longestCluster_14 klX7_319 mvX7_throwsOne (sh_140 hx) rfl rfl rfl rfl (Nat.le_of_ble_eq_true rfl) (Nat.le_of_ble_eq_true rfl) (Nat.le_of_ble_eq_true rfl) (Nat.zero_le _) (Nat.zero_le _) hf sne (fun t e => ctX7_throwsOne hx h z0_14 t e) (fun t2 h3 hf => ?_)
    refine PW.if_eq cx qX7_longestCluster_17 hf (fun hf => ?_) (fun hf => ?_)
    · refine PW.iconst (v := 0) cx qX7_longestCluster_22 rfl ?_
      refine PW.istore_n (L' := [some (.ref (gB g + 140)), some (.int p1), some (.int 0), none, none]) cx qX7_longestCluster_23 hi2 rfl rfl ?_
      refine PW.iconst (v := 0) cx qX7_longestCluster_24 rfl ?_
      refine PW.istore_n (L' := [some (.ref (gB g + 140)), some (.int p1), some (.int 0), some (.int 0), none]) cx qX7_longestCluster_25 hi3 rfl rfl ?_
      refine PW.iconst (v := 0) cx qX7_longestCluster_26 rfl ?_
      refine PW.istore (L' := [some (.ref (gB g + 140)), some (.int p1), some (.int 0), some (.int 0), some (.int 0)]) cx qX7_longestCluster_27 hi4 rfl rfl ?_
      obtain ⟨r8, er8, hf⟩ := bndO hf sne
      refine PW.locs (Lsub.keep (Lsub.keep (Lsub.keep (Lsub.keep (Lsub.keep Lsub.nil))))) (lX7_longestCluster_29 mx hx h3 p1 FU 0 0 0 r8 er8 (fun xx_ e => ?_))
      subst e
      refine PW.iload_n cx qX7_longestCluster_78 rfl ?_
      refine PW.aload_n cx qX7_longestCluster_79 rfl ?_
      refine PW.iload_n cx qX7_longestCluster_80 rfl ?_
      refine PW.callVRI (As := [.int p1]) (st := [.int r8]) cx hR qX7_longestCluster_81 klX7_92 mvX7_beds (sh_140 hx) rfl rfl rfl rfl (Nat.le_of_ble_eq_true rfl) (Nat.le_of_ble_eq_true rfl) (Nat.le_of_ble_eq_true rfl) (Nat.zero_le _) (Nat.zero_le _) hf sne (fun t e => ctX7_beds hx h3 p1 t e) (fun t9 hf => ?_)
      refine PW.mmin cx hR qX7_longestCluster_84 klX7_139 (Nat.le_of_ble_eq_true rfl) (Nat.le_of_ble_eq_true rfl) (Nat.zero_le _) (Nat.zero_le _) ?_
      exact PW.iret cx hrt qX7_longestCluster_87 (le_wi hf)
    · refine PW.iconst (v := 0) cx qX7_longestCluster_20 rfl ?_
      exact PW.iret cx hrt qX7_longestCluster_21 (le_wi hf)
  refine PW.if_ne cx qX7_longestCluster_6 hf (fun hf => ?_) (fun hf => ?_)
  · refine PW.iconst (v := 1) cx qX7_longestCluster_9 rfl ?_
    refine PW.goto cx qX7_longestCluster_10 ?_
    exact PW.locs (Lsub.keep (Lsub.keep (Lsub.drop (Lsub.drop (Lsub.drop Lsub.nil))))) (hj14 true hf)
  · refine PW.iconst (v := 0) cx qX7_longestCluster_13 rfl ?_
    exact PW.locs (Lsub.keep (Lsub.keep (Lsub.drop (Lsub.drop (Lsub.drop Lsub.nil))))) (hj14 false hf)
set_option maxRecDepth 20000 in
theorem lX7_bestReel_26 {g : GT} {X : XT} {ex : Bool} {post : Option Value → List Shp → Hp → Prop} {sh : List Shp} (mx : Mx g X mX7_bestReel 7 0 0) (hx : MSh sh) (h : Hp) (c1 : Int32) : ∀ (n : Nat) (v2 : Int32) (v3 : Int32) (r : Int32) (hf : M_bestReel_L26 h c1 n v2 v3 = some r) (kx : ∀ (x2 : Int32), r = x2 → PW g X ex (QE g X ex post 0 0) 0 0 sh h 73 [some (.ref (gB g + 140)), some (.int c1), some (.int x2), none] []), PW g X ex (QE g X ex post 0 0) 0 0 sh h 26 [some (.ref (gB g + 140)), some (.int c1), some (.int v2), some (.int v3)] [] := by
  have mx0 := mx
  obtain ⟨cx, hR, hml, hrt, -⟩ := mx0
  have cx : Cx g X RX7 cX7_bestReel := cx
  have hrt : X.2.2.2.2.2.2.2.1.sig.returnType = (some .int) := hrt
  have hi2 : 2 < X.2.2.2.2.2.2.2.2.maxLocals := by rw [hml]; exact Nat.le_of_ble_eq_true rfl
  have hi3 : 3 < X.2.2.2.2.2.2.2.2.maxLocals := by rw [hml]; exact Nat.le_of_ble_eq_true rfl
  intro n
  induction n with
  | zero =>
    intro v2 v3 r hf kx
    cases hf
  | succ n ih =>
    intro v2 v3 r hf kx
    unfold M_bestReel_L26 at hf
    refine PW.iload_n cx qX7_bestReel_26 rfl ?_
    refine PW.aload_n cx qX7_bestReel_27 rfl ?_
    refine PW.getf (t := (2, 141)) (v := .ref (gB g + 141)) cx qX7_bestReel_28 (sh_140 hx) rfl flX7_7 rfl ?_
    refine PW.iconst (v := 3) cx qX7_bestReel_31 rfl ?_
    refine PW.iald cx qX7_bestReel_32 (sh_141 hx) hf sne (fun t4 hf => ?_)
    refine PW.icmp_ge cx qX7_bestReel_33 hf (fun hf => ?_) (fun hf => ?_)
    · exact PW.locs (Lsub.keep (Lsub.keep (Lsub.keep (Lsub.drop Lsub.nil)))) (kx v2 (Option.some.inj hf).symm)
    · refine PW.aload_n cx qX7_bestReel_36 rfl ?_
      refine PW.iload_n cx qX7_bestReel_37 rfl ?_
      refine PW.iload_n cx qX7_bestReel_38 rfl ?_
      refine PW.callVRI (As := [.int c1, .int v3]) (st := []) cx hR qX7_bestReel_39 klX7_207 mvX7_whyStaysUp (sh_140 hx) rfl rfl rfl rfl (Nat.le_of_ble_eq_true rfl) (Nat.le_of_ble_eq_true rfl) (Nat.le_of_ble_eq_true rfl) (Nat.zero_le _) (Nat.zero_le _) hf sne (fun t e => ctX7_whyStaysUp hx h c1 v3 t e) (fun t5 hf => ?_)
      refine PW.if_ne cx qX7_bestReel_42 hf (fun hf => ?_) (fun hf => ?_)
      · refine PW.iload_n cx qX7_bestReel_45 rfl ?_
        refine PW.iconst (v := (-1)) cx qX7_bestReel_46 rfl ?_
        refine PW.icmp_eq cx qX7_bestReel_47 hf (fun hf => ?_) (fun hf => ?_)
        · refine PW.iload_n cx qX7_bestReel_65 rfl ?_
          refine PW.istore_n (L' := [some (.ref (gB g + 140)), some (.int c1), some (.int v3), some (.int v3)]) cx qX7_bestReel_66 hi2 rfl rfl ?_
          refine PW.iinc (v := 1) (L' := [some (.ref (gB g + 140)), some (.int c1), some (.int v3), some (.int (v3 + 1))]) cx qX7_bestReel_67 rfl rfl hi3 rfl rfl ?_
          refine PW.goto cx qX7_bestReel_70 ?_
          exact PW.locs (Lsub.keep (Lsub.keep (Lsub.keep (Lsub.keep Lsub.nil)))) (ih v3 (v3 + 1) _ hf kx)
        · refine PW.aload_n cx qX7_bestReel_50 rfl ?_
          refine PW.iload_n cx qX7_bestReel_51 rfl ?_
          refine PW.iload_n cx qX7_bestReel_52 rfl ?_
          refine PW.callVRI (As := [.int c1, .int v3]) (st := []) cx hR qX7_bestReel_53 klX7_108 mvX7_passedBy (sh_140 hx) rfl rfl rfl rfl (Nat.le_of_ble_eq_true rfl) (Nat.le_of_ble_eq_true rfl) (Nat.le_of_ble_eq_true rfl) (Nat.zero_le _) (Nat.zero_le _) hf sne (fun t e => ctX7_passedBy hx h c1 v3 t e) (fun t6 hf => ?_)
          refine PW.aload_n cx qX7_bestReel_56 rfl ?_
          refine PW.iload_n cx qX7_bestReel_57 rfl ?_
          refine PW.iload_n cx qX7_bestReel_58 rfl ?_
          refine PW.callVRI (As := [.int c1, .int v2]) (st := [.int t6]) cx hR qX7_bestReel_59 klX7_108 mvX7_passedBy (sh_140 hx) rfl rfl rfl rfl (Nat.le_of_ble_eq_true rfl) (Nat.le_of_ble_eq_true rfl) (Nat.le_of_ble_eq_true rfl) (Nat.zero_le _) (Nat.zero_le _) hf sne (fun t e => ctX7_passedBy hx h c1 v2 t e) (fun t7 hf => ?_)
          refine PW.icmp_ge cx qX7_bestReel_62 hf (fun hf => ?_) (fun hf => ?_)
          · refine PW.iinc (v := 1) (L' := [some (.ref (gB g + 140)), some (.int c1), some (.int v2), some (.int (v3 + 1))]) cx qX7_bestReel_67 rfl rfl hi3 rfl rfl ?_
            refine PW.goto cx qX7_bestReel_70 ?_
            exact PW.locs (Lsub.keep (Lsub.keep (Lsub.keep (Lsub.keep Lsub.nil)))) (ih v2 (v3 + 1) _ hf kx)
          · refine PW.iload_n cx qX7_bestReel_65 rfl ?_
            refine PW.istore_n (L' := [some (.ref (gB g + 140)), some (.int c1), some (.int v3), some (.int v3)]) cx qX7_bestReel_66 hi2 rfl rfl ?_
            refine PW.iinc (v := 1) (L' := [some (.ref (gB g + 140)), some (.int c1), some (.int v3), some (.int (v3 + 1))]) cx qX7_bestReel_67 rfl rfl hi3 rfl rfl ?_
            refine PW.goto cx qX7_bestReel_70 ?_
            exact PW.locs (Lsub.keep (Lsub.keep (Lsub.keep (Lsub.keep Lsub.nil)))) (ih v3 (v3 + 1) _ hf kx)
      · refine PW.iinc (v := 1) (L' := [some (.ref (gB g + 140)), some (.int c1), some (.int v2), some (.int (v3 + 1))]) cx qX7_bestReel_67 rfl rfl hi3 rfl rfl ?_
        refine PW.goto cx qX7_bestReel_70 ?_
        exact PW.locs (Lsub.keep (Lsub.keep (Lsub.keep (Lsub.keep Lsub.nil)))) (ih v2 (v3 + 1) _ hf kx)
set_option maxRecDepth 20000 in
theorem ctX7_bestReel {g : GT} {ex : Bool} {sh : List Shp} (hx : MSh sh) (h : Hp) (p1 : Int32) (r0 : Int32 × Hp) (hf : M_bestReel h p1 = some r0) : Ct g mX7_bestReel 7 0 0 ex [.ref (gB g + 140), .int p1] sh h (PE (some (.int r0.1)) sh r0.2) := by
  refine Ct.of (L := [some (.ref (gB g + 140)), some (.int p1), none, none]) (by decide) (by intro w hw; simp only [List.mem_cons, List.not_mem_nil, or_false] at hw; rcases hw with rfl | rfl <;> rfl) (Nat.le_of_ble_eq_true rfl) rfl (fun X mx => ?_)
  have mx0 := mx
  obtain ⟨cx, hR, hml, hrt, -⟩ := mx0
  have cx : Cx g X RX7 cX7_bestReel := cx
  have hrt : X.2.2.2.2.2.2.2.1.sig.returnType = (some .int) := hrt
  have hi2 : 2 < X.2.2.2.2.2.2.2.2.maxLocals := by rw [hml]; exact Nat.le_of_ble_eq_true rfl
  have hi3 : 3 < X.2.2.2.2.2.2.2.2.maxLocals := by rw [hml]; exact Nat.le_of_ble_eq_true rfl
  unfold M_bestReel at hf
  refine PW.aload_n cx qX7_bestReel_0 rfl ?_
  refine PW.aload_n cx qX7_bestReel_1 rfl ?_
  refine PW.iload_n cx qX7_bestReel_2 rfl ?_
  refine PW.callVRB (As := [.int p1]) (st := [.ref (gB g + 140)]) cx hR qX7_bestReel_3 klX7_334 mvX7_isClip (sh_140 hx) rfl rfl rfl rfl (Nat.le_of_ble_eq_true rfl) (Nat.le_of_ble_eq_true rfl) (Nat.le_of_ble_eq_true rfl) (Nat.zero_le _) (Nat.zero_le _) hf sne (fun t e => ctX7_isClip hx h p1 t e) (fun t1 hf => ?_)
  obtain ⟨j14, ej14, hf⟩ := lt_split hf
  have hj14 : ∀ (z0_14 : Bool), j14 z0_14 = some r0 → PW g X ex (QE g X ex (PE (some (.int r0.1)) sh r0.2) 0 0) 0 0 sh h 14 [some (.ref (gB g + 140)), some (.int p1), none, none] [.int (b2i z0_14), .ref (gB g + 140)] := by
    intro z0_14 hf
    rw [ej14] at hf
    refine PW.callVWBc (As := [.int (b2i z0_14)]) (st := []) cx hR qX7_bestReel_14 klX7_319 mvX7_throwsOne (sh_140 hx) rfl rfl rfl rfl (Nat.le_of_ble_eq_true rfl) (Nat.le_of_ble_eq_true rfl) (Nat.le_of_ble_eq_true rfl) (Nat.zero_le _) (Nat.zero_le _) hf sne (fun t e => ctX7_throwsOne hx h z0_14 t e) (fun t2 h3 hf => ?_)
    refine PW.if_eq cx qX7_bestReel_17 hf (fun hf => ?_) (fun hf => ?_)
    · refine PW.iconst (v := (-1)) cx qX7_bestReel_22 rfl ?_
      refine PW.istore_n (L' := [some (.ref (gB g + 140)), some (.int p1), some (.int (-1)), none]) cx qX7_bestReel_23 hi2 rfl rfl ?_
      refine PW.iconst (v := 0) cx qX7_bestReel_24 rfl ?_
      refine PW.istore_n (L' := [some (.ref (gB g + 140)), some (.int p1), some (.int (-1)), some (.int 0)]) cx qX7_bestReel_25 hi3 rfl rfl ?_
      obtain ⟨r8, er8, hf⟩ := bndO hf sne
      refine PW.locs (Lsub.keep (Lsub.keep (Lsub.keep (Lsub.keep Lsub.nil)))) (lX7_bestReel_26 mx hx h3 p1 FU (-1) 0 r8 er8 (fun xx_ e => ?_))
      subst e
      refine PW.iload_n cx qX7_bestReel_73 rfl ?_
      exact PW.iret cx hrt qX7_bestReel_74 (le_wi hf)
    · refine PW.iconst (v := 0) cx qX7_bestReel_20 rfl ?_
      exact PW.iret cx hrt qX7_bestReel_21 (le_wi hf)
  refine PW.if_ne cx qX7_bestReel_6 hf (fun hf => ?_) (fun hf => ?_)
  · refine PW.iconst (v := 1) cx qX7_bestReel_9 rfl ?_
    refine PW.goto cx qX7_bestReel_10 ?_
    exact PW.locs (Lsub.keep (Lsub.keep (Lsub.drop (Lsub.drop Lsub.nil)))) (hj14 true hf)
  · refine PW.iconst (v := 0) cx qX7_bestReel_13 rfl ?_
    exact PW.locs (Lsub.keep (Lsub.keep (Lsub.drop (Lsub.drop Lsub.nil)))) (hj14 false hf)
set_option maxRecDepth 20000 in
theorem ctX7_matches {g : GT} {ex : Bool} {sh : List Shp} (hx : MSh sh) (h : Hp) (p1 : Int32) (p2 : Int32) (r0 : Bool × Hp) (hf : M_matches h p1 p2 = some r0) : Ct g mX7_matches 4 0 0 ex [.ref (gB g + 140), .int p1, .int p2] sh h (PE (some (.int (b2i r0.1))) sh r0.2) := by
  refine Ct.of (L := [some (.ref (gB g + 140)), some (.int p1), some (.int p2)]) (by decide) (by intro w hw; simp only [List.mem_cons, List.not_mem_nil, or_false] at hw; rcases hw with rfl | rfl | rfl <;> rfl) (Nat.le_of_ble_eq_true rfl) rfl (fun X mx => ?_)
  obtain ⟨cx, hR, hml, hrt, -⟩ := mx
  have cx : Cx g X RX7 cX7_matches := cx
  have hrt : X.2.2.2.2.2.2.2.1.sig.returnType = (some .boolean) := hrt
  unfold M_matches at hf
  refine PW.aload_n cx qX7_matches_0 rfl ?_
  refine PW.aload_n cx qX7_matches_1 rfl ?_
  refine PW.iload_n cx qX7_matches_2 rfl ?_
  refine PW.callVRB (As := [.int p1]) (st := [.ref (gB g + 140)]) cx hR qX7_matches_3 klX7_334 mvX7_isClip (sh_140 hx) rfl rfl rfl rfl (Nat.le_of_ble_eq_true rfl) (Nat.le_of_ble_eq_true rfl) (Nat.le_of_ble_eq_true rfl) (Nat.zero_le _) (Nat.zero_le _) hf sne (fun t e => ctX7_isClip hx h p1 t e) (fun t1 hf => ?_)
  obtain ⟨j14, ej14, hf⟩ := lt_split hf
  have hj14 : ∀ (z0_14 : Bool), j14 z0_14 = some r0 → PW g X ex (QE g X ex (PE (some (.int (b2i r0.1))) sh r0.2) 0 0) 0 0 sh h 14 [some (.ref (gB g + 140)), some (.int p1), some (.int p2)] [.int (b2i z0_14), .ref (gB g + 140)] := by
    intro z0_14 hf
    rw [ej14] at hf
    refine PW.iload_n cx qX7_matches_14 rfl ?_
    refine PW.callSRB (As := [.int p2]) (st := [.int (b2i z0_14), .ref (gB g + 140)]) cx hR qX7_matches_15 klX7_343 miX7_isPattern rfl rfl (Nat.le_of_ble_eq_true rfl) (Nat.le_of_ble_eq_true rfl) (Nat.le_of_ble_eq_true rfl) (Nat.zero_le _) (Nat.zero_le _) hf sne (fun t e => ctX7_isPattern h p2 t e) (fun t2 hf => ?_)
    obtain ⟨j26, ej26, hf⟩ := lt_split hf
    have hj26 : ∀ (z0_26 : Bool), j26 z0_26 = some r0 → PW g X ex (QE g X ex (PE (some (.int (b2i r0.1))) sh r0.2) 0 0) 0 0 sh h 26 [some (.ref (gB g + 140)), some (.int p1), some (.int p2)] [.int (b2i z0_26), .int (b2i z0_14), .ref (gB g + 140)] := by
      intro z0_26 hf
      rw [ej26] at hf
      refine PW.callVWBc (As := [.int (b2i z0_14), .int (b2i z0_26)]) (st := []) cx hR qX7_matches_26 klX7_331 mvX7_throwsOne_ (sh_140 hx) rfl rfl rfl rfl (Nat.le_of_ble_eq_true rfl) (Nat.le_of_ble_eq_true rfl) (Nat.le_of_ble_eq_true rfl) (Nat.zero_le _) (Nat.zero_le _) hf sne (fun t e => ctX7_throwsOne_ hx h z0_14 z0_26 t e) (fun t3 h4 hf => ?_)
      refine PW.if_ne cx qX7_matches_29 hf (fun hf => ?_) (fun hf => ?_)
      · refine PW.aload_n cx qX7_matches_32 rfl ?_
        refine PW.iload_n cx qX7_matches_33 rfl ?_
        refine PW.iload_n cx qX7_matches_34 rfl ?_
        refine PW.callVRI (As := [.int p1, .int p2]) (st := []) cx hR qX7_matches_35 klX7_130 mvX7_matchOf (sh_140 hx) rfl rfl rfl rfl (Nat.le_of_ble_eq_true rfl) (Nat.le_of_ble_eq_true rfl) (Nat.le_of_ble_eq_true rfl) (Nat.zero_le _) (Nat.zero_le _) hf sne (fun t e => ctX7_matchOf hx h4 p1 p2 t e) (fun t5 hf => ?_)
        refine PW.iconst (v := (-1)) cx qX7_matches_38 rfl ?_
        refine PW.icmp_eq cx qX7_matches_39 hf (fun hf => ?_) (fun hf => ?_)
        · refine PW.iconst (v := 0) cx qX7_matches_46 rfl ?_
          exact PW.zret cx hrt nb0 qX7_matches_47 (le_wz hf)
        · refine PW.iconst (v := 1) cx qX7_matches_42 rfl ?_
          refine PW.goto cx qX7_matches_43 ?_
          exact PW.zret cx hrt nb1 qX7_matches_47 (le_wz hf)
      · refine PW.iconst (v := 0) cx qX7_matches_46 rfl ?_
        exact PW.zret cx hrt nb0 qX7_matches_47 (le_wz hf)
    refine PW.if_ne cx qX7_matches_18 hf (fun hf => ?_) (fun hf => ?_)
    · refine PW.iconst (v := 1) cx qX7_matches_21 rfl ?_
      refine PW.goto cx qX7_matches_22 ?_
      exact PW.locs (Lsub.keep (Lsub.keep (Lsub.keep Lsub.nil))) (hj26 true hf)
    · refine PW.iconst (v := 0) cx qX7_matches_25 rfl ?_
      exact PW.locs (Lsub.keep (Lsub.keep (Lsub.keep Lsub.nil))) (hj26 false hf)
  refine PW.if_ne cx qX7_matches_6 hf (fun hf => ?_) (fun hf => ?_)
  · refine PW.iconst (v := 1) cx qX7_matches_9 rfl ?_
    refine PW.goto cx qX7_matches_10 ?_
    exact PW.locs (Lsub.keep (Lsub.keep (Lsub.keep Lsub.nil))) (hj14 true hf)
  · refine PW.iconst (v := 0) cx qX7_matches_13 rfl ?_
    exact PW.locs (Lsub.keep (Lsub.keep (Lsub.keep Lsub.nil))) (hj14 false hf)
set_option maxRecDepth 20000 in
theorem lX7_matchingSleepers_25 {g : GT} {X : XT} {ex : Bool} {post : Option Value → List Shp → Hp → Prop} {sh : List Shp} (mx : Mx g X mX7_matchingSleepers 4 0 0) (hx : MSh sh) (h : Hp) (c1 : Int32) : ∀ (n : Nat) (v2 : Int32) (v3 : Int32) (r : Int32) (hf : M_matchingSleepers_L25 h c1 n v2 v3 = some r) (kx : ∀ (x2 : Int32), r = x2 → PW g X ex (QE g X ex post 0 0) 0 0 sh h 71 [some (.ref (gB g + 140)), some (.int c1), some (.int x2), none] []), PW g X ex (QE g X ex post 0 0) 0 0 sh h 25 [some (.ref (gB g + 140)), some (.int c1), some (.int v2), some (.int v3)] [] := by
  have mx0 := mx
  obtain ⟨cx, hR, hml, hrt, -⟩ := mx0
  have cx : Cx g X RX7 cX7_matchingSleepers := cx
  have hrt : X.2.2.2.2.2.2.2.1.sig.returnType = (some .int) := hrt
  have hi2 : 2 < X.2.2.2.2.2.2.2.2.maxLocals := by rw [hml]; exact Nat.le_of_ble_eq_true rfl
  have hi3 : 3 < X.2.2.2.2.2.2.2.2.maxLocals := by rw [hml]; exact Nat.le_of_ble_eq_true rfl
  intro n
  induction n with
  | zero =>
    intro v2 v3 r hf kx
    cases hf
  | succ n ih =>
    intro v2 v3 r hf kx
    unfold M_matchingSleepers_L25 at hf
    refine PW.iload_n cx qX7_matchingSleepers_25 rfl ?_
    refine PW.aload_n cx qX7_matchingSleepers_26 rfl ?_
    refine PW.getf (t := (2, 141)) (v := .ref (gB g + 141)) cx qX7_matchingSleepers_27 (sh_140 hx) rfl flX7_7 rfl ?_
    refine PW.iconst (v := 2) cx qX7_matchingSleepers_30 rfl ?_
    refine PW.iald cx qX7_matchingSleepers_31 (sh_141 hx) hf sne (fun t4 hf => ?_)
    refine PW.icmp_ge cx qX7_matchingSleepers_32 hf (fun hf => ?_) (fun hf => ?_)
    · exact PW.locs (Lsub.keep (Lsub.keep (Lsub.keep (Lsub.drop Lsub.nil)))) (kx v2 (Option.some.inj hf).symm)
    · refine PW.iload_n cx qX7_matchingSleepers_35 rfl ?_
      refine PW.aload_n cx qX7_matchingSleepers_36 rfl ?_
      refine PW.iload_n cx qX7_matchingSleepers_37 rfl ?_
      refine PW.iconst (v := 1) cx qX7_matchingSleepers_38 rfl ?_
      refine PW.callVRI (As := [.int v3, .int 1]) (st := [.int v2]) cx hR qX7_matchingSleepers_39 klX7_70 mvX7_of (sh_140 hx) rfl rfl rfl rfl (Nat.le_of_ble_eq_true rfl) (Nat.le_of_ble_eq_true rfl) (Nat.le_of_ble_eq_true rfl) (Nat.zero_le _) (Nat.zero_le _) hf sne (fun t e => ctX7_of hx h v3 1 t e) (fun t5 hf => ?_)
      refine PW.iconst (v := 1) cx qX7_matchingSleepers_42 rfl ?_
      refine PW.icmp_ne cx qX7_matchingSleepers_43 hf (fun hf => ?_) (fun hf => ?_)
      · refine PW.aload_n cx qX7_matchingSleepers_46 rfl ?_
        refine PW.iload_n cx qX7_matchingSleepers_47 rfl ?_
        refine PW.iload_n cx qX7_matchingSleepers_48 rfl ?_
        refine PW.callVRI (As := [.int v3, .int c1]) (st := [.int v2]) cx hR qX7_matchingSleepers_49 klX7_130 mvX7_matchOf (sh_140 hx) rfl rfl rfl rfl (Nat.le_of_ble_eq_true rfl) (Nat.le_of_ble_eq_true rfl) (Nat.le_of_ble_eq_true rfl) (Nat.zero_le _) (Nat.zero_le _) hf sne (fun t e => ctX7_matchOf hx h v3 c1 t e) (fun t6 hf => ?_)
        refine PW.iconst (v := (-1)) cx qX7_matchingSleepers_52 rfl ?_
        refine PW.icmp_eq cx qX7_matchingSleepers_53 hf (fun hf => ?_) (fun hf => ?_)
        · refine PW.iconst (v := 0) cx qX7_matchingSleepers_62 rfl ?_
          refine PW.ior cx qX7_matchingSleepers_63 ?_
          refine PW.istore_n (L' := [some (.ref (gB g + 140)), some (.int c1), some (.int (v2 ||| 0)), some (.int v3)]) cx qX7_matchingSleepers_64 hi2 rfl rfl ?_
          refine PW.iinc (v := 1) (L' := [some (.ref (gB g + 140)), some (.int c1), some (.int (v2 ||| 0)), some (.int (v3 + 1))]) cx qX7_matchingSleepers_65 rfl rfl hi3 rfl rfl ?_
          refine PW.goto cx qX7_matchingSleepers_68 ?_
          exact PW.locs (Lsub.keep (Lsub.keep (Lsub.keep (Lsub.keep Lsub.nil)))) (ih (v2 ||| 0) (v3 + 1) _ hf kx)
        · refine PW.iconst (v := 1) cx qX7_matchingSleepers_56 rfl ?_
          refine PW.iload_n cx qX7_matchingSleepers_57 rfl ?_
          refine PW.ishl cx qX7_matchingSleepers_58 ?_
          refine PW.goto cx qX7_matchingSleepers_59 ?_
          refine PW.ior cx qX7_matchingSleepers_63 ?_
          refine PW.istore_n (L' := [some (.ref (gB g + 140)), some (.int c1), some (.int (v2 ||| (1 <<< (v3 &&& 31)))), some (.int v3)]) cx qX7_matchingSleepers_64 hi2 rfl rfl ?_
          refine PW.iinc (v := 1) (L' := [some (.ref (gB g + 140)), some (.int c1), some (.int (v2 ||| (1 <<< (v3 &&& 31)))), some (.int (v3 + 1))]) cx qX7_matchingSleepers_65 rfl rfl hi3 rfl rfl ?_
          refine PW.goto cx qX7_matchingSleepers_68 ?_
          exact PW.locs (Lsub.keep (Lsub.keep (Lsub.keep (Lsub.keep Lsub.nil)))) (ih (v2 ||| (1 <<< (v3 &&& 31))) (v3 + 1) _ hf kx)
      · refine PW.iconst (v := 0) cx qX7_matchingSleepers_62 rfl ?_
        refine PW.ior cx qX7_matchingSleepers_63 ?_
        refine PW.istore_n (L' := [some (.ref (gB g + 140)), some (.int c1), some (.int (v2 ||| 0)), some (.int v3)]) cx qX7_matchingSleepers_64 hi2 rfl rfl ?_
        refine PW.iinc (v := 1) (L' := [some (.ref (gB g + 140)), some (.int c1), some (.int (v2 ||| 0)), some (.int (v3 + 1))]) cx qX7_matchingSleepers_65 rfl rfl hi3 rfl rfl ?_
        refine PW.goto cx qX7_matchingSleepers_68 ?_
        exact PW.locs (Lsub.keep (Lsub.keep (Lsub.keep (Lsub.keep Lsub.nil)))) (ih (v2 ||| 0) (v3 + 1) _ hf kx)
set_option maxRecDepth 20000 in
theorem ctX7_matchingSleepers {g : GT} {ex : Bool} {sh : List Shp} (hx : MSh sh) (h : Hp) (p1 : Int32) (r0 : Int32 × Hp) (hf : M_matchingSleepers h p1 = some r0) : Ct g mX7_matchingSleepers 4 0 0 ex [.ref (gB g + 140), .int p1] sh h (PE (some (.int r0.1)) sh r0.2) := by
  refine Ct.of (L := [some (.ref (gB g + 140)), some (.int p1), none, none]) (by decide) (by intro w hw; simp only [List.mem_cons, List.not_mem_nil, or_false] at hw; rcases hw with rfl | rfl <;> rfl) (Nat.le_of_ble_eq_true rfl) rfl (fun X mx => ?_)
  have mx0 := mx
  obtain ⟨cx, hR, hml, hrt, -⟩ := mx0
  have cx : Cx g X RX7 cX7_matchingSleepers := cx
  have hrt : X.2.2.2.2.2.2.2.1.sig.returnType = (some .int) := hrt
  have hi2 : 2 < X.2.2.2.2.2.2.2.2.maxLocals := by rw [hml]; exact Nat.le_of_ble_eq_true rfl
  have hi3 : 3 < X.2.2.2.2.2.2.2.2.maxLocals := by rw [hml]; exact Nat.le_of_ble_eq_true rfl
  unfold M_matchingSleepers at hf
  refine PW.aload_n cx qX7_matchingSleepers_0 rfl ?_
  refine PW.iload_n cx qX7_matchingSleepers_1 rfl ?_
  refine PW.callSRB (As := [.int p1]) (st := [.ref (gB g + 140)]) cx hR qX7_matchingSleepers_2 klX7_343 miX7_isPattern rfl rfl (Nat.le_of_ble_eq_true rfl) (Nat.le_of_ble_eq_true rfl) (Nat.le_of_ble_eq_true rfl) (Nat.zero_le _) (Nat.zero_le _) hf sne (fun t e => ctX7_isPattern h p1 t e) (fun t1 hf => ?_)
  obtain ⟨j13, ej13, hf⟩ := lt_split hf
  have hj13 : ∀ (z0_13 : Bool), j13 z0_13 = some r0 → PW g X ex (QE g X ex (PE (some (.int r0.1)) sh r0.2) 0 0) 0 0 sh h 13 [some (.ref (gB g + 140)), some (.int p1), none, none] [.int (b2i z0_13), .ref (gB g + 140)] := by
    intro z0_13 hf
    rw [ej13] at hf
    refine PW.callVWBc (As := [.int (b2i z0_13)]) (st := []) cx hR qX7_matchingSleepers_13 klX7_319 mvX7_throwsOne (sh_140 hx) rfl rfl rfl rfl (Nat.le_of_ble_eq_true rfl) (Nat.le_of_ble_eq_true rfl) (Nat.le_of_ble_eq_true rfl) (Nat.zero_le _) (Nat.zero_le _) hf sne (fun t e => ctX7_throwsOne hx h z0_13 t e) (fun t2 h3 hf => ?_)
    refine PW.if_eq cx qX7_matchingSleepers_16 hf (fun hf => ?_) (fun hf => ?_)
    · refine PW.iconst (v := 0) cx qX7_matchingSleepers_21 rfl ?_
      refine PW.istore_n (L' := [some (.ref (gB g + 140)), some (.int p1), some (.int 0), none]) cx qX7_matchingSleepers_22 hi2 rfl rfl ?_
      refine PW.iconst (v := 0) cx qX7_matchingSleepers_23 rfl ?_
      refine PW.istore_n (L' := [some (.ref (gB g + 140)), some (.int p1), some (.int 0), some (.int 0)]) cx qX7_matchingSleepers_24 hi3 rfl rfl ?_
      obtain ⟨r7, er7, hf⟩ := bndO hf sne
      refine PW.locs (Lsub.keep (Lsub.keep (Lsub.keep (Lsub.keep Lsub.nil)))) (lX7_matchingSleepers_25 mx hx h3 p1 FU 0 0 r7 er7 (fun xx_ e => ?_))
      subst e
      refine PW.iload_n cx qX7_matchingSleepers_71 rfl ?_
      exact PW.iret cx hrt qX7_matchingSleepers_72 (le_wi hf)
    · refine PW.iconst (v := 0) cx qX7_matchingSleepers_19 rfl ?_
      exact PW.iret cx hrt qX7_matchingSleepers_20 (le_wi hf)
  refine PW.if_ne cx qX7_matchingSleepers_5 hf (fun hf => ?_) (fun hf => ?_)
  · refine PW.iconst (v := 1) cx qX7_matchingSleepers_8 rfl ?_
    refine PW.goto cx qX7_matchingSleepers_9 ?_
    exact PW.locs (Lsub.keep (Lsub.keep (Lsub.drop (Lsub.drop Lsub.nil)))) (hj13 true hf)
  · refine PW.iconst (v := 0) cx qX7_matchingSleepers_12 rfl ?_
    exact PW.locs (Lsub.keep (Lsub.keep (Lsub.drop (Lsub.drop Lsub.nil)))) (hj13 false hf)
set_option maxRecDepth 20000 in
theorem ctX7_wokenBy {g : GT} {ex : Bool} {sh : List Shp} (hx : MSh sh) (h : Hp) (p1 : Int32) (p2 : Int32) (r0 : Int32 × Hp) (hf : M_wokenBy h p1 p2 = some r0) : Ct g mX7_wokenBy 5 0 0 ex [.ref (gB g + 140), .int p1, .int p2] sh h (PE (some (.int r0.1)) sh r0.2) := by
  refine Ct.of (L := [some (.ref (gB g + 140)), some (.int p1), some (.int p2), none]) (by decide) (by intro w hw; simp only [List.mem_cons, List.not_mem_nil, or_false] at hw; rcases hw with rfl | rfl | rfl <;> rfl) (Nat.le_of_ble_eq_true rfl) rfl (fun X mx => ?_)
  obtain ⟨cx, hR, hml, hrt, -⟩ := mx
  have cx : Cx g X RX7 cX7_wokenBy := cx
  have hrt : X.2.2.2.2.2.2.2.1.sig.returnType = (some .int) := hrt
  have hi3 : 3 < X.2.2.2.2.2.2.2.2.maxLocals := by rw [hml]; exact Nat.le_of_ble_eq_true rfl
  unfold M_wokenBy at hf
  refine PW.aload_n cx qX7_wokenBy_0 rfl ?_
  refine PW.aload_n cx qX7_wokenBy_1 rfl ?_
  refine PW.iload_n cx qX7_wokenBy_2 rfl ?_
  refine PW.callVRB (As := [.int p1]) (st := [.ref (gB g + 140)]) cx hR qX7_wokenBy_3 klX7_340 mvX7_isScene (sh_140 hx) rfl rfl rfl rfl (Nat.le_of_ble_eq_true rfl) (Nat.le_of_ble_eq_true rfl) (Nat.le_of_ble_eq_true rfl) (Nat.zero_le _) (Nat.zero_le _) hf sne (fun t e => ctX7_isScene hx h p1 t e) (fun t1 hf => ?_)
  obtain ⟨j14, ej14, hf⟩ := lt_split hf
  have hj14 : ∀ (z0_14 : Bool), j14 z0_14 = some r0 → PW g X ex (QE g X ex (PE (some (.int r0.1)) sh r0.2) 0 0) 0 0 sh h 14 [some (.ref (gB g + 140)), some (.int p1), some (.int p2), none] [.int (b2i z0_14), .ref (gB g + 140)] := by
    intro z0_14 hf
    rw [ej14] at hf
    refine PW.iload_n cx qX7_wokenBy_14 rfl ?_
    refine PW.callSRB (As := [.int p2]) (st := [.int (b2i z0_14), .ref (gB g + 140)]) cx hR qX7_wokenBy_15 klX7_343 miX7_isPattern rfl rfl (Nat.le_of_ble_eq_true rfl) (Nat.le_of_ble_eq_true rfl) (Nat.le_of_ble_eq_true rfl) (Nat.zero_le _) (Nat.zero_le _) hf sne (fun t e => ctX7_isPattern h p2 t e) (fun t2 hf => ?_)
    obtain ⟨j26, ej26, hf⟩ := lt_split hf
    have hj26 : ∀ (z0_26 : Bool), j26 z0_26 = some r0 → PW g X ex (QE g X ex (PE (some (.int r0.1)) sh r0.2) 0 0) 0 0 sh h 26 [some (.ref (gB g + 140)), some (.int p1), some (.int p2), none] [.int (b2i z0_26), .int (b2i z0_14), .ref (gB g + 140)] := by
      intro z0_26 hf
      rw [ej26] at hf
      refine PW.callVWBc (As := [.int (b2i z0_14), .int (b2i z0_26)]) (st := []) cx hR qX7_wokenBy_26 klX7_331 mvX7_throwsOne_ (sh_140 hx) rfl rfl rfl rfl (Nat.le_of_ble_eq_true rfl) (Nat.le_of_ble_eq_true rfl) (Nat.le_of_ble_eq_true rfl) (Nat.zero_le _) (Nat.zero_le _) hf sne (fun t e => ctX7_throwsOne_ hx h z0_14 z0_26 t e) (fun t3 h4 hf => ?_)
      refine PW.if_eq cx qX7_wokenBy_29 hf (fun hf => ?_) (fun hf => ?_)
      · refine PW.aload_n cx qX7_wokenBy_34 rfl ?_
        refine PW.callVWV (As := []) (st := []) cx hR qX7_wokenBy_35 klX7_365 mvX7_setAside (sh_140 hx) rfl rfl rfl rfl (Nat.le_of_ble_eq_true rfl) (Nat.le_of_ble_eq_true rfl) (Nat.le_of_ble_eq_true rfl) (Nat.zero_le _) (Nat.zero_le _) hf sne (fun t e => ctX7_setAside hx h4 t e) (fun h6 hf => ?_)
        refine PW.aload_n cx qX7_wokenBy_38 rfl ?_
        refine PW.iload_n cx qX7_wokenBy_39 rfl ?_
        refine PW.iload_n cx qX7_wokenBy_40 rfl ?_
        refine PW.callVWIc (As := [.int p1, .int p2]) (st := []) cx hR qX7_wokenBy_41 klX7_210 mvX7_cuts (sh_140 hx) rfl rfl rfl rfl (Nat.le_of_ble_eq_true rfl) (Nat.le_of_ble_eq_true rfl) (Nat.le_of_ble_eq_true rfl) (Nat.zero_le _) (Nat.zero_le _) hf sne (fun t e => ctX7_cuts hx h6 p1 p2 t e) (fun t7 h8 hf => ?_)
        refine PW.istore_n (L' := [some (.ref (gB g + 140)), some (.int p1), some (.int p2), some (.int t7)]) cx qX7_wokenBy_44 hi3 rfl rfl ?_
        refine PW.aload_n cx qX7_wokenBy_45 rfl ?_
        refine PW.callVWV (As := []) (st := []) cx hR qX7_wokenBy_46 klX7_371 mvX7_bringBack (sh_140 hx) rfl rfl rfl rfl (Nat.le_of_ble_eq_true rfl) (Nat.le_of_ble_eq_true rfl) (Nat.le_of_ble_eq_true rfl) (Nat.zero_le _) (Nat.zero_le _) hf sne (fun t e => ctX7_bringBack hx h8 t e) (fun h10 hf => ?_)
        refine PW.iload_n cx qX7_wokenBy_49 rfl ?_
        exact PW.iret cx hrt qX7_wokenBy_50 (le_wi hf)
      · refine PW.iconst (v := 0) cx qX7_wokenBy_32 rfl ?_
        exact PW.iret cx hrt qX7_wokenBy_33 (le_wi hf)
    refine PW.if_ne cx qX7_wokenBy_18 hf (fun hf => ?_) (fun hf => ?_)
    · refine PW.iconst (v := 1) cx qX7_wokenBy_21 rfl ?_
      refine PW.goto cx qX7_wokenBy_22 ?_
      exact PW.locs (Lsub.keep (Lsub.keep (Lsub.keep (Lsub.drop Lsub.nil)))) (hj26 true hf)
    · refine PW.iconst (v := 0) cx qX7_wokenBy_25 rfl ?_
      exact PW.locs (Lsub.keep (Lsub.keep (Lsub.keep (Lsub.drop Lsub.nil)))) (hj26 false hf)
  refine PW.if_ne cx qX7_wokenBy_6 hf (fun hf => ?_) (fun hf => ?_)
  · refine PW.iconst (v := 1) cx qX7_wokenBy_9 rfl ?_
    refine PW.goto cx qX7_wokenBy_10 ?_
    exact PW.locs (Lsub.keep (Lsub.keep (Lsub.keep (Lsub.drop Lsub.nil)))) (hj14 true hf)
  · refine PW.iconst (v := 0) cx qX7_wokenBy_13 rfl ?_
    exact PW.locs (Lsub.keep (Lsub.keep (Lsub.keep (Lsub.drop Lsub.nil)))) (hj14 false hf)
set_option maxRecDepth 20000 in
theorem ctX7_firstMatch {g : GT} {ex : Bool} {sh : List Shp} (hx : MSh sh) (h : Hp) (p1 : Int32) (p2 : Int32) (r0 : Int32 × Hp) (hf : M_firstMatch h p1 p2 = some r0) : Ct g mX7_firstMatch 4 0 0 ex [.ref (gB g + 140), .int p1, .int p2] sh h (PE (some (.int r0.1)) sh r0.2) := by
  refine Ct.of (L := [some (.ref (gB g + 140)), some (.int p1), some (.int p2)]) (by decide) (by intro w hw; simp only [List.mem_cons, List.not_mem_nil, or_false] at hw; rcases hw with rfl | rfl | rfl <;> rfl) (Nat.le_of_ble_eq_true rfl) rfl (fun X mx => ?_)
  obtain ⟨cx, hR, hml, hrt, -⟩ := mx
  have cx : Cx g X RX7 cX7_firstMatch := cx
  have hrt : X.2.2.2.2.2.2.2.1.sig.returnType = (some .int) := hrt
  unfold M_firstMatch at hf
  refine PW.aload_n cx qX7_firstMatch_0 rfl ?_
  refine PW.aload_n cx qX7_firstMatch_1 rfl ?_
  refine PW.iload_n cx qX7_firstMatch_2 rfl ?_
  refine PW.callVRB (As := [.int p1]) (st := [.ref (gB g + 140)]) cx hR qX7_firstMatch_3 klX7_334 mvX7_isClip (sh_140 hx) rfl rfl rfl rfl (Nat.le_of_ble_eq_true rfl) (Nat.le_of_ble_eq_true rfl) (Nat.le_of_ble_eq_true rfl) (Nat.zero_le _) (Nat.zero_le _) hf sne (fun t e => ctX7_isClip hx h p1 t e) (fun t1 hf => ?_)
  obtain ⟨j14, ej14, hf⟩ := lt_split hf
  have hj14 : ∀ (z0_14 : Bool), j14 z0_14 = some r0 → PW g X ex (QE g X ex (PE (some (.int r0.1)) sh r0.2) 0 0) 0 0 sh h 14 [some (.ref (gB g + 140)), some (.int p1), some (.int p2)] [.int (b2i z0_14), .ref (gB g + 140)] := by
    intro z0_14 hf
    rw [ej14] at hf
    refine PW.iload_n cx qX7_firstMatch_14 rfl ?_
    refine PW.callSRB (As := [.int p2]) (st := [.int (b2i z0_14), .ref (gB g + 140)]) cx hR qX7_firstMatch_15 klX7_343 miX7_isPattern rfl rfl (Nat.le_of_ble_eq_true rfl) (Nat.le_of_ble_eq_true rfl) (Nat.le_of_ble_eq_true rfl) (Nat.zero_le _) (Nat.zero_le _) hf sne (fun t e => ctX7_isPattern h p2 t e) (fun t2 hf => ?_)
    obtain ⟨j26, ej26, hf⟩ := lt_split hf
    have hj26 : ∀ (z0_26 : Bool), j26 z0_26 = some r0 → PW g X ex (QE g X ex (PE (some (.int r0.1)) sh r0.2) 0 0) 0 0 sh h 26 [some (.ref (gB g + 140)), some (.int p1), some (.int p2)] [.int (b2i z0_26), .int (b2i z0_14), .ref (gB g + 140)] := by
      intro z0_26 hf
      rw [ej26] at hf
      refine PW.callVWBc (As := [.int (b2i z0_14), .int (b2i z0_26)]) (st := []) cx hR qX7_firstMatch_26 klX7_331 mvX7_throwsOne_ (sh_140 hx) rfl rfl rfl rfl (Nat.le_of_ble_eq_true rfl) (Nat.le_of_ble_eq_true rfl) (Nat.le_of_ble_eq_true rfl) (Nat.zero_le _) (Nat.zero_le _) hf sne (fun t e => ctX7_throwsOne_ hx h z0_14 z0_26 t e) (fun t3 h4 hf => ?_)
      refine PW.if_eq cx qX7_firstMatch_29 hf (fun hf => ?_) (fun hf => ?_)
      · refine PW.aload_n cx qX7_firstMatch_36 rfl ?_
        refine PW.iload_n cx qX7_firstMatch_37 rfl ?_
        refine PW.iload_n cx qX7_firstMatch_38 rfl ?_
        refine PW.callVRI (As := [.int p1, .int p2]) (st := []) cx hR qX7_firstMatch_39 klX7_130 mvX7_matchOf (sh_140 hx) rfl rfl rfl rfl (Nat.le_of_ble_eq_true rfl) (Nat.le_of_ble_eq_true rfl) (Nat.le_of_ble_eq_true rfl) (Nat.zero_le _) (Nat.zero_le _) hf sne (fun t e => ctX7_matchOf hx h4 p1 p2 t e) (fun t5 hf => ?_)
        exact PW.iret cx hrt qX7_firstMatch_42 (le_wi hf)
      · refine PW.iconst (v := 0) cx qX7_firstMatch_32 rfl ?_
        refine PW.goto cx qX7_firstMatch_33 ?_
        exact PW.iret cx hrt qX7_firstMatch_42 (le_wi hf)
    refine PW.if_ne cx qX7_firstMatch_18 hf (fun hf => ?_) (fun hf => ?_)
    · refine PW.iconst (v := 1) cx qX7_firstMatch_21 rfl ?_
      refine PW.goto cx qX7_firstMatch_22 ?_
      exact PW.locs (Lsub.keep (Lsub.keep (Lsub.keep Lsub.nil))) (hj26 true hf)
    · refine PW.iconst (v := 0) cx qX7_firstMatch_25 rfl ?_
      exact PW.locs (Lsub.keep (Lsub.keep (Lsub.keep Lsub.nil))) (hj26 false hf)
  refine PW.if_ne cx qX7_firstMatch_6 hf (fun hf => ?_) (fun hf => ?_)
  · refine PW.iconst (v := 1) cx qX7_firstMatch_9 rfl ?_
    refine PW.goto cx qX7_firstMatch_10 ?_
    exact PW.locs (Lsub.keep (Lsub.keep (Lsub.keep Lsub.nil))) (hj14 true hf)
  · refine PW.iconst (v := 0) cx qX7_firstMatch_13 rfl ?_
    exact PW.locs (Lsub.keep (Lsub.keep (Lsub.keep Lsub.nil))) (hj14 false hf)
set_option maxRecDepth 20000 in
theorem lX7_isAlone_2 {g : GT} {X : XT} {ex : Bool} {post : Option Value → List Shp → Hp → Prop} {sh : List Shp} (mx : Mx g X mX7_isAlone 4 0 0) (hx : MSh sh) (h : Hp) (c1 : Int32) (c2 : Int32) : ∀ (n : Nat) (v3 : Int32) (r : (Unit) ⊕ (Bool)) (hf : M_isAlone_L2 h c1 c2 n v3 = some r) (kx : r = .inl () → PW g X ex (QE g X ex post 0 0) 0 0 sh h 45 [some (.ref (gB g + 140)), some (.int c1), some (.int c2), none] []) (kr : ∀ y : Bool, r = .inr y → post (some (.int (b2i y))) sh h), PW g X ex (QE g X ex post 0 0) 0 0 sh h 2 [some (.ref (gB g + 140)), some (.int c1), some (.int c2), some (.int v3)] [] := by
  have mx0 := mx
  obtain ⟨cx, hR, hml, hrt, -⟩ := mx0
  have cx : Cx g X RX7 cX7_isAlone := cx
  have hrt : X.2.2.2.2.2.2.2.1.sig.returnType = (some .boolean) := hrt
  have hi3 : 3 < X.2.2.2.2.2.2.2.2.maxLocals := by rw [hml]; exact Nat.le_of_ble_eq_true rfl
  intro n
  induction n with
  | zero =>
    intro v3 r hf kx kr
    cases hf
  | succ n ih =>
    intro v3 r hf kx kr
    unfold M_isAlone_L2 at hf
    refine PW.iload_n cx qX7_isAlone_2 rfl ?_
    refine PW.aload_n cx qX7_isAlone_3 rfl ?_
    refine PW.getf (t := (2, 141)) (v := .ref (gB g + 141)) cx qX7_isAlone_4 (sh_140 hx) rfl flX7_7 rfl ?_
    refine PW.iconst (v := 2) cx qX7_isAlone_7 rfl ?_
    refine PW.iald cx qX7_isAlone_8 (sh_141 hx) hf sne (fun t1 hf => ?_)
    refine PW.icmp_ge cx qX7_isAlone_9 hf (fun hf => ?_) (fun hf => ?_)
    · exact PW.locs (Lsub.keep (Lsub.keep (Lsub.keep (Lsub.drop Lsub.nil)))) (kx (Option.some.inj hf).symm)
    · refine PW.iload_n cx qX7_isAlone_12 rfl ?_
      refine PW.iload_n cx qX7_isAlone_13 rfl ?_
      refine PW.icmp_eq cx qX7_isAlone_14 hf (fun hf => ?_) (fun hf => ?_)
      · refine PW.iinc (v := 1) (L' := [some (.ref (gB g + 140)), some (.int c1), some (.int c2), some (.int (v3 + 1))]) cx qX7_isAlone_39 rfl rfl hi3 rfl rfl ?_
        refine PW.goto cx qX7_isAlone_42 ?_
        exact PW.locs (Lsub.keep (Lsub.keep (Lsub.keep (Lsub.keep Lsub.nil)))) (ih (v3 + 1) _ hf kx kr)
      · refine PW.aload_n cx qX7_isAlone_17 rfl ?_
        refine PW.iload_n cx qX7_isAlone_18 rfl ?_
        refine PW.iconst (v := 1) cx qX7_isAlone_19 rfl ?_
        refine PW.callVRI (As := [.int v3, .int 1]) (st := []) cx hR qX7_isAlone_20 klX7_70 mvX7_of (sh_140 hx) rfl rfl rfl rfl (Nat.le_of_ble_eq_true rfl) (Nat.le_of_ble_eq_true rfl) (Nat.le_of_ble_eq_true rfl) (Nat.zero_le _) (Nat.zero_le _) hf sne (fun t e => ctX7_of hx h v3 1 t e) (fun t2 hf => ?_)
        refine PW.iconst (v := 2) cx qX7_isAlone_23 rfl ?_
        refine PW.icmp_eq cx qX7_isAlone_24 hf (fun hf => ?_) (fun hf => ?_)
        · refine PW.iinc (v := 1) (L' := [some (.ref (gB g + 140)), some (.int c1), some (.int c2), some (.int (v3 + 1))]) cx qX7_isAlone_39 rfl rfl hi3 rfl rfl ?_
          refine PW.goto cx qX7_isAlone_42 ?_
          exact PW.locs (Lsub.keep (Lsub.keep (Lsub.keep (Lsub.keep Lsub.nil)))) (ih (v3 + 1) _ hf kx kr)
        · refine PW.aload_n cx qX7_isAlone_27 rfl ?_
          refine PW.iload_n cx qX7_isAlone_28 rfl ?_
          refine PW.iload_n cx qX7_isAlone_29 rfl ?_
          refine PW.callVRI (As := [.int v3, .int c2]) (st := []) cx hR qX7_isAlone_30 klX7_130 mvX7_matchOf (sh_140 hx) rfl rfl rfl rfl (Nat.le_of_ble_eq_true rfl) (Nat.le_of_ble_eq_true rfl) (Nat.le_of_ble_eq_true rfl) (Nat.zero_le _) (Nat.zero_le _) hf sne (fun t e => ctX7_matchOf hx h v3 c2 t e) (fun t3 hf => ?_)
          refine PW.iconst (v := (-1)) cx qX7_isAlone_33 rfl ?_
          refine PW.icmp_eq cx qX7_isAlone_34 hf (fun hf => ?_) (fun hf => ?_)
          · refine PW.iinc (v := 1) (L' := [some (.ref (gB g + 140)), some (.int c1), some (.int c2), some (.int (v3 + 1))]) cx qX7_isAlone_39 rfl rfl hi3 rfl rfl ?_
            refine PW.goto cx qX7_isAlone_42 ?_
            exact PW.locs (Lsub.keep (Lsub.keep (Lsub.keep (Lsub.keep Lsub.nil)))) (ih (v3 + 1) _ hf kx kr)
          · refine PW.iconst (v := 0) cx qX7_isAlone_37 rfl ?_
            exact PW.zret cx hrt nb0 qX7_isAlone_38 (kr _ (Option.some.inj hf).symm)
set_option maxRecDepth 20000 in
theorem ctX7_isAlone {g : GT} {ex : Bool} {sh : List Shp} (hx : MSh sh) (h : Hp) (p1 : Int32) (p2 : Int32) (r0 : Bool) (hf : M_isAlone h p1 p2 = some r0) : Ct g mX7_isAlone 4 0 0 ex [.ref (gB g + 140), .int p1, .int p2] sh h (PE (some (.int (b2i r0))) sh h) := by
  refine Ct.of (L := [some (.ref (gB g + 140)), some (.int p1), some (.int p2), none]) (by decide) (by intro w hw; simp only [List.mem_cons, List.not_mem_nil, or_false] at hw; rcases hw with rfl | rfl | rfl <;> rfl) (Nat.le_of_ble_eq_true rfl) rfl (fun X mx => ?_)
  have mx0 := mx
  obtain ⟨cx, hR, hml, hrt, -⟩ := mx0
  have cx : Cx g X RX7 cX7_isAlone := cx
  have hrt : X.2.2.2.2.2.2.2.1.sig.returnType = (some .boolean) := hrt
  have hi3 : 3 < X.2.2.2.2.2.2.2.2.maxLocals := by rw [hml]; exact Nat.le_of_ble_eq_true rfl
  unfold M_isAlone at hf
  refine PW.iconst (v := 0) cx qX7_isAlone_0 rfl ?_
  refine PW.istore_n (L' := [some (.ref (gB g + 140)), some (.int p1), some (.int p2), some (.int 0)]) cx qX7_isAlone_1 hi3 rfl rfl ?_
  obtain ⟨r4, er4, hf⟩ := bndO hf sne
  refine PW.locs (Lsub.keep (Lsub.keep (Lsub.keep (Lsub.keep Lsub.nil)))) (lX7_isAlone_2 mx hx h p1 p2 FU 0 r4 er4 (fun e => ?_) (fun y e => ?_))
  · subst e
    refine PW.iconst (v := 1) cx qX7_isAlone_45 rfl ?_
    exact PW.zret cx hrt nb1 qX7_isAlone_46 (le_rz hf)
  · subst e
    exact (le_rz hf)
set_option maxRecDepth 20000 in
theorem lX7_part_6 {g : GT} {X : XT} {ex : Bool} {post : Option Value → List Shp → Hp → Prop} {sh : List Shp} (mx : Mx g X mX7_part 2 0 0) (hx : MSh sh) (h : Hp) (c1 : Int32) (c2 : Int32) (c3 : Int32) : ∀ (n : Nat) (v4 : Int32) (v5 : Int32) (r : Int32) (hf : M_part_L6 h c1 c2 c3 n v4 v5 = some r) (kx : ∀ (x4 : Int32), r = x4 → PW g X ex (QE g X ex post 0 0) 0 0 sh h 39 [some (.ref (gB g + 140)), some (.int c1), some (.int c2), some (.int c3), some (.int x4), none] []), PW g X ex (QE g X ex post 0 0) 0 0 sh h 6 [some (.ref (gB g + 140)), some (.int c1), some (.int c2), some (.int c3), some (.int v4), some (.int v5)] [] := by
  have mx0 := mx
  obtain ⟨cx, hR, hml, hrt, -⟩ := mx0
  have cx : Cx g X RX7 cX7_part := cx
  have hrt : X.2.2.2.2.2.2.2.1.sig.returnType = (some .int) := hrt
  have hi4 : 4 < X.2.2.2.2.2.2.2.2.maxLocals := by rw [hml]; exact Nat.le_of_ble_eq_true rfl
  have hi5 : 5 < X.2.2.2.2.2.2.2.2.maxLocals := by rw [hml]; exact Nat.le_of_ble_eq_true rfl
  intro n
  induction n with
  | zero =>
    intro v4 v5 r hf kx
    cases hf
  | succ n ih =>
    intro v4 v5 r hf kx
    unfold M_part_L6 at hf
    refine PW.iload cx qX7_part_6 rfl ?_
    refine PW.iload_n cx qX7_part_8 rfl ?_
    refine PW.iload_n cx qX7_part_9 rfl ?_
    refine PW.iadd cx qX7_part_10 ?_
    refine PW.icmp_ge cx qX7_part_11 hf (fun hf => ?_) (fun hf => ?_)
    · exact PW.locs (Lsub.keep (Lsub.keep (Lsub.keep (Lsub.keep (Lsub.keep (Lsub.drop Lsub.nil)))))) (kx v4 (Option.some.inj hf).symm)
    · refine PW.bipush (v := 10) cx qX7_part_14 rfl ?_
      refine PW.iload cx qX7_part_16 rfl ?_
      refine PW.imul cx qX7_part_18 ?_
      refine PW.aload_n cx qX7_part_19 rfl ?_
      refine PW.iload_n cx qX7_part_20 rfl ?_
      refine PW.iconst (v := 0) cx qX7_part_21 rfl ?_
      refine PW.callVRI (As := [.int c1, .int 0]) (st := [.int (10 * v4)]) cx hR qX7_part_22 klX7_70 mvX7_of (sh_140 hx) rfl rfl rfl rfl (Nat.le_of_ble_eq_true rfl) (Nat.le_of_ble_eq_true rfl) (Nat.le_of_ble_eq_true rfl) (Nat.zero_le _) (Nat.zero_le _) hf sne (fun t e => ctX7_of hx h c1 0 t e) (fun t1 hf => ?_)
      refine PW.iload cx qX7_part_25 rfl ?_
      refine PW.callSRI (As := [.int t1, .int v5]) (st := [.int (10 * v4)]) cx hR qX7_part_27 klX7_74 miX7_digit rfl rfl (Nat.le_of_ble_eq_true rfl) (Nat.le_of_ble_eq_true rfl) (Nat.le_of_ble_eq_true rfl) (Nat.zero_le _) (Nat.zero_le _) hf sne (fun t e => ctX7_digit h t1 v5 t e) (fun t2 hf => ?_)
      refine PW.iadd cx qX7_part_30 ?_
      refine PW.istore (L' := [some (.ref (gB g + 140)), some (.int c1), some (.int c2), some (.int c3), some (.int ((10 * v4) + t2)), some (.int v5)]) cx qX7_part_31 hi4 rfl rfl ?_
      refine PW.iinc (v := 1) (L' := [some (.ref (gB g + 140)), some (.int c1), some (.int c2), some (.int c3), some (.int ((10 * v4) + t2)), some (.int (v5 + 1))]) cx qX7_part_33 rfl rfl hi5 rfl rfl ?_
      refine PW.goto cx qX7_part_36 ?_
      exact PW.locs (Lsub.keep (Lsub.keep (Lsub.keep (Lsub.keep (Lsub.keep (Lsub.keep Lsub.nil)))))) (ih ((10 * v4) + t2) (v5 + 1) _ hf kx)
set_option maxRecDepth 20000 in
theorem ctX7_part {g : GT} {ex : Bool} {sh : List Shp} (hx : MSh sh) (h : Hp) (p1 : Int32) (p2 : Int32) (p3 : Int32) (r0 : Int32) (hf : M_part h p1 p2 p3 = some r0) : Ct g mX7_part 2 0 0 ex [.ref (gB g + 140), .int p1, .int p2, .int p3] sh h (PE (some (.int r0)) sh h) := by
  refine Ct.of (L := [some (.ref (gB g + 140)), some (.int p1), some (.int p2), some (.int p3), none, none]) (by decide) (by intro w hw; simp only [List.mem_cons, List.not_mem_nil, or_false] at hw; rcases hw with rfl | rfl | rfl | rfl <;> rfl) (Nat.le_of_ble_eq_true rfl) rfl (fun X mx => ?_)
  have mx0 := mx
  obtain ⟨cx, hR, hml, hrt, -⟩ := mx0
  have cx : Cx g X RX7 cX7_part := cx
  have hrt : X.2.2.2.2.2.2.2.1.sig.returnType = (some .int) := hrt
  have hi4 : 4 < X.2.2.2.2.2.2.2.2.maxLocals := by rw [hml]; exact Nat.le_of_ble_eq_true rfl
  have hi5 : 5 < X.2.2.2.2.2.2.2.2.maxLocals := by rw [hml]; exact Nat.le_of_ble_eq_true rfl
  unfold M_part at hf
  refine PW.iconst (v := 0) cx qX7_part_0 rfl ?_
  refine PW.istore (L' := [some (.ref (gB g + 140)), some (.int p1), some (.int p2), some (.int p3), some (.int 0), none]) cx qX7_part_1 hi4 rfl rfl ?_
  refine PW.iload_n cx qX7_part_3 rfl ?_
  refine PW.istore (L' := [some (.ref (gB g + 140)), some (.int p1), some (.int p2), some (.int p3), some (.int 0), some (.int p2)]) cx qX7_part_4 hi5 rfl rfl ?_
  obtain ⟨r3, er3, hf⟩ := bndO hf sne
  refine PW.locs (Lsub.keep (Lsub.keep (Lsub.keep (Lsub.keep (Lsub.keep (Lsub.keep Lsub.nil)))))) (lX7_part_6 mx hx h p1 p2 p3 FU 0 p2 r3 er3 (fun xx_ e => ?_))
  subst e
  refine PW.iload cx qX7_part_39 rfl ?_
  exact PW.iret cx hrt qX7_part_41 (le_ri hf)
set_option maxRecDepth 20000 in
theorem lX7_bestPattern_39 {g : GT} {X : XT} {ex : Bool} {post : Option Value → List Shp → Hp → Prop} {sh : List Shp} (mx : Mx g X mX7_bestPattern 5 0 0) (hx : MSh sh) (h : Hp) (c1 : Int32) (c3 : Int32) : ∀ (n : Nat) (v2 : Int32) (v4 : Int32) (r : Int32) (hf : M_bestPattern_L39 h c1 c3 n v2 v4 = some r) (kx : ∀ (x2 : Int32), r = x2 → PW g X ex (QE g X ex post 0 0) 0 0 sh h 99 [some (.ref (gB g + 140)), some (.int c1), some (.int x2), some (.int c3), none, none] []), PW g X ex (QE g X ex post 0 0) 0 0 sh h 39 [some (.ref (gB g + 140)), some (.int c1), some (.int v2), some (.int c3), some (.int v4), none] [] := by
  have mx0 := mx
  obtain ⟨cx, hR, hml, hrt, -⟩ := mx0
  have cx : Cx g X RX7 cX7_bestPattern := cx
  have hrt : X.2.2.2.2.2.2.2.1.sig.returnType = (some .int) := hrt
  have hi2 : 2 < X.2.2.2.2.2.2.2.2.maxLocals := by rw [hml]; exact Nat.le_of_ble_eq_true rfl
  have hi3 : 3 < X.2.2.2.2.2.2.2.2.maxLocals := by rw [hml]; exact Nat.le_of_ble_eq_true rfl
  have hi4 : 4 < X.2.2.2.2.2.2.2.2.maxLocals := by rw [hml]; exact Nat.le_of_ble_eq_true rfl
  have hi5 : 5 < X.2.2.2.2.2.2.2.2.maxLocals := by rw [hml]; exact Nat.le_of_ble_eq_true rfl
  intro n
  induction n with
  | zero =>
    intro v2 v4 r hf kx
    cases hf
  | succ n ih =>
    intro v2 v4 r hf kx
    unfold M_bestPattern_L39 at hf
    refine PW.iload cx qX7_bestPattern_39 rfl ?_
    refine PW.iload_n cx qX7_bestPattern_41 rfl ?_
    refine PW.iadd cx qX7_bestPattern_42 ?_
    refine PW.aload_n cx qX7_bestPattern_43 rfl ?_
    refine PW.iload_n cx qX7_bestPattern_44 rfl ?_
    refine PW.iconst (v := 0) cx qX7_bestPattern_45 rfl ?_
    refine PW.callVRI (As := [.int c1, .int 0]) (st := [.int (v4 + c3)]) cx hR qX7_bestPattern_46 klX7_70 mvX7_of (sh_140 hx) rfl rfl rfl rfl (Nat.le_of_ble_eq_true rfl) (Nat.le_of_ble_eq_true rfl) (Nat.le_of_ble_eq_true rfl) (Nat.zero_le _) (Nat.zero_le _) hf sne (fun t e => ctX7_of hx h c1 0 t e) (fun t4 hf => ?_)
    refine PW.callSRI (As := [.int t4]) (st := [.int (v4 + c3)]) cx hR qX7_bestPattern_49 klX7_61 miX7_digits rfl rfl (Nat.le_of_ble_eq_true rfl) (Nat.le_of_ble_eq_true rfl) (Nat.le_of_ble_eq_true rfl) (Nat.zero_le _) (Nat.zero_le _) hf sne (fun t e => ctX7_digits h t4 t e) (fun t5 hf => ?_)
    refine PW.icmp_gt cx qX7_bestPattern_52 hf (fun hf => ?_) (fun hf => ?_)
    · exact PW.locs (Lsub.keep (Lsub.keep (Lsub.keep (Lsub.keep (Lsub.drop (Lsub.drop Lsub.nil)))))) (kx v2 (Option.some.inj hf).symm)
    · refine PW.aload_n cx qX7_bestPattern_55 rfl ?_
      refine PW.iload_n cx qX7_bestPattern_56 rfl ?_
      refine PW.iload cx qX7_bestPattern_57 rfl ?_
      refine PW.iload_n cx qX7_bestPattern_59 rfl ?_
      refine PW.callVRI (As := [.int c1, .int v4, .int c3]) (st := []) cx hR qX7_bestPattern_60 klX7_374 mvX7_part (sh_140 hx) rfl rfl rfl rfl (Nat.le_of_ble_eq_true rfl) (Nat.le_of_ble_eq_true rfl) (Nat.le_of_ble_eq_true rfl) (Nat.zero_le _) (Nat.zero_le _) hf sne (fun t e => ctX7_part hx h c1 v4 c3 t e) (fun t6 hf => ?_)
      refine PW.istore (L' := [some (.ref (gB g + 140)), some (.int c1), some (.int v2), some (.int c3), some (.int v4), some (.int t6)]) cx qX7_bestPattern_63 hi5 rfl rfl ?_
      refine PW.iload_n cx qX7_bestPattern_65 rfl ?_
      refine PW.iconst (v := (-1)) cx qX7_bestPattern_66 rfl ?_
      obtain ⟨j76, ej76, hf⟩ := lt_split hf
      have hj76 : ∀ (u_76 : Unit), j76 u_76 = some r → PW g X ex (QE g X ex post 0 0) 0 0 sh h 76 [some (.ref (gB g + 140)), some (.int c1), some (.int v2), some (.int c3), some (.int v4), some (.int t6)] [] := by
        intro u_76 hf
        rw [ej76] at hf
        refine PW.aload_n cx qX7_bestPattern_76 rfl ?_
        refine PW.iload_n cx qX7_bestPattern_77 rfl ?_
        refine PW.iload cx qX7_bestPattern_78 rfl ?_
        refine PW.callVRB (As := [.int c1, .int t6]) (st := []) cx hR qX7_bestPattern_80 klX7_377 mvX7_isAlone (sh_140 hx) rfl rfl rfl rfl (Nat.le_of_ble_eq_true rfl) (Nat.le_of_ble_eq_true rfl) (Nat.le_of_ble_eq_true rfl) (Nat.zero_le _) (Nat.zero_le _) hf sne (fun t e => ctX7_isAlone hx h c1 t6 t e) (fun t7 hf => ?_)
        refine PW.if_eq cx qX7_bestPattern_83 hf (fun hf => ?_) (fun hf => ?_)
        · refine PW.iload_n cx qX7_bestPattern_91 rfl ?_
          refine PW.istore_n (L' := [some (.ref (gB g + 140)), some (.int c1), some (.int v2), some (.int c3), some (.int v4), some (.int t6)]) cx qX7_bestPattern_92 hi2 rfl rfl ?_
          refine PW.iinc (v := 1) (L' := [some (.ref (gB g + 140)), some (.int c1), some (.int v2), some (.int c3), some (.int (v4 + 1)), some (.int t6)]) cx qX7_bestPattern_93 rfl rfl hi4 rfl rfl ?_
          refine PW.goto cx qX7_bestPattern_96 ?_
          exact PW.locs (Lsub.keep (Lsub.keep (Lsub.keep (Lsub.keep (Lsub.keep (Lsub.drop Lsub.nil)))))) (ih v2 (v4 + 1) _ hf kx)
        · refine PW.iload cx qX7_bestPattern_86 rfl ?_
          refine PW.goto cx qX7_bestPattern_88 ?_
          refine PW.istore_n (L' := [some (.ref (gB g + 140)), some (.int c1), some (.int t6), some (.int c3), some (.int v4), some (.int t6)]) cx qX7_bestPattern_92 hi2 rfl rfl ?_
          refine PW.iinc (v := 1) (L' := [some (.ref (gB g + 140)), some (.int c1), some (.int t6), some (.int c3), some (.int (v4 + 1)), some (.int t6)]) cx qX7_bestPattern_93 rfl rfl hi4 rfl rfl ?_
          refine PW.goto cx qX7_bestPattern_96 ?_
          exact PW.locs (Lsub.keep (Lsub.keep (Lsub.keep (Lsub.keep (Lsub.keep (Lsub.drop Lsub.nil)))))) (ih t6 (v4 + 1) _ hf kx)
      refine PW.icmp_eq cx qX7_bestPattern_67 hf (fun hf => ?_) (fun hf => ?_)
      · exact PW.locs (Lsub.keep (Lsub.keep (Lsub.keep (Lsub.keep (Lsub.keep (Lsub.keep Lsub.nil)))))) (hj76 () hf)
      · refine PW.iload cx qX7_bestPattern_70 rfl ?_
        refine PW.iload_n cx qX7_bestPattern_72 rfl ?_
        refine PW.icmp_ge cx qX7_bestPattern_73 hf (fun hf => ?_) (fun hf => ?_)
        · refine PW.iload_n cx qX7_bestPattern_91 rfl ?_
          refine PW.istore_n (L' := [some (.ref (gB g + 140)), some (.int c1), some (.int v2), some (.int c3), some (.int v4), some (.int t6)]) cx qX7_bestPattern_92 hi2 rfl rfl ?_
          refine PW.iinc (v := 1) (L' := [some (.ref (gB g + 140)), some (.int c1), some (.int v2), some (.int c3), some (.int (v4 + 1)), some (.int t6)]) cx qX7_bestPattern_93 rfl rfl hi4 rfl rfl ?_
          refine PW.goto cx qX7_bestPattern_96 ?_
          exact PW.locs (Lsub.keep (Lsub.keep (Lsub.keep (Lsub.keep (Lsub.keep (Lsub.drop Lsub.nil)))))) (ih v2 (v4 + 1) _ hf kx)
        · exact PW.locs (Lsub.keep (Lsub.keep (Lsub.keep (Lsub.keep (Lsub.keep (Lsub.keep Lsub.nil)))))) (hj76 () hf)
set_option maxRecDepth 20000 in
theorem lX7_bestPattern_26 {g : GT} {X : XT} {ex : Bool} {post : Option Value → List Shp → Hp → Prop} {sh : List Shp} (mx : Mx g X mX7_bestPattern 5 0 0) (hx : MSh sh) (h : Hp) (c1 : Int32) : ∀ (n : Nat) (v2 : Int32) (v3 : Int32) (r : Int32) (hf : M_bestPattern_L26 h c1 n v2 v3 = some r) (kx : ∀ (x2 : Int32), r = x2 → PW g X ex (QE g X ex post 0 0) 0 0 sh h 105 [some (.ref (gB g + 140)), some (.int c1), some (.int x2), none, none, none] []), PW g X ex (QE g X ex post 0 0) 0 0 sh h 26 [some (.ref (gB g + 140)), some (.int c1), some (.int v2), some (.int v3), none, none] [] := by
  have mx0 := mx
  obtain ⟨cx, hR, hml, hrt, -⟩ := mx0
  have cx : Cx g X RX7 cX7_bestPattern := cx
  have hrt : X.2.2.2.2.2.2.2.1.sig.returnType = (some .int) := hrt
  have hi2 : 2 < X.2.2.2.2.2.2.2.2.maxLocals := by rw [hml]; exact Nat.le_of_ble_eq_true rfl
  have hi3 : 3 < X.2.2.2.2.2.2.2.2.maxLocals := by rw [hml]; exact Nat.le_of_ble_eq_true rfl
  have hi4 : 4 < X.2.2.2.2.2.2.2.2.maxLocals := by rw [hml]; exact Nat.le_of_ble_eq_true rfl
  have hi5 : 5 < X.2.2.2.2.2.2.2.2.maxLocals := by rw [hml]; exact Nat.le_of_ble_eq_true rfl
  intro n
  induction n with
  | zero =>
    intro v2 v3 r hf kx
    cases hf
  | succ n ih =>
    intro v2 v3 r hf kx
    unfold M_bestPattern_L26 at hf
    refine PW.iload_n cx qX7_bestPattern_26 rfl ?_
    refine PW.iconst (v := 4) cx qX7_bestPattern_27 rfl ?_
    refine PW.icmp_gt cx qX7_bestPattern_28 hf (fun hf => ?_) (fun hf => ?_)
    · exact PW.locs (Lsub.keep (Lsub.keep (Lsub.keep (Lsub.drop (Lsub.drop (Lsub.drop Lsub.nil)))))) (kx v2 (Option.some.inj hf).symm)
    · refine PW.iload_n cx qX7_bestPattern_31 rfl ?_
      refine PW.iconst (v := (-1)) cx qX7_bestPattern_32 rfl ?_
      refine PW.icmp_ne cx qX7_bestPattern_33 hf (fun hf => ?_) (fun hf => ?_)
      · refine PW.iconst (v := 0) cx qX7_bestPattern_36 rfl ?_
        refine PW.istore (L' := [some (.ref (gB g + 140)), some (.int c1), some (.int v2), some (.int v3), some (.int 0), none]) cx qX7_bestPattern_37 hi4 rfl rfl ?_
        obtain ⟨r8, er8, hf⟩ := bndO hf sne
        refine PW.locs (Lsub.keep (Lsub.keep (Lsub.keep (Lsub.keep (Lsub.keep (Lsub.drop Lsub.nil)))))) (lX7_bestPattern_39 mx hx h c1 v3 FU v2 0 r8 er8 (fun xx_ e => ?_))
        subst e
        refine PW.iinc (v := 1) (L' := [some (.ref (gB g + 140)), some (.int c1), some (.int r8), some (.int (v3 + 1)), none, none]) cx qX7_bestPattern_99 rfl rfl hi3 rfl rfl ?_
        refine PW.goto cx qX7_bestPattern_102 ?_
        exact PW.locs (Lsub.keep (Lsub.keep (Lsub.keep (Lsub.keep (Lsub.drop (Lsub.drop Lsub.nil)))))) (ih r8 (v3 + 1) _ hf kx)
      · exact PW.locs (Lsub.keep (Lsub.keep (Lsub.keep (Lsub.drop (Lsub.drop (Lsub.drop Lsub.nil)))))) (kx v2 (Option.some.inj hf).symm)
set_option maxRecDepth 20000 in
theorem ctX7_bestPattern {g : GT} {ex : Bool} {sh : List Shp} (hx : MSh sh) (h : Hp) (p1 : Int32) (r0 : Int32 × Hp) (hf : M_bestPattern h p1 = some r0) : Ct g mX7_bestPattern 5 0 0 ex [.ref (gB g + 140), .int p1] sh h (PE (some (.int r0.1)) sh r0.2) := by
  refine Ct.of (L := [some (.ref (gB g + 140)), some (.int p1), none, none, none, none]) (by decide) (by intro w hw; simp only [List.mem_cons, List.not_mem_nil, or_false] at hw; rcases hw with rfl | rfl <;> rfl) (Nat.le_of_ble_eq_true rfl) rfl (fun X mx => ?_)
  have mx0 := mx
  obtain ⟨cx, hR, hml, hrt, -⟩ := mx0
  have cx : Cx g X RX7 cX7_bestPattern := cx
  have hrt : X.2.2.2.2.2.2.2.1.sig.returnType = (some .int) := hrt
  have hi2 : 2 < X.2.2.2.2.2.2.2.2.maxLocals := by rw [hml]; exact Nat.le_of_ble_eq_true rfl
  have hi3 : 3 < X.2.2.2.2.2.2.2.2.maxLocals := by rw [hml]; exact Nat.le_of_ble_eq_true rfl
  have hi4 : 4 < X.2.2.2.2.2.2.2.2.maxLocals := by rw [hml]; exact Nat.le_of_ble_eq_true rfl
  have hi5 : 5 < X.2.2.2.2.2.2.2.2.maxLocals := by rw [hml]; exact Nat.le_of_ble_eq_true rfl
  unfold M_bestPattern at hf
  refine PW.aload_n cx qX7_bestPattern_0 rfl ?_
  refine PW.aload_n cx qX7_bestPattern_1 rfl ?_
  refine PW.iload_n cx qX7_bestPattern_2 rfl ?_
  refine PW.callVRB (As := [.int p1]) (st := [.ref (gB g + 140)]) cx hR qX7_bestPattern_3 klX7_334 mvX7_isClip (sh_140 hx) rfl rfl rfl rfl (Nat.le_of_ble_eq_true rfl) (Nat.le_of_ble_eq_true rfl) (Nat.le_of_ble_eq_true rfl) (Nat.zero_le _) (Nat.zero_le _) hf sne (fun t e => ctX7_isClip hx h p1 t e) (fun t1 hf => ?_)
  obtain ⟨j14, ej14, hf⟩ := lt_split hf
  have hj14 : ∀ (z0_14 : Bool), j14 z0_14 = some r0 → PW g X ex (QE g X ex (PE (some (.int r0.1)) sh r0.2) 0 0) 0 0 sh h 14 [some (.ref (gB g + 140)), some (.int p1), none, none, none, none] [.int (b2i z0_14), .ref (gB g + 140)] := by
    intro z0_14 hf
    rw [ej14] at hf
    refine PW.callVWBc (As := [.int (b2i z0_14)]) (st := []) cx hR qX7_bestPattern_14 klX7_319 mvX7_throwsOne (sh_140 hx) rfl rfl rfl rfl (Nat.le_of_ble_eq_true rfl) (Nat.le_of_ble_eq_true rfl) (Nat.le_of_ble_eq_true rfl) (Nat.zero_le _) (Nat.zero_le _) hf sne (fun t e => ctX7_throwsOne hx h z0_14 t e) (fun t2 h3 hf => ?_)
    refine PW.if_eq cx qX7_bestPattern_17 hf (fun hf => ?_) (fun hf => ?_)
    · refine PW.iconst (v := (-1)) cx qX7_bestPattern_22 rfl ?_
      refine PW.istore_n (L' := [some (.ref (gB g + 140)), some (.int p1), some (.int (-1)), none, none, none]) cx qX7_bestPattern_23 hi2 rfl rfl ?_
      refine PW.iconst (v := 1) cx qX7_bestPattern_24 rfl ?_
      refine PW.istore_n (L' := [some (.ref (gB g + 140)), some (.int p1), some (.int (-1)), some (.int 1), none, none]) cx qX7_bestPattern_25 hi3 rfl rfl ?_
      obtain ⟨r9, er9, hf⟩ := bndO hf sne
      refine PW.locs (Lsub.keep (Lsub.keep (Lsub.keep (Lsub.keep (Lsub.drop (Lsub.drop Lsub.nil)))))) (lX7_bestPattern_26 mx hx h3 p1 FU (-1) 1 r9 er9 (fun xx_ e => ?_))
      subst e
      refine PW.iload_n cx qX7_bestPattern_105 rfl ?_
      exact PW.iret cx hrt qX7_bestPattern_106 (le_wi hf)
    · refine PW.iconst (v := 0) cx qX7_bestPattern_20 rfl ?_
      exact PW.iret cx hrt qX7_bestPattern_21 (le_wi hf)
  refine PW.if_ne cx qX7_bestPattern_6 hf (fun hf => ?_) (fun hf => ?_)
  · refine PW.iconst (v := 1) cx qX7_bestPattern_9 rfl ?_
    refine PW.goto cx qX7_bestPattern_10 ?_
    exact PW.locs (Lsub.keep (Lsub.keep (Lsub.drop (Lsub.drop (Lsub.drop (Lsub.drop Lsub.nil)))))) (hj14 true hf)
  · refine PW.iconst (v := 0) cx qX7_bestPattern_13 rfl ?_
    exact PW.locs (Lsub.keep (Lsub.keep (Lsub.drop (Lsub.drop (Lsub.drop (Lsub.drop Lsub.nil)))))) (hj14 false hf)
set_option maxRecDepth 20000 in
theorem ctX7_burnedFat {g : GT} {ex : Bool} {sh : List Shp} (hx : MSh sh) (h : Hp) (r0 : Int32 × Hp) (hf : M_burnedFat h = some r0) : Ct g mX7_burnedFat 1 0 0 ex [.ref (gB g + 140)] sh h (PE (some (.int r0.1)) sh r0.2) := by
  refine Ct.of (L := [some (.ref (gB g + 140))]) (by decide) (by intro w hw; simp only [List.mem_cons, List.not_mem_nil, or_false] at hw; rcases hw with rfl <;> rfl) (Nat.le_of_ble_eq_true rfl) rfl (fun X mx => ?_)
  obtain ⟨cx, hR, hml, hrt, -⟩ := mx
  have cx : Cx g X RX7 cX7_burnedFat := cx
  have hrt : X.2.2.2.2.2.2.2.1.sig.returnType = (some .int) := hrt
  unfold M_burnedFat at hf
  refine PW.aload_n cx qX7_burnedFat_0 rfl ?_
  refine PW.iconst (v := 5) cx qX7_burnedFat_1 rfl ?_
  refine PW.callVWIc (As := [.int 5]) (st := []) cx hR qX7_burnedFat_2 klX7_353 mvX7_told (sh_140 hx) rfl rfl rfl rfl (Nat.le_of_ble_eq_true rfl) (Nat.le_of_ble_eq_true rfl) (Nat.le_of_ble_eq_true rfl) (Nat.zero_le _) (Nat.zero_le _) hf sne (fun t e => ctX7_told hx h 5 t e) (fun t1 h2 hf => ?_)
  exact PW.iret cx hrt qX7_burnedFat_5 (le_wi hf)
set_option maxRecDepth 20000 in
theorem ctX7_wakings {g : GT} {ex : Bool} {sh : List Shp} (hx : MSh sh) (h : Hp) (r0 : Int32 × Hp) (hf : M_wakings h = some r0) : Ct g mX7_wakings 1 0 0 ex [.ref (gB g + 140)] sh h (PE (some (.int r0.1)) sh r0.2) := by
  refine Ct.of (L := [some (.ref (gB g + 140))]) (by decide) (by intro w hw; simp only [List.mem_cons, List.not_mem_nil, or_false] at hw; rcases hw with rfl <;> rfl) (Nat.le_of_ble_eq_true rfl) rfl (fun X mx => ?_)
  obtain ⟨cx, hR, hml, hrt, -⟩ := mx
  have cx : Cx g X RX7 cX7_wakings := cx
  have hrt : X.2.2.2.2.2.2.2.1.sig.returnType = (some .int) := hrt
  unfold M_wakings at hf
  refine PW.aload_n cx qX7_wakings_0 rfl ?_
  refine PW.bipush (v := 7) cx qX7_wakings_1 rfl ?_
  refine PW.callVWIc (As := [.int 7]) (st := []) cx hR qX7_wakings_3 klX7_353 mvX7_told (sh_140 hx) rfl rfl rfl rfl (Nat.le_of_ble_eq_true rfl) (Nat.le_of_ble_eq_true rfl) (Nat.le_of_ble_eq_true rfl) (Nat.zero_le _) (Nat.zero_le _) hf sne (fun t e => ctX7_told hx h 7 t e) (fun t1 h2 hf => ?_)
  exact PW.iret cx hrt qX7_wakings_6 (le_wi hf)
set_option maxRecDepth 20000 in
theorem lX7_setOf_4 {g : GT} {X : XT} {ex : Bool} {post : Option Value → List Shp → Hp → Prop} {sh : List Shp} (mx : Mx g X mX7_setOf 1 0 0) (hx : MSh sh) (h : Hp) (c1 : Int32) : ∀ (n : Nat) (v2 : Int32) (v3 : Int32) (r : Int32) (hf : M_setOf_L4 h c1 n v2 v3 = some r) (kx : ∀ (x2 : Int32), r = x2 → PW g X ex (QE g X ex post 0 0) 0 0 sh h 40 [some (.ref (gB g + 140)), some (.int c1), some (.int x2), none] []), PW g X ex (QE g X ex post 0 0) 0 0 sh h 4 [some (.ref (gB g + 140)), some (.int c1), some (.int v2), some (.int v3)] [] := by
  have mx0 := mx
  obtain ⟨cx, hR, hml, hrt, -⟩ := mx0
  have cx : Cx g X RX7 cX7_setOf := cx
  have hrt : X.2.2.2.2.2.2.2.1.sig.returnType = (some .int) := hrt
  have hi2 : 2 < X.2.2.2.2.2.2.2.2.maxLocals := by rw [hml]; exact Nat.le_of_ble_eq_true rfl
  have hi3 : 3 < X.2.2.2.2.2.2.2.2.maxLocals := by rw [hml]; exact Nat.le_of_ble_eq_true rfl
  intro n
  induction n with
  | zero =>
    intro v2 v3 r hf kx
    cases hf
  | succ n ih =>
    intro v2 v3 r hf kx
    unfold M_setOf_L4 at hf
    refine PW.iload_n cx qX7_setOf_4 rfl ?_
    refine PW.aload_n cx qX7_setOf_5 rfl ?_
    refine PW.getf (t := (2, 141)) (v := .ref (gB g + 141)) cx qX7_setOf_6 (sh_140 hx) rfl flX7_7 rfl ?_
    refine PW.iconst (v := 2) cx qX7_setOf_9 rfl ?_
    refine PW.iald cx qX7_setOf_10 (sh_141 hx) hf sne (fun t1 hf => ?_)
    refine PW.icmp_ge cx qX7_setOf_11 hf (fun hf => ?_) (fun hf => ?_)
    · exact PW.locs (Lsub.keep (Lsub.keep (Lsub.keep (Lsub.drop Lsub.nil)))) (kx v2 (Option.some.inj hf).symm)
    · refine PW.iload_n cx qX7_setOf_14 rfl ?_
      refine PW.aload_n cx qX7_setOf_15 rfl ?_
      refine PW.iload_n cx qX7_setOf_16 rfl ?_
      refine PW.iconst (v := 1) cx qX7_setOf_17 rfl ?_
      refine PW.callVRI (As := [.int v3, .int 1]) (st := [.int v2]) cx hR qX7_setOf_18 klX7_70 mvX7_of (sh_140 hx) rfl rfl rfl rfl (Nat.le_of_ble_eq_true rfl) (Nat.le_of_ble_eq_true rfl) (Nat.le_of_ble_eq_true rfl) (Nat.zero_le _) (Nat.zero_le _) hf sne (fun t e => ctX7_of hx h v3 1 t e) (fun t2 hf => ?_)
      refine PW.iload_n cx qX7_setOf_21 rfl ?_
      refine PW.icmp_ne cx qX7_setOf_22 hf (fun hf => ?_) (fun hf => ?_)
      · refine PW.iconst (v := 1) cx qX7_setOf_25 rfl ?_
        refine PW.iload_n cx qX7_setOf_26 rfl ?_
        refine PW.ishl cx qX7_setOf_27 ?_
        refine PW.goto cx qX7_setOf_28 ?_
        refine PW.ior cx qX7_setOf_32 ?_
        refine PW.istore_n (L' := [some (.ref (gB g + 140)), some (.int c1), some (.int (v2 ||| (1 <<< (v3 &&& 31)))), some (.int v3)]) cx qX7_setOf_33 hi2 rfl rfl ?_
        refine PW.iinc (v := 1) (L' := [some (.ref (gB g + 140)), some (.int c1), some (.int (v2 ||| (1 <<< (v3 &&& 31)))), some (.int (v3 + 1))]) cx qX7_setOf_34 rfl rfl hi3 rfl rfl ?_
        refine PW.goto cx qX7_setOf_37 ?_
        exact PW.locs (Lsub.keep (Lsub.keep (Lsub.keep (Lsub.keep Lsub.nil)))) (ih (v2 ||| (1 <<< (v3 &&& 31))) (v3 + 1) _ hf kx)
      · refine PW.iconst (v := 0) cx qX7_setOf_31 rfl ?_
        refine PW.ior cx qX7_setOf_32 ?_
        refine PW.istore_n (L' := [some (.ref (gB g + 140)), some (.int c1), some (.int (v2 ||| 0)), some (.int v3)]) cx qX7_setOf_33 hi2 rfl rfl ?_
        refine PW.iinc (v := 1) (L' := [some (.ref (gB g + 140)), some (.int c1), some (.int (v2 ||| 0)), some (.int (v3 + 1))]) cx qX7_setOf_34 rfl rfl hi3 rfl rfl ?_
        refine PW.goto cx qX7_setOf_37 ?_
        exact PW.locs (Lsub.keep (Lsub.keep (Lsub.keep (Lsub.keep Lsub.nil)))) (ih (v2 ||| 0) (v3 + 1) _ hf kx)
set_option maxRecDepth 20000 in
theorem ctX7_setOf {g : GT} {ex : Bool} {sh : List Shp} (hx : MSh sh) (h : Hp) (p1 : Int32) (r0 : Int32) (hf : M_setOf h p1 = some r0) : Ct g mX7_setOf 1 0 0 ex [.ref (gB g + 140), .int p1] sh h (PE (some (.int r0)) sh h) := by
  refine Ct.of (L := [some (.ref (gB g + 140)), some (.int p1), none, none]) (by decide) (by intro w hw; simp only [List.mem_cons, List.not_mem_nil, or_false] at hw; rcases hw with rfl | rfl <;> rfl) (Nat.le_of_ble_eq_true rfl) rfl (fun X mx => ?_)
  have mx0 := mx
  obtain ⟨cx, hR, hml, hrt, -⟩ := mx0
  have cx : Cx g X RX7 cX7_setOf := cx
  have hrt : X.2.2.2.2.2.2.2.1.sig.returnType = (some .int) := hrt
  have hi2 : 2 < X.2.2.2.2.2.2.2.2.maxLocals := by rw [hml]; exact Nat.le_of_ble_eq_true rfl
  have hi3 : 3 < X.2.2.2.2.2.2.2.2.maxLocals := by rw [hml]; exact Nat.le_of_ble_eq_true rfl
  unfold M_setOf at hf
  refine PW.iconst (v := 0) cx qX7_setOf_0 rfl ?_
  refine PW.istore_n (L' := [some (.ref (gB g + 140)), some (.int p1), some (.int 0), none]) cx qX7_setOf_1 hi2 rfl rfl ?_
  refine PW.iconst (v := 0) cx qX7_setOf_2 rfl ?_
  refine PW.istore_n (L' := [some (.ref (gB g + 140)), some (.int p1), some (.int 0), some (.int 0)]) cx qX7_setOf_3 hi3 rfl rfl ?_
  obtain ⟨r3, er3, hf⟩ := bndO hf sne
  refine PW.locs (Lsub.keep (Lsub.keep (Lsub.keep (Lsub.keep Lsub.nil)))) (lX7_setOf_4 mx hx h p1 FU 0 0 r3 er3 (fun xx_ e => ?_))
  subst e
  refine PW.iload_n cx qX7_setOf_40 rfl ?_
  exact PW.iret cx hrt qX7_setOf_41 (le_ri hf)
set_option maxRecDepth 20000 in
theorem lX7_manyOf_4 {g : GT} {X : XT} {ex : Bool} {post : Option Value → List Shp → Hp → Prop} {sh : List Shp} (mx : Mx g X mX7_manyOf 1 0 0) (hx : MSh sh) (h : Hp) (c1 : Int32) : ∀ (n : Nat) (v2 : Int32) (v3 : Int32) (r : Int32) (hf : M_manyOf_L4 h c1 n v2 v3 = some r) (kx : ∀ (x2 : Int32), r = x2 → PW g X ex (QE g X ex post 0 0) 0 0 sh h 38 [some (.ref (gB g + 140)), some (.int c1), some (.int x2), none] []), PW g X ex (QE g X ex post 0 0) 0 0 sh h 4 [some (.ref (gB g + 140)), some (.int c1), some (.int v2), some (.int v3)] [] := by
  have mx0 := mx
  obtain ⟨cx, hR, hml, hrt, -⟩ := mx0
  have cx : Cx g X RX7 cX7_manyOf := cx
  have hrt : X.2.2.2.2.2.2.2.1.sig.returnType = (some .int) := hrt
  have hi2 : 2 < X.2.2.2.2.2.2.2.2.maxLocals := by rw [hml]; exact Nat.le_of_ble_eq_true rfl
  have hi3 : 3 < X.2.2.2.2.2.2.2.2.maxLocals := by rw [hml]; exact Nat.le_of_ble_eq_true rfl
  intro n
  induction n with
  | zero =>
    intro v2 v3 r hf kx
    cases hf
  | succ n ih =>
    intro v2 v3 r hf kx
    unfold M_manyOf_L4 at hf
    refine PW.iload_n cx qX7_manyOf_4 rfl ?_
    refine PW.aload_n cx qX7_manyOf_5 rfl ?_
    refine PW.getf (t := (2, 141)) (v := .ref (gB g + 141)) cx qX7_manyOf_6 (sh_140 hx) rfl flX7_7 rfl ?_
    refine PW.iconst (v := 2) cx qX7_manyOf_9 rfl ?_
    refine PW.iald cx qX7_manyOf_10 (sh_141 hx) hf sne (fun t1 hf => ?_)
    refine PW.icmp_ge cx qX7_manyOf_11 hf (fun hf => ?_) (fun hf => ?_)
    · exact PW.locs (Lsub.keep (Lsub.keep (Lsub.keep (Lsub.drop Lsub.nil)))) (kx v2 (Option.some.inj hf).symm)
    · refine PW.iload_n cx qX7_manyOf_14 rfl ?_
      refine PW.aload_n cx qX7_manyOf_15 rfl ?_
      refine PW.iload_n cx qX7_manyOf_16 rfl ?_
      refine PW.iconst (v := 1) cx qX7_manyOf_17 rfl ?_
      refine PW.callVRI (As := [.int v3, .int 1]) (st := [.int v2]) cx hR qX7_manyOf_18 klX7_70 mvX7_of (sh_140 hx) rfl rfl rfl rfl (Nat.le_of_ble_eq_true rfl) (Nat.le_of_ble_eq_true rfl) (Nat.le_of_ble_eq_true rfl) (Nat.zero_le _) (Nat.zero_le _) hf sne (fun t e => ctX7_of hx h v3 1 t e) (fun t2 hf => ?_)
      refine PW.iload_n cx qX7_manyOf_21 rfl ?_
      refine PW.icmp_ne cx qX7_manyOf_22 hf (fun hf => ?_) (fun hf => ?_)
      · refine PW.iconst (v := 1) cx qX7_manyOf_25 rfl ?_
        refine PW.goto cx qX7_manyOf_26 ?_
        refine PW.iadd cx qX7_manyOf_30 ?_
        refine PW.istore_n (L' := [some (.ref (gB g + 140)), some (.int c1), some (.int (v2 + 1)), some (.int v3)]) cx qX7_manyOf_31 hi2 rfl rfl ?_
        refine PW.iinc (v := 1) (L' := [some (.ref (gB g + 140)), some (.int c1), some (.int (v2 + 1)), some (.int (v3 + 1))]) cx qX7_manyOf_32 rfl rfl hi3 rfl rfl ?_
        refine PW.goto cx qX7_manyOf_35 ?_
        exact PW.locs (Lsub.keep (Lsub.keep (Lsub.keep (Lsub.keep Lsub.nil)))) (ih (v2 + 1) (v3 + 1) _ hf kx)
      · refine PW.iconst (v := 0) cx qX7_manyOf_29 rfl ?_
        refine PW.iadd cx qX7_manyOf_30 ?_
        refine PW.istore_n (L' := [some (.ref (gB g + 140)), some (.int c1), some (.int (v2 + 0)), some (.int v3)]) cx qX7_manyOf_31 hi2 rfl rfl ?_
        refine PW.iinc (v := 1) (L' := [some (.ref (gB g + 140)), some (.int c1), some (.int (v2 + 0)), some (.int (v3 + 1))]) cx qX7_manyOf_32 rfl rfl hi3 rfl rfl ?_
        refine PW.goto cx qX7_manyOf_35 ?_
        exact PW.locs (Lsub.keep (Lsub.keep (Lsub.keep (Lsub.keep Lsub.nil)))) (ih (v2 + 0) (v3 + 1) _ hf kx)
set_option maxRecDepth 20000 in
theorem ctX7_manyOf {g : GT} {ex : Bool} {sh : List Shp} (hx : MSh sh) (h : Hp) (p1 : Int32) (r0 : Int32) (hf : M_manyOf h p1 = some r0) : Ct g mX7_manyOf 1 0 0 ex [.ref (gB g + 140), .int p1] sh h (PE (some (.int r0)) sh h) := by
  refine Ct.of (L := [some (.ref (gB g + 140)), some (.int p1), none, none]) (by decide) (by intro w hw; simp only [List.mem_cons, List.not_mem_nil, or_false] at hw; rcases hw with rfl | rfl <;> rfl) (Nat.le_of_ble_eq_true rfl) rfl (fun X mx => ?_)
  have mx0 := mx
  obtain ⟨cx, hR, hml, hrt, -⟩ := mx0
  have cx : Cx g X RX7 cX7_manyOf := cx
  have hrt : X.2.2.2.2.2.2.2.1.sig.returnType = (some .int) := hrt
  have hi2 : 2 < X.2.2.2.2.2.2.2.2.maxLocals := by rw [hml]; exact Nat.le_of_ble_eq_true rfl
  have hi3 : 3 < X.2.2.2.2.2.2.2.2.maxLocals := by rw [hml]; exact Nat.le_of_ble_eq_true rfl
  unfold M_manyOf at hf
  refine PW.iconst (v := 0) cx qX7_manyOf_0 rfl ?_
  refine PW.istore_n (L' := [some (.ref (gB g + 140)), some (.int p1), some (.int 0), none]) cx qX7_manyOf_1 hi2 rfl rfl ?_
  refine PW.iconst (v := 0) cx qX7_manyOf_2 rfl ?_
  refine PW.istore_n (L' := [some (.ref (gB g + 140)), some (.int p1), some (.int 0), some (.int 0)]) cx qX7_manyOf_3 hi3 rfl rfl ?_
  obtain ⟨r3, er3, hf⟩ := bndO hf sne
  refine PW.locs (Lsub.keep (Lsub.keep (Lsub.keep (Lsub.keep Lsub.nil)))) (lX7_manyOf_4 mx hx h p1 FU 0 0 r3 er3 (fun xx_ e => ?_))
  subst e
  refine PW.iload_n cx qX7_manyOf_38 rfl ?_
  exact PW.iret cx hrt qX7_manyOf_39 (le_ri hf)
set_option maxRecDepth 20000 in
theorem ctX7_fadedClips {g : GT} {ex : Bool} {sh : List Shp} (hx : MSh sh) (h : Hp) (r0 : Int32 × Hp) (hf : M_fadedClips h = some r0) : Ct g mX7_fadedClips 2 0 0 ex [.ref (gB g + 140)] sh h (PE (some (.int r0.1)) sh r0.2) := by
  refine Ct.of (L := [some (.ref (gB g + 140))]) (by decide) (by intro w hw; simp only [List.mem_cons, List.not_mem_nil, or_false] at hw; rcases hw with rfl <;> rfl) (Nat.le_of_ble_eq_true rfl) rfl (fun X mx => ?_)
  obtain ⟨cx, hR, hml, hrt, -⟩ := mx
  have cx : Cx g X RX7 cX7_fadedClips := cx
  have hrt : X.2.2.2.2.2.2.2.1.sig.returnType = (some .int) := hrt
  unfold M_fadedClips at hf
  refine PW.aload_n cx qX7_fadedClips_0 rfl ?_
  refine PW.iconst (v := 0) cx qX7_fadedClips_1 rfl ?_
  refine PW.putiN cx qX7_fadedClips_2 (sh_140 hx) rfl fpX7_54 hf (fun h1 hf => ?_)
  refine PW.aload_n cx qX7_fadedClips_5 rfl ?_
  refine PW.iconst (v := 2) cx qX7_fadedClips_6 rfl ?_
  refine PW.callVRI (As := [.int 2]) (st := []) cx hR qX7_fadedClips_7 klX7_380 mvX7_setOf (sh_140 hx) rfl rfl rfl rfl (Nat.le_of_ble_eq_true rfl) (Nat.le_of_ble_eq_true rfl) (Nat.le_of_ble_eq_true rfl) (Nat.zero_le _) (Nat.zero_le _) hf sne (fun t e => ctX7_setOf hx h1 2 t e) (fun t2 hf => ?_)
  exact PW.iret cx hrt qX7_fadedClips_10 (le_wi hf)
set_option maxRecDepth 20000 in
theorem lX7_allFat_4 {g : GT} {X : XT} {ex : Bool} {post : Option Value → List Shp → Hp → Prop} {sh : List Shp} (mx : Mx g X mX7_allFat 1 0 0) (hx : MSh sh) (h : Hp) : ∀ (n : Nat) (v1 : Int32) (v2 : Int32) (r : Int32) (hf : M_allFat_L4 h n v1 v2 = some r) (kx : ∀ (x1 : Int32), r = x1 → PW g X ex (QE g X ex post 0 0) 0 0 sh h 29 [some (.ref (gB g + 140)), some (.int x1), none] []), PW g X ex (QE g X ex post 0 0) 0 0 sh h 4 [some (.ref (gB g + 140)), some (.int v1), some (.int v2)] [] := by
  have mx0 := mx
  obtain ⟨cx, hR, hml, hrt, -⟩ := mx0
  have cx : Cx g X RX7 cX7_allFat := cx
  have hrt : X.2.2.2.2.2.2.2.1.sig.returnType = (some .int) := hrt
  have hi1 : 1 < X.2.2.2.2.2.2.2.2.maxLocals := by rw [hml]; exact Nat.le_of_ble_eq_true rfl
  have hi2 : 2 < X.2.2.2.2.2.2.2.2.maxLocals := by rw [hml]; exact Nat.le_of_ble_eq_true rfl
  intro n
  induction n with
  | zero =>
    intro v1 v2 r hf kx
    cases hf
  | succ n ih =>
    intro v1 v2 r hf kx
    unfold M_allFat_L4 at hf
    refine PW.iload_n cx qX7_allFat_4 rfl ?_
    refine PW.aload_n cx qX7_allFat_5 rfl ?_
    refine PW.getf (t := (2, 141)) (v := .ref (gB g + 141)) cx qX7_allFat_6 (sh_140 hx) rfl flX7_7 rfl ?_
    refine PW.iconst (v := 2) cx qX7_allFat_9 rfl ?_
    refine PW.iald cx qX7_allFat_10 (sh_141 hx) hf sne (fun t1 hf => ?_)
    refine PW.icmp_ge cx qX7_allFat_11 hf (fun hf => ?_) (fun hf => ?_)
    · exact PW.locs (Lsub.keep (Lsub.keep (Lsub.drop Lsub.nil))) (kx v1 (Option.some.inj hf).symm)
    · refine PW.iload_n cx qX7_allFat_14 rfl ?_
      refine PW.aload_n cx qX7_allFat_15 rfl ?_
      refine PW.iload_n cx qX7_allFat_16 rfl ?_
      refine PW.iconst (v := 2) cx qX7_allFat_17 rfl ?_
      refine PW.callVRI (As := [.int v2, .int 2]) (st := [.int v1]) cx hR qX7_allFat_18 klX7_70 mvX7_of (sh_140 hx) rfl rfl rfl rfl (Nat.le_of_ble_eq_true rfl) (Nat.le_of_ble_eq_true rfl) (Nat.le_of_ble_eq_true rfl) (Nat.zero_le _) (Nat.zero_le _) hf sne (fun t e => ctX7_of hx h v2 2 t e) (fun t2 hf => ?_)
      refine PW.iadd cx qX7_allFat_21 ?_
      refine PW.istore_n (L' := [some (.ref (gB g + 140)), some (.int (v1 + t2)), some (.int v2)]) cx qX7_allFat_22 hi1 rfl rfl ?_
      refine PW.iinc (v := 1) (L' := [some (.ref (gB g + 140)), some (.int (v1 + t2)), some (.int (v2 + 1))]) cx qX7_allFat_23 rfl rfl hi2 rfl rfl ?_
      refine PW.goto cx qX7_allFat_26 ?_
      exact PW.locs (Lsub.keep (Lsub.keep (Lsub.keep Lsub.nil))) (ih (v1 + t2) (v2 + 1) _ hf kx)
set_option maxRecDepth 20000 in
theorem ctX7_allFat {g : GT} {ex : Bool} {sh : List Shp} (hx : MSh sh) (h : Hp) (r0 : Int32) (hf : M_allFat h = some r0) : Ct g mX7_allFat 1 0 0 ex [.ref (gB g + 140)] sh h (PE (some (.int r0)) sh h) := by
  refine Ct.of (L := [some (.ref (gB g + 140)), none, none]) (by decide) (by intro w hw; simp only [List.mem_cons, List.not_mem_nil, or_false] at hw; rcases hw with rfl <;> rfl) (Nat.le_of_ble_eq_true rfl) rfl (fun X mx => ?_)
  have mx0 := mx
  obtain ⟨cx, hR, hml, hrt, -⟩ := mx0
  have cx : Cx g X RX7 cX7_allFat := cx
  have hrt : X.2.2.2.2.2.2.2.1.sig.returnType = (some .int) := hrt
  have hi1 : 1 < X.2.2.2.2.2.2.2.2.maxLocals := by rw [hml]; exact Nat.le_of_ble_eq_true rfl
  have hi2 : 2 < X.2.2.2.2.2.2.2.2.maxLocals := by rw [hml]; exact Nat.le_of_ble_eq_true rfl
  unfold M_allFat at hf
  refine PW.iconst (v := 0) cx qX7_allFat_0 rfl ?_
  refine PW.istore_n (L' := [some (.ref (gB g + 140)), some (.int 0), none]) cx qX7_allFat_1 hi1 rfl rfl ?_
  refine PW.iconst (v := 0) cx qX7_allFat_2 rfl ?_
  refine PW.istore_n (L' := [some (.ref (gB g + 140)), some (.int 0), some (.int 0)]) cx qX7_allFat_3 hi2 rfl rfl ?_
  obtain ⟨r3, er3, hf⟩ := bndO hf sne
  refine PW.locs (Lsub.keep (Lsub.keep (Lsub.keep Lsub.nil))) (lX7_allFat_4 mx hx h FU 0 0 r3 er3 (fun xx_ e => ?_))
  subst e
  refine PW.iload_n cx qX7_allFat_29 rfl ?_
  exact PW.iret cx hrt qX7_allFat_30 (le_ri hf)
set_option maxRecDepth 20000 in
theorem ctX7_meanFat {g : GT} {ex : Bool} {sh : List Shp} (hx : MSh sh) (h : Hp) (r0 : UInt64 × Hp) (hf : M_meanFat h = some r0) : Ct g mX7_meanFat 2 0 0 ex [.ref (gB g + 140)] sh h (PE (some (.double r0.1)) sh r0.2) := by
  refine Ct.of (L := [some (.ref (gB g + 140)), none]) (by decide) (by intro w hw; simp only [List.mem_cons, List.not_mem_nil, or_false] at hw; rcases hw with rfl <;> rfl) (Nat.le_of_ble_eq_true rfl) rfl (fun X mx => ?_)
  obtain ⟨cx, hR, hml, hrt, -⟩ := mx
  have cx : Cx g X RX7 cX7_meanFat := cx
  have hrt : X.2.2.2.2.2.2.2.1.sig.returnType = (some .double) := hrt
  have hi1 : 1 < X.2.2.2.2.2.2.2.2.maxLocals := by rw [hml]; exact Nat.le_of_ble_eq_true rfl
  unfold M_meanFat at hf
  refine PW.aload_n cx qX7_meanFat_0 rfl ?_
  refine PW.iconst (v := 0) cx qX7_meanFat_1 rfl ?_
  refine PW.putiN cx qX7_meanFat_2 (sh_140 hx) rfl fpX7_54 hf (fun h1 hf => ?_)
  refine PW.aload_n cx qX7_meanFat_5 rfl ?_
  refine PW.getf (t := (2, 141)) (v := .ref (gB g + 141)) cx qX7_meanFat_6 (sh_140 hx) rfl flX7_7 rfl ?_
  refine PW.iconst (v := 2) cx qX7_meanFat_9 rfl ?_
  refine PW.iald cx qX7_meanFat_10 (sh_141 hx) hf sne (fun t2 hf => ?_)
  refine PW.aload_n cx qX7_meanFat_11 rfl ?_
  refine PW.iconst (v := 2) cx qX7_meanFat_12 rfl ?_
  refine PW.callVRI (As := [.int 2]) (st := [.int t2]) cx hR qX7_meanFat_13 klX7_383 mvX7_manyOf (sh_140 hx) rfl rfl rfl rfl (Nat.le_of_ble_eq_true rfl) (Nat.le_of_ble_eq_true rfl) (Nat.le_of_ble_eq_true rfl) (Nat.zero_le _) (Nat.zero_le _) hf sne (fun t e => ctX7_manyOf hx h1 2 t e) (fun t3 hf => ?_)
  refine PW.isub cx qX7_meanFat_16 ?_
  refine PW.istore_n (L' := [some (.ref (gB g + 140)), some (.int (t2 - t3))]) cx qX7_meanFat_17 hi1 rfl rfl ?_
  refine PW.iload_n cx qX7_meanFat_18 rfl ?_
  refine PW.if_ne cx qX7_meanFat_19 hf (fun hf => ?_) (fun hf => ?_)
  · refine PW.dconst0 cx qX7_meanFat_22 ?_
    refine PW.goto cx qX7_meanFat_23 ?_
    exact PW.dret cx hrt qX7_meanFat_34 (le_wd hf)
  · refine PW.aload_n cx qX7_meanFat_26 rfl ?_
    refine PW.callVRI (As := []) (st := []) cx hR qX7_meanFat_27 klX7_386 mvX7_allFat (sh_140 hx) rfl rfl rfl rfl (Nat.le_of_ble_eq_true rfl) (Nat.le_of_ble_eq_true rfl) (Nat.le_of_ble_eq_true rfl) (Nat.zero_le _) (Nat.zero_le _) hf sne (fun t e => ctX7_allFat hx h1 t e) (fun t4 hf => ?_)
    refine PW.i2d cx qX7_meanFat_30 ?_
    refine PW.iload_n cx qX7_meanFat_31 rfl ?_
    refine PW.i2d cx qX7_meanFat_32 ?_
    refine PW.ddiv cx qX7_meanFat_33 hf sne (fun t5 hf => ?_)
    exact PW.dret cx hrt qX7_meanFat_34 (le_wd hf)
set_option maxRecDepth 20000 in
theorem ctX7_sleepShare {g : GT} {ex : Bool} {sh : List Shp} (hx : MSh sh) (h : Hp) (r0 : UInt32 × Hp) (hf : M_sleepShare h = some r0) : Ct g mX7_sleepShare 2 0 0 ex [.ref (gB g + 140)] sh h (PE (some (.float r0.1)) sh r0.2) := by
  refine Ct.of (L := [some (.ref (gB g + 140))]) (by decide) (by intro w hw; simp only [List.mem_cons, List.not_mem_nil, or_false] at hw; rcases hw with rfl <;> rfl) (Nat.le_of_ble_eq_true rfl) rfl (fun X mx => ?_)
  obtain ⟨cx, hR, hml, hrt, -⟩ := mx
  have cx : Cx g X RX7 cX7_sleepShare := cx
  have hrt : X.2.2.2.2.2.2.2.1.sig.returnType = (some .float) := hrt
  unfold M_sleepShare at hf
  refine PW.aload_n cx qX7_sleepShare_0 rfl ?_
  refine PW.iconst (v := 0) cx qX7_sleepShare_1 rfl ?_
  refine PW.putiN cx qX7_sleepShare_2 (sh_140 hx) rfl fpX7_54 hf (fun h1 hf => ?_)
  refine PW.aload_n cx qX7_sleepShare_5 rfl ?_
  refine PW.getf (t := (2, 141)) (v := .ref (gB g + 141)) cx qX7_sleepShare_6 (sh_140 hx) rfl flX7_7 rfl ?_
  refine PW.iconst (v := 2) cx qX7_sleepShare_9 rfl ?_
  refine PW.iald cx qX7_sleepShare_10 (sh_141 hx) hf sne (fun t2 hf => ?_)
  refine PW.if_ne cx qX7_sleepShare_11 hf (fun hf => ?_) (fun hf => ?_)
  · refine PW.fconst0 cx qX7_sleepShare_14 ?_
    refine PW.goto cx qX7_sleepShare_15 ?_
    exact PW.fret cx hrt qX7_sleepShare_32 (le_wf hf)
  · refine PW.aload_n cx qX7_sleepShare_18 rfl ?_
    refine PW.iconst (v := 1) cx qX7_sleepShare_19 rfl ?_
    refine PW.callVRI (As := [.int 1]) (st := []) cx hR qX7_sleepShare_20 klX7_383 mvX7_manyOf (sh_140 hx) rfl rfl rfl rfl (Nat.le_of_ble_eq_true rfl) (Nat.le_of_ble_eq_true rfl) (Nat.le_of_ble_eq_true rfl) (Nat.zero_le _) (Nat.zero_le _) hf sne (fun t e => ctX7_manyOf hx h1 1 t e) (fun t3 hf => ?_)
    refine PW.i2f cx qX7_sleepShare_23 ?_
    refine PW.aload_n cx qX7_sleepShare_24 rfl ?_
    refine PW.getf (t := (2, 141)) (v := .ref (gB g + 141)) cx qX7_sleepShare_25 (sh_140 hx) rfl flX7_7 rfl ?_
    refine PW.iconst (v := 2) cx qX7_sleepShare_28 rfl ?_
    refine PW.iald cx qX7_sleepShare_29 (sh_141 hx) hf sne (fun t4 hf => ?_)
    refine PW.i2f cx qX7_sleepShare_30 ?_
    refine PW.fdiv cx qX7_sleepShare_31 hf sne (fun t5 hf => ?_)
    exact PW.fret cx hrt qX7_sleepShare_32 (le_wf hf)
set_option maxRecDepth 20000 in
theorem lX7_bedsWith_17 {g : GT} {X : XT} {ex : Bool} {post : Option Value → List Shp → Hp → Prop} {sh : List Shp} (mx : Mx g X mX7_bedsWith 1 0 0) (hx : MSh sh) (h : Hp) (c1 : Int32) (c3 : Int32) : ∀ (n : Nat) (v2 : Int32) (v4 : Int32) (r : Int32) (hf : M_bedsWith_L17 h c1 c3 n v2 v4 = some r) (kx : ∀ (x2 : Int32), r = x2 → PW g X ex (QE g X ex post 0 0) 0 0 sh h 52 [some (.ref (gB g + 140)), some (.int c1), some (.int x2), some (.int c3), none] []), PW g X ex (QE g X ex post 0 0) 0 0 sh h 17 [some (.ref (gB g + 140)), some (.int c1), some (.int v2), some (.int c3), some (.int v4)] [] := by
  have mx0 := mx
  obtain ⟨cx, hR, hml, hrt, -⟩ := mx0
  have cx : Cx g X RX7 cX7_bedsWith := cx
  have hrt : X.2.2.2.2.2.2.2.1.sig.returnType = (some .int) := hrt
  have hi2 : 2 < X.2.2.2.2.2.2.2.2.maxLocals := by rw [hml]; exact Nat.le_of_ble_eq_true rfl
  have hi3 : 3 < X.2.2.2.2.2.2.2.2.maxLocals := by rw [hml]; exact Nat.le_of_ble_eq_true rfl
  have hi4 : 4 < X.2.2.2.2.2.2.2.2.maxLocals := by rw [hml]; exact Nat.le_of_ble_eq_true rfl
  intro n
  induction n with
  | zero =>
    intro v2 v4 r hf kx
    cases hf
  | succ n ih =>
    intro v2 v4 r hf kx
    unfold M_bedsWith_L17 at hf
    refine PW.iload cx qX7_bedsWith_17 rfl ?_
    refine PW.aload_n cx qX7_bedsWith_19 rfl ?_
    refine PW.iload_n cx qX7_bedsWith_20 rfl ?_
    refine PW.callVRI (As := [.int c3]) (st := [.int v4]) cx hR qX7_bedsWith_21 klX7_92 mvX7_beds (sh_140 hx) rfl rfl rfl rfl (Nat.le_of_ble_eq_true rfl) (Nat.le_of_ble_eq_true rfl) (Nat.le_of_ble_eq_true rfl) (Nat.zero_le _) (Nat.zero_le _) hf sne (fun t e => ctX7_beds hx h c3 t e) (fun t2 hf => ?_)
    refine PW.icmp_ge cx qX7_bedsWith_24 hf (fun hf => ?_) (fun hf => ?_)
    · exact PW.locs (Lsub.keep (Lsub.keep (Lsub.keep (Lsub.keep (Lsub.drop Lsub.nil))))) (kx v2 (Option.some.inj hf).symm)
    · refine PW.iload_n cx qX7_bedsWith_27 rfl ?_
      refine PW.aload_n cx qX7_bedsWith_28 rfl ?_
      refine PW.iload_n cx qX7_bedsWith_29 rfl ?_
      refine PW.iload cx qX7_bedsWith_30 rfl ?_
      refine PW.callVRI (As := [.int c3, .int v4]) (st := [.int v2]) cx hR qX7_bedsWith_32 klX7_102 mvX7_inBed (sh_140 hx) rfl rfl rfl rfl (Nat.le_of_ble_eq_true rfl) (Nat.le_of_ble_eq_true rfl) (Nat.le_of_ble_eq_true rfl) (Nat.zero_le _) (Nat.zero_le _) hf sne (fun t e => ctX7_inBed hx h c3 v4 t e) (fun t3 hf => ?_)
      refine PW.iload_n cx qX7_bedsWith_35 rfl ?_
      refine PW.icmp_ne cx qX7_bedsWith_36 hf (fun hf => ?_) (fun hf => ?_)
      · refine PW.iconst (v := 1) cx qX7_bedsWith_39 rfl ?_
        refine PW.goto cx qX7_bedsWith_40 ?_
        refine PW.iadd cx qX7_bedsWith_44 ?_
        refine PW.istore_n (L' := [some (.ref (gB g + 140)), some (.int c1), some (.int (v2 + 1)), some (.int c3), some (.int v4)]) cx qX7_bedsWith_45 hi2 rfl rfl ?_
        refine PW.iinc (v := 1) (L' := [some (.ref (gB g + 140)), some (.int c1), some (.int (v2 + 1)), some (.int c3), some (.int (v4 + 1))]) cx qX7_bedsWith_46 rfl rfl hi4 rfl rfl ?_
        refine PW.goto cx qX7_bedsWith_49 ?_
        exact PW.locs (Lsub.keep (Lsub.keep (Lsub.keep (Lsub.keep (Lsub.keep Lsub.nil))))) (ih (v2 + 1) (v4 + 1) _ hf kx)
      · refine PW.iconst (v := 0) cx qX7_bedsWith_43 rfl ?_
        refine PW.iadd cx qX7_bedsWith_44 ?_
        refine PW.istore_n (L' := [some (.ref (gB g + 140)), some (.int c1), some (.int (v2 + 0)), some (.int c3), some (.int v4)]) cx qX7_bedsWith_45 hi2 rfl rfl ?_
        refine PW.iinc (v := 1) (L' := [some (.ref (gB g + 140)), some (.int c1), some (.int (v2 + 0)), some (.int c3), some (.int (v4 + 1))]) cx qX7_bedsWith_46 rfl rfl hi4 rfl rfl ?_
        refine PW.goto cx qX7_bedsWith_49 ?_
        exact PW.locs (Lsub.keep (Lsub.keep (Lsub.keep (Lsub.keep (Lsub.keep Lsub.nil))))) (ih (v2 + 0) (v4 + 1) _ hf kx)
set_option maxRecDepth 20000 in
theorem lX7_bedsWith_4 {g : GT} {X : XT} {ex : Bool} {post : Option Value → List Shp → Hp → Prop} {sh : List Shp} (mx : Mx g X mX7_bedsWith 1 0 0) (hx : MSh sh) (h : Hp) (c1 : Int32) : ∀ (n : Nat) (v2 : Int32) (v3 : Int32) (r : Int32) (hf : M_bedsWith_L4 h c1 n v2 v3 = some r) (kx : ∀ (x2 : Int32), r = x2 → PW g X ex (QE g X ex post 0 0) 0 0 sh h 58 [some (.ref (gB g + 140)), some (.int c1), some (.int x2), none, none] []), PW g X ex (QE g X ex post 0 0) 0 0 sh h 4 [some (.ref (gB g + 140)), some (.int c1), some (.int v2), some (.int v3), none] [] := by
  have mx0 := mx
  obtain ⟨cx, hR, hml, hrt, -⟩ := mx0
  have cx : Cx g X RX7 cX7_bedsWith := cx
  have hrt : X.2.2.2.2.2.2.2.1.sig.returnType = (some .int) := hrt
  have hi2 : 2 < X.2.2.2.2.2.2.2.2.maxLocals := by rw [hml]; exact Nat.le_of_ble_eq_true rfl
  have hi3 : 3 < X.2.2.2.2.2.2.2.2.maxLocals := by rw [hml]; exact Nat.le_of_ble_eq_true rfl
  have hi4 : 4 < X.2.2.2.2.2.2.2.2.maxLocals := by rw [hml]; exact Nat.le_of_ble_eq_true rfl
  intro n
  induction n with
  | zero =>
    intro v2 v3 r hf kx
    cases hf
  | succ n ih =>
    intro v2 v3 r hf kx
    unfold M_bedsWith_L4 at hf
    refine PW.iload_n cx qX7_bedsWith_4 rfl ?_
    refine PW.aload_n cx qX7_bedsWith_5 rfl ?_
    refine PW.getf (t := (2, 141)) (v := .ref (gB g + 141)) cx qX7_bedsWith_6 (sh_140 hx) rfl flX7_7 rfl ?_
    refine PW.iconst (v := 3) cx qX7_bedsWith_9 rfl ?_
    refine PW.iald cx qX7_bedsWith_10 (sh_141 hx) hf sne (fun t1 hf => ?_)
    refine PW.icmp_ge cx qX7_bedsWith_11 hf (fun hf => ?_) (fun hf => ?_)
    · exact PW.locs (Lsub.keep (Lsub.keep (Lsub.keep (Lsub.drop (Lsub.drop Lsub.nil))))) (kx v2 (Option.some.inj hf).symm)
    · refine PW.iconst (v := 0) cx qX7_bedsWith_14 rfl ?_
      refine PW.istore (L' := [some (.ref (gB g + 140)), some (.int c1), some (.int v2), some (.int v3), some (.int 0)]) cx qX7_bedsWith_15 hi4 rfl rfl ?_
      obtain ⟨r4, er4, hf⟩ := bndO hf sne
      refine PW.locs (Lsub.keep (Lsub.keep (Lsub.keep (Lsub.keep (Lsub.keep Lsub.nil))))) (lX7_bedsWith_17 mx hx h c1 v3 FU v2 0 r4 er4 (fun xx_ e => ?_))
      subst e
      refine PW.iinc (v := 1) (L' := [some (.ref (gB g + 140)), some (.int c1), some (.int r4), some (.int (v3 + 1)), none]) cx qX7_bedsWith_52 rfl rfl hi3 rfl rfl ?_
      refine PW.goto cx qX7_bedsWith_55 ?_
      exact PW.locs (Lsub.keep (Lsub.keep (Lsub.keep (Lsub.keep (Lsub.drop Lsub.nil))))) (ih r4 (v3 + 1) _ hf kx)
set_option maxRecDepth 20000 in
theorem ctX7_bedsWith {g : GT} {ex : Bool} {sh : List Shp} (hx : MSh sh) (h : Hp) (p1 : Int32) (r0 : Int32) (hf : M_bedsWith h p1 = some r0) : Ct g mX7_bedsWith 1 0 0 ex [.ref (gB g + 140), .int p1] sh h (PE (some (.int r0)) sh h) := by
  refine Ct.of (L := [some (.ref (gB g + 140)), some (.int p1), none, none, none]) (by decide) (by intro w hw; simp only [List.mem_cons, List.not_mem_nil, or_false] at hw; rcases hw with rfl | rfl <;> rfl) (Nat.le_of_ble_eq_true rfl) rfl (fun X mx => ?_)
  have mx0 := mx
  obtain ⟨cx, hR, hml, hrt, -⟩ := mx0
  have cx : Cx g X RX7 cX7_bedsWith := cx
  have hrt : X.2.2.2.2.2.2.2.1.sig.returnType = (some .int) := hrt
  have hi2 : 2 < X.2.2.2.2.2.2.2.2.maxLocals := by rw [hml]; exact Nat.le_of_ble_eq_true rfl
  have hi3 : 3 < X.2.2.2.2.2.2.2.2.maxLocals := by rw [hml]; exact Nat.le_of_ble_eq_true rfl
  have hi4 : 4 < X.2.2.2.2.2.2.2.2.maxLocals := by rw [hml]; exact Nat.le_of_ble_eq_true rfl
  unfold M_bedsWith at hf
  refine PW.iconst (v := 0) cx qX7_bedsWith_0 rfl ?_
  refine PW.istore_n (L' := [some (.ref (gB g + 140)), some (.int p1), some (.int 0), none, none]) cx qX7_bedsWith_1 hi2 rfl rfl ?_
  refine PW.iconst (v := 0) cx qX7_bedsWith_2 rfl ?_
  refine PW.istore_n (L' := [some (.ref (gB g + 140)), some (.int p1), some (.int 0), some (.int 0), none]) cx qX7_bedsWith_3 hi3 rfl rfl ?_
  obtain ⟨r5, er5, hf⟩ := bndO hf sne
  refine PW.locs (Lsub.keep (Lsub.keep (Lsub.keep (Lsub.keep (Lsub.drop Lsub.nil))))) (lX7_bedsWith_4 mx hx h p1 FU 0 0 r5 er5 (fun xx_ e => ?_))
  subst e
  refine PW.iload_n cx qX7_bedsWith_58 rfl ?_
  exact PW.iret cx hrt qX7_bedsWith_59 (le_ri hf)
set_option maxRecDepth 20000 in
theorem ctX7_isLost {g : GT} {ex : Bool} {sh : List Shp} (hx : MSh sh) (h : Hp) (p1 : Int32) (r0 : Bool) (hf : M_isLost h p1 = some r0) : Ct g mX7_isLost 6 0 0 ex [.ref (gB g + 140), .int p1] sh h (PE (some (.int (b2i r0))) sh h) := by
  refine Ct.of (L := [some (.ref (gB g + 140)), some (.int p1), none]) (by decide) (by intro w hw; simp only [List.mem_cons, List.not_mem_nil, or_false] at hw; rcases hw with rfl | rfl <;> rfl) (Nat.le_of_ble_eq_true rfl) rfl (fun X mx => ?_)
  obtain ⟨cx, hR, hml, hrt, -⟩ := mx
  have cx : Cx g X RX7 cX7_isLost := cx
  have hrt : X.2.2.2.2.2.2.2.1.sig.returnType = (some .boolean) := hrt
  have hi2 : 2 < X.2.2.2.2.2.2.2.2.maxLocals := by rw [hml]; exact Nat.le_of_ble_eq_true rfl
  unfold M_isLost at hf
  refine PW.aload_n cx qX7_isLost_0 rfl ?_
  refine PW.iload_n cx qX7_isLost_1 rfl ?_
  refine PW.callVRI (As := [.int p1]) (st := []) cx hR qX7_isLost_2 klX7_389 mvX7_bedsWith (sh_140 hx) rfl rfl rfl rfl (Nat.le_of_ble_eq_true rfl) (Nat.le_of_ble_eq_true rfl) (Nat.le_of_ble_eq_true rfl) (Nat.zero_le _) (Nat.zero_le _) hf sne (fun t e => ctX7_bedsWith hx h p1 t e) (fun t1 hf => ?_)
  refine PW.iconst (v := 1) cx qX7_isLost_5 rfl ?_
  refine PW.icmp_eq cx qX7_isLost_6 hf (fun hf => ?_) (fun hf => ?_)
  · refine PW.aload_n cx qX7_isLost_11 rfl ?_
    refine PW.iload_n cx qX7_isLost_12 rfl ?_
    refine PW.callVRI (As := [.int p1]) (st := []) cx hR qX7_isLost_13 klX7_124 mvX7_reelWith (sh_140 hx) rfl rfl rfl rfl (Nat.le_of_ble_eq_true rfl) (Nat.le_of_ble_eq_true rfl) (Nat.le_of_ble_eq_true rfl) (Nat.zero_le _) (Nat.zero_le _) hf sne (fun t e => ctX7_reelWith hx h p1 t e) (fun t2 hf => ?_)
    refine PW.istore_n (L' := [some (.ref (gB g + 140)), some (.int p1), some (.int t2)]) cx qX7_isLost_16 hi2 rfl rfl ?_
    refine PW.aload_n cx qX7_isLost_17 rfl ?_
    refine PW.iload_n cx qX7_isLost_18 rfl ?_
    refine PW.aload_n cx qX7_isLost_19 rfl ?_
    refine PW.iload_n cx qX7_isLost_20 rfl ?_
    refine PW.iload_n cx qX7_isLost_21 rfl ?_
    refine PW.aload_n cx qX7_isLost_22 rfl ?_
    refine PW.iload_n cx qX7_isLost_23 rfl ?_
    refine PW.iload_n cx qX7_isLost_24 rfl ?_
    refine PW.callVRI (As := [.int p1, .int t2]) (st := [.int t2, .int p1, .ref (gB g + 140), .int t2, .ref (gB g + 140)]) cx hR qX7_isLost_25 klX7_114 mvX7_looks (sh_140 hx) rfl rfl rfl rfl (Nat.le_of_ble_eq_true rfl) (Nat.le_of_ble_eq_true rfl) (Nat.le_of_ble_eq_true rfl) (Nat.zero_le _) (Nat.zero_le _) hf sne (fun t e => ctX7_looks hx h p1 t2 t e) (fun t3 hf => ?_)
    refine PW.iconst (v := 1) cx qX7_isLost_28 rfl ?_
    refine PW.isub cx qX7_isLost_29 ?_
    refine PW.callVRI (As := [.int p1, .int t2, .int (t3 - 1)]) (st := [.int t2, .ref (gB g + 140)]) cx hR qX7_isLost_30 klX7_98 mvX7_onWay (sh_140 hx) rfl rfl rfl rfl (Nat.le_of_ble_eq_true rfl) (Nat.le_of_ble_eq_true rfl) (Nat.le_of_ble_eq_true rfl) (Nat.zero_le _) (Nat.zero_le _) hf sne (fun t e => ctX7_onWay hx h p1 t2 (t3 - 1) t e) (fun t4 hf => ?_)
    refine PW.callVRI (As := [.int t2, .int t4]) (st := []) cx hR qX7_isLost_33 klX7_102 mvX7_inBed (sh_140 hx) rfl rfl rfl rfl (Nat.le_of_ble_eq_true rfl) (Nat.le_of_ble_eq_true rfl) (Nat.le_of_ble_eq_true rfl) (Nat.zero_le _) (Nat.zero_le _) hf sne (fun t e => ctX7_inBed hx h t2 t4 t e) (fun t5 hf => ?_)
    refine PW.iload_n cx qX7_isLost_36 rfl ?_
    refine PW.icmp_eq cx qX7_isLost_37 hf (fun hf => ?_) (fun hf => ?_)
    · refine PW.iconst (v := 0) cx qX7_isLost_44 rfl ?_
      exact PW.zret cx hrt nb0 qX7_isLost_45 (le_rz hf)
    · refine PW.iconst (v := 1) cx qX7_isLost_40 rfl ?_
      refine PW.goto cx qX7_isLost_41 ?_
      exact PW.zret cx hrt nb1 qX7_isLost_45 (le_rz hf)
  · refine PW.iconst (v := 1) cx qX7_isLost_9 rfl ?_
    exact PW.zret cx hrt nb1 qX7_isLost_10 (le_rz hf)
set_option maxRecDepth 20000 in
theorem lX7_violations_48 {g : GT} {X : XT} {ex : Bool} {post : Option Value → List Shp → Hp → Prop} {sh : List Shp} (mx : Mx g X mX7_violations 7 0 0) (hx : MSh sh) (h : Hp) : ∀ (n : Nat) (v2 : Int32) (v3 : Int32) (r : Int32) (hf : M_violations_L48 h n v2 v3 = some r) (kx : ∀ (x2 : Int32), r = x2 → PW g X ex (QE g X ex post 0 0) 0 0 sh h 98 [some (.ref (gB g + 140)), none, some (.int x2), none] []), PW g X ex (QE g X ex post 0 0) 0 0 sh h 48 [some (.ref (gB g + 140)), none, some (.int v2), some (.int v3)] [] := by
  have mx0 := mx
  obtain ⟨cx, hR, hml, hrt, -⟩ := mx0
  have cx : Cx g X RX7 cX7_violations := cx
  have hrt : X.2.2.2.2.2.2.2.1.sig.returnType = (some .int) := hrt
  have hi1 : 1 < X.2.2.2.2.2.2.2.2.maxLocals := by rw [hml]; exact Nat.le_of_ble_eq_true rfl
  have hi2 : 2 < X.2.2.2.2.2.2.2.2.maxLocals := by rw [hml]; exact Nat.le_of_ble_eq_true rfl
  have hi3 : 3 < X.2.2.2.2.2.2.2.2.maxLocals := by rw [hml]; exact Nat.le_of_ble_eq_true rfl
  intro n
  induction n with
  | zero =>
    intro v2 v3 r hf kx
    cases hf
  | succ n ih =>
    intro v2 v3 r hf kx
    unfold M_violations_L48 at hf
    refine PW.iload_n cx qX7_violations_48 rfl ?_
    refine PW.aload_n cx qX7_violations_49 rfl ?_
    refine PW.getf (t := (2, 141)) (v := .ref (gB g + 141)) cx qX7_violations_50 (sh_140 hx) rfl flX7_7 rfl ?_
    refine PW.iconst (v := 2) cx qX7_violations_53 rfl ?_
    refine PW.iald cx qX7_violations_54 (sh_141 hx) hf sne (fun t6 hf => ?_)
    refine PW.icmp_ge cx qX7_violations_55 hf (fun hf => ?_) (fun hf => ?_)
    · exact PW.locs (Lsub.keep (Lsub.drop (Lsub.keep (Lsub.drop Lsub.nil)))) (kx v2 (Option.some.inj hf).symm)
    · refine PW.iload_n cx qX7_violations_58 rfl ?_
      refine PW.aload_n cx qX7_violations_59 rfl ?_
      refine PW.iload_n cx qX7_violations_60 rfl ?_
      refine PW.iconst (v := 1) cx qX7_violations_61 rfl ?_
      refine PW.callVRI (As := [.int v3, .int 1]) (st := [.int v2]) cx hR qX7_violations_62 klX7_70 mvX7_of (sh_140 hx) rfl rfl rfl rfl (Nat.le_of_ble_eq_true rfl) (Nat.le_of_ble_eq_true rfl) (Nat.le_of_ble_eq_true rfl) (Nat.zero_le _) (Nat.zero_le _) hf sne (fun t e => ctX7_of hx h v3 1 t e) (fun t7 hf => ?_)
      refine PW.iconst (v := 1) cx qX7_violations_65 rfl ?_
      refine PW.icmp_ne cx qX7_violations_66 hf (fun hf => ?_) (fun hf => ?_)
      · refine PW.aload_n cx qX7_violations_69 rfl ?_
        refine PW.iload_n cx qX7_violations_70 rfl ?_
        refine PW.callVRB (As := [.int v3]) (st := [.int v2]) cx hR qX7_violations_71 klX7_392 mvX7_isLost (sh_140 hx) rfl rfl rfl rfl (Nat.le_of_ble_eq_true rfl) (Nat.le_of_ble_eq_true rfl) (Nat.le_of_ble_eq_true rfl) (Nat.zero_le _) (Nat.zero_le _) hf sne (fun t e => ctX7_isLost hx h v3 t e) (fun t8 hf => ?_)
        refine PW.if_eq cx qX7_violations_74 hf (fun hf => ?_) (fun hf => ?_)
        · refine PW.iconst (v := 0) cx qX7_violations_81 rfl ?_
          refine PW.goto cx qX7_violations_82 ?_
          refine PW.iadd cx qX7_violations_90 ?_
          refine PW.istore_n (L' := [some (.ref (gB g + 140)), none, some (.int (v2 + 0)), some (.int v3)]) cx qX7_violations_91 hi2 rfl rfl ?_
          refine PW.iinc (v := 1) (L' := [some (.ref (gB g + 140)), none, some (.int (v2 + 0)), some (.int (v3 + 1))]) cx qX7_violations_92 rfl rfl hi3 rfl rfl ?_
          refine PW.goto cx qX7_violations_95 ?_
          exact PW.locs (Lsub.keep (Lsub.drop (Lsub.keep (Lsub.keep Lsub.nil)))) (ih (v2 + 0) (v3 + 1) _ hf kx)
        · refine PW.iconst (v := 1) cx qX7_violations_77 rfl ?_
          refine PW.goto cx qX7_violations_78 ?_
          refine PW.iadd cx qX7_violations_90 ?_
          refine PW.istore_n (L' := [some (.ref (gB g + 140)), none, some (.int (v2 + 1)), some (.int v3)]) cx qX7_violations_91 hi2 rfl rfl ?_
          refine PW.iinc (v := 1) (L' := [some (.ref (gB g + 140)), none, some (.int (v2 + 1)), some (.int (v3 + 1))]) cx qX7_violations_92 rfl rfl hi3 rfl rfl ?_
          refine PW.goto cx qX7_violations_95 ?_
          exact PW.locs (Lsub.keep (Lsub.drop (Lsub.keep (Lsub.keep Lsub.nil)))) (ih (v2 + 1) (v3 + 1) _ hf kx)
      · refine PW.aload_n cx qX7_violations_85 rfl ?_
        refine PW.iload_n cx qX7_violations_86 rfl ?_
        refine PW.callVRI (As := [.int v3]) (st := [.int v2]) cx hR qX7_violations_87 klX7_389 mvX7_bedsWith (sh_140 hx) rfl rfl rfl rfl (Nat.le_of_ble_eq_true rfl) (Nat.le_of_ble_eq_true rfl) (Nat.le_of_ble_eq_true rfl) (Nat.zero_le _) (Nat.zero_le _) hf sne (fun t e => ctX7_bedsWith hx h v3 t e) (fun t9 hf => ?_)
        refine PW.iadd cx qX7_violations_90 ?_
        refine PW.istore_n (L' := [some (.ref (gB g + 140)), none, some (.int (v2 + t9)), some (.int v3)]) cx qX7_violations_91 hi2 rfl rfl ?_
        refine PW.iinc (v := 1) (L' := [some (.ref (gB g + 140)), none, some (.int (v2 + t9)), some (.int (v3 + 1))]) cx qX7_violations_92 rfl rfl hi3 rfl rfl ?_
        refine PW.goto cx qX7_violations_95 ?_
        exact PW.locs (Lsub.keep (Lsub.drop (Lsub.keep (Lsub.keep Lsub.nil)))) (ih (v2 + t9) (v3 + 1) _ hf kx)
set_option maxRecDepth 20000 in
theorem ctX7_violations {g : GT} {ex : Bool} {sh : List Shp} (hx : MSh sh) (h : Hp) (r0 : Int32 × Hp) (hf : M_violations h = some r0) : Ct g mX7_violations 7 0 0 ex [.ref (gB g + 140)] sh h (PE (some (.int r0.1)) sh r0.2) := by
  refine Ct.of (L := [some (.ref (gB g + 140)), none, none, none]) (by decide) (by intro w hw; simp only [List.mem_cons, List.not_mem_nil, or_false] at hw; rcases hw with rfl <;> rfl) (Nat.le_of_ble_eq_true rfl) rfl (fun X mx => ?_)
  have mx0 := mx
  obtain ⟨cx, hR, hml, hrt, -⟩ := mx0
  have cx : Cx g X RX7 cX7_violations := cx
  have hrt : X.2.2.2.2.2.2.2.1.sig.returnType = (some .int) := hrt
  have hi1 : 1 < X.2.2.2.2.2.2.2.2.maxLocals := by rw [hml]; exact Nat.le_of_ble_eq_true rfl
  have hi2 : 2 < X.2.2.2.2.2.2.2.2.maxLocals := by rw [hml]; exact Nat.le_of_ble_eq_true rfl
  have hi3 : 3 < X.2.2.2.2.2.2.2.2.maxLocals := by rw [hml]; exact Nat.le_of_ble_eq_true rfl
  unfold M_violations at hf
  refine PW.aload_n cx qX7_violations_0 rfl ?_
  refine PW.iconst (v := 0) cx qX7_violations_1 rfl ?_
  refine PW.putiN cx qX7_violations_2 (sh_140 hx) rfl fpX7_54 hf (fun h1 hf => ?_)
  refine PW.bipush (v := 40) cx qX7_violations_5 rfl ?_
  refine PW.aload_n cx qX7_violations_7 rfl ?_
  refine PW.getf (t := (2, 141)) (v := .ref (gB g + 141)) cx qX7_violations_8 (sh_140 hx) rfl flX7_7 rfl ?_
  refine PW.iconst (v := 2) cx qX7_violations_11 rfl ?_
  refine PW.iald cx qX7_violations_12 (sh_141 hx) hf sne (fun t2 hf => ?_)
  refine PW.imul cx qX7_violations_13 ?_
  refine PW.aload_n cx qX7_violations_14 rfl ?_
  refine PW.getf (t := (2, 141)) (v := .ref (gB g + 141)) cx qX7_violations_15 (sh_140 hx) rfl flX7_7 rfl ?_
  refine PW.bipush (v := 6) cx qX7_violations_18 rfl ?_
  refine PW.iald cx qX7_violations_20 (sh_141 hx) hf sne (fun t3 hf => ?_)
  refine PW.iadd cx qX7_violations_21 ?_
  refine PW.aload_n cx qX7_violations_22 rfl ?_
  refine PW.callVRI (As := []) (st := [.int ((40 * t2) + t3)]) cx hR qX7_violations_23 klX7_386 mvX7_allFat (sh_140 hx) rfl rfl rfl rfl (Nat.le_of_ble_eq_true rfl) (Nat.le_of_ble_eq_true rfl) (Nat.le_of_ble_eq_true rfl) (Nat.zero_le _) (Nat.zero_le _) hf sne (fun t e => ctX7_allFat hx h1 t e) (fun t4 hf => ?_)
  refine PW.isub cx qX7_violations_26 ?_
  refine PW.aload_n cx qX7_violations_27 rfl ?_
  refine PW.getf (t := (2, 141)) (v := .ref (gB g + 141)) cx qX7_violations_28 (sh_140 hx) rfl flX7_7 rfl ?_
  refine PW.iconst (v := 5) cx qX7_violations_31 rfl ?_
  refine PW.iald cx qX7_violations_32 (sh_141 hx) hf sne (fun t5 hf => ?_)
  refine PW.isub cx qX7_violations_33 ?_
  refine PW.istore_n (L' := [some (.ref (gB g + 140)), some (.int ((((40 * t2) + t3) - t4) - t5)), none, none]) cx qX7_violations_34 hi1 rfl rfl ?_
  refine PW.iload_n cx qX7_violations_35 rfl ?_
  obtain ⟨j45, ej45, hf⟩ := lt_split hf
  have hj45 : ∀ (z0_45 : Int32), j45 z0_45 = some r0 → PW g X ex (QE g X ex (PE (some (.int r0.1)) sh r0.2) 0 0) 0 0 sh h1 45 [some (.ref (gB g + 140)), none, none, none] [.int z0_45] := by
    intro z0_45 hf
    rw [ej45] at hf
    refine PW.istore_n (L' := [some (.ref (gB g + 140)), none, some (.int z0_45), none]) cx qX7_violations_45 hi2 rfl rfl ?_
    refine PW.iconst (v := 0) cx qX7_violations_46 rfl ?_
    refine PW.istore_n (L' := [some (.ref (gB g + 140)), none, some (.int z0_45), some (.int 0)]) cx qX7_violations_47 hi3 rfl rfl ?_
    obtain ⟨r10, er10, hf⟩ := bndO hf sne
    refine PW.locs (Lsub.keep (Lsub.drop (Lsub.keep (Lsub.keep Lsub.nil)))) (lX7_violations_48 mx hx h1 FU z0_45 0 r10 er10 (fun xx_ e => ?_))
    subst e
    refine PW.iload_n cx qX7_violations_98 rfl ?_
    exact PW.iret cx hrt qX7_violations_99 (le_wi hf)
  refine PW.if_ge cx qX7_violations_36 hf (fun hf => ?_) (fun hf => ?_)
  · refine PW.iload_n cx qX7_violations_44 rfl ?_
    exact PW.locs (Lsub.keep (Lsub.drop (Lsub.drop (Lsub.drop Lsub.nil)))) (hj45 ((((40 * t2) + t3) - t4) - t5) hf)
  · refine PW.iload_n cx qX7_violations_39 rfl ?_
    refine PW.ineg cx qX7_violations_40 ?_
    refine PW.goto cx qX7_violations_41 ?_
    exact PW.locs (Lsub.keep (Lsub.drop (Lsub.drop (Lsub.drop Lsub.nil)))) (hj45 (-((((40 * t2) + t3) - t4) - t5)) hf)
set_option maxRecDepth 20000 in
theorem ctX7_write {g : GT} {ex : Bool} {sh : List Shp} (hx : MSh sh) (h : Hp) (p1 : Int32) (r0 : Hp) (hf : M_write h p1 = some r0) : Ct g mX7_write 0 0 0 ex [.ref (gB g + 140), .int p1] sh h (PE none sh r0) := by
  refine Ct.of (L := [some (.ref (gB g + 140)), some (.int p1)]) (by decide) (by intro w hw; simp only [List.mem_cons, List.not_mem_nil, or_false] at hw; rcases hw with rfl | rfl <;> rfl) (Nat.le_of_ble_eq_true rfl) rfl (fun X mx => ?_)
  obtain ⟨cx, hR, hml, hrt, -⟩ := mx
  have cx : Cx g X RX7 cX7_write := cx
  have hrt : X.2.2.2.2.2.2.2.1.sig.returnType = none := hrt
  unfold M_write at hf
  refine PW.aload_n cx qX7_write_0 rfl ?_
  refine PW.getf (t := (2, 148)) (v := .ref (gB g + 148)) cx qX7_write_1 (sh_140 hx) rfl flX7_35 rfl ?_
  refine PW.aload_n cx qX7_write_4 rfl ?_
  refine PW.getf (t := (0, 0)) (v := .int (rd h 140 14)) cx qX7_write_5 (sh_140 hx) rfl flX7_395 rfl ?_
  refine PW.iload_n cx qX7_write_8 rfl ?_
  refine PW.i2c cx qX7_write_9 ?_
  refine PW.cast cx qX7_write_10 (sh_148 hx) hf sne (fun h1 hf => ?_)
  refine PW.aload_n cx qX7_write_11 rfl ?_
  refine PW.dup cx qX7_write_12 rfl ?_
  refine PW.getf (t := (0, 0)) (v := .int (rd h1 140 14)) cx qX7_write_13 (sh_140 hx) rfl flX7_395 rfl ?_
  refine PW.iconst (v := 1) cx qX7_write_16 rfl ?_
  refine PW.iadd cx qX7_write_17 ?_
  refine PW.putiN cx qX7_write_18 (sh_140 hx) rfl fpX7_395 hf (fun h2 hf => ?_)
  exact PW.vret cx hrt qX7_write_21 (le_wv hf)
set_option maxRecDepth 20000 in
theorem ctX7_writeNumber_0 {g : GT} {ex : Bool} {sh : List Shp} (hx : MSh sh) (h : Hp) (p1 : Int32) (r0 : Hp) (hf : M_writeNumber_0 h p1 = some r0) : Ct g mX7_writeNumber 1 0 0 ex [.ref (gB g + 140), .int p1] sh h (PE none sh r0) := by
  refine Ct.of (L := [some (.ref (gB g + 140)), some (.int p1)]) (by decide) (by intro w hw; simp only [List.mem_cons, List.not_mem_nil, or_false] at hw; rcases hw with rfl | rfl <;> rfl) (Nat.le_of_ble_eq_true rfl) rfl (fun X mx => ?_)
  obtain ⟨cx, hR, hml, hrt, -⟩ := mx
  have cx : Cx g X RX7 cX7_writeNumber := cx
  have hrt : X.2.2.2.2.2.2.2.1.sig.returnType = none := hrt
  unfold M_writeNumber_0 at hf
  refine PW.iload_n cx qX7_writeNumber_0 rfl ?_
  refine PW.bipush (v := 9) cx qX7_writeNumber_1 rfl ?_
  refine PW.icmp_le cx qX7_writeNumber_3 hf (fun hf => ?_) (fun hf => ?_)
  · refine PW.aload_n cx qX7_writeNumber_14 rfl ?_
    refine PW.bipush (v := 48) cx qX7_writeNumber_15 rfl ?_
    refine PW.iload_n cx qX7_writeNumber_17 rfl ?_
    refine PW.bipush (v := 10) cx qX7_writeNumber_18 rfl ?_
    refine PW.iremK cx qX7_writeNumber_20 (by decide) ?_
    refine PW.iadd cx qX7_writeNumber_21 ?_
    refine PW.callVWV (As := [.int (48 + (p1 - p1 / 10 * 10))]) (st := []) cx hR qX7_writeNumber_22 klX7_401 mvX7_write (sh_140 hx) rfl rfl rfl rfl (Nat.le_of_ble_eq_true rfl) (Nat.le_of_ble_eq_true rfl) (Nat.le_of_ble_eq_true rfl) (Nat.zero_le _) (Nat.zero_le _) hf sne (fun t e => ctX7_write hx h (48 + (p1 - p1 / 10 * 10)) t e) (fun h2 hf => ?_)
    exact PW.vret cx hrt qX7_writeNumber_25 (le_wv hf)
  · refine PW.aload_n cx qX7_writeNumber_6 rfl ?_
    refine PW.iload_n cx qX7_writeNumber_7 rfl ?_
    refine PW.bipush (v := 10) cx qX7_writeNumber_8 rfl ?_
    refine PW.idivK cx qX7_writeNumber_10 (by decide) ?_
    cases hf
set_option maxRecDepth 20000 in
theorem ctX7_writeNumber_1 {g : GT} {ex : Bool} {sh : List Shp} (hx : MSh sh) (h : Hp) (p1 : Int32) (r0 : Hp) (hf : M_writeNumber_1 h p1 = some r0) : Ct g mX7_writeNumber 2 0 0 ex [.ref (gB g + 140), .int p1] sh h (PE none sh r0) := by
  refine Ct.of (L := [some (.ref (gB g + 140)), some (.int p1)]) (by decide) (by intro w hw; simp only [List.mem_cons, List.not_mem_nil, or_false] at hw; rcases hw with rfl | rfl <;> rfl) (Nat.le_of_ble_eq_true rfl) rfl (fun X mx => ?_)
  obtain ⟨cx, hR, hml, hrt, -⟩ := mx
  have cx : Cx g X RX7 cX7_writeNumber := cx
  have hrt : X.2.2.2.2.2.2.2.1.sig.returnType = none := hrt
  unfold M_writeNumber_1 at hf
  refine PW.iload_n cx qX7_writeNumber_0 rfl ?_
  refine PW.bipush (v := 9) cx qX7_writeNumber_1 rfl ?_
  obtain ⟨j14, ej14, hf⟩ := lt_split hf
  have hj14 : ∀ (h_14 : Hp), j14 h_14 = some r0 → PW g X ex (QE g X ex (PE none sh r0) 0 0) 0 0 sh h_14 14 [some (.ref (gB g + 140)), some (.int p1)] [] := by
    intro h_14 hf
    rw [ej14] at hf
    refine PW.aload_n cx qX7_writeNumber_14 rfl ?_
    refine PW.bipush (v := 48) cx qX7_writeNumber_15 rfl ?_
    refine PW.iload_n cx qX7_writeNumber_17 rfl ?_
    refine PW.bipush (v := 10) cx qX7_writeNumber_18 rfl ?_
    refine PW.iremK cx qX7_writeNumber_20 (by decide) ?_
    refine PW.iadd cx qX7_writeNumber_21 ?_
    refine PW.callVWV (As := [.int (48 + (p1 - p1 / 10 * 10))]) (st := []) cx hR qX7_writeNumber_22 klX7_401 mvX7_write (sh_140 hx) rfl rfl rfl rfl (Nat.le_of_ble_eq_true rfl) (Nat.le_of_ble_eq_true rfl) (Nat.le_of_ble_eq_true rfl) (Nat.zero_le _) (Nat.zero_le _) hf sne (fun t e => ctX7_write hx h_14 (48 + (p1 - p1 / 10 * 10)) t e) (fun h2 hf => ?_)
    exact PW.vret cx hrt qX7_writeNumber_25 (le_wv hf)
  refine PW.icmp_le cx qX7_writeNumber_3 hf (fun hf => ?_) (fun hf => ?_)
  · exact PW.locs (Lsub.keep (Lsub.keep Lsub.nil)) (hj14 h hf)
  · refine PW.aload_n cx qX7_writeNumber_6 rfl ?_
    refine PW.iload_n cx qX7_writeNumber_7 rfl ?_
    refine PW.bipush (v := 10) cx qX7_writeNumber_8 rfl ?_
    refine PW.idivK cx qX7_writeNumber_10 (by decide) ?_
    refine PW.callVWV (As := [.int (p1 / 10)]) (st := []) cx hR qX7_writeNumber_11 klX7_398 mvX7_writeNumber (sh_140 hx) rfl rfl rfl rfl (Nat.le_of_ble_eq_true rfl) (Nat.le_of_ble_eq_true rfl) (Nat.le_of_ble_eq_true rfl) (Nat.zero_le _) (Nat.zero_le _) hf sne (fun t e => ctX7_writeNumber_0 hx h (p1 / 10) t e) (fun h4 hf => ?_)
    exact PW.locs (Lsub.keep (Lsub.keep Lsub.nil)) (hj14 h4 hf)
set_option maxRecDepth 20000 in
theorem ctX7_writeNumber_2 {g : GT} {ex : Bool} {sh : List Shp} (hx : MSh sh) (h : Hp) (p1 : Int32) (r0 : Hp) (hf : M_writeNumber_2 h p1 = some r0) : Ct g mX7_writeNumber 3 0 0 ex [.ref (gB g + 140), .int p1] sh h (PE none sh r0) := by
  refine Ct.of (L := [some (.ref (gB g + 140)), some (.int p1)]) (by decide) (by intro w hw; simp only [List.mem_cons, List.not_mem_nil, or_false] at hw; rcases hw with rfl | rfl <;> rfl) (Nat.le_of_ble_eq_true rfl) rfl (fun X mx => ?_)
  obtain ⟨cx, hR, hml, hrt, -⟩ := mx
  have cx : Cx g X RX7 cX7_writeNumber := cx
  have hrt : X.2.2.2.2.2.2.2.1.sig.returnType = none := hrt
  unfold M_writeNumber_2 at hf
  refine PW.iload_n cx qX7_writeNumber_0 rfl ?_
  refine PW.bipush (v := 9) cx qX7_writeNumber_1 rfl ?_
  obtain ⟨j14, ej14, hf⟩ := lt_split hf
  have hj14 : ∀ (h_14 : Hp), j14 h_14 = some r0 → PW g X ex (QE g X ex (PE none sh r0) 0 0) 0 0 sh h_14 14 [some (.ref (gB g + 140)), some (.int p1)] [] := by
    intro h_14 hf
    rw [ej14] at hf
    refine PW.aload_n cx qX7_writeNumber_14 rfl ?_
    refine PW.bipush (v := 48) cx qX7_writeNumber_15 rfl ?_
    refine PW.iload_n cx qX7_writeNumber_17 rfl ?_
    refine PW.bipush (v := 10) cx qX7_writeNumber_18 rfl ?_
    refine PW.iremK cx qX7_writeNumber_20 (by decide) ?_
    refine PW.iadd cx qX7_writeNumber_21 ?_
    refine PW.callVWV (As := [.int (48 + (p1 - p1 / 10 * 10))]) (st := []) cx hR qX7_writeNumber_22 klX7_401 mvX7_write (sh_140 hx) rfl rfl rfl rfl (Nat.le_of_ble_eq_true rfl) (Nat.le_of_ble_eq_true rfl) (Nat.le_of_ble_eq_true rfl) (Nat.zero_le _) (Nat.zero_le _) hf sne (fun t e => ctX7_write hx h_14 (48 + (p1 - p1 / 10 * 10)) t e) (fun h2 hf => ?_)
    exact PW.vret cx hrt qX7_writeNumber_25 (le_wv hf)
  refine PW.icmp_le cx qX7_writeNumber_3 hf (fun hf => ?_) (fun hf => ?_)
  · exact PW.locs (Lsub.keep (Lsub.keep Lsub.nil)) (hj14 h hf)
  · refine PW.aload_n cx qX7_writeNumber_6 rfl ?_
    refine PW.iload_n cx qX7_writeNumber_7 rfl ?_
    refine PW.bipush (v := 10) cx qX7_writeNumber_8 rfl ?_
    refine PW.idivK cx qX7_writeNumber_10 (by decide) ?_
    refine PW.callVWV (As := [.int (p1 / 10)]) (st := []) cx hR qX7_writeNumber_11 klX7_398 mvX7_writeNumber (sh_140 hx) rfl rfl rfl rfl (Nat.le_of_ble_eq_true rfl) (Nat.le_of_ble_eq_true rfl) (Nat.le_of_ble_eq_true rfl) (Nat.zero_le _) (Nat.zero_le _) hf sne (fun t e => ctX7_writeNumber_1 hx h (p1 / 10) t e) (fun h4 hf => ?_)
    exact PW.locs (Lsub.keep (Lsub.keep Lsub.nil)) (hj14 h4 hf)
set_option maxRecDepth 20000 in
theorem ctX7_writeNumber_3 {g : GT} {ex : Bool} {sh : List Shp} (hx : MSh sh) (h : Hp) (p1 : Int32) (r0 : Hp) (hf : M_writeNumber_3 h p1 = some r0) : Ct g mX7_writeNumber 4 0 0 ex [.ref (gB g + 140), .int p1] sh h (PE none sh r0) := by
  refine Ct.of (L := [some (.ref (gB g + 140)), some (.int p1)]) (by decide) (by intro w hw; simp only [List.mem_cons, List.not_mem_nil, or_false] at hw; rcases hw with rfl | rfl <;> rfl) (Nat.le_of_ble_eq_true rfl) rfl (fun X mx => ?_)
  obtain ⟨cx, hR, hml, hrt, -⟩ := mx
  have cx : Cx g X RX7 cX7_writeNumber := cx
  have hrt : X.2.2.2.2.2.2.2.1.sig.returnType = none := hrt
  unfold M_writeNumber_3 at hf
  refine PW.iload_n cx qX7_writeNumber_0 rfl ?_
  refine PW.bipush (v := 9) cx qX7_writeNumber_1 rfl ?_
  obtain ⟨j14, ej14, hf⟩ := lt_split hf
  have hj14 : ∀ (h_14 : Hp), j14 h_14 = some r0 → PW g X ex (QE g X ex (PE none sh r0) 0 0) 0 0 sh h_14 14 [some (.ref (gB g + 140)), some (.int p1)] [] := by
    intro h_14 hf
    rw [ej14] at hf
    refine PW.aload_n cx qX7_writeNumber_14 rfl ?_
    refine PW.bipush (v := 48) cx qX7_writeNumber_15 rfl ?_
    refine PW.iload_n cx qX7_writeNumber_17 rfl ?_
    refine PW.bipush (v := 10) cx qX7_writeNumber_18 rfl ?_
    refine PW.iremK cx qX7_writeNumber_20 (by decide) ?_
    refine PW.iadd cx qX7_writeNumber_21 ?_
    refine PW.callVWV (As := [.int (48 + (p1 - p1 / 10 * 10))]) (st := []) cx hR qX7_writeNumber_22 klX7_401 mvX7_write (sh_140 hx) rfl rfl rfl rfl (Nat.le_of_ble_eq_true rfl) (Nat.le_of_ble_eq_true rfl) (Nat.le_of_ble_eq_true rfl) (Nat.zero_le _) (Nat.zero_le _) hf sne (fun t e => ctX7_write hx h_14 (48 + (p1 - p1 / 10 * 10)) t e) (fun h2 hf => ?_)
    exact PW.vret cx hrt qX7_writeNumber_25 (le_wv hf)
  refine PW.icmp_le cx qX7_writeNumber_3 hf (fun hf => ?_) (fun hf => ?_)
  · exact PW.locs (Lsub.keep (Lsub.keep Lsub.nil)) (hj14 h hf)
  · refine PW.aload_n cx qX7_writeNumber_6 rfl ?_
    refine PW.iload_n cx qX7_writeNumber_7 rfl ?_
    refine PW.bipush (v := 10) cx qX7_writeNumber_8 rfl ?_
    refine PW.idivK cx qX7_writeNumber_10 (by decide) ?_
    refine PW.callVWV (As := [.int (p1 / 10)]) (st := []) cx hR qX7_writeNumber_11 klX7_398 mvX7_writeNumber (sh_140 hx) rfl rfl rfl rfl (Nat.le_of_ble_eq_true rfl) (Nat.le_of_ble_eq_true rfl) (Nat.le_of_ble_eq_true rfl) (Nat.zero_le _) (Nat.zero_le _) hf sne (fun t e => ctX7_writeNumber_2 hx h (p1 / 10) t e) (fun h4 hf => ?_)
    exact PW.locs (Lsub.keep (Lsub.keep Lsub.nil)) (hj14 h4 hf)
set_option maxRecDepth 20000 in
theorem ctX7_writeNumber_4 {g : GT} {ex : Bool} {sh : List Shp} (hx : MSh sh) (h : Hp) (p1 : Int32) (r0 : Hp) (hf : M_writeNumber_4 h p1 = some r0) : Ct g mX7_writeNumber 5 0 0 ex [.ref (gB g + 140), .int p1] sh h (PE none sh r0) := by
  refine Ct.of (L := [some (.ref (gB g + 140)), some (.int p1)]) (by decide) (by intro w hw; simp only [List.mem_cons, List.not_mem_nil, or_false] at hw; rcases hw with rfl | rfl <;> rfl) (Nat.le_of_ble_eq_true rfl) rfl (fun X mx => ?_)
  obtain ⟨cx, hR, hml, hrt, -⟩ := mx
  have cx : Cx g X RX7 cX7_writeNumber := cx
  have hrt : X.2.2.2.2.2.2.2.1.sig.returnType = none := hrt
  unfold M_writeNumber_4 at hf
  refine PW.iload_n cx qX7_writeNumber_0 rfl ?_
  refine PW.bipush (v := 9) cx qX7_writeNumber_1 rfl ?_
  obtain ⟨j14, ej14, hf⟩ := lt_split hf
  have hj14 : ∀ (h_14 : Hp), j14 h_14 = some r0 → PW g X ex (QE g X ex (PE none sh r0) 0 0) 0 0 sh h_14 14 [some (.ref (gB g + 140)), some (.int p1)] [] := by
    intro h_14 hf
    rw [ej14] at hf
    refine PW.aload_n cx qX7_writeNumber_14 rfl ?_
    refine PW.bipush (v := 48) cx qX7_writeNumber_15 rfl ?_
    refine PW.iload_n cx qX7_writeNumber_17 rfl ?_
    refine PW.bipush (v := 10) cx qX7_writeNumber_18 rfl ?_
    refine PW.iremK cx qX7_writeNumber_20 (by decide) ?_
    refine PW.iadd cx qX7_writeNumber_21 ?_
    refine PW.callVWV (As := [.int (48 + (p1 - p1 / 10 * 10))]) (st := []) cx hR qX7_writeNumber_22 klX7_401 mvX7_write (sh_140 hx) rfl rfl rfl rfl (Nat.le_of_ble_eq_true rfl) (Nat.le_of_ble_eq_true rfl) (Nat.le_of_ble_eq_true rfl) (Nat.zero_le _) (Nat.zero_le _) hf sne (fun t e => ctX7_write hx h_14 (48 + (p1 - p1 / 10 * 10)) t e) (fun h2 hf => ?_)
    exact PW.vret cx hrt qX7_writeNumber_25 (le_wv hf)
  refine PW.icmp_le cx qX7_writeNumber_3 hf (fun hf => ?_) (fun hf => ?_)
  · exact PW.locs (Lsub.keep (Lsub.keep Lsub.nil)) (hj14 h hf)
  · refine PW.aload_n cx qX7_writeNumber_6 rfl ?_
    refine PW.iload_n cx qX7_writeNumber_7 rfl ?_
    refine PW.bipush (v := 10) cx qX7_writeNumber_8 rfl ?_
    refine PW.idivK cx qX7_writeNumber_10 (by decide) ?_
    refine PW.callVWV (As := [.int (p1 / 10)]) (st := []) cx hR qX7_writeNumber_11 klX7_398 mvX7_writeNumber (sh_140 hx) rfl rfl rfl rfl (Nat.le_of_ble_eq_true rfl) (Nat.le_of_ble_eq_true rfl) (Nat.le_of_ble_eq_true rfl) (Nat.zero_le _) (Nat.zero_le _) hf sne (fun t e => ctX7_writeNumber_3 hx h (p1 / 10) t e) (fun h4 hf => ?_)
    exact PW.locs (Lsub.keep (Lsub.keep Lsub.nil)) (hj14 h4 hf)
set_option maxRecDepth 20000 in
theorem ctX7_writeNumber_5 {g : GT} {ex : Bool} {sh : List Shp} (hx : MSh sh) (h : Hp) (p1 : Int32) (r0 : Hp) (hf : M_writeNumber_5 h p1 = some r0) : Ct g mX7_writeNumber 6 0 0 ex [.ref (gB g + 140), .int p1] sh h (PE none sh r0) := by
  refine Ct.of (L := [some (.ref (gB g + 140)), some (.int p1)]) (by decide) (by intro w hw; simp only [List.mem_cons, List.not_mem_nil, or_false] at hw; rcases hw with rfl | rfl <;> rfl) (Nat.le_of_ble_eq_true rfl) rfl (fun X mx => ?_)
  obtain ⟨cx, hR, hml, hrt, -⟩ := mx
  have cx : Cx g X RX7 cX7_writeNumber := cx
  have hrt : X.2.2.2.2.2.2.2.1.sig.returnType = none := hrt
  unfold M_writeNumber_5 at hf
  refine PW.iload_n cx qX7_writeNumber_0 rfl ?_
  refine PW.bipush (v := 9) cx qX7_writeNumber_1 rfl ?_
  obtain ⟨j14, ej14, hf⟩ := lt_split hf
  have hj14 : ∀ (h_14 : Hp), j14 h_14 = some r0 → PW g X ex (QE g X ex (PE none sh r0) 0 0) 0 0 sh h_14 14 [some (.ref (gB g + 140)), some (.int p1)] [] := by
    intro h_14 hf
    rw [ej14] at hf
    refine PW.aload_n cx qX7_writeNumber_14 rfl ?_
    refine PW.bipush (v := 48) cx qX7_writeNumber_15 rfl ?_
    refine PW.iload_n cx qX7_writeNumber_17 rfl ?_
    refine PW.bipush (v := 10) cx qX7_writeNumber_18 rfl ?_
    refine PW.iremK cx qX7_writeNumber_20 (by decide) ?_
    refine PW.iadd cx qX7_writeNumber_21 ?_
    refine PW.callVWV (As := [.int (48 + (p1 - p1 / 10 * 10))]) (st := []) cx hR qX7_writeNumber_22 klX7_401 mvX7_write (sh_140 hx) rfl rfl rfl rfl (Nat.le_of_ble_eq_true rfl) (Nat.le_of_ble_eq_true rfl) (Nat.le_of_ble_eq_true rfl) (Nat.zero_le _) (Nat.zero_le _) hf sne (fun t e => ctX7_write hx h_14 (48 + (p1 - p1 / 10 * 10)) t e) (fun h2 hf => ?_)
    exact PW.vret cx hrt qX7_writeNumber_25 (le_wv hf)
  refine PW.icmp_le cx qX7_writeNumber_3 hf (fun hf => ?_) (fun hf => ?_)
  · exact PW.locs (Lsub.keep (Lsub.keep Lsub.nil)) (hj14 h hf)
  · refine PW.aload_n cx qX7_writeNumber_6 rfl ?_
    refine PW.iload_n cx qX7_writeNumber_7 rfl ?_
    refine PW.bipush (v := 10) cx qX7_writeNumber_8 rfl ?_
    refine PW.idivK cx qX7_writeNumber_10 (by decide) ?_
    refine PW.callVWV (As := [.int (p1 / 10)]) (st := []) cx hR qX7_writeNumber_11 klX7_398 mvX7_writeNumber (sh_140 hx) rfl rfl rfl rfl (Nat.le_of_ble_eq_true rfl) (Nat.le_of_ble_eq_true rfl) (Nat.le_of_ble_eq_true rfl) (Nat.zero_le _) (Nat.zero_le _) hf sne (fun t e => ctX7_writeNumber_4 hx h (p1 / 10) t e) (fun h4 hf => ?_)
    exact PW.locs (Lsub.keep (Lsub.keep Lsub.nil)) (hj14 h4 hf)
set_option maxRecDepth 20000 in
theorem ctX7_writeNumber_6 {g : GT} {ex : Bool} {sh : List Shp} (hx : MSh sh) (h : Hp) (p1 : Int32) (r0 : Hp) (hf : M_writeNumber_6 h p1 = some r0) : Ct g mX7_writeNumber 7 0 0 ex [.ref (gB g + 140), .int p1] sh h (PE none sh r0) := by
  refine Ct.of (L := [some (.ref (gB g + 140)), some (.int p1)]) (by decide) (by intro w hw; simp only [List.mem_cons, List.not_mem_nil, or_false] at hw; rcases hw with rfl | rfl <;> rfl) (Nat.le_of_ble_eq_true rfl) rfl (fun X mx => ?_)
  obtain ⟨cx, hR, hml, hrt, -⟩ := mx
  have cx : Cx g X RX7 cX7_writeNumber := cx
  have hrt : X.2.2.2.2.2.2.2.1.sig.returnType = none := hrt
  unfold M_writeNumber_6 at hf
  refine PW.iload_n cx qX7_writeNumber_0 rfl ?_
  refine PW.bipush (v := 9) cx qX7_writeNumber_1 rfl ?_
  obtain ⟨j14, ej14, hf⟩ := lt_split hf
  have hj14 : ∀ (h_14 : Hp), j14 h_14 = some r0 → PW g X ex (QE g X ex (PE none sh r0) 0 0) 0 0 sh h_14 14 [some (.ref (gB g + 140)), some (.int p1)] [] := by
    intro h_14 hf
    rw [ej14] at hf
    refine PW.aload_n cx qX7_writeNumber_14 rfl ?_
    refine PW.bipush (v := 48) cx qX7_writeNumber_15 rfl ?_
    refine PW.iload_n cx qX7_writeNumber_17 rfl ?_
    refine PW.bipush (v := 10) cx qX7_writeNumber_18 rfl ?_
    refine PW.iremK cx qX7_writeNumber_20 (by decide) ?_
    refine PW.iadd cx qX7_writeNumber_21 ?_
    refine PW.callVWV (As := [.int (48 + (p1 - p1 / 10 * 10))]) (st := []) cx hR qX7_writeNumber_22 klX7_401 mvX7_write (sh_140 hx) rfl rfl rfl rfl (Nat.le_of_ble_eq_true rfl) (Nat.le_of_ble_eq_true rfl) (Nat.le_of_ble_eq_true rfl) (Nat.zero_le _) (Nat.zero_le _) hf sne (fun t e => ctX7_write hx h_14 (48 + (p1 - p1 / 10 * 10)) t e) (fun h2 hf => ?_)
    exact PW.vret cx hrt qX7_writeNumber_25 (le_wv hf)
  refine PW.icmp_le cx qX7_writeNumber_3 hf (fun hf => ?_) (fun hf => ?_)
  · exact PW.locs (Lsub.keep (Lsub.keep Lsub.nil)) (hj14 h hf)
  · refine PW.aload_n cx qX7_writeNumber_6 rfl ?_
    refine PW.iload_n cx qX7_writeNumber_7 rfl ?_
    refine PW.bipush (v := 10) cx qX7_writeNumber_8 rfl ?_
    refine PW.idivK cx qX7_writeNumber_10 (by decide) ?_
    refine PW.callVWV (As := [.int (p1 / 10)]) (st := []) cx hR qX7_writeNumber_11 klX7_398 mvX7_writeNumber (sh_140 hx) rfl rfl rfl rfl (Nat.le_of_ble_eq_true rfl) (Nat.le_of_ble_eq_true rfl) (Nat.le_of_ble_eq_true rfl) (Nat.zero_le _) (Nat.zero_le _) hf sne (fun t e => ctX7_writeNumber_5 hx h (p1 / 10) t e) (fun h4 hf => ?_)
    exact PW.locs (Lsub.keep (Lsub.keep Lsub.nil)) (hj14 h4 hf)
set_option maxRecDepth 20000 in
theorem ctX7_writeNumber_7 {g : GT} {ex : Bool} {sh : List Shp} (hx : MSh sh) (h : Hp) (p1 : Int32) (r0 : Hp) (hf : M_writeNumber_7 h p1 = some r0) : Ct g mX7_writeNumber 8 0 0 ex [.ref (gB g + 140), .int p1] sh h (PE none sh r0) := by
  refine Ct.of (L := [some (.ref (gB g + 140)), some (.int p1)]) (by decide) (by intro w hw; simp only [List.mem_cons, List.not_mem_nil, or_false] at hw; rcases hw with rfl | rfl <;> rfl) (Nat.le_of_ble_eq_true rfl) rfl (fun X mx => ?_)
  obtain ⟨cx, hR, hml, hrt, -⟩ := mx
  have cx : Cx g X RX7 cX7_writeNumber := cx
  have hrt : X.2.2.2.2.2.2.2.1.sig.returnType = none := hrt
  unfold M_writeNumber_7 at hf
  refine PW.iload_n cx qX7_writeNumber_0 rfl ?_
  refine PW.bipush (v := 9) cx qX7_writeNumber_1 rfl ?_
  obtain ⟨j14, ej14, hf⟩ := lt_split hf
  have hj14 : ∀ (h_14 : Hp), j14 h_14 = some r0 → PW g X ex (QE g X ex (PE none sh r0) 0 0) 0 0 sh h_14 14 [some (.ref (gB g + 140)), some (.int p1)] [] := by
    intro h_14 hf
    rw [ej14] at hf
    refine PW.aload_n cx qX7_writeNumber_14 rfl ?_
    refine PW.bipush (v := 48) cx qX7_writeNumber_15 rfl ?_
    refine PW.iload_n cx qX7_writeNumber_17 rfl ?_
    refine PW.bipush (v := 10) cx qX7_writeNumber_18 rfl ?_
    refine PW.iremK cx qX7_writeNumber_20 (by decide) ?_
    refine PW.iadd cx qX7_writeNumber_21 ?_
    refine PW.callVWV (As := [.int (48 + (p1 - p1 / 10 * 10))]) (st := []) cx hR qX7_writeNumber_22 klX7_401 mvX7_write (sh_140 hx) rfl rfl rfl rfl (Nat.le_of_ble_eq_true rfl) (Nat.le_of_ble_eq_true rfl) (Nat.le_of_ble_eq_true rfl) (Nat.zero_le _) (Nat.zero_le _) hf sne (fun t e => ctX7_write hx h_14 (48 + (p1 - p1 / 10 * 10)) t e) (fun h2 hf => ?_)
    exact PW.vret cx hrt qX7_writeNumber_25 (le_wv hf)
  refine PW.icmp_le cx qX7_writeNumber_3 hf (fun hf => ?_) (fun hf => ?_)
  · exact PW.locs (Lsub.keep (Lsub.keep Lsub.nil)) (hj14 h hf)
  · refine PW.aload_n cx qX7_writeNumber_6 rfl ?_
    refine PW.iload_n cx qX7_writeNumber_7 rfl ?_
    refine PW.bipush (v := 10) cx qX7_writeNumber_8 rfl ?_
    refine PW.idivK cx qX7_writeNumber_10 (by decide) ?_
    refine PW.callVWV (As := [.int (p1 / 10)]) (st := []) cx hR qX7_writeNumber_11 klX7_398 mvX7_writeNumber (sh_140 hx) rfl rfl rfl rfl (Nat.le_of_ble_eq_true rfl) (Nat.le_of_ble_eq_true rfl) (Nat.le_of_ble_eq_true rfl) (Nat.zero_le _) (Nat.zero_le _) hf sne (fun t e => ctX7_writeNumber_6 hx h (p1 / 10) t e) (fun h4 hf => ?_)
    exact PW.locs (Lsub.keep (Lsub.keep Lsub.nil)) (hj14 h4 hf)
set_option maxRecDepth 20000 in
theorem ctX7_writeNumber_8 {g : GT} {ex : Bool} {sh : List Shp} (hx : MSh sh) (h : Hp) (p1 : Int32) (r0 : Hp) (hf : M_writeNumber_8 h p1 = some r0) : Ct g mX7_writeNumber 9 0 0 ex [.ref (gB g + 140), .int p1] sh h (PE none sh r0) := by
  refine Ct.of (L := [some (.ref (gB g + 140)), some (.int p1)]) (by decide) (by intro w hw; simp only [List.mem_cons, List.not_mem_nil, or_false] at hw; rcases hw with rfl | rfl <;> rfl) (Nat.le_of_ble_eq_true rfl) rfl (fun X mx => ?_)
  obtain ⟨cx, hR, hml, hrt, -⟩ := mx
  have cx : Cx g X RX7 cX7_writeNumber := cx
  have hrt : X.2.2.2.2.2.2.2.1.sig.returnType = none := hrt
  unfold M_writeNumber_8 at hf
  refine PW.iload_n cx qX7_writeNumber_0 rfl ?_
  refine PW.bipush (v := 9) cx qX7_writeNumber_1 rfl ?_
  obtain ⟨j14, ej14, hf⟩ := lt_split hf
  have hj14 : ∀ (h_14 : Hp), j14 h_14 = some r0 → PW g X ex (QE g X ex (PE none sh r0) 0 0) 0 0 sh h_14 14 [some (.ref (gB g + 140)), some (.int p1)] [] := by
    intro h_14 hf
    rw [ej14] at hf
    refine PW.aload_n cx qX7_writeNumber_14 rfl ?_
    refine PW.bipush (v := 48) cx qX7_writeNumber_15 rfl ?_
    refine PW.iload_n cx qX7_writeNumber_17 rfl ?_
    refine PW.bipush (v := 10) cx qX7_writeNumber_18 rfl ?_
    refine PW.iremK cx qX7_writeNumber_20 (by decide) ?_
    refine PW.iadd cx qX7_writeNumber_21 ?_
    refine PW.callVWV (As := [.int (48 + (p1 - p1 / 10 * 10))]) (st := []) cx hR qX7_writeNumber_22 klX7_401 mvX7_write (sh_140 hx) rfl rfl rfl rfl (Nat.le_of_ble_eq_true rfl) (Nat.le_of_ble_eq_true rfl) (Nat.le_of_ble_eq_true rfl) (Nat.zero_le _) (Nat.zero_le _) hf sne (fun t e => ctX7_write hx h_14 (48 + (p1 - p1 / 10 * 10)) t e) (fun h2 hf => ?_)
    exact PW.vret cx hrt qX7_writeNumber_25 (le_wv hf)
  refine PW.icmp_le cx qX7_writeNumber_3 hf (fun hf => ?_) (fun hf => ?_)
  · exact PW.locs (Lsub.keep (Lsub.keep Lsub.nil)) (hj14 h hf)
  · refine PW.aload_n cx qX7_writeNumber_6 rfl ?_
    refine PW.iload_n cx qX7_writeNumber_7 rfl ?_
    refine PW.bipush (v := 10) cx qX7_writeNumber_8 rfl ?_
    refine PW.idivK cx qX7_writeNumber_10 (by decide) ?_
    refine PW.callVWV (As := [.int (p1 / 10)]) (st := []) cx hR qX7_writeNumber_11 klX7_398 mvX7_writeNumber (sh_140 hx) rfl rfl rfl rfl (Nat.le_of_ble_eq_true rfl) (Nat.le_of_ble_eq_true rfl) (Nat.le_of_ble_eq_true rfl) (Nat.zero_le _) (Nat.zero_le _) hf sne (fun t e => ctX7_writeNumber_7 hx h (p1 / 10) t e) (fun h4 hf => ?_)
    exact PW.locs (Lsub.keep (Lsub.keep Lsub.nil)) (hj14 h4 hf)
set_option maxRecDepth 20000 in
theorem ctX7_writeBed {g : GT} {ex : Bool} {sh : List Shp} (hx : MSh sh) (h : Hp) (p1 : Int32) (r0 : Hp) (hf : M_writeBed h p1 = some r0) : Ct g mX7_writeBed 10 0 0 ex [.ref (gB g + 140), .int p1] sh h (PE none sh r0) := by
  refine Ct.of (L := [some (.ref (gB g + 140)), some (.int p1)]) (by decide) (by intro w hw; simp only [List.mem_cons, List.not_mem_nil, or_false] at hw; rcases hw with rfl | rfl <;> rfl) (Nat.le_of_ble_eq_true rfl) rfl (fun X mx => ?_)
  obtain ⟨cx, hR, hml, hrt, -⟩ := mx
  have cx : Cx g X RX7 cX7_writeBed := cx
  have hrt : X.2.2.2.2.2.2.2.1.sig.returnType = none := hrt
  unfold M_writeBed at hf
  refine PW.iload_n cx qX7_writeBed_0 rfl ?_
  refine PW.iconst (v := (-1)) cx qX7_writeBed_1 rfl ?_
  refine PW.icmp_ne cx qX7_writeBed_2 hf (fun hf => ?_) (fun hf => ?_)
  · refine PW.aload_n cx qX7_writeBed_5 rfl ?_
    refine PW.bipush (v := 45) cx qX7_writeBed_6 rfl ?_
    refine PW.callVWV (As := [.int 45]) (st := []) cx hR qX7_writeBed_8 klX7_401 mvX7_write (sh_140 hx) rfl rfl rfl rfl (Nat.le_of_ble_eq_true rfl) (Nat.le_of_ble_eq_true rfl) (Nat.le_of_ble_eq_true rfl) (Nat.zero_le _) (Nat.zero_le _) hf sne (fun t e => ctX7_write hx h 45 t e) (fun h2 hf => ?_)
    refine PW.goto cx qX7_writeBed_11 ?_
    exact PW.vret cx hrt qX7_writeBed_39 (le_wv hf)
  · refine PW.iload_n cx qX7_writeBed_14 rfl ?_
    refine PW.bipush (v := (-2)) cx qX7_writeBed_15 rfl ?_
    refine PW.icmp_ne cx qX7_writeBed_17 hf (fun hf => ?_) (fun hf => ?_)
    · refine PW.aload_n cx qX7_writeBed_20 rfl ?_
      refine PW.bipush (v := 126) cx qX7_writeBed_21 rfl ?_
      refine PW.callVWV (As := [.int 126]) (st := []) cx hR qX7_writeBed_23 klX7_401 mvX7_write (sh_140 hx) rfl rfl rfl rfl (Nat.le_of_ble_eq_true rfl) (Nat.le_of_ble_eq_true rfl) (Nat.le_of_ble_eq_true rfl) (Nat.zero_le _) (Nat.zero_le _) hf sne (fun t e => ctX7_write hx h 126 t e) (fun h4 hf => ?_)
      refine PW.goto cx qX7_writeBed_26 ?_
      exact PW.vret cx hrt qX7_writeBed_39 (le_wv hf)
    · refine PW.aload_n cx qX7_writeBed_29 rfl ?_
      refine PW.aload_n cx qX7_writeBed_30 rfl ?_
      refine PW.iload_n cx qX7_writeBed_31 rfl ?_
      refine PW.iconst (v := 0) cx qX7_writeBed_32 rfl ?_
      refine PW.callVRI (As := [.int p1, .int 0]) (st := [.ref (gB g + 140)]) cx hR qX7_writeBed_33 klX7_70 mvX7_of (sh_140 hx) rfl rfl rfl rfl (Nat.le_of_ble_eq_true rfl) (Nat.le_of_ble_eq_true rfl) (Nat.le_of_ble_eq_true rfl) (Nat.zero_le _) (Nat.zero_le _) hf sne (fun t e => ctX7_of hx h p1 0 t e) (fun t5 hf => ?_)
      refine PW.callVWV (As := [.int t5]) (st := []) cx hR qX7_writeBed_36 klX7_398 mvX7_writeNumber (sh_140 hx) rfl rfl rfl rfl (Nat.le_of_ble_eq_true rfl) (Nat.le_of_ble_eq_true rfl) (Nat.le_of_ble_eq_true rfl) (Nat.zero_le _) (Nat.zero_le _) hf sne (fun t e => ctX7_writeNumber_8 hx h t5 t e) (fun h7 hf => ?_)
      exact PW.vret cx hrt qX7_writeBed_39 (le_wv hf)
set_option maxRecDepth 20000 in
theorem lX7_writeReel_29 {g : GT} {X : XT} {ex : Bool} {post : Option Value → List Shp → Hp → Prop} {sh : List Shp} (mx : Mx g X mX7_writeReel 11 0 0) (hx : MSh sh) (c1 : Int32) : ∀ (n : Nat) (v2 : Int32) (h : Hp) (r : Hp) (hf : M_writeReel_L29 c1 n v2 h = some r) (kx : ∀ (h1 : Hp), r = h1 → PW g X ex (QE g X ex post 0 0) 0 0 sh h1 64 [some (.ref (gB g + 140)), some (.int c1), none] []), PW g X ex (QE g X ex post 0 0) 0 0 sh h 29 [some (.ref (gB g + 140)), some (.int c1), some (.int v2)] [] := by
  have mx0 := mx
  obtain ⟨cx, hR, hml, hrt, -⟩ := mx0
  have cx : Cx g X RX7 cX7_writeReel := cx
  have hrt : X.2.2.2.2.2.2.2.1.sig.returnType = (some .int) := hrt
  have hi2 : 2 < X.2.2.2.2.2.2.2.2.maxLocals := by rw [hml]; exact Nat.le_of_ble_eq_true rfl
  intro n
  induction n with
  | zero =>
    intro v2 h r hf kx
    cases hf
  | succ n ih =>
    intro v2 h r hf kx
    unfold M_writeReel_L29 at hf
    refine PW.iload_n cx qX7_writeReel_29 rfl ?_
    refine PW.aload_n cx qX7_writeReel_30 rfl ?_
    refine PW.iload_n cx qX7_writeReel_31 rfl ?_
    refine PW.callVRI (As := [.int c1]) (st := [.int v2]) cx hR qX7_writeReel_32 klX7_92 mvX7_beds (sh_140 hx) rfl rfl rfl rfl (Nat.le_of_ble_eq_true rfl) (Nat.le_of_ble_eq_true rfl) (Nat.le_of_ble_eq_true rfl) (Nat.zero_le _) (Nat.zero_le _) hf sne (fun t e => ctX7_beds hx h c1 t e) (fun t5 hf => ?_)
    refine PW.icmp_ge cx qX7_writeReel_35 hf (fun hf => ?_) (fun hf => ?_)
    · exact PW.locs (Lsub.keep (Lsub.keep (Lsub.drop Lsub.nil))) (kx h (Option.some.inj hf).symm)
    · refine PW.iload_n cx qX7_writeReel_38 rfl ?_
      obtain ⟨j48, ej48, hf⟩ := lt_split hf
      have hj48 : ∀ (h_48 : Hp), j48 h_48 = some r → PW g X ex (QE g X ex post 0 0) 0 0 sh h_48 48 [some (.ref (gB g + 140)), some (.int c1), some (.int v2)] [] := by
        intro h_48 hf
        rw [ej48] at hf
        refine PW.aload_n cx qX7_writeReel_48 rfl ?_
        refine PW.aload_n cx qX7_writeReel_49 rfl ?_
        refine PW.iload_n cx qX7_writeReel_50 rfl ?_
        refine PW.iload_n cx qX7_writeReel_51 rfl ?_
        refine PW.callVRI (As := [.int c1, .int v2]) (st := [.ref (gB g + 140)]) cx hR qX7_writeReel_52 klX7_102 mvX7_inBed (sh_140 hx) rfl rfl rfl rfl (Nat.le_of_ble_eq_true rfl) (Nat.le_of_ble_eq_true rfl) (Nat.le_of_ble_eq_true rfl) (Nat.zero_le _) (Nat.zero_le _) hf sne (fun t e => ctX7_inBed hx h_48 c1 v2 t e) (fun t6 hf => ?_)
        refine PW.callVWV (As := [.int t6]) (st := []) cx hR qX7_writeReel_55 klX7_404 mvX7_writeBed (sh_140 hx) rfl rfl rfl rfl (Nat.le_of_ble_eq_true rfl) (Nat.le_of_ble_eq_true rfl) (Nat.le_of_ble_eq_true rfl) (Nat.zero_le _) (Nat.zero_le _) hf sne (fun t e => ctX7_writeBed hx h_48 t6 t e) (fun h8 hf => ?_)
        refine PW.iinc (v := 1) (L' := [some (.ref (gB g + 140)), some (.int c1), some (.int (v2 + 1))]) cx qX7_writeReel_58 rfl rfl hi2 rfl rfl ?_
        refine PW.goto cx qX7_writeReel_61 ?_
        exact PW.locs (Lsub.keep (Lsub.keep (Lsub.keep Lsub.nil))) (ih (v2 + 1) h8 _ hf kx)
      refine PW.if_le cx qX7_writeReel_39 hf (fun hf => ?_) (fun hf => ?_)
      · exact PW.locs (Lsub.keep (Lsub.keep (Lsub.keep Lsub.nil))) (hj48 h hf)
      · refine PW.aload_n cx qX7_writeReel_42 rfl ?_
        refine PW.bipush (v := 32) cx qX7_writeReel_43 rfl ?_
        refine PW.callVWV (As := [.int 32]) (st := []) cx hR qX7_writeReel_45 klX7_401 mvX7_write (sh_140 hx) rfl rfl rfl rfl (Nat.le_of_ble_eq_true rfl) (Nat.le_of_ble_eq_true rfl) (Nat.le_of_ble_eq_true rfl) (Nat.zero_le _) (Nat.zero_le _) hf sne (fun t e => ctX7_write hx h 32 t e) (fun h10 hf => ?_)
        exact PW.locs (Lsub.keep (Lsub.keep (Lsub.keep Lsub.nil))) (hj48 h10 hf)
set_option maxRecDepth 20000 in
theorem ctX7_writeReel {g : GT} {ex : Bool} {sh : List Shp} (hx : MSh sh) (h : Hp) (p1 : Int32) (r0 : Int32 × Hp) (hf : M_writeReel h p1 = some r0) : Ct g mX7_writeReel 11 0 0 ex [.ref (gB g + 140), .int p1] sh h (PE (some (.int r0.1)) sh r0.2) := by
  refine Ct.of (L := [some (.ref (gB g + 140)), some (.int p1), none]) (by decide) (by intro w hw; simp only [List.mem_cons, List.not_mem_nil, or_false] at hw; rcases hw with rfl | rfl <;> rfl) (Nat.le_of_ble_eq_true rfl) rfl (fun X mx => ?_)
  have mx0 := mx
  obtain ⟨cx, hR, hml, hrt, -⟩ := mx0
  have cx : Cx g X RX7 cX7_writeReel := cx
  have hrt : X.2.2.2.2.2.2.2.1.sig.returnType = (some .int) := hrt
  have hi2 : 2 < X.2.2.2.2.2.2.2.2.maxLocals := by rw [hml]; exact Nat.le_of_ble_eq_true rfl
  unfold M_writeReel at hf
  refine PW.aload_n cx qX7_writeReel_0 rfl ?_
  refine PW.aload_n cx qX7_writeReel_1 rfl ?_
  refine PW.iload_n cx qX7_writeReel_2 rfl ?_
  refine PW.callVRB (As := [.int p1]) (st := [.ref (gB g + 140)]) cx hR qX7_writeReel_3 klX7_337 mvX7_isReel (sh_140 hx) rfl rfl rfl rfl (Nat.le_of_ble_eq_true rfl) (Nat.le_of_ble_eq_true rfl) (Nat.le_of_ble_eq_true rfl) (Nat.zero_le _) (Nat.zero_le _) hf sne (fun t e => ctX7_isReel hx h p1 t e) (fun t1 hf => ?_)
  obtain ⟨j14, ej14, hf⟩ := lt_split hf
  have hj14 : ∀ (z0_14 : Bool), j14 z0_14 = some r0 → PW g X ex (QE g X ex (PE (some (.int r0.1)) sh r0.2) 0 0) 0 0 sh h 14 [some (.ref (gB g + 140)), some (.int p1), none] [.int (b2i z0_14), .ref (gB g + 140)] := by
    intro z0_14 hf
    rw [ej14] at hf
    refine PW.callVWBc (As := [.int (b2i z0_14)]) (st := []) cx hR qX7_writeReel_14 klX7_319 mvX7_throwsOne (sh_140 hx) rfl rfl rfl rfl (Nat.le_of_ble_eq_true rfl) (Nat.le_of_ble_eq_true rfl) (Nat.le_of_ble_eq_true rfl) (Nat.zero_le _) (Nat.zero_le _) hf sne (fun t e => ctX7_throwsOne hx h z0_14 t e) (fun t2 h3 hf => ?_)
    refine PW.if_eq cx qX7_writeReel_17 hf (fun hf => ?_) (fun hf => ?_)
    · refine PW.aload_n cx qX7_writeReel_22 rfl ?_
      refine PW.iconst (v := 0) cx qX7_writeReel_23 rfl ?_
      refine PW.putiN cx qX7_writeReel_24 (sh_140 hx) rfl fpX7_395 hf (fun h4 hf => ?_)
      refine PW.iconst (v := 0) cx qX7_writeReel_27 rfl ?_
      refine PW.istore_n (L' := [some (.ref (gB g + 140)), some (.int p1), some (.int 0)]) cx qX7_writeReel_28 hi2 rfl rfl ?_
      obtain ⟨r11, er11, hf⟩ := bndO hf sne
      refine PW.locs (Lsub.keep (Lsub.keep (Lsub.keep Lsub.nil))) (lX7_writeReel_29 mx hx p1 FU 0 h4 r11 er11 (fun xx_ e => ?_))
      subst e
      refine PW.aload_n cx qX7_writeReel_64 rfl ?_
      refine PW.getf (t := (0, 0)) (v := .int (rd r11 140 14)) cx qX7_writeReel_65 (sh_140 hx) rfl flX7_395 rfl ?_
      exact PW.iret cx hrt qX7_writeReel_68 (le_wi hf)
    · refine PW.iconst (v := 0) cx qX7_writeReel_20 rfl ?_
      exact PW.iret cx hrt qX7_writeReel_21 (le_wi hf)
  refine PW.if_ne cx qX7_writeReel_6 hf (fun hf => ?_) (fun hf => ?_)
  · refine PW.iconst (v := 1) cx qX7_writeReel_9 rfl ?_
    refine PW.goto cx qX7_writeReel_10 ?_
    exact PW.locs (Lsub.keep (Lsub.keep (Lsub.drop Lsub.nil))) (hj14 true hf)
  · refine PW.iconst (v := 0) cx qX7_writeReel_13 rfl ?_
    exact PW.locs (Lsub.keep (Lsub.keep (Lsub.drop Lsub.nil))) (hj14 false hf)
set_option maxRecDepth 20000 in
theorem ctX7_reportByte {g : GT} {ex : Bool} {sh : List Shp} (hx : MSh sh) (h : Hp) (p1 : Int32) (r0 : Int32 × Hp) (hf : M_reportByte h p1 = some r0) : Ct g mX7_reportByte 1 0 0 ex [.ref (gB g + 140), .int p1] sh h (PE (some (.int r0.1)) sh r0.2) := by
  refine Ct.of (L := [some (.ref (gB g + 140)), some (.int p1)]) (by decide) (by intro w hw; simp only [List.mem_cons, List.not_mem_nil, or_false] at hw; rcases hw with rfl | rfl <;> rfl) (Nat.le_of_ble_eq_true rfl) rfl (fun X mx => ?_)
  obtain ⟨cx, hR, hml, hrt, -⟩ := mx
  have cx : Cx g X RX7 cX7_reportByte := cx
  have hrt : X.2.2.2.2.2.2.2.1.sig.returnType = (some .int) := hrt
  unfold M_reportByte at hf
  refine PW.aload_n cx qX7_reportByte_0 rfl ?_
  refine PW.iconst (v := 0) cx qX7_reportByte_1 rfl ?_
  refine PW.putiN cx qX7_reportByte_2 (sh_140 hx) rfl fpX7_54 hf (fun h1 hf => ?_)
  refine PW.iload_n cx qX7_reportByte_5 rfl ?_
  refine PW.iconst (v := 0) cx qX7_reportByte_6 rfl ?_
  refine PW.aload_n cx qX7_reportByte_7 rfl ?_
  refine PW.getf (t := (0, 0)) (v := .int (rd h1 140 14)) cx qX7_reportByte_8 (sh_140 hx) rfl flX7_395 rfl ?_
  refine PW.iconst (v := 1) cx qX7_reportByte_11 rfl ?_
  refine PW.isub cx qX7_reportByte_12 ?_
  refine PW.callSRB (As := [.int p1, .int 0, .int ((rd h1 140 14) - 1)]) (st := []) cx hR qX7_reportByte_13 klX7_57 miX7_in rfl rfl (Nat.le_of_ble_eq_true rfl) (Nat.le_of_ble_eq_true rfl) (Nat.le_of_ble_eq_true rfl) (Nat.zero_le _) (Nat.zero_le _) hf sne (fun t e => ctX7_in h1 p1 0 ((rd h1 140 14) - 1) t e) (fun t2 hf => ?_)
  refine PW.if_eq cx qX7_reportByte_16 hf (fun hf => ?_) (fun hf => ?_)
  · refine PW.iconst (v := (-1)) cx qX7_reportByte_28 rfl ?_
    exact PW.iret cx hrt qX7_reportByte_29 (le_wi hf)
  · refine PW.aload_n cx qX7_reportByte_19 rfl ?_
    refine PW.getf (t := (2, 148)) (v := .ref (gB g + 148)) cx qX7_reportByte_20 (sh_140 hx) rfl flX7_35 rfl ?_
    refine PW.iload_n cx qX7_reportByte_23 rfl ?_
    refine PW.cald cx qX7_reportByte_24 (sh_148 hx) hf sne (fun t3 hf => ?_)
    refine PW.goto cx qX7_reportByte_25 ?_
    exact PW.iret cx hrt qX7_reportByte_29 (le_wi hf)
