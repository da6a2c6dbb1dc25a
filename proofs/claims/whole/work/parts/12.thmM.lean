theorem ctX7_in {g : GT} {ex : Bool} {sh : List Shp} (h : Hp) (p1 : Int32) (p2 : Int32) (p3 : Int32) (r0 : Bool) (hf : M_in p1 p2 p3 = some r0) : Ct g mX7_in 0 0 0 ex [.int p1, .int p2, .int p3] sh h (PE (some (.int (b2i r0))) sh h) := by
  refine Ct.of (L := [some (.int p1), some (.int p2), some (.int p3)]) (by decide) (by intro w hw; simp only [List.mem_cons, List.not_mem_nil, or_false] at hw; rcases hw with rfl | rfl | rfl <;> rfl) (Nat.le_of_ble_eq_true rfl) rfl (fun X mx => ?_)
  obtain ⟨cx, hR, hml, hrt, -⟩ := mx
  have cx : Cx g X RX7 cX7_in := cx
  have hrt : X.2.2.2.2.2.2.2.1.sig.returnType = (some .boolean) := hrt
  unfold M_in at hf
  refine PW.iload_n cx qX7_in_0 rfl ?_
  refine PW.iload_n cx qX7_in_1 rfl ?_
  refine PW.icmp_lt cx qX7_in_2 hf (fun hf => ?_) (fun hf => ?_)
  · refine PW.iconst (v := 0) cx qX7_in_14 rfl ?_
    exact PW.zret cx hrt nb0 qX7_in_15 (le_rz hf)
  · refine PW.iload_n cx qX7_in_5 rfl ?_
    refine PW.iload_n cx qX7_in_6 rfl ?_
    refine PW.icmp_gt cx qX7_in_7 hf (fun hf => ?_) (fun hf => ?_)
    · refine PW.iconst (v := 0) cx qX7_in_14 rfl ?_
      exact PW.zret cx hrt nb0 qX7_in_15 (le_rz hf)
    · refine PW.iconst (v := 1) cx qX7_in_10 rfl ?_
      refine PW.goto cx qX7_in_11 ?_
      exact PW.zret cx hrt nb1 qX7_in_15 (le_rz hf)
theorem ctX7_throwsOne {g : GT} {ex : Bool} {sh : List Shp} (hx : MSh sh) (h : Hp) (p1 : Bool) (r0 : Bool × Hp) (hf : M_throwsOne h p1 = some r0) : Ct g mX7_throwsOne 0 0 0 ex [.ref (gB g + 140), .int (b2i p1)] sh h (PE (some (.int (b2i r0.1))) sh r0.2) := by
  refine Ct.of (L := [some (.ref (gB g + 140)), some (.int (b2i p1))]) (by decide) (by intro w hw; simp only [List.mem_cons, List.not_mem_nil, or_false] at hw; rcases hw with rfl | rfl <;> rfl) (Nat.le_of_ble_eq_true rfl) rfl (fun X mx => ?_)
  obtain ⟨cx, hR, hml, hrt, -⟩ := mx
  have cx : Cx g X RX7 cX7_throwsOne := cx
  have hrt : X.2.2.2.2.2.2.2.1.sig.returnType = (some .boolean) := hrt
  unfold M_throwsOne at hf
  refine PW.aload_n cx qX7_throwsOne_0 rfl ?_
  refine PW.iload_n cx qX7_throwsOne_1 rfl ?_
  refine PW.if_eq cx qX7_throwsOne_2 hf (fun hf => ?_) (fun hf => ?_)
  · refine PW.iconst (v := 0) cx qX7_throwsOne_9 rfl ?_
    refine PW.putiN cx qX7_throwsOne_10 (sh_140 hx) rfl fpX7_54 hf (fun h1 hf => ?_)
    refine PW.iload_n cx qX7_throwsOne_13 rfl ?_
    exact PW.zret cx hrt (nbb _) qX7_throwsOne_14 (le_wz hf)
  · refine PW.iconst (v := 1) cx qX7_throwsOne_5 rfl ?_
    refine PW.goto cx qX7_throwsOne_6 ?_
    refine PW.putiN cx qX7_throwsOne_10 (sh_140 hx) rfl fpX7_54 hf (fun h2 hf => ?_)
    refine PW.iload_n cx qX7_throwsOne_13 rfl ?_
    exact PW.zret cx hrt (nbb _) qX7_throwsOne_14 (le_wz hf)
theorem ctX7_throwsOne_ {g : GT} {ex : Bool} {sh : List Shp} (hx : MSh sh) (h : Hp) (p1 : Bool) (p2 : Bool) (r0 : Bool × Hp) (hf : M_throwsOne2 h p1 p2 = some r0) : Ct g mX7_throwsOne_ 0 0 0 ex [.ref (gB g + 140), .int (b2i p1), .int (b2i p2)] sh h (PE (some (.int (b2i r0.1))) sh r0.2) := by
  refine Ct.of (L := [some (.ref (gB g + 140)), some (.int (b2i p1)), some (.int (b2i p2))]) (by decide) (by intro w hw; simp only [List.mem_cons, List.not_mem_nil, or_false] at hw; rcases hw with rfl | rfl | rfl <;> rfl) (Nat.le_of_ble_eq_true rfl) rfl (fun X mx => ?_)
  obtain ⟨cx, hR, hml, hrt, -⟩ := mx
  have cx : Cx g X RX7 cX7_throwsOne_ := cx
  have hrt : X.2.2.2.2.2.2.2.1.sig.returnType = (some .boolean) := hrt
  unfold M_throwsOne2 at hf
  refine PW.aload_n cx qX7_throwsOne__0 rfl ?_
  refine PW.iload_n cx qX7_throwsOne__1 rfl ?_
  obtain ⟨j18, ej18, hf⟩ := lt_split hf
  have hj18 : ∀ (z0_18 : Int32), j18 z0_18 = some r0 → PW g X ex (QE g X ex (PE (some (.int (b2i r0.1))) sh r0.2) 0 0) 0 0 sh h 18 [none, some (.int (b2i p1)), some (.int (b2i p2))] [.int z0_18, .ref (gB g + 140)] := by
    intro z0_18 hf
    rw [ej18] at hf
    refine PW.putiN cx qX7_throwsOne__18 (sh_140 hx) rfl fpX7_54 hf (fun h1 hf => ?_)
    refine PW.iload_n cx qX7_throwsOne__21 rfl ?_
    refine PW.if_ne cx qX7_throwsOne__22 hf (fun hf => ?_) (fun hf => ?_)
    · refine PW.iload_n cx qX7_throwsOne__25 rfl ?_
      refine PW.if_eq cx qX7_throwsOne__26 hf (fun hf => ?_) (fun hf => ?_)
      · refine PW.iconst (v := 0) cx qX7_throwsOne__33 rfl ?_
        exact PW.zret cx hrt nb0 qX7_throwsOne__34 (le_wz hf)
      · refine PW.iconst (v := 1) cx qX7_throwsOne__29 rfl ?_
        refine PW.goto cx qX7_throwsOne__30 ?_
        exact PW.zret cx hrt nb1 qX7_throwsOne__34 (le_wz hf)
    · refine PW.iconst (v := 1) cx qX7_throwsOne__29 rfl ?_
      refine PW.goto cx qX7_throwsOne__30 ?_
      exact PW.zret cx hrt nb1 qX7_throwsOne__34 (le_wz hf)
  refine PW.if_eq cx qX7_throwsOne__2 hf (fun hf => ?_) (fun hf => ?_)
  · refine PW.iload_n cx qX7_throwsOne__9 rfl ?_
    refine PW.if_eq cx qX7_throwsOne__10 hf (fun hf => ?_) (fun hf => ?_)
    · refine PW.iconst (v := 0) cx qX7_throwsOne__17 rfl ?_
      exact PW.locs (Lsub.drop (Lsub.keep (Lsub.keep Lsub.nil))) (hj18 0 hf)
    · refine PW.iconst (v := 2) cx qX7_throwsOne__13 rfl ?_
      refine PW.goto cx qX7_throwsOne__14 ?_
      exact PW.locs (Lsub.drop (Lsub.keep (Lsub.keep Lsub.nil))) (hj18 2 hf)
  · refine PW.iconst (v := 1) cx qX7_throwsOne__5 rfl ?_
    refine PW.goto cx qX7_throwsOne__6 ?_
    exact PW.locs (Lsub.drop (Lsub.keep (Lsub.keep Lsub.nil))) (hj18 1 hf)
theorem ctX7_throwsOne__ {g : GT} {ex : Bool} {sh : List Shp} (hx : MSh sh) (h : Hp) (p1 : Bool) (p2 : Bool) (p3 : Bool) (r0 : Bool × Hp) (hf : M_throwsOne3 h p1 p2 p3 = some r0) : Ct g mX7_throwsOne__ 0 0 0 ex [.ref (gB g + 140), .int (b2i p1), .int (b2i p2), .int (b2i p3)] sh h (PE (some (.int (b2i r0.1))) sh r0.2) := by
  refine Ct.of (L := [some (.ref (gB g + 140)), some (.int (b2i p1)), some (.int (b2i p2)), some (.int (b2i p3))]) (by decide) (by intro w hw; simp only [List.mem_cons, List.not_mem_nil, or_false] at hw; rcases hw with rfl | rfl | rfl | rfl <;> rfl) (Nat.le_of_ble_eq_true rfl) rfl (fun X mx => ?_)
  obtain ⟨cx, hR, hml, hrt, -⟩ := mx
  have cx : Cx g X RX7 cX7_throwsOne__ := cx
  have hrt : X.2.2.2.2.2.2.2.1.sig.returnType = (some .boolean) := hrt
  unfold M_throwsOne3 at hf
  refine PW.aload_n cx qX7_throwsOne___0 rfl ?_
  refine PW.iload_n cx qX7_throwsOne___1 rfl ?_
  obtain ⟨j26, ej26, hf⟩ := lt_split hf
  have hj26 : ∀ (z0_26 : Int32), j26 z0_26 = some r0 → PW g X ex (QE g X ex (PE (some (.int (b2i r0.1))) sh r0.2) 0 0) 0 0 sh h 26 [none, some (.int (b2i p1)), some (.int (b2i p2)), some (.int (b2i p3))] [.int z0_26, .ref (gB g + 140)] := by
    intro z0_26 hf
    rw [ej26] at hf
    refine PW.putiN cx qX7_throwsOne___26 (sh_140 hx) rfl fpX7_54 hf (fun h1 hf => ?_)
    refine PW.iload_n cx qX7_throwsOne___29 rfl ?_
    refine PW.if_ne cx qX7_throwsOne___30 hf (fun hf => ?_) (fun hf => ?_)
    · refine PW.iload_n cx qX7_throwsOne___33 rfl ?_
      refine PW.if_ne cx qX7_throwsOne___34 hf (fun hf => ?_) (fun hf => ?_)
      · refine PW.iload_n cx qX7_throwsOne___37 rfl ?_
        refine PW.if_eq cx qX7_throwsOne___38 hf (fun hf => ?_) (fun hf => ?_)
        · refine PW.iconst (v := 0) cx qX7_throwsOne___45 rfl ?_
          exact PW.zret cx hrt nb0 qX7_throwsOne___46 (le_wz hf)
        · refine PW.iconst (v := 1) cx qX7_throwsOne___41 rfl ?_
          refine PW.goto cx qX7_throwsOne___42 ?_
          exact PW.zret cx hrt nb1 qX7_throwsOne___46 (le_wz hf)
      · refine PW.iconst (v := 1) cx qX7_throwsOne___41 rfl ?_
        refine PW.goto cx qX7_throwsOne___42 ?_
        exact PW.zret cx hrt nb1 qX7_throwsOne___46 (le_wz hf)
    · refine PW.iconst (v := 1) cx qX7_throwsOne___41 rfl ?_
      refine PW.goto cx qX7_throwsOne___42 ?_
      exact PW.zret cx hrt nb1 qX7_throwsOne___46 (le_wz hf)
  refine PW.if_eq cx qX7_throwsOne___2 hf (fun hf => ?_) (fun hf => ?_)
  · refine PW.iload_n cx qX7_throwsOne___9 rfl ?_
    refine PW.if_eq cx qX7_throwsOne___10 hf (fun hf => ?_) (fun hf => ?_)
    · refine PW.iload_n cx qX7_throwsOne___17 rfl ?_
      refine PW.if_eq cx qX7_throwsOne___18 hf (fun hf => ?_) (fun hf => ?_)
      · refine PW.iconst (v := 0) cx qX7_throwsOne___25 rfl ?_
        exact PW.locs (Lsub.drop (Lsub.keep (Lsub.keep (Lsub.keep Lsub.nil)))) (hj26 0 hf)
      · refine PW.iconst (v := 3) cx qX7_throwsOne___21 rfl ?_
        refine PW.goto cx qX7_throwsOne___22 ?_
        exact PW.locs (Lsub.drop (Lsub.keep (Lsub.keep (Lsub.keep Lsub.nil)))) (hj26 3 hf)
    · refine PW.iconst (v := 2) cx qX7_throwsOne___13 rfl ?_
      refine PW.goto cx qX7_throwsOne___14 ?_
      exact PW.locs (Lsub.drop (Lsub.keep (Lsub.keep (Lsub.keep Lsub.nil)))) (hj26 2 hf)
  · refine PW.iconst (v := 1) cx qX7_throwsOne___5 rfl ?_
    refine PW.goto cx qX7_throwsOne___6 ?_
    exact PW.locs (Lsub.drop (Lsub.keep (Lsub.keep (Lsub.keep Lsub.nil)))) (hj26 1 hf)
theorem ctX7_of {g : GT} {ex : Bool} {sh : List Shp} (hx : MSh sh) (h : Hp) (p1 : Int32) (p2 : Int32) (r0 : Int32) (hf : M_of h p1 p2 = some r0) : Ct g mX7_of 0 0 0 ex [.ref (gB g + 140), .int p1, .int p2] sh h (PE (some (.int r0)) sh h) := by
  refine Ct.of (L := [some (.ref (gB g + 140)), some (.int p1), some (.int p2)]) (by decide) (by intro w hw; simp only [List.mem_cons, List.not_mem_nil, or_false] at hw; rcases hw with rfl | rfl | rfl <;> rfl) (Nat.le_of_ble_eq_true rfl) rfl (fun X mx => ?_)
  obtain ⟨cx, hR, hml, hrt, -⟩ := mx
  have cx : Cx g X RX7 cX7_of := cx
  have hrt : X.2.2.2.2.2.2.2.1.sig.returnType = (some .int) := hrt
  unfold M_of at hf
  refine PW.aload_n cx qX7_of_0 rfl ?_
  refine PW.getf (t := (2, 141)) (v := .ref (gB g + 141)) cx qX7_of_1 (sh_140 hx) rfl flX7_7 rfl ?_
  refine PW.bipush (v := 8) cx qX7_of_4 rfl ?_
  refine PW.iconst (v := 4) cx qX7_of_6 rfl ?_
  refine PW.iload_n cx qX7_of_7 rfl ?_
  refine PW.imul cx qX7_of_8 ?_
  refine PW.iadd cx qX7_of_9 ?_
  refine PW.iload_n cx qX7_of_10 rfl ?_
  refine PW.iadd cx qX7_of_11 ?_
  refine PW.iald cx qX7_of_12 (sh_141 hx) hf sne (fun t1 hf => ?_)
  exact PW.iret cx hrt qX7_of_13 (le_ri hf)
theorem ctX7_to {g : GT} {ex : Bool} {sh : List Shp} (hx : MSh sh) (h : Hp) (p1 : Int32) (p2 : Int32) (p3 : Int32) (r0 : Hp) (hf : M_to h p1 p2 p3 = some r0) : Ct g mX7_to 0 0 0 ex [.ref (gB g + 140), .int p1, .int p2, .int p3] sh h (PE none sh r0) := by
  refine Ct.of (L := [some (.ref (gB g + 140)), some (.int p1), some (.int p2), some (.int p3)]) (by decide) (by intro w hw; simp only [List.mem_cons, List.not_mem_nil, or_false] at hw; rcases hw with rfl | rfl | rfl | rfl <;> rfl) (Nat.le_of_ble_eq_true rfl) rfl (fun X mx => ?_)
  obtain ⟨cx, hR, hml, hrt, -⟩ := mx
  have cx : Cx g X RX7 cX7_to := cx
  have hrt : X.2.2.2.2.2.2.2.1.sig.returnType = none := hrt
  unfold M_to at hf
  refine PW.aload_n cx qX7_to_0 rfl ?_
  refine PW.getf (t := (2, 141)) (v := .ref (gB g + 141)) cx qX7_to_1 (sh_140 hx) rfl flX7_7 rfl ?_
  refine PW.bipush (v := 8) cx qX7_to_4 rfl ?_
  refine PW.iconst (v := 4) cx qX7_to_6 rfl ?_
  refine PW.iload_n cx qX7_to_7 rfl ?_
  refine PW.imul cx qX7_to_8 ?_
  refine PW.iadd cx qX7_to_9 ?_
  refine PW.iload_n cx qX7_to_10 rfl ?_
  refine PW.iadd cx qX7_to_11 ?_
  refine PW.iload_n cx qX7_to_12 rfl ?_
  refine PW.iast cx qX7_to_13 (sh_141 hx) hf sne (fun h1 hf => ?_)
  exact PW.vret cx hrt qX7_to_14 (le_wv hf)
theorem ctX7_beds {g : GT} {ex : Bool} {sh : List Shp} (hx : MSh sh) (h : Hp) (p1 : Int32) (r0 : Int32) (hf : M_beds h p1 = some r0) : Ct g mX7_beds 0 0 0 ex [.ref (gB g + 140), .int p1] sh h (PE (some (.int r0)) sh h) := by
  refine Ct.of (L := [some (.ref (gB g + 140)), some (.int p1)]) (by decide) (by intro w hw; simp only [List.mem_cons, List.not_mem_nil, or_false] at hw; rcases hw with rfl | rfl <;> rfl) (Nat.le_of_ble_eq_true rfl) rfl (fun X mx => ?_)
  obtain ⟨cx, hR, hml, hrt, -⟩ := mx
  have cx : Cx g X RX7 cX7_beds := cx
  have hrt : X.2.2.2.2.2.2.2.1.sig.returnType = (some .int) := hrt
  unfold M_beds at hf
  refine PW.aload_n cx qX7_beds_0 rfl ?_
  refine PW.getf (t := (2, 141)) (v := .ref (gB g + 141)) cx qX7_beds_1 (sh_140 hx) rfl flX7_7 rfl ?_
  refine PW.bipush (v := 56) cx qX7_beds_4 rfl ?_
  refine PW.iload_n cx qX7_beds_6 rfl ?_
  refine PW.iadd cx qX7_beds_7 ?_
  refine PW.iald cx qX7_beds_8 (sh_141 hx) hf sne (fun t1 hf => ?_)
  exact PW.iret cx hrt qX7_beds_9 (le_ri hf)
theorem ctX7_inBed {g : GT} {ex : Bool} {sh : List Shp} (hx : MSh sh) (h : Hp) (p1 : Int32) (p2 : Int32) (r0 : Int32) (hf : M_inBed h p1 p2 = some r0) : Ct g mX7_inBed 0 0 0 ex [.ref (gB g + 140), .int p1, .int p2] sh h (PE (some (.int r0)) sh h) := by
  refine Ct.of (L := [some (.ref (gB g + 140)), some (.int p1), some (.int p2)]) (by decide) (by intro w hw; simp only [List.mem_cons, List.not_mem_nil, or_false] at hw; rcases hw with rfl | rfl | rfl <;> rfl) (Nat.le_of_ble_eq_true rfl) rfl (fun X mx => ?_)
  obtain ⟨cx, hR, hml, hrt, -⟩ := mx
  have cx : Cx g X RX7 cX7_inBed := cx
  have hrt : X.2.2.2.2.2.2.2.1.sig.returnType = (some .int) := hrt
  unfold M_inBed at hf
  refine PW.aload_n cx qX7_inBed_0 rfl ?_
  refine PW.getf (t := (2, 141)) (v := .ref (gB g + 141)) cx qX7_inBed_1 (sh_140 hx) rfl flX7_7 rfl ?_
  refine PW.bipush (v := 60) cx qX7_inBed_4 rfl ?_
  refine PW.bipush (v := 9) cx qX7_inBed_6 rfl ?_
  refine PW.iload_n cx qX7_inBed_8 rfl ?_
  refine PW.imul cx qX7_inBed_9 ?_
  refine PW.iadd cx qX7_inBed_10 ?_
  refine PW.iload_n cx qX7_inBed_11 rfl ?_
  refine PW.iadd cx qX7_inBed_12 ?_
  refine PW.iald cx qX7_inBed_13 (sh_141 hx) hf sne (fun t1 hf => ?_)
  exact PW.iret cx hrt qX7_inBed_14 (le_ri hf)
theorem ctX7_setBed {g : GT} {ex : Bool} {sh : List Shp} (hx : MSh sh) (h : Hp) (p1 : Int32) (p2 : Int32) (p3 : Int32) (r0 : Hp) (hf : M_setBed h p1 p2 p3 = some r0) : Ct g mX7_setBed 0 0 0 ex [.ref (gB g + 140), .int p1, .int p2, .int p3] sh h (PE none sh r0) := by
  refine Ct.of (L := [some (.ref (gB g + 140)), some (.int p1), some (.int p2), some (.int p3)]) (by decide) (by intro w hw; simp only [List.mem_cons, List.not_mem_nil, or_false] at hw; rcases hw with rfl | rfl | rfl | rfl <;> rfl) (Nat.le_of_ble_eq_true rfl) rfl (fun X mx => ?_)
  obtain ⟨cx, hR, hml, hrt, -⟩ := mx
  have cx : Cx g X RX7 cX7_setBed := cx
  have hrt : X.2.2.2.2.2.2.2.1.sig.returnType = none := hrt
  unfold M_setBed at hf
  refine PW.aload_n cx qX7_setBed_0 rfl ?_
  refine PW.getf (t := (2, 141)) (v := .ref (gB g + 141)) cx qX7_setBed_1 (sh_140 hx) rfl flX7_7 rfl ?_
  refine PW.bipush (v := 60) cx qX7_setBed_4 rfl ?_
  refine PW.bipush (v := 9) cx qX7_setBed_6 rfl ?_
  refine PW.iload_n cx qX7_setBed_8 rfl ?_
  refine PW.imul cx qX7_setBed_9 ?_
  refine PW.iadd cx qX7_setBed_10 ?_
  refine PW.iload_n cx qX7_setBed_11 rfl ?_
  refine PW.iadd cx qX7_setBed_12 ?_
  refine PW.iload_n cx qX7_setBed_13 rfl ?_
  refine PW.iast cx qX7_setBed_14 (sh_141 hx) hf sne (fun h1 hf => ?_)
  exact PW.vret cx hrt qX7_setBed_15 (le_wv hf)
theorem lX7_digits_4 {g : GT} {X : XT} {ex : Bool} {sh : List Shp} {post : Option Value → List Shp → Hp → Prop} (mx : Mx g X mX7_digits 0 0 0) (h : Hp) : ∀ (n : Nat) (v1 : Int32) (v2 : Int32) (r : Int32) (hf : M_digits_L4 n v1 v2 = some r) (kx : ∀ (x1 : Int32), r = x1 → PW g X ex (QE g X ex post 0 0) 0 0 sh h 19 [none, some (.int x1), none] []), PW g X ex (QE g X ex post 0 0) 0 0 sh h 4 [none, some (.int v1), some (.int v2)] [] := by
  obtain ⟨cx, hR, hml, hrt, -⟩ := mx
  have cx : Cx g X RX7 cX7_digits := cx
  have hrt : X.2.2.2.2.2.2.2.1.sig.returnType = (some .int) := hrt
  have hi1 : 1 < X.2.2.2.2.2.2.2.2.maxLocals := by rw [hml]; exact Nat.le_of_ble_eq_true rfl
  have hi2 : 2 < X.2.2.2.2.2.2.2.2.maxLocals := by rw [hml]; exact Nat.le_of_ble_eq_true rfl
  intro n
  induction n with
  | zero =>
    intro v1 v2 r hf kx
    cases hf
  | succ n ih =>
    intro v1 v2 r hf kx
    unfold M_digits_L4 at hf
    refine PW.iload_n cx qX7_digits_4 rfl ?_
    refine PW.if_le cx qX7_digits_5 hf (fun hf => ?_) (fun hf => ?_)
    · exact PW.locs (Lsub.drop (Lsub.keep (Lsub.drop Lsub.nil))) (kx v1 (Option.some.inj hf).symm)
    · refine PW.iinc (v := 1) (L' := [none, some (.int (v1 + 1)), some (.int v2)]) cx qX7_digits_8 rfl rfl hi1 rfl rfl ?_
      refine PW.iload_n cx qX7_digits_11 rfl ?_
      refine PW.bipush (v := 10) cx qX7_digits_12 rfl ?_
      refine PW.idivK cx qX7_digits_14 (by decide) ?_
      refine PW.istore_n (L' := [none, some (.int (v1 + 1)), some (.int (v2 / 10))]) cx qX7_digits_15 hi2 rfl rfl ?_
      refine PW.goto cx qX7_digits_16 ?_
      exact PW.locs (Lsub.drop (Lsub.keep (Lsub.keep Lsub.nil))) (ih (v1 + 1) (v2 / 10) _ hf kx)
theorem ctX7_digits {g : GT} {ex : Bool} {sh : List Shp} (h : Hp) (p1 : Int32) (r0 : Int32) (hf : M_digits p1 = some r0) : Ct g mX7_digits 0 0 0 ex [.int p1] sh h (PE (some (.int r0)) sh h) := by
  refine Ct.of (L := [some (.int p1), none, none]) (by decide) (by intro w hw; simp only [List.mem_cons, List.not_mem_nil, or_false] at hw; rcases hw with rfl <;> rfl) (Nat.le_of_ble_eq_true rfl) rfl (fun X mx => ?_)
  have mx0 := mx
  obtain ⟨cx, hR, hml, hrt, -⟩ := mx0
  have cx : Cx g X RX7 cX7_digits := cx
  have hrt : X.2.2.2.2.2.2.2.1.sig.returnType = (some .int) := hrt
  have hi1 : 1 < X.2.2.2.2.2.2.2.2.maxLocals := by rw [hml]; exact Nat.le_of_ble_eq_true rfl
  have hi2 : 2 < X.2.2.2.2.2.2.2.2.maxLocals := by rw [hml]; exact Nat.le_of_ble_eq_true rfl
  unfold M_digits at hf
  refine PW.iconst (v := 0) cx qX7_digits_0 rfl ?_
  refine PW.istore_n (L' := [some (.int p1), some (.int 0), none]) cx qX7_digits_1 hi1 rfl rfl ?_
  refine PW.iload_n cx qX7_digits_2 rfl ?_
  refine PW.istore_n (L' := [some (.int p1), some (.int 0), some (.int p1)]) cx qX7_digits_3 hi2 rfl rfl ?_
  obtain ⟨r1, er1, hf⟩ := bndO hf sne
  refine PW.locs (Lsub.drop (Lsub.keep (Lsub.keep Lsub.nil))) (lX7_digits_4 mx h FU 0 p1 r1 er1 (fun x1_2 e => ?_))
  subst e
  refine PW.iload_n cx qX7_digits_19 rfl ?_
  exact PW.iret cx hrt qX7_digits_20 (le_ri hf)
theorem lX7_digit_9 {g : GT} {X : XT} {ex : Bool} {sh : List Shp} {post : Option Value → List Shp → Hp → Prop} (mx : Mx g X mX7_digit 1 0 0) (h : Hp) (c1 : Int32) : ∀ (n : Nat) (v2 : Int32) (v3 : Int32) (r : Int32) (hf : M_digit_L9 c1 n v2 v3 = some r) (kx : ∀ (x2 : Int32), r = x2 → PW g X ex (QE g X ex post 0 0) 0 0 sh h 25 [none, some (.int c1), some (.int x2), none] []), PW g X ex (QE g X ex post 0 0) 0 0 sh h 9 [none, some (.int c1), some (.int v2), some (.int v3)] [] := by
  obtain ⟨cx, hR, hml, hrt, -⟩ := mx
  have cx : Cx g X RX7 cX7_digit := cx
  have hrt : X.2.2.2.2.2.2.2.1.sig.returnType = (some .int) := hrt
  have hi2 : 2 < X.2.2.2.2.2.2.2.2.maxLocals := by rw [hml]; exact Nat.le_of_ble_eq_true rfl
  have hi3 : 3 < X.2.2.2.2.2.2.2.2.maxLocals := by rw [hml]; exact Nat.le_of_ble_eq_true rfl
  intro n
  induction n with
  | zero =>
    intro v2 v3 r hf kx
    cases hf
  | succ n ih =>
    intro v2 v3 r hf kx
    unfold M_digit_L9 at hf
    refine PW.iload_n cx qX7_digit_9 rfl ?_
    refine PW.iload_n cx qX7_digit_10 rfl ?_
    refine PW.icmp_le cx qX7_digit_11 hf (fun hf => ?_) (fun hf => ?_)
    · exact PW.locs (Lsub.drop (Lsub.keep (Lsub.keep (Lsub.drop Lsub.nil)))) (kx v2 (Option.some.inj hf).symm)
    · refine PW.iload_n cx qX7_digit_14 rfl ?_
      refine PW.bipush (v := 10) cx qX7_digit_15 rfl ?_
      refine PW.idivK cx qX7_digit_17 (by decide) ?_
      refine PW.istore_n (L' := [none, some (.int c1), some (.int (v2 / 10)), some (.int v3)]) cx qX7_digit_18 hi2 rfl rfl ?_
      refine PW.iinc (v := (-1)) (L' := [none, some (.int c1), some (.int (v2 / 10)), some (.int (v3 + (-1)))]) cx qX7_digit_19 rfl rfl hi3 rfl rfl ?_
      refine PW.goto cx qX7_digit_22 ?_
      exact PW.locs (Lsub.drop (Lsub.keep (Lsub.keep (Lsub.keep Lsub.nil)))) (ih (v2 / 10) (v3 + (-1)) _ hf kx)
theorem ctX7_digit {g : GT} {ex : Bool} {sh : List Shp} (h : Hp) (p1 : Int32) (p2 : Int32) (r0 : Int32) (hf : M_digit p1 p2 = some r0) : Ct g mX7_digit 1 0 0 ex [.int p1, .int p2] sh h (PE (some (.int r0)) sh h) := by
  refine Ct.of (L := [some (.int p1), some (.int p2), none, none]) (by decide) (by intro w hw; simp only [List.mem_cons, List.not_mem_nil, or_false] at hw; rcases hw with rfl | rfl <;> rfl) (Nat.le_of_ble_eq_true rfl) rfl (fun X mx => ?_)
  have mx0 := mx
  obtain ⟨cx, hR, hml, hrt, -⟩ := mx0
  have cx : Cx g X RX7 cX7_digit := cx
  have hrt : X.2.2.2.2.2.2.2.1.sig.returnType = (some .int) := hrt
  have hi2 : 2 < X.2.2.2.2.2.2.2.2.maxLocals := by rw [hml]; exact Nat.le_of_ble_eq_true rfl
  have hi3 : 3 < X.2.2.2.2.2.2.2.2.maxLocals := by rw [hml]; exact Nat.le_of_ble_eq_true rfl
  unfold M_digit at hf
  refine PW.iload_n cx qX7_digit_0 rfl ?_
  refine PW.istore_n (L' := [some (.int p1), some (.int p2), some (.int p1), none]) cx qX7_digit_1 hi2 rfl rfl ?_
  refine PW.iload_n cx qX7_digit_2 rfl ?_
  refine PW.callSRI (As := [.int p1]) (st := []) cx hR qX7_digit_3 klX7_61 miX7_digits rfl rfl (Nat.le_of_ble_eq_true rfl) (Nat.le_of_ble_eq_true rfl) (Nat.le_of_ble_eq_true rfl) (Nat.zero_le _) (Nat.zero_le _) hf sne (fun t e => ctX7_digits h p1 t e) (fun t1 hf => ?_)
  refine PW.iconst (v := 1) cx qX7_digit_6 rfl ?_
  refine PW.isub cx qX7_digit_7 ?_
  refine PW.istore_n (L' := [some (.int p1), some (.int p2), some (.int p1), some (.int (t1 - 1))]) cx qX7_digit_8 hi3 rfl rfl ?_
  obtain ⟨r2, er2, hf⟩ := bndO hf sne
  refine PW.locs (Lsub.drop (Lsub.keep (Lsub.keep (Lsub.keep Lsub.nil)))) (lX7_digit_9 mx h p2 FU p1 (t1 - 1) r2 er2 (fun x2_3 e => ?_))
  subst e
  refine PW.iload_n cx qX7_digit_25 rfl ?_
  refine PW.bipush (v := 10) cx qX7_digit_26 rfl ?_
  refine PW.iremK cx qX7_digit_28 (by decide) ?_
  exact PW.iret cx hrt qX7_digit_29 (le_ri hf)
theorem lX7_hasZero_2 {g : GT} {X : XT} {ex : Bool} {sh : List Shp} {post : Option Value → List Shp → Hp → Prop} (mx : Mx g X mX7_hasZero 0 0 0) (h : Hp) : ∀ (n : Nat) (v1 : Int32) (r : (Unit) ⊕ (Bool)) (hf : M_hasZero_L2 n v1 = some r) (kx : r = .inl () → PW g X ex (QE g X ex post 0 0) 0 0 sh h 23 [none, none] []) (kr : ∀ y : Bool, r = .inr y → post (some (.int (b2i y))) sh h), PW g X ex (QE g X ex post 0 0) 0 0 sh h 2 [none, some (.int v1)] [] := by
  obtain ⟨cx, hR, hml, hrt, -⟩ := mx
  have cx : Cx g X RX7 cX7_hasZero := cx
  have hrt : X.2.2.2.2.2.2.2.1.sig.returnType = (some .boolean) := hrt
  have hi1 : 1 < X.2.2.2.2.2.2.2.2.maxLocals := by rw [hml]; exact Nat.le_of_ble_eq_true rfl
  intro n
  induction n with
  | zero =>
    intro v1 r hf kx kr
    cases hf
  | succ n ih =>
    intro v1 r hf kx kr
    unfold M_hasZero_L2 at hf
    refine PW.iload_n cx qX7_hasZero_2 rfl ?_
    refine PW.if_le cx qX7_hasZero_3 hf (fun hf => ?_) (fun hf => ?_)
    · exact PW.locs (Lsub.drop (Lsub.drop Lsub.nil)) (kx (Option.some.inj hf).symm)
    · refine PW.iload_n cx qX7_hasZero_6 rfl ?_
      refine PW.bipush (v := 10) cx qX7_hasZero_7 rfl ?_
      refine PW.iremK cx qX7_hasZero_9 (by decide) ?_
      refine PW.if_ne cx qX7_hasZero_10 hf (fun hf => ?_) (fun hf => ?_)
      · refine PW.iconst (v := 1) cx qX7_hasZero_13 rfl ?_
        exact PW.zret cx hrt nb1 qX7_hasZero_14 (kr _ (Option.some.inj hf).symm)
      · refine PW.iload_n cx qX7_hasZero_15 rfl ?_
        refine PW.bipush (v := 10) cx qX7_hasZero_16 rfl ?_
        refine PW.idivK cx qX7_hasZero_18 (by decide) ?_
        refine PW.istore_n (L' := [none, some (.int (v1 / 10))]) cx qX7_hasZero_19 hi1 rfl rfl ?_
        refine PW.goto cx qX7_hasZero_20 ?_
        exact PW.locs (Lsub.drop (Lsub.keep Lsub.nil)) (ih (v1 / 10) _ hf kx kr)
theorem ctX7_hasZero {g : GT} {ex : Bool} {sh : List Shp} (h : Hp) (p1 : Int32) (r0 : Bool) (hf : M_hasZero p1 = some r0) : Ct g mX7_hasZero 0 0 0 ex [.int p1] sh h (PE (some (.int (b2i r0))) sh h) := by
  refine Ct.of (L := [some (.int p1), none]) (by decide) (by intro w hw; simp only [List.mem_cons, List.not_mem_nil, or_false] at hw; rcases hw with rfl <;> rfl) (Nat.le_of_ble_eq_true rfl) rfl (fun X mx => ?_)
  have mx0 := mx
  obtain ⟨cx, hR, hml, hrt, -⟩ := mx0
  have cx : Cx g X RX7 cX7_hasZero := cx
  have hrt : X.2.2.2.2.2.2.2.1.sig.returnType = (some .boolean) := hrt
  have hi1 : 1 < X.2.2.2.2.2.2.2.2.maxLocals := by rw [hml]; exact Nat.le_of_ble_eq_true rfl
  unfold M_hasZero at hf
  refine PW.iload_n cx qX7_hasZero_0 rfl ?_
  refine PW.istore_n (L' := [some (.int p1), some (.int p1)]) cx qX7_hasZero_1 hi1 rfl rfl ?_
  obtain ⟨r1, er1, hf⟩ := bndO hf sne
  refine PW.locs (Lsub.drop (Lsub.keep Lsub.nil)) (lX7_hasZero_2 mx h FU p1 r1 er1 (fun e => ?_) (fun y e => ?_))
  · subst e
    refine PW.iconst (v := 0) cx qX7_hasZero_23 rfl ?_
    exact PW.zret cx hrt nb0 qX7_hasZero_24 (le_rz hf)
  · subst e
    exact (le_rz hf)
theorem ctX7_areColours {g : GT} {ex : Bool} {sh : List Shp} (h : Hp) (p1 : Int32) (r0 : Bool) (hf : M_areColours p1 = some r0) : Ct g mX7_areColours 1 0 0 ex [.int p1] sh h (PE (some (.int (b2i r0))) sh h) := by
  refine Ct.of (L := [some (.int p1)]) (by decide) (by intro w hw; simp only [List.mem_cons, List.not_mem_nil, or_false] at hw; rcases hw with rfl <;> rfl) (Nat.le_of_ble_eq_true rfl) rfl (fun X mx => ?_)
  obtain ⟨cx, hR, hml, hrt, -⟩ := mx
  have cx : Cx g X RX7 cX7_areColours := cx
  have hrt : X.2.2.2.2.2.2.2.1.sig.returnType = (some .boolean) := hrt
  unfold M_areColours at hf
  refine PW.iload_n cx qX7_areColours_0 rfl ?_
  refine PW.iconst (v := 1) cx qX7_areColours_1 rfl ?_
  refine PW.ldc (v := 99999999) cx qX7_areColours_2 kcX7_65 ?_
  refine PW.callSRB (As := [.int p1, .int 1, .int 99999999]) (st := []) cx hR qX7_areColours_4 klX7_57 miX7_in rfl rfl (Nat.le_of_ble_eq_true rfl) (Nat.le_of_ble_eq_true rfl) (Nat.le_of_ble_eq_true rfl) (Nat.zero_le _) (Nat.zero_le _) hf sne (fun t e => ctX7_in h p1 1 99999999 t e) (fun t1 hf => ?_)
  refine PW.if_eq cx qX7_areColours_7 hf (fun hf => ?_) (fun hf => ?_)
  · refine PW.iconst (v := 0) cx qX7_areColours_21 rfl ?_
    exact PW.zret cx hrt nb0 qX7_areColours_22 (le_rz hf)
  · refine PW.iload_n cx qX7_areColours_10 rfl ?_
    refine PW.callSRB (As := [.int p1]) (st := []) cx hR qX7_areColours_11 klX7_66 miX7_hasZero rfl rfl (Nat.le_of_ble_eq_true rfl) (Nat.le_of_ble_eq_true rfl) (Nat.le_of_ble_eq_true rfl) (Nat.zero_le _) (Nat.zero_le _) hf sne (fun t e => ctX7_hasZero h p1 t e) (fun t2 hf => ?_)
    refine PW.if_ne cx qX7_areColours_14 hf (fun hf => ?_) (fun hf => ?_)
    · refine PW.iconst (v := 1) cx qX7_areColours_17 rfl ?_
      refine PW.goto cx qX7_areColours_18 ?_
      exact PW.zret cx hrt nb1 qX7_areColours_22 (le_rz hf)
    · refine PW.iconst (v := 0) cx qX7_areColours_21 rfl ?_
      exact PW.zret cx hrt nb0 qX7_areColours_22 (le_rz hf)
theorem lX7_hashOf_4 {g : GT} {X : XT} {ex : Bool} {sh : List Shp} {post : Option Value → List Shp → Hp → Prop} (mx : Mx g X mX7_hashOf 2 0 0) (hx : MSh sh) (h : Hp) (c1 : Int32) : ∀ (n : Nat) (v2 : Int32) (v3 : Int32) (r : Int32) (hf : M_hashOf_L4 h c1 n v2 v3 = some r) (kx : ∀ (x2 : Int32), r = x2 → PW g X ex (QE g X ex post 0 0) 0 0 sh h 43 [some (.ref (gB g + 140)), some (.int c1), some (.int x2), none] []), PW g X ex (QE g X ex post 0 0) 0 0 sh h 4 [some (.ref (gB g + 140)), some (.int c1), some (.int v2), some (.int v3)] [] := by
  obtain ⟨cx, hR, hml, hrt, -⟩ := mx
  have cx : Cx g X RX7 cX7_hashOf := cx
  have hrt : X.2.2.2.2.2.2.2.1.sig.returnType = (some .int) := hrt
  have hi2 : 2 < X.2.2.2.2.2.2.2.2.maxLocals := by rw [hml]; exact Nat.le_of_ble_eq_true rfl
  have hi3 : 3 < X.2.2.2.2.2.2.2.2.maxLocals := by rw [hml]; exact Nat.le_of_ble_eq_true rfl
  intro n
  induction n with
  | zero =>
    intro v2 v3 r hf kx
    cases hf
  | succ n ih =>
    intro v2 v3 r hf kx
    unfold M_hashOf_L4 at hf
    refine PW.iload_n cx qX7_hashOf_4 rfl ?_
    refine PW.aload_n cx qX7_hashOf_5 rfl ?_
    refine PW.iload_n cx qX7_hashOf_6 rfl ?_
    refine PW.iconst (v := 0) cx qX7_hashOf_7 rfl ?_
    refine PW.callVRI (As := [.int c1, .int 0]) (st := [.int v3]) cx hR qX7_hashOf_8 klX7_70 mvX7_of (sh_140 hx) rfl rfl rfl rfl (Nat.le_of_ble_eq_true rfl) (Nat.le_of_ble_eq_true rfl) (Nat.le_of_ble_eq_true rfl) (Nat.zero_le _) (Nat.zero_le _) hf sne (fun t e => ctX7_of hx h c1 0 t e) (fun t1 hf => ?_)
    refine PW.callSRI (As := [.int t1]) (st := [.int v3]) cx hR qX7_hashOf_11 klX7_61 miX7_digits rfl rfl (Nat.le_of_ble_eq_true rfl) (Nat.le_of_ble_eq_true rfl) (Nat.le_of_ble_eq_true rfl) (Nat.zero_le _) (Nat.zero_le _) hf sne (fun t e => ctX7_digits h t1 t e) (fun t2 hf => ?_)
    refine PW.icmp_ge cx qX7_hashOf_14 hf (fun hf => ?_) (fun hf => ?_)
    · exact PW.locs (Lsub.keep (Lsub.keep (Lsub.keep (Lsub.drop Lsub.nil)))) (kx v2 (Option.some.inj hf).symm)
    · refine PW.bipush (v := 31) cx qX7_hashOf_17 rfl ?_
      refine PW.iload_n cx qX7_hashOf_19 rfl ?_
      refine PW.imul cx qX7_hashOf_20 ?_
      refine PW.aload_n cx qX7_hashOf_21 rfl ?_
      refine PW.iload_n cx qX7_hashOf_22 rfl ?_
      refine PW.iconst (v := 0) cx qX7_hashOf_23 rfl ?_
      refine PW.callVRI (As := [.int c1, .int 0]) (st := [.int (31 * v2)]) cx hR qX7_hashOf_24 klX7_70 mvX7_of (sh_140 hx) rfl rfl rfl rfl (Nat.le_of_ble_eq_true rfl) (Nat.le_of_ble_eq_true rfl) (Nat.le_of_ble_eq_true rfl) (Nat.zero_le _) (Nat.zero_le _) hf sne (fun t e => ctX7_of hx h c1 0 t e) (fun t3 hf => ?_)
      refine PW.iload_n cx qX7_hashOf_27 rfl ?_
      refine PW.callSRI (As := [.int t3, .int v3]) (st := [.int (31 * v2)]) cx hR qX7_hashOf_28 klX7_74 miX7_digit rfl rfl (Nat.le_of_ble_eq_true rfl) (Nat.le_of_ble_eq_true rfl) (Nat.le_of_ble_eq_true rfl) (Nat.zero_le _) (Nat.zero_le _) hf sne (fun t e => ctX7_digit h t3 v3 t e) (fun t4 hf => ?_)
      refine PW.iadd cx qX7_hashOf_31 ?_
      refine PW.sipush (v := 997) cx qX7_hashOf_32 rfl ?_
      refine PW.iremK cx qX7_hashOf_35 (by decide) ?_
      refine PW.istore_n (L' := [some (.ref (gB g + 140)), some (.int c1), some (.int (((31 * v2) + t4) - ((31 * v2) + t4) / 997 * 997)), some (.int v3)]) cx qX7_hashOf_36 hi2 rfl rfl ?_
      refine PW.iinc (v := 1) (L' := [some (.ref (gB g + 140)), some (.int c1), some (.int (((31 * v2) + t4) - ((31 * v2) + t4) / 997 * 997)), some (.int (v3 + 1))]) cx qX7_hashOf_37 rfl rfl hi3 rfl rfl ?_
      refine PW.goto cx qX7_hashOf_40 ?_
      exact PW.locs (Lsub.keep (Lsub.keep (Lsub.keep (Lsub.keep Lsub.nil)))) (ih (((31 * v2) + t4) - ((31 * v2) + t4) / 997 * 997) (v3 + 1) _ hf kx)
theorem ctX7_hashOf {g : GT} {ex : Bool} {sh : List Shp} (hx : MSh sh) (h : Hp) (p1 : Int32) (r0 : Int32) (hf : M_hashOf h p1 = some r0) : Ct g mX7_hashOf 2 0 0 ex [.ref (gB g + 140), .int p1] sh h (PE (some (.int r0)) sh h) := by
  refine Ct.of (L := [some (.ref (gB g + 140)), some (.int p1), none, none]) (by decide) (by intro w hw; simp only [List.mem_cons, List.not_mem_nil, or_false] at hw; rcases hw with rfl | rfl <;> rfl) (Nat.le_of_ble_eq_true rfl) rfl (fun X mx => ?_)
  have mx0 := mx
  obtain ⟨cx, hR, hml, hrt, -⟩ := mx0
  have cx : Cx g X RX7 cX7_hashOf := cx
  have hrt : X.2.2.2.2.2.2.2.1.sig.returnType = (some .int) := hrt
  have hi2 : 2 < X.2.2.2.2.2.2.2.2.maxLocals := by rw [hml]; exact Nat.le_of_ble_eq_true rfl
  have hi3 : 3 < X.2.2.2.2.2.2.2.2.maxLocals := by rw [hml]; exact Nat.le_of_ble_eq_true rfl
  unfold M_hashOf at hf
  refine PW.iconst (v := 0) cx qX7_hashOf_0 rfl ?_
  refine PW.istore_n (L' := [some (.ref (gB g + 140)), some (.int p1), some (.int 0), none]) cx qX7_hashOf_1 hi2 rfl rfl ?_
  refine PW.iconst (v := 0) cx qX7_hashOf_2 rfl ?_
  refine PW.istore_n (L' := [some (.ref (gB g + 140)), some (.int p1), some (.int 0), some (.int 0)]) cx qX7_hashOf_3 hi3 rfl rfl ?_
  obtain ⟨r5, er5, hf⟩ := bndO hf sne
  refine PW.locs (Lsub.keep (Lsub.keep (Lsub.keep (Lsub.keep Lsub.nil)))) (lX7_hashOf_4 mx hx h p1 FU 0 0 r5 er5 (fun x2_6 e => ?_))
  subst e
  refine PW.iload_n cx qX7_hashOf_43 rfl ?_
  exact PW.iret cx hrt qX7_hashOf_44 (le_ri hf)
theorem ctX7_homeOf {g : GT} {ex : Bool} {sh : List Shp} (hx : MSh sh) (h : Hp) (p1 : Int32) (p2 : Int32) (r0 : Int32) (hf : M_homeOf h p1 p2 = some r0) : Ct g mX7_homeOf 3 0 0 ex [.ref (gB g + 140), .int p1, .int p2] sh h (PE (some (.int r0)) sh h) := by
  refine Ct.of (L := [some (.ref (gB g + 140)), some (.int p1), some (.int p2)]) (by decide) (by intro w hw; simp only [List.mem_cons, List.not_mem_nil, or_false] at hw; rcases hw with rfl | rfl | rfl <;> rfl) (Nat.le_of_ble_eq_true rfl) rfl (fun X mx => ?_)
  obtain ⟨cx, hR, hml, hrt, -⟩ := mx
  have cx : Cx g X RX7 cX7_homeOf := cx
  have hrt : X.2.2.2.2.2.2.2.1.sig.returnType = (some .int) := hrt
  unfold M_homeOf at hf
  refine PW.aload_n cx qX7_homeOf_0 rfl ?_
  refine PW.iload_n cx qX7_homeOf_1 rfl ?_
  refine PW.callVRI (As := [.int p1]) (st := []) cx hR qX7_homeOf_2 klX7_89 mvX7_hashOf (sh_140 hx) rfl rfl rfl rfl (Nat.le_of_ble_eq_true rfl) (Nat.le_of_ble_eq_true rfl) (Nat.le_of_ble_eq_true rfl) (Nat.zero_le _) (Nat.zero_le _) hf sne (fun t e => ctX7_hashOf hx h p1 t e) (fun t1 hf => ?_)
  refine PW.aload_n cx qX7_homeOf_5 rfl ?_
  refine PW.iload_n cx qX7_homeOf_6 rfl ?_
  refine PW.callVRI (As := [.int p2]) (st := [.int t1]) cx hR qX7_homeOf_7 klX7_92 mvX7_beds (sh_140 hx) rfl rfl rfl rfl (Nat.le_of_ble_eq_true rfl) (Nat.le_of_ble_eq_true rfl) (Nat.le_of_ble_eq_true rfl) (Nat.zero_le _) (Nat.zero_le _) hf sne (fun t e => ctX7_beds hx h p2 t e) (fun t2 hf => ?_)
  refine PW.irem cx qX7_homeOf_10 hf sne (fun t3 hf => ?_)
  exact PW.iret cx hrt qX7_homeOf_11 (le_ri hf)
theorem ctX7_onWay {g : GT} {ex : Bool} {sh : List Shp} (hx : MSh sh) (h : Hp) (p1 : Int32) (p2 : Int32) (p3 : Int32) (r0 : Int32) (hf : M_onWay h p1 p2 p3 = some r0) : Ct g mX7_onWay 4 0 0 ex [.ref (gB g + 140), .int p1, .int p2, .int p3] sh h (PE (some (.int r0)) sh h) := by
  refine Ct.of (L := [some (.ref (gB g + 140)), some (.int p1), some (.int p2), some (.int p3)]) (by decide) (by intro w hw; simp only [List.mem_cons, List.not_mem_nil, or_false] at hw; rcases hw with rfl | rfl | rfl | rfl <;> rfl) (Nat.le_of_ble_eq_true rfl) rfl (fun X mx => ?_)
  obtain ⟨cx, hR, hml, hrt, -⟩ := mx
  have cx : Cx g X RX7 cX7_onWay := cx
  have hrt : X.2.2.2.2.2.2.2.1.sig.returnType = (some .int) := hrt
  unfold M_onWay at hf
  refine PW.aload_n cx qX7_onWay_0 rfl ?_
  refine PW.iload_n cx qX7_onWay_1 rfl ?_
  refine PW.iload_n cx qX7_onWay_2 rfl ?_
  refine PW.callVRI (As := [.int p1, .int p2]) (st := []) cx hR qX7_onWay_3 klX7_95 mvX7_homeOf (sh_140 hx) rfl rfl rfl rfl (Nat.le_of_ble_eq_true rfl) (Nat.le_of_ble_eq_true rfl) (Nat.le_of_ble_eq_true rfl) (Nat.zero_le _) (Nat.zero_le _) hf sne (fun t e => ctX7_homeOf hx h p1 p2 t e) (fun t1 hf => ?_)
  refine PW.iload_n cx qX7_onWay_6 rfl ?_
  refine PW.iadd cx qX7_onWay_7 ?_
  refine PW.aload_n cx qX7_onWay_8 rfl ?_
  refine PW.iload_n cx qX7_onWay_9 rfl ?_
  refine PW.callVRI (As := [.int p2]) (st := [.int (t1 + p3)]) cx hR qX7_onWay_10 klX7_92 mvX7_beds (sh_140 hx) rfl rfl rfl rfl (Nat.le_of_ble_eq_true rfl) (Nat.le_of_ble_eq_true rfl) (Nat.le_of_ble_eq_true rfl) (Nat.zero_le _) (Nat.zero_le _) hf sne (fun t e => ctX7_beds hx h p2 t e) (fun t2 hf => ?_)
  refine PW.irem cx qX7_onWay_13 hf sne (fun t3 hf => ?_)
  exact PW.iret cx hrt qX7_onWay_14 (le_ri hf)
theorem lX7_passedBy_2 {g : GT} {X : XT} {ex : Bool} {sh : List Shp} {post : Option Value → List Shp → Hp → Prop} (mx : Mx g X mX7_passedBy 5 0 0) (hx : MSh sh) (h : Hp) (c1 : Int32) (c2 : Int32) : ∀ (n : Nat) (v3 : Int32) (r : (Unit) ⊕ (Int32)) (hf : M_passedBy_L2 h c1 c2 n v3 = some r) (kx : r = .inl () → PW g X ex (QE g X ex post 0 0) 0 0 sh h 34 [some (.ref (gB g + 140)), some (.int c1), some (.int c2), none] []) (kr : ∀ y : Int32, r = .inr y → post (some (.int y)) sh h), PW g X ex (QE g X ex post 0 0) 0 0 sh h 2 [some (.ref (gB g + 140)), some (.int c1), some (.int c2), some (.int v3)] [] := by
  obtain ⟨cx, hR, hml, hrt, -⟩ := mx
  have cx : Cx g X RX7 cX7_passedBy := cx
  have hrt : X.2.2.2.2.2.2.2.1.sig.returnType = (some .int) := hrt
  have hi3 : 3 < X.2.2.2.2.2.2.2.2.maxLocals := by rw [hml]; exact Nat.le_of_ble_eq_true rfl
  intro n
  induction n with
  | zero =>
    intro v3 r hf kx kr
    cases hf
  | succ n ih =>
    intro v3 r hf kx kr
    unfold M_passedBy_L2 at hf
    refine PW.iload_n cx qX7_passedBy_2 rfl ?_
    refine PW.aload_n cx qX7_passedBy_3 rfl ?_
    refine PW.iload_n cx qX7_passedBy_4 rfl ?_
    refine PW.callVRI (As := [.int c2]) (st := [.int v3]) cx hR qX7_passedBy_5 klX7_92 mvX7_beds (sh_140 hx) rfl rfl rfl rfl (Nat.le_of_ble_eq_true rfl) (Nat.le_of_ble_eq_true rfl) (Nat.le_of_ble_eq_true rfl) (Nat.zero_le _) (Nat.zero_le _) hf sne (fun t e => ctX7_beds hx h c2 t e) (fun t1 hf => ?_)
    refine PW.icmp_ge cx qX7_passedBy_8 hf (fun hf => ?_) (fun hf => ?_)
    · exact PW.locs (Lsub.keep (Lsub.keep (Lsub.keep (Lsub.drop Lsub.nil)))) (kx (Option.some.inj hf).symm)
    · refine PW.aload_n cx qX7_passedBy_11 rfl ?_
      refine PW.iload_n cx qX7_passedBy_12 rfl ?_
      refine PW.aload_n cx qX7_passedBy_13 rfl ?_
      refine PW.iload_n cx qX7_passedBy_14 rfl ?_
      refine PW.iload_n cx qX7_passedBy_15 rfl ?_
      refine PW.iload_n cx qX7_passedBy_16 rfl ?_
      refine PW.callVRI (As := [.int c1, .int c2, .int v3]) (st := [.int c2, .ref (gB g + 140)]) cx hR qX7_passedBy_17 klX7_98 mvX7_onWay (sh_140 hx) rfl rfl rfl rfl (Nat.le_of_ble_eq_true rfl) (Nat.le_of_ble_eq_true rfl) (Nat.le_of_ble_eq_true rfl) (Nat.zero_le _) (Nat.zero_le _) hf sne (fun t e => ctX7_onWay hx h c1 c2 v3 t e) (fun t2 hf => ?_)
      refine PW.callVRI (As := [.int c2, .int t2]) (st := []) cx hR qX7_passedBy_20 klX7_102 mvX7_inBed (sh_140 hx) rfl rfl rfl rfl (Nat.le_of_ble_eq_true rfl) (Nat.le_of_ble_eq_true rfl) (Nat.le_of_ble_eq_true rfl) (Nat.zero_le _) (Nat.zero_le _) hf sne (fun t e => ctX7_inBed hx h c2 t2 t e) (fun t3 hf => ?_)
      refine PW.if_ge cx qX7_passedBy_23 hf (fun hf => ?_) (fun hf => ?_)
      · refine PW.iinc (v := 1) (L' := [some (.ref (gB g + 140)), some (.int c1), some (.int c2), some (.int (v3 + 1))]) cx qX7_passedBy_28 rfl rfl hi3 rfl rfl ?_
        refine PW.goto cx qX7_passedBy_31 ?_
        exact PW.locs (Lsub.keep (Lsub.keep (Lsub.keep (Lsub.keep Lsub.nil)))) (ih (v3 + 1) _ hf kx kr)
      · refine PW.iload_n cx qX7_passedBy_26 rfl ?_
        exact PW.iret cx hrt qX7_passedBy_27 (kr _ (Option.some.inj hf).symm)
theorem ctX7_passedBy {g : GT} {ex : Bool} {sh : List Shp} (hx : MSh sh) (h : Hp) (p1 : Int32) (p2 : Int32) (r0 : Int32) (hf : M_passedBy h p1 p2 = some r0) : Ct g mX7_passedBy 5 0 0 ex [.ref (gB g + 140), .int p1, .int p2] sh h (PE (some (.int r0)) sh h) := by
  refine Ct.of (L := [some (.ref (gB g + 140)), some (.int p1), some (.int p2), none]) (by decide) (by intro w hw; simp only [List.mem_cons, List.not_mem_nil, or_false] at hw; rcases hw with rfl | rfl | rfl <;> rfl) (Nat.le_of_ble_eq_true rfl) rfl (fun X mx => ?_)
  have mx0 := mx
  obtain ⟨cx, hR, hml, hrt, -⟩ := mx0
  have cx : Cx g X RX7 cX7_passedBy := cx
  have hrt : X.2.2.2.2.2.2.2.1.sig.returnType = (some .int) := hrt
  have hi3 : 3 < X.2.2.2.2.2.2.2.2.maxLocals := by rw [hml]; exact Nat.le_of_ble_eq_true rfl
  unfold M_passedBy at hf
  refine PW.iconst (v := 0) cx qX7_passedBy_0 rfl ?_
  refine PW.istore_n (L' := [some (.ref (gB g + 140)), some (.int p1), some (.int p2), some (.int 0)]) cx qX7_passedBy_1 hi3 rfl rfl ?_
  obtain ⟨r4, er4, hf⟩ := bndO hf sne
  refine PW.locs (Lsub.keep (Lsub.keep (Lsub.keep (Lsub.keep Lsub.nil)))) (lX7_passedBy_2 mx hx h p1 p2 FU 0 r4 er4 (fun e => ?_) (fun y e => ?_))
  · subst e
    refine PW.iconst (v := (-1)) cx qX7_passedBy_34 rfl ?_
    exact PW.iret cx hrt qX7_passedBy_35 (le_ri hf)
  · subst e
    exact (le_ri hf)
theorem lX7_looks_2 {g : GT} {X : XT} {ex : Bool} {sh : List Shp} {post : Option Value → List Shp → Hp → Prop} (mx : Mx g X mX7_looks 5 0 0) (hx : MSh sh) (h : Hp) (c1 : Int32) (c2 : Int32) : ∀ (n : Nat) (v3 : Int32) (r : (Unit) ⊕ (Int32)) (hf : M_looks_L2 h c1 c2 n v3 = some r) (kx : r = .inl () → PW g X ex (QE g X ex post 0 0) 0 0 sh h 47 [some (.ref (gB g + 140)), some (.int c1), some (.int c2), none, none] []) (kr : ∀ y : Int32, r = .inr y → post (some (.int y)) sh h), PW g X ex (QE g X ex post 0 0) 0 0 sh h 2 [some (.ref (gB g + 140)), some (.int c1), some (.int c2), some (.int v3), none] [] := by
  obtain ⟨cx, hR, hml, hrt, -⟩ := mx
  have cx : Cx g X RX7 cX7_looks := cx
  have hrt : X.2.2.2.2.2.2.2.1.sig.returnType = (some .int) := hrt
  have hi3 : 3 < X.2.2.2.2.2.2.2.2.maxLocals := by rw [hml]; exact Nat.le_of_ble_eq_true rfl
  have hi4 : 4 < X.2.2.2.2.2.2.2.2.maxLocals := by rw [hml]; exact Nat.le_of_ble_eq_true rfl
  intro n
  induction n with
  | zero =>
    intro v3 r hf kx kr
    cases hf
  | succ n ih =>
    intro v3 r hf kx kr
    unfold M_looks_L2 at hf
    refine PW.iload_n cx qX7_looks_2 rfl ?_
    refine PW.aload_n cx qX7_looks_3 rfl ?_
    refine PW.iload_n cx qX7_looks_4 rfl ?_
    refine PW.callVRI (As := [.int c2]) (st := [.int v3]) cx hR qX7_looks_5 klX7_92 mvX7_beds (sh_140 hx) rfl rfl rfl rfl (Nat.le_of_ble_eq_true rfl) (Nat.le_of_ble_eq_true rfl) (Nat.le_of_ble_eq_true rfl) (Nat.zero_le _) (Nat.zero_le _) hf sne (fun t e => ctX7_beds hx h c2 t e) (fun t1 hf => ?_)
    refine PW.icmp_ge cx qX7_looks_8 hf (fun hf => ?_) (fun hf => ?_)
    · exact PW.locs (Lsub.keep (Lsub.keep (Lsub.keep (Lsub.drop (Lsub.drop Lsub.nil))))) (kx (Option.some.inj hf).symm)
    · refine PW.aload_n cx qX7_looks_11 rfl ?_
      refine PW.iload_n cx qX7_looks_12 rfl ?_
      refine PW.aload_n cx qX7_looks_13 rfl ?_
      refine PW.iload_n cx qX7_looks_14 rfl ?_
      refine PW.iload_n cx qX7_looks_15 rfl ?_
      refine PW.iload_n cx qX7_looks_16 rfl ?_
      refine PW.callVRI (As := [.int c1, .int c2, .int v3]) (st := [.int c2, .ref (gB g + 140)]) cx hR qX7_looks_17 klX7_98 mvX7_onWay (sh_140 hx) rfl rfl rfl rfl (Nat.le_of_ble_eq_true rfl) (Nat.le_of_ble_eq_true rfl) (Nat.le_of_ble_eq_true rfl) (Nat.zero_le _) (Nat.zero_le _) hf sne (fun t e => ctX7_onWay hx h c1 c2 v3 t e) (fun t2 hf => ?_)
      refine PW.callVRI (As := [.int c2, .int t2]) (st := []) cx hR qX7_looks_20 klX7_102 mvX7_inBed (sh_140 hx) rfl rfl rfl rfl (Nat.le_of_ble_eq_true rfl) (Nat.le_of_ble_eq_true rfl) (Nat.le_of_ble_eq_true rfl) (Nat.zero_le _) (Nat.zero_le _) hf sne (fun t e => ctX7_inBed hx h c2 t2 t e) (fun t3 hf => ?_)
      refine PW.istore (L' := [some (.ref (gB g + 140)), some (.int c1), some (.int c2), some (.int v3), some (.int t3)]) cx qX7_looks_23 hi4 rfl rfl ?_
      refine PW.iload cx qX7_looks_25 rfl ?_
      refine PW.iload_n cx qX7_looks_27 rfl ?_
      refine PW.icmp_eq cx qX7_looks_28 hf (fun hf => ?_) (fun hf => ?_)
      · refine PW.iload_n cx qX7_looks_37 rfl ?_
        refine PW.iconst (v := 1) cx qX7_looks_38 rfl ?_
        refine PW.iadd cx qX7_looks_39 ?_
        exact PW.iret cx hrt qX7_looks_40 (kr _ (Option.some.inj hf).symm)
      · refine PW.iload cx qX7_looks_31 rfl ?_
        refine PW.iconst (v := (-1)) cx qX7_looks_33 rfl ?_
        refine PW.icmp_ne cx qX7_looks_34 hf (fun hf => ?_) (fun hf => ?_)
        · refine PW.iload_n cx qX7_looks_37 rfl ?_
          refine PW.iconst (v := 1) cx qX7_looks_38 rfl ?_
          refine PW.iadd cx qX7_looks_39 ?_
          exact PW.iret cx hrt qX7_looks_40 (kr _ (Option.some.inj hf).symm)
        · refine PW.iinc (v := 1) (L' := [some (.ref (gB g + 140)), some (.int c1), some (.int c2), some (.int (v3 + 1)), some (.int t3)]) cx qX7_looks_41 rfl rfl hi3 rfl rfl ?_
          refine PW.goto cx qX7_looks_44 ?_
          exact PW.locs (Lsub.keep (Lsub.keep (Lsub.keep (Lsub.keep (Lsub.drop Lsub.nil))))) (ih (v3 + 1) _ hf kx kr)
theorem ctX7_looks {g : GT} {ex : Bool} {sh : List Shp} (hx : MSh sh) (h : Hp) (p1 : Int32) (p2 : Int32) (r0 : Int32) (hf : M_looks h p1 p2 = some r0) : Ct g mX7_looks 5 0 0 ex [.ref (gB g + 140), .int p1, .int p2] sh h (PE (some (.int r0)) sh h) := by
  refine Ct.of (L := [some (.ref (gB g + 140)), some (.int p1), some (.int p2), none, none]) (by decide) (by intro w hw; simp only [List.mem_cons, List.not_mem_nil, or_false] at hw; rcases hw with rfl | rfl | rfl <;> rfl) (Nat.le_of_ble_eq_true rfl) rfl (fun X mx => ?_)
  have mx0 := mx
  obtain ⟨cx, hR, hml, hrt, -⟩ := mx0
  have cx : Cx g X RX7 cX7_looks := cx
  have hrt : X.2.2.2.2.2.2.2.1.sig.returnType = (some .int) := hrt
  have hi3 : 3 < X.2.2.2.2.2.2.2.2.maxLocals := by rw [hml]; exact Nat.le_of_ble_eq_true rfl
  have hi4 : 4 < X.2.2.2.2.2.2.2.2.maxLocals := by rw [hml]; exact Nat.le_of_ble_eq_true rfl
  unfold M_looks at hf
  refine PW.iconst (v := 0) cx qX7_looks_0 rfl ?_
  refine PW.istore_n (L' := [some (.ref (gB g + 140)), some (.int p1), some (.int p2), some (.int 0), none]) cx qX7_looks_1 hi3 rfl rfl ?_
  obtain ⟨r4, er4, hf⟩ := bndO hf sne
  refine PW.locs (Lsub.keep (Lsub.keep (Lsub.keep (Lsub.keep (Lsub.drop Lsub.nil))))) (lX7_looks_2 mx hx h p1 p2 FU 0 r4 er4 (fun e => ?_) (fun y e => ?_))
  · subst e
    refine PW.aload_n cx qX7_looks_47 rfl ?_
    refine PW.iload_n cx qX7_looks_48 rfl ?_
    refine PW.callVRI (As := [.int p2]) (st := []) cx hR qX7_looks_49 klX7_92 mvX7_beds (sh_140 hx) rfl rfl rfl rfl (Nat.le_of_ble_eq_true rfl) (Nat.le_of_ble_eq_true rfl) (Nat.le_of_ble_eq_true rfl) (Nat.zero_le _) (Nat.zero_le _) hf sne (fun t e => ctX7_beds hx h p2 t e) (fun t5 hf => ?_)
    exact PW.iret cx hrt qX7_looks_52 (le_ri hf)
  · subst e
    exact (le_ri hf)
