set_option maxRecDepth 20000 in
theorem ctL_truncateInput {g : GT} {sh : List Shp} (hx : XSh sh) (ho : sh[150]? = some (.inr (3, 1, []))) (h : Hp) (p1 : Int32) (r0 : Int32 × Hp) (hf : L_truncateInput h p1 = some r0) : CtW g mL_truncateInput 10 1 6 [.ref (gB g + 0), .int p1, .ref (gB g + 150)] sh h (PE (some (.int r0.1)) sh r0.2) := by
  refine CtW.of (L := [some (.ref (gB g + 0)), some (.int p1), some (.ref (gB g + 150)), none]) (by decide) (by intro w hw; simp only [List.mem_cons, List.not_mem_nil, or_false] at hw; rcases hw with rfl | rfl | rfl <;> rfl) (Nat.le_of_ble_eq_true rfl) rfl (fun X mx hT => ?_)
  obtain ⟨cx, hR, hml, hrt, -⟩ := mx
  have cx : Cx g X RL cL_truncateInput := cx
  have hrt : X.2.2.2.2.2.2.2.1.sig.returnType = (some .int) := hrt
  have hi3 : 3 < X.2.2.2.2.2.2.2.2.maxLocals := by rw [hml]; exact Nat.le_of_ble_eq_true rfl
  unfold L_truncateInput at hf
  refine PW.aload_n cx qL_truncateInput_0 rfl ?_
  refine PW.iconst (v := 0) cx qL_truncateInput_1 rfl ?_
  refine PW.aload_n cx qL_truncateInput_2 rfl ?_
  refine PW.iload_n cx qL_truncateInput_3 rfl ?_
  refine PW.callVCI (As := [.int p1]) (st := [.int 0, .ref (gB g + 150)]) ckk css cx hR hT qL_truncateInput_4 ktL_7 mvX6_truncateInput (sh_0 hx) rfl rfl rfl rfl (Nat.le_of_ble_eq_true rfl) (Nat.le_of_ble_eq_true rfl) (Nat.le_of_ble_eq_true rfl) (Nat.le_of_ble_eq_true rfl) (Nat.le_of_ble_eq_true rfl) hf sne (fun t e => ctX6_truncateInput hx h p1 t e) (fun i h9 hf => ?_) (fun t2 h1 hf => ?_)
  · rcases caE hf with ⟨rfl, hf⟩ | ⟨-, hf⟩
    · refine ⟨12, ⟨by decide, by decide⟩, rfl, fun q4 => ?_⟩
      refine PW.astore_n (L' := [some (.ref (gB g + 0)), some (.int p1), some (.ref (gB g + 150)), some (.ref q4)]) cx qL_truncateInput_12 hi3 rfl rfl ?_
      refine PW.iconst (v := 1) cx qL_truncateInput_13 rfl ?_
      exact PW.toX (Nat.le_of_ble_eq_true rfl) (Nat.le_of_ble_eq_true rfl) (PW.iret cx hrt qL_truncateInput_14 (le_wi hf))
    · cases hf
  · refine PW.i2l cx qL_truncateInput_7 ?_
    refine PW.last1 cx qL_truncateInput_8 ho hf (fun h3 hf => ?_)
    refine PW.goto cx qL_truncateInput_9 ?_
    refine PW.iconst (v := 0) cx qL_truncateInput_15 rfl ?_
    exact PW.toX (Nat.le_of_ble_eq_true rfl) (Nat.le_of_ble_eq_true rfl) (PW.iret cx hrt qL_truncateInput_16 (le_wi hf))
set_option maxRecDepth 20000 in
theorem ctL_addClip {g : GT} {sh : List Shp} (hx : XSh sh) (ho : sh[150]? = some (.inr (3, 1, []))) (h : Hp) (p1 : Int32) (r0 : Int32 × Hp) (hf : L_addClip h p1 = some r0) : CtW g mL_addClip 11 2 12 [.ref (gB g + 0), .int p1, .ref (gB g + 150)] sh h (PE (some (.int r0.1)) sh r0.2) := by
  refine CtW.of (L := [some (.ref (gB g + 0)), some (.int p1), some (.ref (gB g + 150)), none]) (by decide) (by intro w hw; simp only [List.mem_cons, List.not_mem_nil, or_false] at hw; rcases hw with rfl | rfl | rfl <;> rfl) (Nat.le_of_ble_eq_true rfl) rfl (fun X mx hT => ?_)
  obtain ⟨cx, hR, hml, hrt, -⟩ := mx
  have cx : Cx g X RL cL_addClip := cx
  have hrt : X.2.2.2.2.2.2.2.1.sig.returnType = (some .int) := hrt
  have hi3 : 3 < X.2.2.2.2.2.2.2.2.maxLocals := by rw [hml]; exact Nat.le_of_ble_eq_true rfl
  unfold L_addClip at hf
  refine PW.aload_n cx qL_addClip_0 rfl ?_
  refine PW.iconst (v := 0) cx qL_addClip_1 rfl ?_
  refine PW.aload_n cx qL_addClip_2 rfl ?_
  refine PW.iload_n cx qL_addClip_3 rfl ?_
  refine PW.callVCI (As := [.int p1]) (st := [.int 0, .ref (gB g + 150)]) ckk css cx hR hT qL_addClip_4 ktL_15 mvX6_addClip (sh_0 hx) rfl rfl rfl rfl (Nat.le_of_ble_eq_true rfl) (Nat.le_of_ble_eq_true rfl) (Nat.le_of_ble_eq_true rfl) (Nat.le_of_ble_eq_true rfl) (Nat.le_of_ble_eq_true rfl) hf sne (fun t e => ctX6_addClip hx h p1 t e) (fun i h9 hf => ?_) (fun t2 h1 hf => ?_)
  · rcases caE hf with ⟨rfl, hf⟩ | ⟨-, hf⟩
    · refine ⟨12, ⟨by decide, by decide⟩, rfl, fun q5 => ?_⟩
      refine PW.astore_n (L' := [some (.ref (gB g + 0)), some (.int p1), some (.ref (gB g + 150)), some (.ref q5)]) cx qL_addClip_12 hi3 rfl rfl ?_
      refine PW.iconst (v := 1) cx qL_addClip_13 rfl ?_
      exact PW.toX (Nat.le_of_ble_eq_true rfl) (Nat.le_of_ble_eq_true rfl) (PW.iret cx hrt qL_addClip_14 (le_wi hf))
    · rcases caE hf with ⟨rfl, hf⟩ | ⟨-, hf⟩
      · refine ⟨15, ⟨by decide, by decide⟩, rfl, fun q4 => ?_⟩
        refine PW.astore_n (L' := [some (.ref (gB g + 0)), some (.int p1), some (.ref (gB g + 150)), some (.ref q4)]) cx qL_addClip_15 hi3 rfl rfl ?_
        refine PW.iconst (v := 2) cx qL_addClip_16 rfl ?_
        exact PW.toX (Nat.le_of_ble_eq_true rfl) (Nat.le_of_ble_eq_true rfl) (PW.iret cx hrt qL_addClip_17 (le_wi hf))
      · cases hf
  · refine PW.i2l cx qL_addClip_7 ?_
    refine PW.last1 cx qL_addClip_8 ho hf (fun h3 hf => ?_)
    refine PW.goto cx qL_addClip_9 ?_
    refine PW.iconst (v := 0) cx qL_addClip_18 rfl ?_
    exact PW.toX (Nat.le_of_ble_eq_true rfl) (Nat.le_of_ble_eq_true rfl) (PW.iret cx hrt qL_addClip_19 (le_wi hf))
set_option maxRecDepth 20000 in
theorem ctL_addReel {g : GT} {sh : List Shp} (hx : XSh sh) (ho : sh[150]? = some (.inr (3, 1, []))) (h : Hp) (p1 : Int32) (r0 : Int32 × Hp) (hf : L_addReel h p1 = some r0) : CtW g mL_addReel 11 2 12 [.ref (gB g + 0), .int p1, .ref (gB g + 150)] sh h (PE (some (.int r0.1)) sh r0.2) := by
  refine CtW.of (L := [some (.ref (gB g + 0)), some (.int p1), some (.ref (gB g + 150)), none]) (by decide) (by intro w hw; simp only [List.mem_cons, List.not_mem_nil, or_false] at hw; rcases hw with rfl | rfl | rfl <;> rfl) (Nat.le_of_ble_eq_true rfl) rfl (fun X mx hT => ?_)
  obtain ⟨cx, hR, hml, hrt, -⟩ := mx
  have cx : Cx g X RL cL_addReel := cx
  have hrt : X.2.2.2.2.2.2.2.1.sig.returnType = (some .int) := hrt
  have hi3 : 3 < X.2.2.2.2.2.2.2.2.maxLocals := by rw [hml]; exact Nat.le_of_ble_eq_true rfl
  unfold L_addReel at hf
  refine PW.aload_n cx qL_addReel_0 rfl ?_
  refine PW.iconst (v := 0) cx qL_addReel_1 rfl ?_
  refine PW.aload_n cx qL_addReel_2 rfl ?_
  refine PW.iload_n cx qL_addReel_3 rfl ?_
  refine PW.callVCI (As := [.int p1]) (st := [.int 0, .ref (gB g + 150)]) ckk css cx hR hT qL_addReel_4 ktL_20 mvX6_addReel (sh_0 hx) rfl rfl rfl rfl (Nat.le_of_ble_eq_true rfl) (Nat.le_of_ble_eq_true rfl) (Nat.le_of_ble_eq_true rfl) (Nat.le_of_ble_eq_true rfl) (Nat.le_of_ble_eq_true rfl) hf sne (fun t e => ctX6_addReel hx h p1 t e) (fun i h9 hf => ?_) (fun t2 h1 hf => ?_)
  · rcases caE hf with ⟨rfl, hf⟩ | ⟨-, hf⟩
    · refine ⟨12, ⟨by decide, by decide⟩, rfl, fun q5 => ?_⟩
      refine PW.astore_n (L' := [some (.ref (gB g + 0)), some (.int p1), some (.ref (gB g + 150)), some (.ref q5)]) cx qL_addReel_12 hi3 rfl rfl ?_
      refine PW.iconst (v := 1) cx qL_addReel_13 rfl ?_
      exact PW.toX (Nat.le_of_ble_eq_true rfl) (Nat.le_of_ble_eq_true rfl) (PW.iret cx hrt qL_addReel_14 (le_wi hf))
    · rcases caE hf with ⟨rfl, hf⟩ | ⟨-, hf⟩
      · refine ⟨15, ⟨by decide, by decide⟩, rfl, fun q4 => ?_⟩
        refine PW.astore_n (L' := [some (.ref (gB g + 0)), some (.int p1), some (.ref (gB g + 150)), some (.ref q4)]) cx qL_addReel_15 hi3 rfl rfl ?_
        refine PW.iconst (v := 2) cx qL_addReel_16 rfl ?_
        exact PW.toX (Nat.le_of_ble_eq_true rfl) (Nat.le_of_ble_eq_true rfl) (PW.iret cx hrt qL_addReel_17 (le_wi hf))
      · cases hf
  · refine PW.i2l cx qL_addReel_7 ?_
    refine PW.last1 cx qL_addReel_8 ho hf (fun h3 hf => ?_)
    refine PW.goto cx qL_addReel_9 ?_
    refine PW.iconst (v := 0) cx qL_addReel_18 rfl ?_
    exact PW.toX (Nat.le_of_ble_eq_true rfl) (Nat.le_of_ble_eq_true rfl) (PW.iret cx hrt qL_addReel_19 (le_wi hf))
set_option maxRecDepth 20000 in
theorem ctL_addScene {g : GT} {sh : List Shp} (hx : XSh sh) (ho : sh[150]? = some (.inr (3, 1, []))) (h : Hp) (p1 : Int32) (r0 : Int32 × Hp) (hf : L_addScene h p1 = some r0) : CtW g mL_addScene 11 2 12 [.ref (gB g + 0), .int p1, .ref (gB g + 150)] sh h (PE (some (.int r0.1)) sh r0.2) := by
  refine CtW.of (L := [some (.ref (gB g + 0)), some (.int p1), some (.ref (gB g + 150)), none]) (by decide) (by intro w hw; simp only [List.mem_cons, List.not_mem_nil, or_false] at hw; rcases hw with rfl | rfl | rfl <;> rfl) (Nat.le_of_ble_eq_true rfl) rfl (fun X mx hT => ?_)
  obtain ⟨cx, hR, hml, hrt, -⟩ := mx
  have cx : Cx g X RL cL_addScene := cx
  have hrt : X.2.2.2.2.2.2.2.1.sig.returnType = (some .int) := hrt
  have hi3 : 3 < X.2.2.2.2.2.2.2.2.maxLocals := by rw [hml]; exact Nat.le_of_ble_eq_true rfl
  unfold L_addScene at hf
  refine PW.aload_n cx qL_addScene_0 rfl ?_
  refine PW.iconst (v := 0) cx qL_addScene_1 rfl ?_
  refine PW.aload_n cx qL_addScene_2 rfl ?_
  refine PW.iload_n cx qL_addScene_3 rfl ?_
  refine PW.callVCI (As := [.int p1]) (st := [.int 0, .ref (gB g + 150)]) ckk css cx hR hT qL_addScene_4 ktL_23 mvX6_addScene (sh_0 hx) rfl rfl rfl rfl (Nat.le_of_ble_eq_true rfl) (Nat.le_of_ble_eq_true rfl) (Nat.le_of_ble_eq_true rfl) (Nat.le_of_ble_eq_true rfl) (Nat.le_of_ble_eq_true rfl) hf sne (fun t e => ctX6_addScene hx h p1 t e) (fun i h9 hf => ?_) (fun t2 h1 hf => ?_)
  · rcases caE hf with ⟨rfl, hf⟩ | ⟨-, hf⟩
    · refine ⟨12, ⟨by decide, by decide⟩, rfl, fun q5 => ?_⟩
      refine PW.astore_n (L' := [some (.ref (gB g + 0)), some (.int p1), some (.ref (gB g + 150)), some (.ref q5)]) cx qL_addScene_12 hi3 rfl rfl ?_
      refine PW.iconst (v := 1) cx qL_addScene_13 rfl ?_
      exact PW.toX (Nat.le_of_ble_eq_true rfl) (Nat.le_of_ble_eq_true rfl) (PW.iret cx hrt qL_addScene_14 (le_wi hf))
    · rcases caE hf with ⟨rfl, hf⟩ | ⟨-, hf⟩
      · refine ⟨15, ⟨by decide, by decide⟩, rfl, fun q4 => ?_⟩
        refine PW.astore_n (L' := [some (.ref (gB g + 0)), some (.int p1), some (.ref (gB g + 150)), some (.ref q4)]) cx qL_addScene_15 hi3 rfl rfl ?_
        refine PW.iconst (v := 2) cx qL_addScene_16 rfl ?_
        exact PW.toX (Nat.le_of_ble_eq_true rfl) (Nat.le_of_ble_eq_true rfl) (PW.iret cx hrt qL_addScene_17 (le_wi hf))
      · cases hf
  · refine PW.i2l cx qL_addScene_7 ?_
    refine PW.last1 cx qL_addScene_8 ho hf (fun h3 hf => ?_)
    refine PW.goto cx qL_addScene_9 ?_
    refine PW.iconst (v := 0) cx qL_addScene_18 rfl ?_
    exact PW.toX (Nat.le_of_ble_eq_true rfl) (Nat.le_of_ble_eq_true rfl) (PW.iret cx hrt qL_addScene_19 (le_wi hf))
set_option maxRecDepth 20000 in
theorem ctL_sleep {g : GT} {sh : List Shp} (hx : XSh sh) (ho : sh[150]? = some (.inr (3, 1, []))) (h : Hp) (p1 : Int32) (p2 : Int32) (r0 : Int32 × Hp) (hf : L_sleep h p1 p2 = some r0) : CtW g mL_sleep 11 3 18 [.ref (gB g + 0), .int p1, .int p2, .ref (gB g + 150)] sh h (PE (some (.int r0.1)) sh r0.2) := by
  refine CtW.of (L := [some (.ref (gB g + 0)), some (.int p1), some (.int p2), some (.ref (gB g + 150)), none]) (by decide) (by intro w hw; simp only [List.mem_cons, List.not_mem_nil, or_false] at hw; rcases hw with rfl | rfl | rfl | rfl <;> rfl) (Nat.le_of_ble_eq_true rfl) rfl (fun X mx hT => ?_)
  obtain ⟨cx, hR, hml, hrt, -⟩ := mx
  have cx : Cx g X RL cL_sleep := cx
  have hrt : X.2.2.2.2.2.2.2.1.sig.returnType = (some .int) := hrt
  have hi4 : 4 < X.2.2.2.2.2.2.2.2.maxLocals := by rw [hml]; exact Nat.le_of_ble_eq_true rfl
  unfold L_sleep at hf
  refine PW.aload_n cx qL_sleep_0 rfl ?_
  refine PW.iconst (v := 0) cx qL_sleep_1 rfl ?_
  refine PW.aload_n cx qL_sleep_2 rfl ?_
  refine PW.iload_n cx qL_sleep_3 rfl ?_
  refine PW.iload_n cx qL_sleep_4 rfl ?_
  refine PW.callVCI (As := [.int p1, .int p2]) (st := [.int 0, .ref (gB g + 150)]) ckk css cx hR hT qL_sleep_5 ktL_26 mvX6_sleep (sh_0 hx) rfl rfl rfl rfl (Nat.le_of_ble_eq_true rfl) (Nat.le_of_ble_eq_true rfl) (Nat.le_of_ble_eq_true rfl) (Nat.le_of_ble_eq_true rfl) (Nat.le_of_ble_eq_true rfl) hf sne (fun t e => ctX6_sleep hx h p1 p2 t e) (fun i h9 hf => ?_) (fun t2 h1 hf => ?_)
  · rcases caE hf with ⟨rfl, hf⟩ | ⟨-, hf⟩
    · refine ⟨13, ⟨by decide, by decide⟩, rfl, fun q5 => ?_⟩
      refine PW.astore (L' := [some (.ref (gB g + 0)), some (.int p1), some (.int p2), some (.ref (gB g + 150)), some (.ref q5)]) cx qL_sleep_13 hi4 rfl rfl ?_
      refine PW.iconst (v := 1) cx qL_sleep_15 rfl ?_
      exact PW.toX (Nat.le_of_ble_eq_true rfl) (Nat.le_of_ble_eq_true rfl) (PW.iret cx hrt qL_sleep_16 (le_wi hf))
    · rcases caE hf with ⟨rfl, hf⟩ | ⟨-, hf⟩
      · refine ⟨17, ⟨by decide, by decide⟩, rfl, fun q4 => ?_⟩
        refine PW.astore (L' := [some (.ref (gB g + 0)), some (.int p1), some (.int p2), some (.ref (gB g + 150)), some (.ref q4)]) cx qL_sleep_17 hi4 rfl rfl ?_
        refine PW.iconst (v := 2) cx qL_sleep_19 rfl ?_
        exact PW.toX (Nat.le_of_ble_eq_true rfl) (Nat.le_of_ble_eq_true rfl) (PW.iret cx hrt qL_sleep_20 (le_wi hf))
      · cases hf
  · refine PW.i2l cx qL_sleep_8 ?_
    refine PW.last1 cx qL_sleep_9 ho hf (fun h3 hf => ?_)
    refine PW.goto cx qL_sleep_10 ?_
    refine PW.iconst (v := 0) cx qL_sleep_21 rfl ?_
    exact PW.toX (Nat.le_of_ble_eq_true rfl) (Nat.le_of_ble_eq_true rfl) (PW.iret cx hrt qL_sleep_22 (le_wi hf))
set_option maxRecDepth 20000 in
theorem ctL_wake {g : GT} {sh : List Shp} (hx : XSh sh) (ho : sh[150]? = some (.inr (3, 1, []))) (h : Hp) (p1 : Int32) (r0 : Int32 × Hp) (hf : L_wake h p1 = some r0) : CtW g mL_wake 11 2 12 [.ref (gB g + 0), .int p1, .ref (gB g + 150)] sh h (PE (some (.int r0.1)) sh r0.2) := by
  refine CtW.of (L := [some (.ref (gB g + 0)), some (.int p1), some (.ref (gB g + 150)), none]) (by decide) (by intro w hw; simp only [List.mem_cons, List.not_mem_nil, or_false] at hw; rcases hw with rfl | rfl | rfl <;> rfl) (Nat.le_of_ble_eq_true rfl) rfl (fun X mx hT => ?_)
  obtain ⟨cx, hR, hml, hrt, -⟩ := mx
  have cx : Cx g X RL cL_wake := cx
  have hrt : X.2.2.2.2.2.2.2.1.sig.returnType = (some .int) := hrt
  have hi3 : 3 < X.2.2.2.2.2.2.2.2.maxLocals := by rw [hml]; exact Nat.le_of_ble_eq_true rfl
  unfold L_wake at hf
  refine PW.aload_n cx qL_wake_0 rfl ?_
  refine PW.iconst (v := 0) cx qL_wake_1 rfl ?_
  refine PW.aload_n cx qL_wake_2 rfl ?_
  refine PW.iload_n cx qL_wake_3 rfl ?_
  refine PW.callVCI (As := [.int p1]) (st := [.int 0, .ref (gB g + 150)]) ckk css cx hR hT qL_wake_4 ktL_32 mvX6_wake (sh_0 hx) rfl rfl rfl rfl (Nat.le_of_ble_eq_true rfl) (Nat.le_of_ble_eq_true rfl) (Nat.le_of_ble_eq_true rfl) (Nat.le_of_ble_eq_true rfl) (Nat.le_of_ble_eq_true rfl) hf sne (fun t e => ctX6_wake hx h p1 t e) (fun i h9 hf => ?_) (fun t2 h1 hf => ?_)
  · rcases caE hf with ⟨rfl, hf⟩ | ⟨-, hf⟩
    · refine ⟨12, ⟨by decide, by decide⟩, rfl, fun q5 => ?_⟩
      refine PW.astore_n (L' := [some (.ref (gB g + 0)), some (.int p1), some (.ref (gB g + 150)), some (.ref q5)]) cx qL_wake_12 hi3 rfl rfl ?_
      refine PW.iconst (v := 1) cx qL_wake_13 rfl ?_
      exact PW.toX (Nat.le_of_ble_eq_true rfl) (Nat.le_of_ble_eq_true rfl) (PW.iret cx hrt qL_wake_14 (le_wi hf))
    · rcases caE hf with ⟨rfl, hf⟩ | ⟨-, hf⟩
      · refine ⟨15, ⟨by decide, by decide⟩, rfl, fun q4 => ?_⟩
        refine PW.astore_n (L' := [some (.ref (gB g + 0)), some (.int p1), some (.ref (gB g + 150)), some (.ref q4)]) cx qL_wake_15 hi3 rfl rfl ?_
        refine PW.iconst (v := 2) cx qL_wake_16 rfl ?_
        exact PW.toX (Nat.le_of_ble_eq_true rfl) (Nat.le_of_ble_eq_true rfl) (PW.iret cx hrt qL_wake_17 (le_wi hf))
      · cases hf
  · refine PW.i2l cx qL_wake_7 ?_
    refine PW.last1 cx qL_wake_8 ho hf (fun h3 hf => ?_)
    refine PW.goto cx qL_wake_9 ?_
    refine PW.iconst (v := 0) cx qL_wake_18 rfl ?_
    exact PW.toX (Nat.le_of_ble_eq_true rfl) (Nat.le_of_ble_eq_true rfl) (PW.iret cx hrt qL_wake_19 (le_wi hf))
set_option maxRecDepth 20000 in
theorem ctL_cut {g : GT} {sh : List Shp} (hx : XSh sh) (ho : sh[150]? = some (.inr (3, 1, []))) (h : Hp) (p1 : Int32) (p2 : Int32) (r0 : Int32 × Hp) (hf : L_cut h p1 p2 = some r0) : CtW g mL_cut 12 2 12 [.ref (gB g + 0), .int p1, .int p2, .ref (gB g + 150)] sh h (PE (some (.int r0.1)) sh r0.2) := by
  refine CtW.of (L := [some (.ref (gB g + 0)), some (.int p1), some (.int p2), some (.ref (gB g + 150)), none]) (by decide) (by intro w hw; simp only [List.mem_cons, List.not_mem_nil, or_false] at hw; rcases hw with rfl | rfl | rfl | rfl <;> rfl) (Nat.le_of_ble_eq_true rfl) rfl (fun X mx hT => ?_)
  obtain ⟨cx, hR, hml, hrt, -⟩ := mx
  have cx : Cx g X RL cL_cut := cx
  have hrt : X.2.2.2.2.2.2.2.1.sig.returnType = (some .int) := hrt
  have hi4 : 4 < X.2.2.2.2.2.2.2.2.maxLocals := by rw [hml]; exact Nat.le_of_ble_eq_true rfl
  unfold L_cut at hf
  refine PW.aload_n cx qL_cut_0 rfl ?_
  refine PW.iconst (v := 0) cx qL_cut_1 rfl ?_
  refine PW.aload_n cx qL_cut_2 rfl ?_
  refine PW.iload_n cx qL_cut_3 rfl ?_
  refine PW.iload_n cx qL_cut_4 rfl ?_
  refine PW.callVCI (As := [.int p1, .int p2]) (st := [.int 0, .ref (gB g + 150)]) ckk css cx hR hT qL_cut_5 ktL_35 mvX6_cut (sh_0 hx) rfl rfl rfl rfl (Nat.le_of_ble_eq_true rfl) (Nat.le_of_ble_eq_true rfl) (Nat.le_of_ble_eq_true rfl) (Nat.le_of_ble_eq_true rfl) (Nat.le_of_ble_eq_true rfl) hf sne (fun t e => ctX6_cut hx h p1 p2 t e) (fun i h9 hf => ?_) (fun t2 h1 hf => ?_)
  · rcases caE hf with ⟨rfl, hf⟩ | ⟨-, hf⟩
    · refine ⟨13, ⟨by decide, by decide⟩, rfl, fun q5 => ?_⟩
      refine PW.astore (L' := [some (.ref (gB g + 0)), some (.int p1), some (.int p2), some (.ref (gB g + 150)), some (.ref q5)]) cx qL_cut_13 hi4 rfl rfl ?_
      refine PW.iconst (v := 1) cx qL_cut_15 rfl ?_
      exact PW.toX (Nat.le_of_ble_eq_true rfl) (Nat.le_of_ble_eq_true rfl) (PW.iret cx hrt qL_cut_16 (le_wi hf))
    · rcases caE hf with ⟨rfl, hf⟩ | ⟨-, hf⟩
      · refine ⟨17, ⟨by decide, by decide⟩, rfl, fun q4 => ?_⟩
        refine PW.astore (L' := [some (.ref (gB g + 0)), some (.int p1), some (.int p2), some (.ref (gB g + 150)), some (.ref q4)]) cx qL_cut_17 hi4 rfl rfl ?_
        refine PW.iconst (v := 2) cx qL_cut_19 rfl ?_
        exact PW.toX (Nat.le_of_ble_eq_true rfl) (Nat.le_of_ble_eq_true rfl) (PW.iret cx hrt qL_cut_20 (le_wi hf))
      · cases hf
  · refine PW.i2l cx qL_cut_8 ?_
    refine PW.last1 cx qL_cut_9 ho hf (fun h3 hf => ?_)
    refine PW.goto cx qL_cut_10 ?_
    refine PW.iconst (v := 0) cx qL_cut_21 rfl ?_
    exact PW.toX (Nat.le_of_ble_eq_true rfl) (Nat.le_of_ble_eq_true rfl) (PW.iret cx hrt qL_cut_22 (le_wi hf))
set_option maxRecDepth 20000 in
theorem ctL_air {g : GT} {sh : List Shp} (hx : XSh sh) (ho : sh[150]? = some (.inr (3, 1, []))) (h : Hp) (p1 : Int32) (r0 : Int32 × Hp) (hf : L_air h p1 = some r0) : CtW g mL_air 11 1 6 [.ref (gB g + 0), .int p1, .ref (gB g + 150)] sh h (PE (some (.int r0.1)) sh r0.2) := by
  refine CtW.of (L := [some (.ref (gB g + 0)), some (.int p1), some (.ref (gB g + 150)), none]) (by decide) (by intro w hw; simp only [List.mem_cons, List.not_mem_nil, or_false] at hw; rcases hw with rfl | rfl | rfl <;> rfl) (Nat.le_of_ble_eq_true rfl) rfl (fun X mx hT => ?_)
  obtain ⟨cx, hR, hml, hrt, -⟩ := mx
  have cx : Cx g X RL cL_air := cx
  have hrt : X.2.2.2.2.2.2.2.1.sig.returnType = (some .int) := hrt
  have hi3 : 3 < X.2.2.2.2.2.2.2.2.maxLocals := by rw [hml]; exact Nat.le_of_ble_eq_true rfl
  unfold L_air at hf
  refine PW.aload_n cx qL_air_0 rfl ?_
  refine PW.iconst (v := 0) cx qL_air_1 rfl ?_
  refine PW.aload_n cx qL_air_2 rfl ?_
  refine PW.iload_n cx qL_air_3 rfl ?_
  refine PW.callVCI (As := [.int p1]) (st := [.int 0, .ref (gB g + 150)]) ckk css cx hR hT qL_air_4 ktL_38 mvX6_air (sh_0 hx) rfl rfl rfl rfl (Nat.le_of_ble_eq_true rfl) (Nat.le_of_ble_eq_true rfl) (Nat.le_of_ble_eq_true rfl) (Nat.le_of_ble_eq_true rfl) (Nat.le_of_ble_eq_true rfl) hf sne (fun t e => ctX6_air hx h p1 t e) (fun i h9 hf => ?_) (fun t2 h1 hf => ?_)
  · rcases caE hf with ⟨rfl, hf⟩ | ⟨-, hf⟩
    · refine ⟨12, ⟨by decide, by decide⟩, rfl, fun q4 => ?_⟩
      refine PW.astore_n (L' := [some (.ref (gB g + 0)), some (.int p1), some (.ref (gB g + 150)), some (.ref q4)]) cx qL_air_12 hi3 rfl rfl ?_
      refine PW.iconst (v := 1) cx qL_air_13 rfl ?_
      exact PW.toX (Nat.le_of_ble_eq_true rfl) (Nat.le_of_ble_eq_true rfl) (PW.iret cx hrt qL_air_14 (le_wi hf))
    · cases hf
  · refine PW.i2l cx qL_air_7 ?_
    refine PW.last1 cx qL_air_8 ho hf (fun h3 hf => ?_)
    refine PW.goto cx qL_air_9 ?_
    refine PW.iconst (v := 0) cx qL_air_15 rfl ?_
    exact PW.toX (Nat.le_of_ble_eq_true rfl) (Nat.le_of_ble_eq_true rfl) (PW.iret cx hrt qL_air_16 (le_wi hf))
set_option maxRecDepth 20000 in
theorem ctL_feed {g : GT} {sh : List Shp} (hx : XSh sh) (ho : sh[150]? = some (.inr (3, 1, []))) (h : Hp) (p1 : Int32) (p2 : Int32) (r0 : Int32 × Hp) (hf : L_feed h p1 p2 = some r0) : CtW g mL_feed 11 3 18 [.ref (gB g + 0), .int p1, .int p2, .ref (gB g + 150)] sh h (PE (some (.int r0.1)) sh r0.2) := by
  refine CtW.of (L := [some (.ref (gB g + 0)), some (.int p1), some (.int p2), some (.ref (gB g + 150)), none]) (by decide) (by intro w hw; simp only [List.mem_cons, List.not_mem_nil, or_false] at hw; rcases hw with rfl | rfl | rfl | rfl <;> rfl) (Nat.le_of_ble_eq_true rfl) rfl (fun X mx hT => ?_)
  obtain ⟨cx, hR, hml, hrt, -⟩ := mx
  have cx : Cx g X RL cL_feed := cx
  have hrt : X.2.2.2.2.2.2.2.1.sig.returnType = (some .int) := hrt
  have hi4 : 4 < X.2.2.2.2.2.2.2.2.maxLocals := by rw [hml]; exact Nat.le_of_ble_eq_true rfl
  unfold L_feed at hf
  refine PW.aload_n cx qL_feed_0 rfl ?_
  refine PW.iconst (v := 0) cx qL_feed_1 rfl ?_
  refine PW.aload_n cx qL_feed_2 rfl ?_
  refine PW.iload_n cx qL_feed_3 rfl ?_
  refine PW.iload_n cx qL_feed_4 rfl ?_
  refine PW.callVCI (As := [.int p1, .int p2]) (st := [.int 0, .ref (gB g + 150)]) ckk css cx hR hT qL_feed_5 ktL_41 mvX6_feed (sh_0 hx) rfl rfl rfl rfl (Nat.le_of_ble_eq_true rfl) (Nat.le_of_ble_eq_true rfl) (Nat.le_of_ble_eq_true rfl) (Nat.le_of_ble_eq_true rfl) (Nat.le_of_ble_eq_true rfl) hf sne (fun t e => ctX6_feed hx h p1 p2 t e) (fun i h9 hf => ?_) (fun t2 h1 hf => ?_)
  · rcases caE hf with ⟨rfl, hf⟩ | ⟨-, hf⟩
    · refine ⟨13, ⟨by decide, by decide⟩, rfl, fun q6 => ?_⟩
      refine PW.astore (L' := [some (.ref (gB g + 0)), some (.int p1), some (.int p2), some (.ref (gB g + 150)), some (.ref q6)]) cx qL_feed_13 hi4 rfl rfl ?_
      refine PW.iconst (v := 1) cx qL_feed_15 rfl ?_
      exact PW.toX (Nat.le_of_ble_eq_true rfl) (Nat.le_of_ble_eq_true rfl) (PW.iret cx hrt qL_feed_16 (le_wi hf))
    · rcases caE hf with ⟨rfl, hf⟩ | ⟨-, hf⟩
      · refine ⟨17, ⟨by decide, by decide⟩, rfl, fun q5 => ?_⟩
        refine PW.astore (L' := [some (.ref (gB g + 0)), some (.int p1), some (.int p2), some (.ref (gB g + 150)), some (.ref q5)]) cx qL_feed_17 hi4 rfl rfl ?_
        refine PW.iconst (v := 2) cx qL_feed_19 rfl ?_
        exact PW.toX (Nat.le_of_ble_eq_true rfl) (Nat.le_of_ble_eq_true rfl) (PW.iret cx hrt qL_feed_20 (le_wi hf))
      · rcases caE hf with ⟨rfl, hf⟩ | ⟨-, hf⟩
        · refine ⟨21, ⟨by decide, by decide⟩, rfl, fun q4 => ?_⟩
          refine PW.astore (L' := [some (.ref (gB g + 0)), some (.int p1), some (.int p2), some (.ref (gB g + 150)), some (.ref q4)]) cx qL_feed_21 hi4 rfl rfl ?_
          refine PW.iconst (v := 3) cx qL_feed_23 rfl ?_
          exact PW.toX (Nat.le_of_ble_eq_true rfl) (Nat.le_of_ble_eq_true rfl) (PW.iret cx hrt qL_feed_24 (le_wi hf))
        · cases hf
  · refine PW.i2l cx qL_feed_8 ?_
    refine PW.last1 cx qL_feed_9 ho hf (fun h3 hf => ?_)
    refine PW.goto cx qL_feed_10 ?_
    refine PW.iconst (v := 0) cx qL_feed_25 rfl ?_
    exact PW.toX (Nat.le_of_ble_eq_true rfl) (Nat.le_of_ble_eq_true rfl) (PW.iret cx hrt qL_feed_26 (le_wi hf))
set_option maxRecDepth 20000 in
theorem ctL_addFood {g : GT} {sh : List Shp} (hx : XSh sh) (ho : sh[150]? = some (.inr (3, 1, []))) (h : Hp) (p1 : Int32) (r0 : Int32 × Hp) (hf : L_addFood h p1 = some r0) : CtW g mL_addFood 11 2 12 [.ref (gB g + 0), .int p1, .ref (gB g + 150)] sh h (PE (some (.int r0.1)) sh r0.2) := by
  refine CtW.of (L := [some (.ref (gB g + 0)), some (.int p1), some (.ref (gB g + 150)), none]) (by decide) (by intro w hw; simp only [List.mem_cons, List.not_mem_nil, or_false] at hw; rcases hw with rfl | rfl | rfl <;> rfl) (Nat.le_of_ble_eq_true rfl) rfl (fun X mx hT => ?_)
  obtain ⟨cx, hR, hml, hrt, -⟩ := mx
  have cx : Cx g X RL cL_addFood := cx
  have hrt : X.2.2.2.2.2.2.2.1.sig.returnType = (some .int) := hrt
  have hi3 : 3 < X.2.2.2.2.2.2.2.2.maxLocals := by rw [hml]; exact Nat.le_of_ble_eq_true rfl
  unfold L_addFood at hf
  refine PW.aload_n cx qL_addFood_0 rfl ?_
  refine PW.iconst (v := 0) cx qL_addFood_1 rfl ?_
  refine PW.aload_n cx qL_addFood_2 rfl ?_
  refine PW.iload_n cx qL_addFood_3 rfl ?_
  refine PW.callVCI (As := [.int p1]) (st := [.int 0, .ref (gB g + 150)]) ckk css cx hR hT qL_addFood_4 ktL_44 mvX6_addFood (sh_0 hx) rfl rfl rfl rfl (Nat.le_of_ble_eq_true rfl) (Nat.le_of_ble_eq_true rfl) (Nat.le_of_ble_eq_true rfl) (Nat.le_of_ble_eq_true rfl) (Nat.le_of_ble_eq_true rfl) hf sne (fun t e => ctX6_addFood hx h p1 t e) (fun i h9 hf => ?_) (fun t2 h1 hf => ?_)
  · rcases caE hf with ⟨rfl, hf⟩ | ⟨-, hf⟩
    · refine ⟨12, ⟨by decide, by decide⟩, rfl, fun q5 => ?_⟩
      refine PW.astore_n (L' := [some (.ref (gB g + 0)), some (.int p1), some (.ref (gB g + 150)), some (.ref q5)]) cx qL_addFood_12 hi3 rfl rfl ?_
      refine PW.iconst (v := 1) cx qL_addFood_13 rfl ?_
      exact PW.toX (Nat.le_of_ble_eq_true rfl) (Nat.le_of_ble_eq_true rfl) (PW.iret cx hrt qL_addFood_14 (le_wi hf))
    · rcases caE hf with ⟨rfl, hf⟩ | ⟨-, hf⟩
      · refine ⟨15, ⟨by decide, by decide⟩, rfl, fun q4 => ?_⟩
        refine PW.astore_n (L' := [some (.ref (gB g + 0)), some (.int p1), some (.ref (gB g + 150)), some (.ref q4)]) cx qL_addFood_15 hi3 rfl rfl ?_
        refine PW.iconst (v := 2) cx qL_addFood_16 rfl ?_
        exact PW.toX (Nat.le_of_ble_eq_true rfl) (Nat.le_of_ble_eq_true rfl) (PW.iret cx hrt qL_addFood_17 (le_wi hf))
      · cases hf
  · refine PW.i2l cx qL_addFood_7 ?_
    refine PW.last1 cx qL_addFood_8 ho hf (fun h3 hf => ?_)
    refine PW.goto cx qL_addFood_9 ?_
    refine PW.iconst (v := 0) cx qL_addFood_18 rfl ?_
    exact PW.toX (Nat.le_of_ble_eq_true rfl) (Nat.le_of_ble_eq_true rfl) (PW.iret cx hrt qL_addFood_19 (le_wi hf))
set_option maxRecDepth 20000 in
theorem ctL_paint {g : GT} {sh : List Shp} (hx : XSh sh) (ho : sh[150]? = some (.inr (3, 1, []))) (h : Hp) (p1 : Int32) (p2 : Int32) (p3 : Int32) (r0 : Int32 × Hp) (hf : L_paint h p1 p2 p3 = some r0) : CtW g mL_paint 11 4 24 [.ref (gB g + 0), .int p1, .int p2, .int p3, .ref (gB g + 150)] sh h (PE (some (.int r0.1)) sh r0.2) := by
  refine CtW.of (L := [some (.ref (gB g + 0)), some (.int p1), some (.int p2), some (.int p3), some (.ref (gB g + 150)), none]) (by decide) (by intro w hw; simp only [List.mem_cons, List.not_mem_nil, or_false] at hw; rcases hw with rfl | rfl | rfl | rfl | rfl <;> rfl) (Nat.le_of_ble_eq_true rfl) rfl (fun X mx hT => ?_)
  obtain ⟨cx, hR, hml, hrt, -⟩ := mx
  have cx : Cx g X RL cL_paint := cx
  have hrt : X.2.2.2.2.2.2.2.1.sig.returnType = (some .int) := hrt
  have hi5 : 5 < X.2.2.2.2.2.2.2.2.maxLocals := by rw [hml]; exact Nat.le_of_ble_eq_true rfl
  unfold L_paint at hf
  refine PW.aload cx qL_paint_0 rfl ?_
  refine PW.iconst (v := 0) cx qL_paint_2 rfl ?_
  refine PW.aload_n cx qL_paint_3 rfl ?_
  refine PW.iload_n cx qL_paint_4 rfl ?_
  refine PW.iload_n cx qL_paint_5 rfl ?_
  refine PW.iload_n cx qL_paint_6 rfl ?_
  refine PW.callVCI (As := [.int p1, .int p2, .int p3]) (st := [.int 0, .ref (gB g + 150)]) ckk css cx hR hT qL_paint_7 ktL_47 mvX6_paint (sh_0 hx) rfl rfl rfl rfl (Nat.le_of_ble_eq_true rfl) (Nat.le_of_ble_eq_true rfl) (Nat.le_of_ble_eq_true rfl) (Nat.le_of_ble_eq_true rfl) (Nat.le_of_ble_eq_true rfl) hf sne (fun t e => ctX6_paint hx h p1 p2 p3 t e) (fun i h9 hf => ?_) (fun t2 h1 hf => ?_)
  · rcases caE hf with ⟨rfl, hf⟩ | ⟨-, hf⟩
    · refine ⟨15, ⟨by decide, by decide⟩, rfl, fun q6 => ?_⟩
      refine PW.astore (L' := [some (.ref (gB g + 0)), some (.int p1), some (.int p2), some (.int p3), some (.ref (gB g + 150)), some (.ref q6)]) cx qL_paint_15 hi5 rfl rfl ?_
      refine PW.iconst (v := 1) cx qL_paint_17 rfl ?_
      exact PW.toX (Nat.le_of_ble_eq_true rfl) (Nat.le_of_ble_eq_true rfl) (PW.iret cx hrt qL_paint_18 (le_wi hf))
    · rcases caE hf with ⟨rfl, hf⟩ | ⟨-, hf⟩
      · refine ⟨19, ⟨by decide, by decide⟩, rfl, fun q5 => ?_⟩
        refine PW.astore (L' := [some (.ref (gB g + 0)), some (.int p1), some (.int p2), some (.int p3), some (.ref (gB g + 150)), some (.ref q5)]) cx qL_paint_19 hi5 rfl rfl ?_
        refine PW.iconst (v := 2) cx qL_paint_21 rfl ?_
        exact PW.toX (Nat.le_of_ble_eq_true rfl) (Nat.le_of_ble_eq_true rfl) (PW.iret cx hrt qL_paint_22 (le_wi hf))
      · rcases caE hf with ⟨rfl, hf⟩ | ⟨-, hf⟩
        · refine ⟨23, ⟨by decide, by decide⟩, rfl, fun q4 => ?_⟩
          refine PW.astore (L' := [some (.ref (gB g + 0)), some (.int p1), some (.int p2), some (.int p3), some (.ref (gB g + 150)), some (.ref q4)]) cx qL_paint_23 hi5 rfl rfl ?_
          refine PW.iconst (v := 3) cx qL_paint_25 rfl ?_
          exact PW.toX (Nat.le_of_ble_eq_true rfl) (Nat.le_of_ble_eq_true rfl) (PW.iret cx hrt qL_paint_26 (le_wi hf))
        · cases hf
  · refine PW.i2l cx qL_paint_10 ?_
    refine PW.last1 cx qL_paint_11 ho hf (fun h3 hf => ?_)
    refine PW.goto cx qL_paint_12 ?_
    refine PW.iconst (v := 0) cx qL_paint_27 rfl ?_
    exact PW.toX (Nat.le_of_ble_eq_true rfl) (Nat.le_of_ble_eq_true rfl) (PW.iret cx hrt qL_paint_28 (le_wi hf))
set_option maxRecDepth 20000 in
theorem ctL_passWeeks {g : GT} {sh : List Shp} (hx : XSh sh) (ho : sh[150]? = some (.inr (3, 1, []))) (h : Hp) (p1 : Int32) (r0 : Int32 × Hp) (hf : L_passWeeks h p1 = some r0) : CtW g mL_passWeeks 11 2 12 [.ref (gB g + 0), .int p1, .ref (gB g + 150)] sh h (PE (some (.int r0.1)) sh r0.2) := by
  refine CtW.of (L := [some (.ref (gB g + 0)), some (.int p1), some (.ref (gB g + 150)), none]) (by decide) (by intro w hw; simp only [List.mem_cons, List.not_mem_nil, or_false] at hw; rcases hw with rfl | rfl | rfl <;> rfl) (Nat.le_of_ble_eq_true rfl) rfl (fun X mx hT => ?_)
  obtain ⟨cx, hR, hml, hrt, -⟩ := mx
  have cx : Cx g X RL cL_passWeeks := cx
  have hrt : X.2.2.2.2.2.2.2.1.sig.returnType = (some .int) := hrt
  have hi3 : 3 < X.2.2.2.2.2.2.2.2.maxLocals := by rw [hml]; exact Nat.le_of_ble_eq_true rfl
  unfold L_passWeeks at hf
  refine PW.aload_n cx qL_passWeeks_0 rfl ?_
  refine PW.iconst (v := 0) cx qL_passWeeks_1 rfl ?_
  refine PW.aload_n cx qL_passWeeks_2 rfl ?_
  refine PW.iload_n cx qL_passWeeks_3 rfl ?_
  refine PW.callVCI (As := [.int p1]) (st := [.int 0, .ref (gB g + 150)]) ckk css cx hR hT qL_passWeeks_4 ktL_51 mvX6_passWeeks (sh_0 hx) rfl rfl rfl rfl (Nat.le_of_ble_eq_true rfl) (Nat.le_of_ble_eq_true rfl) (Nat.le_of_ble_eq_true rfl) (Nat.le_of_ble_eq_true rfl) (Nat.le_of_ble_eq_true rfl) hf sne (fun t e => ctX6_passWeeks hx h p1 t e) (fun i h9 hf => ?_) (fun t2 h1 hf => ?_)
  · rcases caE hf with ⟨rfl, hf⟩ | ⟨-, hf⟩
    · refine ⟨12, ⟨by decide, by decide⟩, rfl, fun q5 => ?_⟩
      refine PW.astore_n (L' := [some (.ref (gB g + 0)), some (.int p1), some (.ref (gB g + 150)), some (.ref q5)]) cx qL_passWeeks_12 hi3 rfl rfl ?_
      refine PW.iconst (v := 1) cx qL_passWeeks_13 rfl ?_
      exact PW.toX (Nat.le_of_ble_eq_true rfl) (Nat.le_of_ble_eq_true rfl) (PW.iret cx hrt qL_passWeeks_14 (le_wi hf))
    · rcases caE hf with ⟨rfl, hf⟩ | ⟨-, hf⟩
      · refine ⟨15, ⟨by decide, by decide⟩, rfl, fun q4 => ?_⟩
        refine PW.astore_n (L' := [some (.ref (gB g + 0)), some (.int p1), some (.ref (gB g + 150)), some (.ref q4)]) cx qL_passWeeks_15 hi3 rfl rfl ?_
        refine PW.iconst (v := 2) cx qL_passWeeks_16 rfl ?_
        exact PW.toX (Nat.le_of_ble_eq_true rfl) (Nat.le_of_ble_eq_true rfl) (PW.iret cx hrt qL_passWeeks_17 (le_wi hf))
      · cases hf
  · refine PW.i2l cx qL_passWeeks_7 ?_
    refine PW.last1 cx qL_passWeeks_8 ho hf (fun h3 hf => ?_)
    refine PW.goto cx qL_passWeeks_9 ?_
    refine PW.iconst (v := 0) cx qL_passWeeks_18 rfl ?_
    exact PW.toX (Nat.le_of_ble_eq_true rfl) (Nat.le_of_ble_eq_true rfl) (PW.iret cx hrt qL_passWeeks_19 (le_wi hf))
set_option maxRecDepth 20000 in
theorem ctL_restoreSnapshot {g : GT} {sh : List Shp} (hx : XSh sh) (ho : sh[150]? = some (.inr (3, 1, []))) (h : Hp) (r0 : Int32 × Hp) (hf : L_restoreSnapshot h = some r0) : CtW g mL_restoreSnapshot 10 1 6 [.ref (gB g + 0), .ref (gB g + 150)] sh h (PE (some (.int r0.1)) sh r0.2) := by
  refine CtW.of (L := [some (.ref (gB g + 0)), some (.ref (gB g + 150)), none]) (by decide) (by intro w hw; simp only [List.mem_cons, List.not_mem_nil, or_false] at hw; rcases hw with rfl | rfl <;> rfl) (Nat.le_of_ble_eq_true rfl) rfl (fun X mx hT => ?_)
  obtain ⟨cx, hR, hml, hrt, -⟩ := mx
  have cx : Cx g X RL cL_restoreSnapshot := cx
  have hrt : X.2.2.2.2.2.2.2.1.sig.returnType = (some .int) := hrt
  have hi2 : 2 < X.2.2.2.2.2.2.2.2.maxLocals := by rw [hml]; exact Nat.le_of_ble_eq_true rfl
  unfold L_restoreSnapshot at hf
  refine PW.aload_n cx qL_restoreSnapshot_0 rfl ?_
  refine PW.iconst (v := 0) cx qL_restoreSnapshot_1 rfl ?_
  refine PW.aload_n cx qL_restoreSnapshot_2 rfl ?_
  refine PW.callVCI (As := []) (st := [.int 0, .ref (gB g + 150)]) ckk css cx hR hT qL_restoreSnapshot_3 ktL_54 mvX6_restoreSnapshot (sh_0 hx) rfl rfl rfl rfl (Nat.le_of_ble_eq_true rfl) (Nat.le_of_ble_eq_true rfl) (Nat.le_of_ble_eq_true rfl) (Nat.le_of_ble_eq_true rfl) (Nat.le_of_ble_eq_true rfl) hf sne (fun t e => ctX6_restoreSnapshot hx h t e) (fun i h9 hf => ?_) (fun t2 h1 hf => ?_)
  · rcases caE hf with ⟨rfl, hf⟩ | ⟨-, hf⟩
    · refine ⟨11, ⟨by decide, by decide⟩, rfl, fun q4 => ?_⟩
      refine PW.astore_n (L' := [some (.ref (gB g + 0)), some (.ref (gB g + 150)), some (.ref q4)]) cx qL_restoreSnapshot_11 hi2 rfl rfl ?_
      refine PW.iconst (v := 1) cx qL_restoreSnapshot_12 rfl ?_
      exact PW.toX (Nat.le_of_ble_eq_true rfl) (Nat.le_of_ble_eq_true rfl) (PW.iret cx hrt qL_restoreSnapshot_13 (le_wi hf))
    · cases hf
  · refine PW.i2l cx qL_restoreSnapshot_6 ?_
    refine PW.last1 cx qL_restoreSnapshot_7 ho hf (fun h3 hf => ?_)
    refine PW.goto cx qL_restoreSnapshot_8 ?_
    refine PW.iconst (v := 0) cx qL_restoreSnapshot_14 rfl ?_
    exact PW.toX (Nat.le_of_ble_eq_true rfl) (Nat.le_of_ble_eq_true rfl) (PW.iret cx hrt qL_restoreSnapshot_15 (le_wi hf))
set_option maxRecDepth 20000 in
theorem ctL_springs {g : GT} {sh : List Shp} (hx : XSh sh) (ho : sh[150]? = some (.inr (3, 1, []))) (h : Hp) (p1 : Int32) (r0 : Int32 × Hp) (hf : L_springs h p1 = some r0) : CtW g mL_springs 11 1 6 [.ref (gB g + 0), .int p1, .ref (gB g + 150)] sh h (PE (some (.int r0.1)) sh r0.2) := by
  refine CtW.of (L := [some (.ref (gB g + 0)), some (.int p1), some (.ref (gB g + 150)), none]) (by decide) (by intro w hw; simp only [List.mem_cons, List.not_mem_nil, or_false] at hw; rcases hw with rfl | rfl | rfl <;> rfl) (Nat.le_of_ble_eq_true rfl) rfl (fun X mx hT => ?_)
  obtain ⟨cx, hR, hml, hrt, -⟩ := mx
  have cx : Cx g X RL cL_springs := cx
  have hrt : X.2.2.2.2.2.2.2.1.sig.returnType = (some .int) := hrt
  have hi3 : 3 < X.2.2.2.2.2.2.2.2.maxLocals := by rw [hml]; exact Nat.le_of_ble_eq_true rfl
  unfold L_springs at hf
  refine PW.aload_n cx qL_springs_0 rfl ?_
  refine PW.iconst (v := 0) cx qL_springs_1 rfl ?_
  refine PW.aload_n cx qL_springs_2 rfl ?_
  refine PW.iload_n cx qL_springs_3 rfl ?_
  refine PW.callVCI (As := [.int p1]) (st := [.int 0, .ref (gB g + 150)]) ckk css cx hR hT qL_springs_4 ktL_60 mvX6_springs (sh_0 hx) rfl rfl rfl rfl (Nat.le_of_ble_eq_true rfl) (Nat.le_of_ble_eq_true rfl) (Nat.le_of_ble_eq_true rfl) (Nat.le_of_ble_eq_true rfl) (Nat.le_of_ble_eq_true rfl) hf sne (fun t e => ctX6_springs hx h p1 t e) (fun i h9 hf => ?_) (fun t2 h1 hf => ?_)
  · rcases caE hf with ⟨rfl, hf⟩ | ⟨-, hf⟩
    · refine ⟨12, ⟨by decide, by decide⟩, rfl, fun q4 => ?_⟩
      refine PW.astore_n (L' := [some (.ref (gB g + 0)), some (.int p1), some (.ref (gB g + 150)), some (.ref q4)]) cx qL_springs_12 hi3 rfl rfl ?_
      refine PW.iconst (v := 1) cx qL_springs_13 rfl ?_
      exact PW.toX (Nat.le_of_ble_eq_true rfl) (Nat.le_of_ble_eq_true rfl) (PW.iret cx hrt qL_springs_14 (le_wi hf))
    · cases hf
  · refine PW.i2l cx qL_springs_7 ?_
    refine PW.last1 cx qL_springs_8 ho hf (fun h3 hf => ?_)
    refine PW.goto cx qL_springs_9 ?_
    refine PW.iconst (v := 0) cx qL_springs_15 rfl ?_
    exact PW.toX (Nat.le_of_ble_eq_true rfl) (Nat.le_of_ble_eq_true rfl) (PW.iret cx hrt qL_springs_16 (le_wi hf))
set_option maxRecDepth 20000 in
theorem ctL_state {g : GT} {sh : List Shp} (hx : XSh sh) (ho : sh[150]? = some (.inr (3, 1, []))) (h : Hp) (p1 : Int32) (r0 : Int32 × Hp) (hf : L_state h p1 = some r0) : CtW g mL_state 11 1 6 [.ref (gB g + 0), .int p1, .ref (gB g + 150)] sh h (PE (some (.int r0.1)) sh r0.2) := by
  refine CtW.of (L := [some (.ref (gB g + 0)), some (.int p1), some (.ref (gB g + 150)), none]) (by decide) (by intro w hw; simp only [List.mem_cons, List.not_mem_nil, or_false] at hw; rcases hw with rfl | rfl | rfl <;> rfl) (Nat.le_of_ble_eq_true rfl) rfl (fun X mx hT => ?_)
  obtain ⟨cx, hR, hml, hrt, -⟩ := mx
  have cx : Cx g X RL cL_state := cx
  have hrt : X.2.2.2.2.2.2.2.1.sig.returnType = (some .int) := hrt
  have hi3 : 3 < X.2.2.2.2.2.2.2.2.maxLocals := by rw [hml]; exact Nat.le_of_ble_eq_true rfl
  unfold L_state at hf
  refine PW.aload_n cx qL_state_0 rfl ?_
  refine PW.iconst (v := 0) cx qL_state_1 rfl ?_
  refine PW.aload_n cx qL_state_2 rfl ?_
  refine PW.iload_n cx qL_state_3 rfl ?_
  refine PW.callVCI (As := [.int p1]) (st := [.int 0, .ref (gB g + 150)]) ckk css cx hR hT qL_state_4 ktL_63 mvX6_state (sh_0 hx) rfl rfl rfl rfl (Nat.le_of_ble_eq_true rfl) (Nat.le_of_ble_eq_true rfl) (Nat.le_of_ble_eq_true rfl) (Nat.le_of_ble_eq_true rfl) (Nat.le_of_ble_eq_true rfl) hf sne (fun t e => ctX6_state hx h p1 t e) (fun i h9 hf => ?_) (fun t2 h1 hf => ?_)
  · rcases caE hf with ⟨rfl, hf⟩ | ⟨-, hf⟩
    · refine ⟨12, ⟨by decide, by decide⟩, rfl, fun q4 => ?_⟩
      refine PW.astore_n (L' := [some (.ref (gB g + 0)), some (.int p1), some (.ref (gB g + 150)), some (.ref q4)]) cx qL_state_12 hi3 rfl rfl ?_
      refine PW.iconst (v := 1) cx qL_state_13 rfl ?_
      exact PW.toX (Nat.le_of_ble_eq_true rfl) (Nat.le_of_ble_eq_true rfl) (PW.iret cx hrt qL_state_14 (le_wi hf))
    · cases hf
  · refine PW.i2l cx qL_state_7 ?_
    refine PW.last1 cx qL_state_8 ho hf (fun h3 hf => ?_)
    refine PW.goto cx qL_state_9 ?_
    refine PW.iconst (v := 0) cx qL_state_15 rfl ?_
    exact PW.toX (Nat.le_of_ble_eq_true rfl) (Nat.le_of_ble_eq_true rfl) (PW.iret cx hrt qL_state_16 (le_wi hf))
set_option maxRecDepth 20000 in
theorem ctL_colours {g : GT} {sh : List Shp} (hx : XSh sh) (ho : sh[150]? = some (.inr (3, 1, []))) (h : Hp) (p1 : Int32) (r0 : Int32 × Hp) (hf : L_colours h p1 = some r0) : CtW g mL_colours 11 1 6 [.ref (gB g + 0), .int p1, .ref (gB g + 150)] sh h (PE (some (.int r0.1)) sh r0.2) := by
  refine CtW.of (L := [some (.ref (gB g + 0)), some (.int p1), some (.ref (gB g + 150)), none]) (by decide) (by intro w hw; simp only [List.mem_cons, List.not_mem_nil, or_false] at hw; rcases hw with rfl | rfl | rfl <;> rfl) (Nat.le_of_ble_eq_true rfl) rfl (fun X mx hT => ?_)
  obtain ⟨cx, hR, hml, hrt, -⟩ := mx
  have cx : Cx g X RL cL_colours := cx
  have hrt : X.2.2.2.2.2.2.2.1.sig.returnType = (some .int) := hrt
  have hi3 : 3 < X.2.2.2.2.2.2.2.2.maxLocals := by rw [hml]; exact Nat.le_of_ble_eq_true rfl
  unfold L_colours at hf
  refine PW.aload_n cx qL_colours_0 rfl ?_
  refine PW.iconst (v := 0) cx qL_colours_1 rfl ?_
  refine PW.aload_n cx qL_colours_2 rfl ?_
  refine PW.iload_n cx qL_colours_3 rfl ?_
  refine PW.callVCI (As := [.int p1]) (st := [.int 0, .ref (gB g + 150)]) ckk css cx hR hT qL_colours_4 ktL_66 mvX6_colours (sh_0 hx) rfl rfl rfl rfl (Nat.le_of_ble_eq_true rfl) (Nat.le_of_ble_eq_true rfl) (Nat.le_of_ble_eq_true rfl) (Nat.le_of_ble_eq_true rfl) (Nat.le_of_ble_eq_true rfl) hf sne (fun t e => ctX6_colours hx h p1 t e) (fun i h9 hf => ?_) (fun t2 h1 hf => ?_)
  · rcases caE hf with ⟨rfl, hf⟩ | ⟨-, hf⟩
    · refine ⟨12, ⟨by decide, by decide⟩, rfl, fun q4 => ?_⟩
      refine PW.astore_n (L' := [some (.ref (gB g + 0)), some (.int p1), some (.ref (gB g + 150)), some (.ref q4)]) cx qL_colours_12 hi3 rfl rfl ?_
      refine PW.iconst (v := 1) cx qL_colours_13 rfl ?_
      exact PW.toX (Nat.le_of_ble_eq_true rfl) (Nat.le_of_ble_eq_true rfl) (PW.iret cx hrt qL_colours_14 (le_wi hf))
    · cases hf
  · refine PW.i2l cx qL_colours_7 ?_
    refine PW.last1 cx qL_colours_8 ho hf (fun h3 hf => ?_)
    refine PW.goto cx qL_colours_9 ?_
    refine PW.iconst (v := 0) cx qL_colours_15 rfl ?_
    exact PW.toX (Nat.le_of_ble_eq_true rfl) (Nat.le_of_ble_eq_true rfl) (PW.iret cx hrt qL_colours_16 (le_wi hf))
set_option maxRecDepth 20000 in
theorem ctL_length {g : GT} {sh : List Shp} (hx : XSh sh) (ho : sh[150]? = some (.inr (3, 1, []))) (h : Hp) (p1 : Int32) (r0 : Int32 × Hp) (hf : L_length h p1 = some r0) : CtW g mL_length 11 1 6 [.ref (gB g + 0), .int p1, .ref (gB g + 150)] sh h (PE (some (.int r0.1)) sh r0.2) := by
  refine CtW.of (L := [some (.ref (gB g + 0)), some (.int p1), some (.ref (gB g + 150)), none]) (by decide) (by intro w hw; simp only [List.mem_cons, List.not_mem_nil, or_false] at hw; rcases hw with rfl | rfl | rfl <;> rfl) (Nat.le_of_ble_eq_true rfl) rfl (fun X mx hT => ?_)
  obtain ⟨cx, hR, hml, hrt, -⟩ := mx
  have cx : Cx g X RL cL_length := cx
  have hrt : X.2.2.2.2.2.2.2.1.sig.returnType = (some .int) := hrt
  have hi3 : 3 < X.2.2.2.2.2.2.2.2.maxLocals := by rw [hml]; exact Nat.le_of_ble_eq_true rfl
  unfold L_length at hf
  refine PW.aload_n cx qL_length_0 rfl ?_
  refine PW.iconst (v := 0) cx qL_length_1 rfl ?_
  refine PW.aload_n cx qL_length_2 rfl ?_
  refine PW.iload_n cx qL_length_3 rfl ?_
  refine PW.callVCI (As := [.int p1]) (st := [.int 0, .ref (gB g + 150)]) ckk css cx hR hT qL_length_4 ktL_69 mvX6_length (sh_0 hx) rfl rfl rfl rfl (Nat.le_of_ble_eq_true rfl) (Nat.le_of_ble_eq_true rfl) (Nat.le_of_ble_eq_true rfl) (Nat.le_of_ble_eq_true rfl) (Nat.le_of_ble_eq_true rfl) hf sne (fun t e => ctX6_length hx h p1 t e) (fun i h9 hf => ?_) (fun t2 h1 hf => ?_)
  · rcases caE hf with ⟨rfl, hf⟩ | ⟨-, hf⟩
    · refine ⟨12, ⟨by decide, by decide⟩, rfl, fun q4 => ?_⟩
      refine PW.astore_n (L' := [some (.ref (gB g + 0)), some (.int p1), some (.ref (gB g + 150)), some (.ref q4)]) cx qL_length_12 hi3 rfl rfl ?_
      refine PW.iconst (v := 1) cx qL_length_13 rfl ?_
      exact PW.toX (Nat.le_of_ble_eq_true rfl) (Nat.le_of_ble_eq_true rfl) (PW.iret cx hrt qL_length_14 (le_wi hf))
    · cases hf
  · refine PW.i2l cx qL_length_7 ?_
    refine PW.last1 cx qL_length_8 ho hf (fun h3 hf => ?_)
    refine PW.goto cx qL_length_9 ?_
    refine PW.iconst (v := 0) cx qL_length_15 rfl ?_
    exact PW.toX (Nat.le_of_ble_eq_true rfl) (Nat.le_of_ble_eq_true rfl) (PW.iret cx hrt qL_length_16 (le_wi hf))
set_option maxRecDepth 20000 in
theorem ctL_hash {g : GT} {sh : List Shp} (hx : XSh sh) (ho : sh[150]? = some (.inr (3, 1, []))) (h : Hp) (p1 : Int32) (r0 : Int32 × Hp) (hf : L_hash h p1 = some r0) : CtW g mL_hash 11 1 6 [.ref (gB g + 0), .int p1, .ref (gB g + 150)] sh h (PE (some (.int r0.1)) sh r0.2) := by
  refine CtW.of (L := [some (.ref (gB g + 0)), some (.int p1), some (.ref (gB g + 150)), none]) (by decide) (by intro w hw; simp only [List.mem_cons, List.not_mem_nil, or_false] at hw; rcases hw with rfl | rfl | rfl <;> rfl) (Nat.le_of_ble_eq_true rfl) rfl (fun X mx hT => ?_)
  obtain ⟨cx, hR, hml, hrt, -⟩ := mx
  have cx : Cx g X RL cL_hash := cx
  have hrt : X.2.2.2.2.2.2.2.1.sig.returnType = (some .int) := hrt
  have hi3 : 3 < X.2.2.2.2.2.2.2.2.maxLocals := by rw [hml]; exact Nat.le_of_ble_eq_true rfl
  unfold L_hash at hf
  refine PW.aload_n cx qL_hash_0 rfl ?_
  refine PW.iconst (v := 0) cx qL_hash_1 rfl ?_
  refine PW.aload_n cx qL_hash_2 rfl ?_
  refine PW.iload_n cx qL_hash_3 rfl ?_
  refine PW.callVCI (As := [.int p1]) (st := [.int 0, .ref (gB g + 150)]) ckk css cx hR hT qL_hash_4 ktL_72 mvX6_hash (sh_0 hx) rfl rfl rfl rfl (Nat.le_of_ble_eq_true rfl) (Nat.le_of_ble_eq_true rfl) (Nat.le_of_ble_eq_true rfl) (Nat.le_of_ble_eq_true rfl) (Nat.le_of_ble_eq_true rfl) hf sne (fun t e => ctX6_hash hx h p1 t e) (fun i h9 hf => ?_) (fun t2 h1 hf => ?_)
  · rcases caE hf with ⟨rfl, hf⟩ | ⟨-, hf⟩
    · refine ⟨12, ⟨by decide, by decide⟩, rfl, fun q4 => ?_⟩
      refine PW.astore_n (L' := [some (.ref (gB g + 0)), some (.int p1), some (.ref (gB g + 150)), some (.ref q4)]) cx qL_hash_12 hi3 rfl rfl ?_
      refine PW.iconst (v := 1) cx qL_hash_13 rfl ?_
      exact PW.toX (Nat.le_of_ble_eq_true rfl) (Nat.le_of_ble_eq_true rfl) (PW.iret cx hrt qL_hash_14 (le_wi hf))
    · cases hf
  · refine PW.i2l cx qL_hash_7 ?_
    refine PW.last1 cx qL_hash_8 ho hf (fun h3 hf => ?_)
    refine PW.goto cx qL_hash_9 ?_
    refine PW.iconst (v := 0) cx qL_hash_15 rfl ?_
    exact PW.toX (Nat.le_of_ble_eq_true rfl) (Nat.le_of_ble_eq_true rfl) (PW.iret cx hrt qL_hash_16 (le_wi hf))
set_option maxRecDepth 20000 in
theorem ctL_fat {g : GT} {sh : List Shp} (hx : XSh sh) (ho : sh[150]? = some (.inr (3, 1, []))) (h : Hp) (p1 : Int32) (r0 : Int32 × Hp) (hf : L_fat h p1 = some r0) : CtW g mL_fat 11 1 6 [.ref (gB g + 0), .int p1, .ref (gB g + 150)] sh h (PE (some (.int r0.1)) sh r0.2) := by
  refine CtW.of (L := [some (.ref (gB g + 0)), some (.int p1), some (.ref (gB g + 150)), none]) (by decide) (by intro w hw; simp only [List.mem_cons, List.not_mem_nil, or_false] at hw; rcases hw with rfl | rfl | rfl <;> rfl) (Nat.le_of_ble_eq_true rfl) rfl (fun X mx hT => ?_)
  obtain ⟨cx, hR, hml, hrt, -⟩ := mx
  have cx : Cx g X RL cL_fat := cx
  have hrt : X.2.2.2.2.2.2.2.1.sig.returnType = (some .int) := hrt
  have hi3 : 3 < X.2.2.2.2.2.2.2.2.maxLocals := by rw [hml]; exact Nat.le_of_ble_eq_true rfl
  unfold L_fat at hf
  refine PW.aload_n cx qL_fat_0 rfl ?_
  refine PW.iconst (v := 0) cx qL_fat_1 rfl ?_
  refine PW.aload_n cx qL_fat_2 rfl ?_
  refine PW.iload_n cx qL_fat_3 rfl ?_
  refine PW.callVCI (As := [.int p1]) (st := [.int 0, .ref (gB g + 150)]) ckk css cx hR hT qL_fat_4 ktL_75 mvX6_fat (sh_0 hx) rfl rfl rfl rfl (Nat.le_of_ble_eq_true rfl) (Nat.le_of_ble_eq_true rfl) (Nat.le_of_ble_eq_true rfl) (Nat.le_of_ble_eq_true rfl) (Nat.le_of_ble_eq_true rfl) hf sne (fun t e => ctX6_fat hx h p1 t e) (fun i h9 hf => ?_) (fun t2 h1 hf => ?_)
  · rcases caE hf with ⟨rfl, hf⟩ | ⟨-, hf⟩
    · refine ⟨12, ⟨by decide, by decide⟩, rfl, fun q4 => ?_⟩
      refine PW.astore_n (L' := [some (.ref (gB g + 0)), some (.int p1), some (.ref (gB g + 150)), some (.ref q4)]) cx qL_fat_12 hi3 rfl rfl ?_
      refine PW.iconst (v := 1) cx qL_fat_13 rfl ?_
      exact PW.toX (Nat.le_of_ble_eq_true rfl) (Nat.le_of_ble_eq_true rfl) (PW.iret cx hrt qL_fat_14 (le_wi hf))
    · cases hf
  · refine PW.i2l cx qL_fat_7 ?_
    refine PW.last1 cx qL_fat_8 ho hf (fun h3 hf => ?_)
    refine PW.goto cx qL_fat_9 ?_
    refine PW.iconst (v := 0) cx qL_fat_15 rfl ?_
    exact PW.toX (Nat.le_of_ble_eq_true rfl) (Nat.le_of_ble_eq_true rfl) (PW.iret cx hrt qL_fat_16 (le_wi hf))
set_option maxRecDepth 20000 in
theorem ctL_reelOf {g : GT} {sh : List Shp} (hx : XSh sh) (ho : sh[150]? = some (.inr (3, 1, []))) (h : Hp) (p1 : Int32) (r0 : Int32 × Hp) (hf : L_reelOf h p1 = some r0) : CtW g mL_reelOf 11 1 6 [.ref (gB g + 0), .int p1, .ref (gB g + 150)] sh h (PE (some (.int r0.1)) sh r0.2) := by
  refine CtW.of (L := [some (.ref (gB g + 0)), some (.int p1), some (.ref (gB g + 150)), none]) (by decide) (by intro w hw; simp only [List.mem_cons, List.not_mem_nil, or_false] at hw; rcases hw with rfl | rfl | rfl <;> rfl) (Nat.le_of_ble_eq_true rfl) rfl (fun X mx hT => ?_)
  obtain ⟨cx, hR, hml, hrt, -⟩ := mx
  have cx : Cx g X RL cL_reelOf := cx
  have hrt : X.2.2.2.2.2.2.2.1.sig.returnType = (some .int) := hrt
  have hi3 : 3 < X.2.2.2.2.2.2.2.2.maxLocals := by rw [hml]; exact Nat.le_of_ble_eq_true rfl
  unfold L_reelOf at hf
  refine PW.aload_n cx qL_reelOf_0 rfl ?_
  refine PW.iconst (v := 0) cx qL_reelOf_1 rfl ?_
  refine PW.aload_n cx qL_reelOf_2 rfl ?_
  refine PW.iload_n cx qL_reelOf_3 rfl ?_
  refine PW.callVCI (As := [.int p1]) (st := [.int 0, .ref (gB g + 150)]) ckk css cx hR hT qL_reelOf_4 ktL_78 mvX6_reelOf (sh_0 hx) rfl rfl rfl rfl (Nat.le_of_ble_eq_true rfl) (Nat.le_of_ble_eq_true rfl) (Nat.le_of_ble_eq_true rfl) (Nat.le_of_ble_eq_true rfl) (Nat.le_of_ble_eq_true rfl) hf sne (fun t e => ctX6_reelOf hx h p1 t e) (fun i h9 hf => ?_) (fun t2 h1 hf => ?_)
  · rcases caE hf with ⟨rfl, hf⟩ | ⟨-, hf⟩
    · refine ⟨12, ⟨by decide, by decide⟩, rfl, fun q4 => ?_⟩
      refine PW.astore_n (L' := [some (.ref (gB g + 0)), some (.int p1), some (.ref (gB g + 150)), some (.ref q4)]) cx qL_reelOf_12 hi3 rfl rfl ?_
      refine PW.iconst (v := 1) cx qL_reelOf_13 rfl ?_
      exact PW.toX (Nat.le_of_ble_eq_true rfl) (Nat.le_of_ble_eq_true rfl) (PW.iret cx hrt qL_reelOf_14 (le_wi hf))
    · cases hf
  · refine PW.i2l cx qL_reelOf_7 ?_
    refine PW.last1 cx qL_reelOf_8 ho hf (fun h3 hf => ?_)
    refine PW.goto cx qL_reelOf_9 ?_
    refine PW.iconst (v := 0) cx qL_reelOf_15 rfl ?_
    exact PW.toX (Nat.le_of_ble_eq_true rfl) (Nat.le_of_ble_eq_true rfl) (PW.iret cx hrt qL_reelOf_16 (le_wi hf))
set_option maxRecDepth 20000 in
theorem ctL_bedOf {g : GT} {sh : List Shp} (hx : XSh sh) (ho : sh[150]? = some (.inr (3, 1, []))) (h : Hp) (p1 : Int32) (r0 : Int32 × Hp) (hf : L_bedOf h p1 = some r0) : CtW g mL_bedOf 11 1 6 [.ref (gB g + 0), .int p1, .ref (gB g + 150)] sh h (PE (some (.int r0.1)) sh r0.2) := by
  refine CtW.of (L := [some (.ref (gB g + 0)), some (.int p1), some (.ref (gB g + 150)), none]) (by decide) (by intro w hw; simp only [List.mem_cons, List.not_mem_nil, or_false] at hw; rcases hw with rfl | rfl | rfl <;> rfl) (Nat.le_of_ble_eq_true rfl) rfl (fun X mx hT => ?_)
  obtain ⟨cx, hR, hml, hrt, -⟩ := mx
  have cx : Cx g X RL cL_bedOf := cx
  have hrt : X.2.2.2.2.2.2.2.1.sig.returnType = (some .int) := hrt
  have hi3 : 3 < X.2.2.2.2.2.2.2.2.maxLocals := by rw [hml]; exact Nat.le_of_ble_eq_true rfl
  unfold L_bedOf at hf
  refine PW.aload_n cx qL_bedOf_0 rfl ?_
  refine PW.iconst (v := 0) cx qL_bedOf_1 rfl ?_
  refine PW.aload_n cx qL_bedOf_2 rfl ?_
  refine PW.iload_n cx qL_bedOf_3 rfl ?_
  refine PW.callVCI (As := [.int p1]) (st := [.int 0, .ref (gB g + 150)]) ckk css cx hR hT qL_bedOf_4 ktL_81 mvX6_bedOf (sh_0 hx) rfl rfl rfl rfl (Nat.le_of_ble_eq_true rfl) (Nat.le_of_ble_eq_true rfl) (Nat.le_of_ble_eq_true rfl) (Nat.le_of_ble_eq_true rfl) (Nat.le_of_ble_eq_true rfl) hf sne (fun t e => ctX6_bedOf hx h p1 t e) (fun i h9 hf => ?_) (fun t2 h1 hf => ?_)
  · rcases caE hf with ⟨rfl, hf⟩ | ⟨-, hf⟩
    · refine ⟨12, ⟨by decide, by decide⟩, rfl, fun q4 => ?_⟩
      refine PW.astore_n (L' := [some (.ref (gB g + 0)), some (.int p1), some (.ref (gB g + 150)), some (.ref q4)]) cx qL_bedOf_12 hi3 rfl rfl ?_
      refine PW.iconst (v := 1) cx qL_bedOf_13 rfl ?_
      exact PW.toX (Nat.le_of_ble_eq_true rfl) (Nat.le_of_ble_eq_true rfl) (PW.iret cx hrt qL_bedOf_14 (le_wi hf))
    · cases hf
  · refine PW.i2l cx qL_bedOf_7 ?_
    refine PW.last1 cx qL_bedOf_8 ho hf (fun h3 hf => ?_)
    refine PW.goto cx qL_bedOf_9 ?_
    refine PW.iconst (v := 0) cx qL_bedOf_15 rfl ?_
    exact PW.toX (Nat.le_of_ble_eq_true rfl) (Nat.le_of_ble_eq_true rfl) (PW.iret cx hrt qL_bedOf_16 (le_wi hf))
set_option maxRecDepth 20000 in
theorem ctL_sceneOf {g : GT} {sh : List Shp} (hx : XSh sh) (ho : sh[150]? = some (.inr (3, 1, []))) (h : Hp) (p1 : Int32) (r0 : Int32 × Hp) (hf : L_sceneOf h p1 = some r0) : CtW g mL_sceneOf 11 1 6 [.ref (gB g + 0), .int p1, .ref (gB g + 150)] sh h (PE (some (.int r0.1)) sh r0.2) := by
  refine CtW.of (L := [some (.ref (gB g + 0)), some (.int p1), some (.ref (gB g + 150)), none]) (by decide) (by intro w hw; simp only [List.mem_cons, List.not_mem_nil, or_false] at hw; rcases hw with rfl | rfl | rfl <;> rfl) (Nat.le_of_ble_eq_true rfl) rfl (fun X mx hT => ?_)
  obtain ⟨cx, hR, hml, hrt, -⟩ := mx
  have cx : Cx g X RL cL_sceneOf := cx
  have hrt : X.2.2.2.2.2.2.2.1.sig.returnType = (some .int) := hrt
  have hi3 : 3 < X.2.2.2.2.2.2.2.2.maxLocals := by rw [hml]; exact Nat.le_of_ble_eq_true rfl
  unfold L_sceneOf at hf
  refine PW.aload_n cx qL_sceneOf_0 rfl ?_
  refine PW.iconst (v := 0) cx qL_sceneOf_1 rfl ?_
  refine PW.aload_n cx qL_sceneOf_2 rfl ?_
  refine PW.iload_n cx qL_sceneOf_3 rfl ?_
  refine PW.callVCI (As := [.int p1]) (st := [.int 0, .ref (gB g + 150)]) ckk css cx hR hT qL_sceneOf_4 ktL_84 mvX6_sceneOf (sh_0 hx) rfl rfl rfl rfl (Nat.le_of_ble_eq_true rfl) (Nat.le_of_ble_eq_true rfl) (Nat.le_of_ble_eq_true rfl) (Nat.le_of_ble_eq_true rfl) (Nat.le_of_ble_eq_true rfl) hf sne (fun t e => ctX6_sceneOf hx h p1 t e) (fun i h9 hf => ?_) (fun t2 h1 hf => ?_)
  · rcases caE hf with ⟨rfl, hf⟩ | ⟨-, hf⟩
    · refine ⟨12, ⟨by decide, by decide⟩, rfl, fun q4 => ?_⟩
      refine PW.astore_n (L' := [some (.ref (gB g + 0)), some (.int p1), some (.ref (gB g + 150)), some (.ref q4)]) cx qL_sceneOf_12 hi3 rfl rfl ?_
      refine PW.iconst (v := 1) cx qL_sceneOf_13 rfl ?_
      exact PW.toX (Nat.le_of_ble_eq_true rfl) (Nat.le_of_ble_eq_true rfl) (PW.iret cx hrt qL_sceneOf_14 (le_wi hf))
    · cases hf
  · refine PW.i2l cx qL_sceneOf_7 ?_
    refine PW.last1 cx qL_sceneOf_8 ho hf (fun h3 hf => ?_)
    refine PW.goto cx qL_sceneOf_9 ?_
    refine PW.iconst (v := 0) cx qL_sceneOf_15 rfl ?_
    exact PW.toX (Nat.le_of_ble_eq_true rfl) (Nat.le_of_ble_eq_true rfl) (PW.iret cx hrt qL_sceneOf_16 (le_wi hf))
set_option maxRecDepth 20000 in
theorem ctL_commonRun {g : GT} {sh : List Shp} (hx : XSh sh) (ho : sh[150]? = some (.inr (3, 1, []))) (h : Hp) (p1 : Int32) (p2 : Int32) (r0 : Int32 × Hp) (hf : L_commonRun h p1 p2 = some r0) : CtW g mL_commonRun 11 2 12 [.ref (gB g + 0), .int p1, .int p2, .ref (gB g + 150)] sh h (PE (some (.int r0.1)) sh r0.2) := by
  refine CtW.of (L := [some (.ref (gB g + 0)), some (.int p1), some (.int p2), some (.ref (gB g + 150)), none]) (by decide) (by intro w hw; simp only [List.mem_cons, List.not_mem_nil, or_false] at hw; rcases hw with rfl | rfl | rfl | rfl <;> rfl) (Nat.le_of_ble_eq_true rfl) rfl (fun X mx hT => ?_)
  obtain ⟨cx, hR, hml, hrt, -⟩ := mx
  have cx : Cx g X RL cL_commonRun := cx
  have hrt : X.2.2.2.2.2.2.2.1.sig.returnType = (some .int) := hrt
  have hi4 : 4 < X.2.2.2.2.2.2.2.2.maxLocals := by rw [hml]; exact Nat.le_of_ble_eq_true rfl
  unfold L_commonRun at hf
  refine PW.aload_n cx qL_commonRun_0 rfl ?_
  refine PW.iconst (v := 0) cx qL_commonRun_1 rfl ?_
  refine PW.aload_n cx qL_commonRun_2 rfl ?_
  refine PW.iload_n cx qL_commonRun_3 rfl ?_
  refine PW.iload_n cx qL_commonRun_4 rfl ?_
  refine PW.callVCI (As := [.int p1, .int p2]) (st := [.int 0, .ref (gB g + 150)]) ckk css cx hR hT qL_commonRun_5 ktL_87 mvX6_commonRun (sh_0 hx) rfl rfl rfl rfl (Nat.le_of_ble_eq_true rfl) (Nat.le_of_ble_eq_true rfl) (Nat.le_of_ble_eq_true rfl) (Nat.le_of_ble_eq_true rfl) (Nat.le_of_ble_eq_true rfl) hf sne (fun t e => ctX6_commonRun hx h p1 p2 t e) (fun i h9 hf => ?_) (fun t2 h1 hf => ?_)
  · rcases caE hf with ⟨rfl, hf⟩ | ⟨-, hf⟩
    · refine ⟨13, ⟨by decide, by decide⟩, rfl, fun q4 => ?_⟩
      refine PW.astore (L' := [some (.ref (gB g + 0)), some (.int p1), some (.int p2), some (.ref (gB g + 150)), some (.ref q4)]) cx qL_commonRun_13 hi4 rfl rfl ?_
      refine PW.iconst (v := 1) cx qL_commonRun_15 rfl ?_
      exact PW.toX (Nat.le_of_ble_eq_true rfl) (Nat.le_of_ble_eq_true rfl) (PW.iret cx hrt qL_commonRun_16 (le_wi hf))
    · cases hf
  · refine PW.i2l cx qL_commonRun_8 ?_
    refine PW.last1 cx qL_commonRun_9 ho hf (fun h3 hf => ?_)
    refine PW.goto cx qL_commonRun_10 ?_
    refine PW.iconst (v := 0) cx qL_commonRun_17 rfl ?_
    exact PW.toX (Nat.le_of_ble_eq_true rfl) (Nat.le_of_ble_eq_true rfl) (PW.iret cx hrt qL_commonRun_18 (le_wi hf))
set_option maxRecDepth 20000 in
theorem ctL_nearestClip {g : GT} {sh : List Shp} (hx : XSh sh) (ho : sh[150]? = some (.inr (3, 1, []))) (h : Hp) (p1 : Int32) (r0 : Int32 × Hp) (hf : L_nearestClip h p1 = some r0) : CtW g mL_nearestClip 11 1 6 [.ref (gB g + 0), .int p1, .ref (gB g + 150)] sh h (PE (some (.int r0.1)) sh r0.2) := by
  refine CtW.of (L := [some (.ref (gB g + 0)), some (.int p1), some (.ref (gB g + 150)), none]) (by decide) (by intro w hw; simp only [List.mem_cons, List.not_mem_nil, or_false] at hw; rcases hw with rfl | rfl | rfl <;> rfl) (Nat.le_of_ble_eq_true rfl) rfl (fun X mx hT => ?_)
  obtain ⟨cx, hR, hml, hrt, -⟩ := mx
  have cx : Cx g X RL cL_nearestClip := cx
  have hrt : X.2.2.2.2.2.2.2.1.sig.returnType = (some .int) := hrt
  have hi3 : 3 < X.2.2.2.2.2.2.2.2.maxLocals := by rw [hml]; exact Nat.le_of_ble_eq_true rfl
  unfold L_nearestClip at hf
  refine PW.aload_n cx qL_nearestClip_0 rfl ?_
  refine PW.iconst (v := 0) cx qL_nearestClip_1 rfl ?_
  refine PW.aload_n cx qL_nearestClip_2 rfl ?_
  refine PW.iload_n cx qL_nearestClip_3 rfl ?_
  refine PW.callVCI (As := [.int p1]) (st := [.int 0, .ref (gB g + 150)]) ckk css cx hR hT qL_nearestClip_4 ktL_90 mvX6_nearestClip (sh_0 hx) rfl rfl rfl rfl (Nat.le_of_ble_eq_true rfl) (Nat.le_of_ble_eq_true rfl) (Nat.le_of_ble_eq_true rfl) (Nat.le_of_ble_eq_true rfl) (Nat.le_of_ble_eq_true rfl) hf sne (fun t e => ctX6_nearestClip hx h p1 t e) (fun i h9 hf => ?_) (fun t2 h1 hf => ?_)
  · rcases caE hf with ⟨rfl, hf⟩ | ⟨-, hf⟩
    · refine ⟨12, ⟨by decide, by decide⟩, rfl, fun q4 => ?_⟩
      refine PW.astore_n (L' := [some (.ref (gB g + 0)), some (.int p1), some (.ref (gB g + 150)), some (.ref q4)]) cx qL_nearestClip_12 hi3 rfl rfl ?_
      refine PW.iconst (v := 1) cx qL_nearestClip_13 rfl ?_
      exact PW.toX (Nat.le_of_ble_eq_true rfl) (Nat.le_of_ble_eq_true rfl) (PW.iret cx hrt qL_nearestClip_14 (le_wi hf))
    · cases hf
  · refine PW.i2l cx qL_nearestClip_7 ?_
    refine PW.last1 cx qL_nearestClip_8 ho hf (fun h3 hf => ?_)
    refine PW.goto cx qL_nearestClip_9 ?_
    refine PW.iconst (v := 0) cx qL_nearestClip_15 rfl ?_
    exact PW.toX (Nat.le_of_ble_eq_true rfl) (Nat.le_of_ble_eq_true rfl) (PW.iret cx hrt qL_nearestClip_16 (le_wi hf))
set_option maxRecDepth 20000 in
theorem ctL_twinsOf {g : GT} {sh : List Shp} (hx : XSh sh) (ho : sh[150]? = some (.inr (3, 1, []))) (h : Hp) (p1 : Int32) (r0 : Int32 × Hp) (hf : L_twinsOf h p1 = some r0) : CtW g mL_twinsOf 11 1 6 [.ref (gB g + 0), .int p1, .ref (gB g + 150)] sh h (PE (some (.int r0.1)) sh r0.2) := by
  refine CtW.of (L := [some (.ref (gB g + 0)), some (.int p1), some (.ref (gB g + 150)), none]) (by decide) (by intro w hw; simp only [List.mem_cons, List.not_mem_nil, or_false] at hw; rcases hw with rfl | rfl | rfl <;> rfl) (Nat.le_of_ble_eq_true rfl) rfl (fun X mx hT => ?_)
  obtain ⟨cx, hR, hml, hrt, -⟩ := mx
  have cx : Cx g X RL cL_twinsOf := cx
  have hrt : X.2.2.2.2.2.2.2.1.sig.returnType = (some .int) := hrt
  have hi3 : 3 < X.2.2.2.2.2.2.2.2.maxLocals := by rw [hml]; exact Nat.le_of_ble_eq_true rfl
  unfold L_twinsOf at hf
  refine PW.aload_n cx qL_twinsOf_0 rfl ?_
  refine PW.iconst (v := 0) cx qL_twinsOf_1 rfl ?_
  refine PW.aload_n cx qL_twinsOf_2 rfl ?_
  refine PW.iload_n cx qL_twinsOf_3 rfl ?_
  refine PW.callVCI (As := [.int p1]) (st := [.int 0, .ref (gB g + 150)]) ckk css cx hR hT qL_twinsOf_4 ktL_93 mvX6_twinsOf (sh_0 hx) rfl rfl rfl rfl (Nat.le_of_ble_eq_true rfl) (Nat.le_of_ble_eq_true rfl) (Nat.le_of_ble_eq_true rfl) (Nat.le_of_ble_eq_true rfl) (Nat.le_of_ble_eq_true rfl) hf sne (fun t e => ctX6_twinsOf hx h p1 t e) (fun i h9 hf => ?_) (fun t2 h1 hf => ?_)
  · rcases caE hf with ⟨rfl, hf⟩ | ⟨-, hf⟩
    · refine ⟨12, ⟨by decide, by decide⟩, rfl, fun q4 => ?_⟩
      refine PW.astore_n (L' := [some (.ref (gB g + 0)), some (.int p1), some (.ref (gB g + 150)), some (.ref q4)]) cx qL_twinsOf_12 hi3 rfl rfl ?_
      refine PW.iconst (v := 1) cx qL_twinsOf_13 rfl ?_
      exact PW.toX (Nat.le_of_ble_eq_true rfl) (Nat.le_of_ble_eq_true rfl) (PW.iret cx hrt qL_twinsOf_14 (le_wi hf))
    · cases hf
  · refine PW.i2l cx qL_twinsOf_7 ?_
    refine PW.last1 cx qL_twinsOf_8 ho hf (fun h3 hf => ?_)
    refine PW.goto cx qL_twinsOf_9 ?_
    refine PW.iconst (v := 0) cx qL_twinsOf_15 rfl ?_
    exact PW.toX (Nat.le_of_ble_eq_true rfl) (Nat.le_of_ble_eq_true rfl) (PW.iret cx hrt qL_twinsOf_16 (le_wi hf))
set_option maxRecDepth 20000 in
theorem ctL_weeksToFade {g : GT} {sh : List Shp} (hx : XSh sh) (ho : sh[150]? = some (.inr (3, 1, []))) (h : Hp) (p1 : Int32) (r0 : Int32 × Hp) (hf : L_weeksToFade h p1 = some r0) : CtW g mL_weeksToFade 11 1 6 [.ref (gB g + 0), .int p1, .ref (gB g + 150)] sh h (PE (some (.int r0.1)) sh r0.2) := by
  refine CtW.of (L := [some (.ref (gB g + 0)), some (.int p1), some (.ref (gB g + 150)), none]) (by decide) (by intro w hw; simp only [List.mem_cons, List.not_mem_nil, or_false] at hw; rcases hw with rfl | rfl | rfl <;> rfl) (Nat.le_of_ble_eq_true rfl) rfl (fun X mx hT => ?_)
  obtain ⟨cx, hR, hml, hrt, -⟩ := mx
  have cx : Cx g X RL cL_weeksToFade := cx
  have hrt : X.2.2.2.2.2.2.2.1.sig.returnType = (some .int) := hrt
  have hi3 : 3 < X.2.2.2.2.2.2.2.2.maxLocals := by rw [hml]; exact Nat.le_of_ble_eq_true rfl
  unfold L_weeksToFade at hf
  refine PW.aload_n cx qL_weeksToFade_0 rfl ?_
  refine PW.iconst (v := 0) cx qL_weeksToFade_1 rfl ?_
  refine PW.aload_n cx qL_weeksToFade_2 rfl ?_
  refine PW.iload_n cx qL_weeksToFade_3 rfl ?_
  refine PW.callVCI (As := [.int p1]) (st := [.int 0, .ref (gB g + 150)]) ckk css cx hR hT qL_weeksToFade_4 ktL_96 mvX6_weeksToFade (sh_0 hx) rfl rfl rfl rfl (Nat.le_of_ble_eq_true rfl) (Nat.le_of_ble_eq_true rfl) (Nat.le_of_ble_eq_true rfl) (Nat.le_of_ble_eq_true rfl) (Nat.le_of_ble_eq_true rfl) hf sne (fun t e => ctX6_weeksToFade hx h p1 t e) (fun i h9 hf => ?_) (fun t2 h1 hf => ?_)
  · rcases caE hf with ⟨rfl, hf⟩ | ⟨-, hf⟩
    · refine ⟨12, ⟨by decide, by decide⟩, rfl, fun q4 => ?_⟩
      refine PW.astore_n (L' := [some (.ref (gB g + 0)), some (.int p1), some (.ref (gB g + 150)), some (.ref q4)]) cx qL_weeksToFade_12 hi3 rfl rfl ?_
      refine PW.iconst (v := 1) cx qL_weeksToFade_13 rfl ?_
      exact PW.toX (Nat.le_of_ble_eq_true rfl) (Nat.le_of_ble_eq_true rfl) (PW.iret cx hrt qL_weeksToFade_14 (le_wi hf))
    · cases hf
  · refine PW.i2l cx qL_weeksToFade_7 ?_
    refine PW.last1 cx qL_weeksToFade_8 ho hf (fun h3 hf => ?_)
    refine PW.goto cx qL_weeksToFade_9 ?_
    refine PW.iconst (v := 0) cx qL_weeksToFade_15 rfl ?_
    exact PW.toX (Nat.le_of_ble_eq_true rfl) (Nat.le_of_ble_eq_true rfl) (PW.iret cx hrt qL_weeksToFade_16 (le_wi hf))
set_option maxRecDepth 20000 in
theorem ctL_bedCount {g : GT} {sh : List Shp} (hx : XSh sh) (ho : sh[150]? = some (.inr (3, 1, []))) (h : Hp) (p1 : Int32) (r0 : Int32 × Hp) (hf : L_bedCount h p1 = some r0) : CtW g mL_bedCount 11 1 6 [.ref (gB g + 0), .int p1, .ref (gB g + 150)] sh h (PE (some (.int r0.1)) sh r0.2) := by
  refine CtW.of (L := [some (.ref (gB g + 0)), some (.int p1), some (.ref (gB g + 150)), none]) (by decide) (by intro w hw; simp only [List.mem_cons, List.not_mem_nil, or_false] at hw; rcases hw with rfl | rfl | rfl <;> rfl) (Nat.le_of_ble_eq_true rfl) rfl (fun X mx hT => ?_)
  obtain ⟨cx, hR, hml, hrt, -⟩ := mx
  have cx : Cx g X RL cL_bedCount := cx
  have hrt : X.2.2.2.2.2.2.2.1.sig.returnType = (some .int) := hrt
  have hi3 : 3 < X.2.2.2.2.2.2.2.2.maxLocals := by rw [hml]; exact Nat.le_of_ble_eq_true rfl
  unfold L_bedCount at hf
  refine PW.aload_n cx qL_bedCount_0 rfl ?_
  refine PW.iconst (v := 0) cx qL_bedCount_1 rfl ?_
  refine PW.aload_n cx qL_bedCount_2 rfl ?_
  refine PW.iload_n cx qL_bedCount_3 rfl ?_
  refine PW.callVCI (As := [.int p1]) (st := [.int 0, .ref (gB g + 150)]) ckk css cx hR hT qL_bedCount_4 ktL_99 mvX6_bedCount (sh_0 hx) rfl rfl rfl rfl (Nat.le_of_ble_eq_true rfl) (Nat.le_of_ble_eq_true rfl) (Nat.le_of_ble_eq_true rfl) (Nat.le_of_ble_eq_true rfl) (Nat.le_of_ble_eq_true rfl) hf sne (fun t e => ctX6_bedCount hx h p1 t e) (fun i h9 hf => ?_) (fun t2 h1 hf => ?_)
  · rcases caE hf with ⟨rfl, hf⟩ | ⟨-, hf⟩
    · refine ⟨12, ⟨by decide, by decide⟩, rfl, fun q4 => ?_⟩
      refine PW.astore_n (L' := [some (.ref (gB g + 0)), some (.int p1), some (.ref (gB g + 150)), some (.ref q4)]) cx qL_bedCount_12 hi3 rfl rfl ?_
      refine PW.iconst (v := 1) cx qL_bedCount_13 rfl ?_
      exact PW.toX (Nat.le_of_ble_eq_true rfl) (Nat.le_of_ble_eq_true rfl) (PW.iret cx hrt qL_bedCount_14 (le_wi hf))
    · cases hf
  · refine PW.i2l cx qL_bedCount_7 ?_
    refine PW.last1 cx qL_bedCount_8 ho hf (fun h3 hf => ?_)
    refine PW.goto cx qL_bedCount_9 ?_
    refine PW.iconst (v := 0) cx qL_bedCount_15 rfl ?_
    exact PW.toX (Nat.le_of_ble_eq_true rfl) (Nat.le_of_ble_eq_true rfl) (PW.iret cx hrt qL_bedCount_16 (le_wi hf))
set_option maxRecDepth 20000 in
theorem ctL_bed {g : GT} {sh : List Shp} (hx : XSh sh) (ho : sh[150]? = some (.inr (3, 1, []))) (h : Hp) (p1 : Int32) (p2 : Int32) (r0 : Int32 × Hp) (hf : L_bed h p1 p2 = some r0) : CtW g mL_bed 11 2 12 [.ref (gB g + 0), .int p1, .int p2, .ref (gB g + 150)] sh h (PE (some (.int r0.1)) sh r0.2) := by
  refine CtW.of (L := [some (.ref (gB g + 0)), some (.int p1), some (.int p2), some (.ref (gB g + 150)), none]) (by decide) (by intro w hw; simp only [List.mem_cons, List.not_mem_nil, or_false] at hw; rcases hw with rfl | rfl | rfl | rfl <;> rfl) (Nat.le_of_ble_eq_true rfl) rfl (fun X mx hT => ?_)
  obtain ⟨cx, hR, hml, hrt, -⟩ := mx
  have cx : Cx g X RL cL_bed := cx
  have hrt : X.2.2.2.2.2.2.2.1.sig.returnType = (some .int) := hrt
  have hi4 : 4 < X.2.2.2.2.2.2.2.2.maxLocals := by rw [hml]; exact Nat.le_of_ble_eq_true rfl
  unfold L_bed at hf
  refine PW.aload_n cx qL_bed_0 rfl ?_
  refine PW.iconst (v := 0) cx qL_bed_1 rfl ?_
  refine PW.aload_n cx qL_bed_2 rfl ?_
  refine PW.iload_n cx qL_bed_3 rfl ?_
  refine PW.iload_n cx qL_bed_4 rfl ?_
  refine PW.callVCI (As := [.int p1, .int p2]) (st := [.int 0, .ref (gB g + 150)]) ckk css cx hR hT qL_bed_5 ktL_102 mvX6_bed (sh_0 hx) rfl rfl rfl rfl (Nat.le_of_ble_eq_true rfl) (Nat.le_of_ble_eq_true rfl) (Nat.le_of_ble_eq_true rfl) (Nat.le_of_ble_eq_true rfl) (Nat.le_of_ble_eq_true rfl) hf sne (fun t e => ctX6_bed hx h p1 p2 t e) (fun i h9 hf => ?_) (fun t2 h1 hf => ?_)
  · rcases caE hf with ⟨rfl, hf⟩ | ⟨-, hf⟩
    · refine ⟨13, ⟨by decide, by decide⟩, rfl, fun q4 => ?_⟩
      refine PW.astore (L' := [some (.ref (gB g + 0)), some (.int p1), some (.int p2), some (.ref (gB g + 150)), some (.ref q4)]) cx qL_bed_13 hi4 rfl rfl ?_
      refine PW.iconst (v := 1) cx qL_bed_15 rfl ?_
      exact PW.toX (Nat.le_of_ble_eq_true rfl) (Nat.le_of_ble_eq_true rfl) (PW.iret cx hrt qL_bed_16 (le_wi hf))
    · cases hf
  · refine PW.i2l cx qL_bed_8 ?_
    refine PW.last1 cx qL_bed_9 ho hf (fun h3 hf => ?_)
    refine PW.goto cx qL_bed_10 ?_
    refine PW.iconst (v := 0) cx qL_bed_17 rfl ?_
    exact PW.toX (Nat.le_of_ble_eq_true rfl) (Nat.le_of_ble_eq_true rfl) (PW.iret cx hrt qL_bed_18 (le_wi hf))
set_option maxRecDepth 20000 in
theorem ctL_sleepers {g : GT} {sh : List Shp} (hx : XSh sh) (ho : sh[150]? = some (.inr (3, 1, []))) (h : Hp) (p1 : Int32) (r0 : Int32 × Hp) (hf : L_sleepers h p1 = some r0) : CtW g mL_sleepers 11 1 6 [.ref (gB g + 0), .int p1, .ref (gB g + 150)] sh h (PE (some (.int r0.1)) sh r0.2) := by
  refine CtW.of (L := [some (.ref (gB g + 0)), some (.int p1), some (.ref (gB g + 150)), none]) (by decide) (by intro w hw; simp only [List.mem_cons, List.not_mem_nil, or_false] at hw; rcases hw with rfl | rfl | rfl <;> rfl) (Nat.le_of_ble_eq_true rfl) rfl (fun X mx hT => ?_)
  obtain ⟨cx, hR, hml, hrt, -⟩ := mx
  have cx : Cx g X RL cL_sleepers := cx
  have hrt : X.2.2.2.2.2.2.2.1.sig.returnType = (some .int) := hrt
  have hi3 : 3 < X.2.2.2.2.2.2.2.2.maxLocals := by rw [hml]; exact Nat.le_of_ble_eq_true rfl
  unfold L_sleepers at hf
  refine PW.aload_n cx qL_sleepers_0 rfl ?_
  refine PW.iconst (v := 0) cx qL_sleepers_1 rfl ?_
  refine PW.aload_n cx qL_sleepers_2 rfl ?_
  refine PW.iload_n cx qL_sleepers_3 rfl ?_
  refine PW.callVCI (As := [.int p1]) (st := [.int 0, .ref (gB g + 150)]) ckk css cx hR hT qL_sleepers_4 ktL_105 mvX6_sleepers (sh_0 hx) rfl rfl rfl rfl (Nat.le_of_ble_eq_true rfl) (Nat.le_of_ble_eq_true rfl) (Nat.le_of_ble_eq_true rfl) (Nat.le_of_ble_eq_true rfl) (Nat.le_of_ble_eq_true rfl) hf sne (fun t e => ctX6_sleepers hx h p1 t e) (fun i h9 hf => ?_) (fun t2 h1 hf => ?_)
  · rcases caE hf with ⟨rfl, hf⟩ | ⟨-, hf⟩
    · refine ⟨12, ⟨by decide, by decide⟩, rfl, fun q4 => ?_⟩
      refine PW.astore_n (L' := [some (.ref (gB g + 0)), some (.int p1), some (.ref (gB g + 150)), some (.ref q4)]) cx qL_sleepers_12 hi3 rfl rfl ?_
      refine PW.iconst (v := 1) cx qL_sleepers_13 rfl ?_
      exact PW.toX (Nat.le_of_ble_eq_true rfl) (Nat.le_of_ble_eq_true rfl) (PW.iret cx hrt qL_sleepers_14 (le_wi hf))
    · cases hf
  · refine PW.i2l cx qL_sleepers_7 ?_
    refine PW.last1 cx qL_sleepers_8 ho hf (fun h3 hf => ?_)
    refine PW.goto cx qL_sleepers_9 ?_
    refine PW.iconst (v := 0) cx qL_sleepers_15 rfl ?_
    exact PW.toX (Nat.le_of_ble_eq_true rfl) (Nat.le_of_ble_eq_true rfl) (PW.iret cx hrt qL_sleepers_16 (le_wi hf))
set_option maxRecDepth 20000 in
theorem ctL_home {g : GT} {sh : List Shp} (hx : XSh sh) (ho : sh[150]? = some (.inr (3, 1, []))) (h : Hp) (p1 : Int32) (p2 : Int32) (r0 : Int32 × Hp) (hf : L_home h p1 p2 = some r0) : CtW g mL_home 11 2 12 [.ref (gB g + 0), .int p1, .int p2, .ref (gB g + 150)] sh h (PE (some (.int r0.1)) sh r0.2) := by
  refine CtW.of (L := [some (.ref (gB g + 0)), some (.int p1), some (.int p2), some (.ref (gB g + 150)), none]) (by decide) (by intro w hw; simp only [List.mem_cons, List.not_mem_nil, or_false] at hw; rcases hw with rfl | rfl | rfl | rfl <;> rfl) (Nat.le_of_ble_eq_true rfl) rfl (fun X mx hT => ?_)
  obtain ⟨cx, hR, hml, hrt, -⟩ := mx
  have cx : Cx g X RL cL_home := cx
  have hrt : X.2.2.2.2.2.2.2.1.sig.returnType = (some .int) := hrt
  have hi4 : 4 < X.2.2.2.2.2.2.2.2.maxLocals := by rw [hml]; exact Nat.le_of_ble_eq_true rfl
  unfold L_home at hf
  refine PW.aload_n cx qL_home_0 rfl ?_
  refine PW.iconst (v := 0) cx qL_home_1 rfl ?_
  refine PW.aload_n cx qL_home_2 rfl ?_
  refine PW.iload_n cx qL_home_3 rfl ?_
  refine PW.iload_n cx qL_home_4 rfl ?_
  refine PW.callVCI (As := [.int p1, .int p2]) (st := [.int 0, .ref (gB g + 150)]) ckk css cx hR hT qL_home_5 ktL_108 mvX6_home (sh_0 hx) rfl rfl rfl rfl (Nat.le_of_ble_eq_true rfl) (Nat.le_of_ble_eq_true rfl) (Nat.le_of_ble_eq_true rfl) (Nat.le_of_ble_eq_true rfl) (Nat.le_of_ble_eq_true rfl) hf sne (fun t e => ctX6_home hx h p1 p2 t e) (fun i h9 hf => ?_) (fun t2 h1 hf => ?_)
  · rcases caE hf with ⟨rfl, hf⟩ | ⟨-, hf⟩
    · refine ⟨13, ⟨by decide, by decide⟩, rfl, fun q4 => ?_⟩
      refine PW.astore (L' := [some (.ref (gB g + 0)), some (.int p1), some (.int p2), some (.ref (gB g + 150)), some (.ref q4)]) cx qL_home_13 hi4 rfl rfl ?_
      refine PW.iconst (v := 1) cx qL_home_15 rfl ?_
      exact PW.toX (Nat.le_of_ble_eq_true rfl) (Nat.le_of_ble_eq_true rfl) (PW.iret cx hrt qL_home_16 (le_wi hf))
    · cases hf
  · refine PW.i2l cx qL_home_8 ?_
    refine PW.last1 cx qL_home_9 ho hf (fun h3 hf => ?_)
    refine PW.goto cx qL_home_10 ?_
    refine PW.iconst (v := 0) cx qL_home_17 rfl ?_
    exact PW.toX (Nat.le_of_ble_eq_true rfl) (Nat.le_of_ble_eq_true rfl) (PW.iret cx hrt qL_home_18 (le_wi hf))
set_option maxRecDepth 20000 in
theorem ctL_whyNoSleep {g : GT} {sh : List Shp} (hx : XSh sh) (ho : sh[150]? = some (.inr (3, 1, []))) (h : Hp) (p1 : Int32) (p2 : Int32) (r0 : Int32 × Hp) (hf : L_whyNoSleep h p1 p2 = some r0) : CtW g mL_whyNoSleep 11 2 12 [.ref (gB g + 0), .int p1, .int p2, .ref (gB g + 150)] sh h (PE (some (.int r0.1)) sh r0.2) := by
  refine CtW.of (L := [some (.ref (gB g + 0)), some (.int p1), some (.int p2), some (.ref (gB g + 150)), none]) (by decide) (by intro w hw; simp only [List.mem_cons, List.not_mem_nil, or_false] at hw; rcases hw with rfl | rfl | rfl | rfl <;> rfl) (Nat.le_of_ble_eq_true rfl) rfl (fun X mx hT => ?_)
  obtain ⟨cx, hR, hml, hrt, -⟩ := mx
  have cx : Cx g X RL cL_whyNoSleep := cx
  have hrt : X.2.2.2.2.2.2.2.1.sig.returnType = (some .int) := hrt
  have hi4 : 4 < X.2.2.2.2.2.2.2.2.maxLocals := by rw [hml]; exact Nat.le_of_ble_eq_true rfl
  unfold L_whyNoSleep at hf
  refine PW.aload_n cx qL_whyNoSleep_0 rfl ?_
  refine PW.iconst (v := 0) cx qL_whyNoSleep_1 rfl ?_
  refine PW.aload_n cx qL_whyNoSleep_2 rfl ?_
  refine PW.iload_n cx qL_whyNoSleep_3 rfl ?_
  refine PW.iload_n cx qL_whyNoSleep_4 rfl ?_
  refine PW.callVCI (As := [.int p1, .int p2]) (st := [.int 0, .ref (gB g + 150)]) ckk css cx hR hT qL_whyNoSleep_5 ktL_111 mvX6_whyNoSleep (sh_0 hx) rfl rfl rfl rfl (Nat.le_of_ble_eq_true rfl) (Nat.le_of_ble_eq_true rfl) (Nat.le_of_ble_eq_true rfl) (Nat.le_of_ble_eq_true rfl) (Nat.le_of_ble_eq_true rfl) hf sne (fun t e => ctX6_whyNoSleep hx h p1 p2 t e) (fun i h9 hf => ?_) (fun t2 h1 hf => ?_)
  · rcases caE hf with ⟨rfl, hf⟩ | ⟨-, hf⟩
    · refine ⟨13, ⟨by decide, by decide⟩, rfl, fun q4 => ?_⟩
      refine PW.astore (L' := [some (.ref (gB g + 0)), some (.int p1), some (.int p2), some (.ref (gB g + 150)), some (.ref q4)]) cx qL_whyNoSleep_13 hi4 rfl rfl ?_
      refine PW.iconst (v := 1) cx qL_whyNoSleep_15 rfl ?_
      exact PW.toX (Nat.le_of_ble_eq_true rfl) (Nat.le_of_ble_eq_true rfl) (PW.iret cx hrt qL_whyNoSleep_16 (le_wi hf))
    · cases hf
  · refine PW.i2l cx qL_whyNoSleep_8 ?_
    refine PW.last1 cx qL_whyNoSleep_9 ho hf (fun h3 hf => ?_)
    refine PW.goto cx qL_whyNoSleep_10 ?_
    refine PW.iconst (v := 0) cx qL_whyNoSleep_17 rfl ?_
    exact PW.toX (Nat.le_of_ble_eq_true rfl) (Nat.le_of_ble_eq_true rfl) (PW.iret cx hrt qL_whyNoSleep_18 (le_wi hf))
set_option maxRecDepth 20000 in
theorem ctL_bedFor {g : GT} {sh : List Shp} (hx : XSh sh) (ho : sh[150]? = some (.inr (3, 1, []))) (h : Hp) (p1 : Int32) (p2 : Int32) (r0 : Int32 × Hp) (hf : L_bedFor h p1 p2 = some r0) : CtW g mL_bedFor 11 2 12 [.ref (gB g + 0), .int p1, .int p2, .ref (gB g + 150)] sh h (PE (some (.int r0.1)) sh r0.2) := by
  refine CtW.of (L := [some (.ref (gB g + 0)), some (.int p1), some (.int p2), some (.ref (gB g + 150)), none]) (by decide) (by intro w hw; simp only [List.mem_cons, List.not_mem_nil, or_false] at hw; rcases hw with rfl | rfl | rfl | rfl <;> rfl) (Nat.le_of_ble_eq_true rfl) rfl (fun X mx hT => ?_)
  obtain ⟨cx, hR, hml, hrt, -⟩ := mx
  have cx : Cx g X RL cL_bedFor := cx
  have hrt : X.2.2.2.2.2.2.2.1.sig.returnType = (some .int) := hrt
  have hi4 : 4 < X.2.2.2.2.2.2.2.2.maxLocals := by rw [hml]; exact Nat.le_of_ble_eq_true rfl
  unfold L_bedFor at hf
  refine PW.aload_n cx qL_bedFor_0 rfl ?_
  refine PW.iconst (v := 0) cx qL_bedFor_1 rfl ?_
  refine PW.aload_n cx qL_bedFor_2 rfl ?_
  refine PW.iload_n cx qL_bedFor_3 rfl ?_
  refine PW.iload_n cx qL_bedFor_4 rfl ?_
  refine PW.callVCI (As := [.int p1, .int p2]) (st := [.int 0, .ref (gB g + 150)]) ckk css cx hR hT qL_bedFor_5 ktL_114 mvX6_bedFor (sh_0 hx) rfl rfl rfl rfl (Nat.le_of_ble_eq_true rfl) (Nat.le_of_ble_eq_true rfl) (Nat.le_of_ble_eq_true rfl) (Nat.le_of_ble_eq_true rfl) (Nat.le_of_ble_eq_true rfl) hf sne (fun t e => ctX6_bedFor hx h p1 p2 t e) (fun i h9 hf => ?_) (fun t2 h1 hf => ?_)
  · rcases caE hf with ⟨rfl, hf⟩ | ⟨-, hf⟩
    · refine ⟨13, ⟨by decide, by decide⟩, rfl, fun q4 => ?_⟩
      refine PW.astore (L' := [some (.ref (gB g + 0)), some (.int p1), some (.int p2), some (.ref (gB g + 150)), some (.ref q4)]) cx qL_bedFor_13 hi4 rfl rfl ?_
      refine PW.iconst (v := 1) cx qL_bedFor_15 rfl ?_
      exact PW.toX (Nat.le_of_ble_eq_true rfl) (Nat.le_of_ble_eq_true rfl) (PW.iret cx hrt qL_bedFor_16 (le_wi hf))
    · cases hf
  · refine PW.i2l cx qL_bedFor_8 ?_
    refine PW.last1 cx qL_bedFor_9 ho hf (fun h3 hf => ?_)
    refine PW.goto cx qL_bedFor_10 ?_
    refine PW.iconst (v := 0) cx qL_bedFor_17 rfl ?_
    exact PW.toX (Nat.le_of_ble_eq_true rfl) (Nat.le_of_ble_eq_true rfl) (PW.iret cx hrt qL_bedFor_18 (le_wi hf))
set_option maxRecDepth 20000 in
theorem ctL_looksFor {g : GT} {sh : List Shp} (hx : XSh sh) (ho : sh[150]? = some (.inr (3, 1, []))) (h : Hp) (p1 : Int32) (p2 : Int32) (r0 : Int32 × Hp) (hf : L_looksFor h p1 p2 = some r0) : CtW g mL_looksFor 11 2 12 [.ref (gB g + 0), .int p1, .int p2, .ref (gB g + 150)] sh h (PE (some (.int r0.1)) sh r0.2) := by
  refine CtW.of (L := [some (.ref (gB g + 0)), some (.int p1), some (.int p2), some (.ref (gB g + 150)), none]) (by decide) (by intro w hw; simp only [List.mem_cons, List.not_mem_nil, or_false] at hw; rcases hw with rfl | rfl | rfl | rfl <;> rfl) (Nat.le_of_ble_eq_true rfl) rfl (fun X mx hT => ?_)
  obtain ⟨cx, hR, hml, hrt, -⟩ := mx
  have cx : Cx g X RL cL_looksFor := cx
  have hrt : X.2.2.2.2.2.2.2.1.sig.returnType = (some .int) := hrt
  have hi4 : 4 < X.2.2.2.2.2.2.2.2.maxLocals := by rw [hml]; exact Nat.le_of_ble_eq_true rfl
  unfold L_looksFor at hf
  refine PW.aload_n cx qL_looksFor_0 rfl ?_
  refine PW.iconst (v := 0) cx qL_looksFor_1 rfl ?_
  refine PW.aload_n cx qL_looksFor_2 rfl ?_
  refine PW.iload_n cx qL_looksFor_3 rfl ?_
  refine PW.iload_n cx qL_looksFor_4 rfl ?_
  refine PW.callVCI (As := [.int p1, .int p2]) (st := [.int 0, .ref (gB g + 150)]) ckk css cx hR hT qL_looksFor_5 ktL_117 mvX6_looksFor (sh_0 hx) rfl rfl rfl rfl (Nat.le_of_ble_eq_true rfl) (Nat.le_of_ble_eq_true rfl) (Nat.le_of_ble_eq_true rfl) (Nat.le_of_ble_eq_true rfl) (Nat.le_of_ble_eq_true rfl) hf sne (fun t e => ctX6_looksFor hx h p1 p2 t e) (fun i h9 hf => ?_) (fun t2 h1 hf => ?_)
  · rcases caE hf with ⟨rfl, hf⟩ | ⟨-, hf⟩
    · refine ⟨13, ⟨by decide, by decide⟩, rfl, fun q4 => ?_⟩
      refine PW.astore (L' := [some (.ref (gB g + 0)), some (.int p1), some (.int p2), some (.ref (gB g + 150)), some (.ref q4)]) cx qL_looksFor_13 hi4 rfl rfl ?_
      refine PW.iconst (v := 1) cx qL_looksFor_15 rfl ?_
      exact PW.toX (Nat.le_of_ble_eq_true rfl) (Nat.le_of_ble_eq_true rfl) (PW.iret cx hrt qL_looksFor_16 (le_wi hf))
    · cases hf
  · refine PW.i2l cx qL_looksFor_8 ?_
    refine PW.last1 cx qL_looksFor_9 ho hf (fun h3 hf => ?_)
    refine PW.goto cx qL_looksFor_10 ?_
    refine PW.iconst (v := 0) cx qL_looksFor_17 rfl ?_
    exact PW.toX (Nat.le_of_ble_eq_true rfl) (Nat.le_of_ble_eq_true rfl) (PW.iret cx hrt qL_looksFor_18 (le_wi hf))
set_option maxRecDepth 20000 in
theorem ctL_longestLook {g : GT} {sh : List Shp} (hx : XSh sh) (ho : sh[150]? = some (.inr (3, 1, []))) (h : Hp) (p1 : Int32) (r0 : Int32 × Hp) (hf : L_longestLook h p1 = some r0) : CtW g mL_longestLook 11 1 6 [.ref (gB g + 0), .int p1, .ref (gB g + 150)] sh h (PE (some (.int r0.1)) sh r0.2) := by
  refine CtW.of (L := [some (.ref (gB g + 0)), some (.int p1), some (.ref (gB g + 150)), none]) (by decide) (by intro w hw; simp only [List.mem_cons, List.not_mem_nil, or_false] at hw; rcases hw with rfl | rfl | rfl <;> rfl) (Nat.le_of_ble_eq_true rfl) rfl (fun X mx hT => ?_)
  obtain ⟨cx, hR, hml, hrt, -⟩ := mx
  have cx : Cx g X RL cL_longestLook := cx
  have hrt : X.2.2.2.2.2.2.2.1.sig.returnType = (some .int) := hrt
  have hi3 : 3 < X.2.2.2.2.2.2.2.2.maxLocals := by rw [hml]; exact Nat.le_of_ble_eq_true rfl
  unfold L_longestLook at hf
  refine PW.aload_n cx qL_longestLook_0 rfl ?_
  refine PW.iconst (v := 0) cx qL_longestLook_1 rfl ?_
  refine PW.aload_n cx qL_longestLook_2 rfl ?_
  refine PW.iload_n cx qL_longestLook_3 rfl ?_
  refine PW.callVCI (As := [.int p1]) (st := [.int 0, .ref (gB g + 150)]) ckk css cx hR hT qL_longestLook_4 ktL_120 mvX6_longestLook (sh_0 hx) rfl rfl rfl rfl (Nat.le_of_ble_eq_true rfl) (Nat.le_of_ble_eq_true rfl) (Nat.le_of_ble_eq_true rfl) (Nat.le_of_ble_eq_true rfl) (Nat.le_of_ble_eq_true rfl) hf sne (fun t e => ctX6_longestLook hx h p1 t e) (fun i h9 hf => ?_) (fun t2 h1 hf => ?_)
  · rcases caE hf with ⟨rfl, hf⟩ | ⟨-, hf⟩
    · refine ⟨12, ⟨by decide, by decide⟩, rfl, fun q4 => ?_⟩
      refine PW.astore_n (L' := [some (.ref (gB g + 0)), some (.int p1), some (.ref (gB g + 150)), some (.ref q4)]) cx qL_longestLook_12 hi3 rfl rfl ?_
      refine PW.iconst (v := 1) cx qL_longestLook_13 rfl ?_
      exact PW.toX (Nat.le_of_ble_eq_true rfl) (Nat.le_of_ble_eq_true rfl) (PW.iret cx hrt qL_longestLook_14 (le_wi hf))
    · cases hf
  · refine PW.i2l cx qL_longestLook_7 ?_
    refine PW.last1 cx qL_longestLook_8 ho hf (fun h3 hf => ?_)
    refine PW.goto cx qL_longestLook_9 ?_
    refine PW.iconst (v := 0) cx qL_longestLook_15 rfl ?_
    exact PW.toX (Nat.le_of_ble_eq_true rfl) (Nat.le_of_ble_eq_true rfl) (PW.iret cx hrt qL_longestLook_16 (le_wi hf))
set_option maxRecDepth 20000 in
theorem ctL_looksIfAired {g : GT} {sh : List Shp} (hx : XSh sh) (ho : sh[150]? = some (.inr (3, 1, []))) (h : Hp) (p1 : Int32) (r0 : Int32 × Hp) (hf : L_looksIfAired h p1 = some r0) : CtW g mL_looksIfAired 11 1 6 [.ref (gB g + 0), .int p1, .ref (gB g + 150)] sh h (PE (some (.int r0.1)) sh r0.2) := by
  refine CtW.of (L := [some (.ref (gB g + 0)), some (.int p1), some (.ref (gB g + 150)), none]) (by decide) (by intro w hw; simp only [List.mem_cons, List.not_mem_nil, or_false] at hw; rcases hw with rfl | rfl | rfl <;> rfl) (Nat.le_of_ble_eq_true rfl) rfl (fun X mx hT => ?_)
  obtain ⟨cx, hR, hml, hrt, -⟩ := mx
  have cx : Cx g X RL cL_looksIfAired := cx
  have hrt : X.2.2.2.2.2.2.2.1.sig.returnType = (some .int) := hrt
  have hi3 : 3 < X.2.2.2.2.2.2.2.2.maxLocals := by rw [hml]; exact Nat.le_of_ble_eq_true rfl
  unfold L_looksIfAired at hf
  refine PW.aload_n cx qL_looksIfAired_0 rfl ?_
  refine PW.iconst (v := 0) cx qL_looksIfAired_1 rfl ?_
  refine PW.aload_n cx qL_looksIfAired_2 rfl ?_
  refine PW.iload_n cx qL_looksIfAired_3 rfl ?_
  refine PW.callVCI (As := [.int p1]) (st := [.int 0, .ref (gB g + 150)]) ckk css cx hR hT qL_looksIfAired_4 ktL_123 mvX6_looksIfAired (sh_0 hx) rfl rfl rfl rfl (Nat.le_of_ble_eq_true rfl) (Nat.le_of_ble_eq_true rfl) (Nat.le_of_ble_eq_true rfl) (Nat.le_of_ble_eq_true rfl) (Nat.le_of_ble_eq_true rfl) hf sne (fun t e => ctX6_looksIfAired hx h p1 t e) (fun i h9 hf => ?_) (fun t2 h1 hf => ?_)
  · rcases caE hf with ⟨rfl, hf⟩ | ⟨-, hf⟩
    · refine ⟨12, ⟨by decide, by decide⟩, rfl, fun q4 => ?_⟩
      refine PW.astore_n (L' := [some (.ref (gB g + 0)), some (.int p1), some (.ref (gB g + 150)), some (.ref q4)]) cx qL_looksIfAired_12 hi3 rfl rfl ?_
      refine PW.iconst (v := 1) cx qL_looksIfAired_13 rfl ?_
      exact PW.toX (Nat.le_of_ble_eq_true rfl) (Nat.le_of_ble_eq_true rfl) (PW.iret cx hrt qL_looksIfAired_14 (le_wi hf))
    · cases hf
  · refine PW.i2l cx qL_looksIfAired_7 ?_
    refine PW.last1 cx qL_looksIfAired_8 ho hf (fun h3 hf => ?_)
    refine PW.goto cx qL_looksIfAired_9 ?_
    refine PW.iconst (v := 0) cx qL_looksIfAired_15 rfl ?_
    exact PW.toX (Nat.le_of_ble_eq_true rfl) (Nat.le_of_ble_eq_true rfl) (PW.iret cx hrt qL_looksIfAired_16 (le_wi hf))
set_option maxRecDepth 20000 in
theorem ctL_longestCluster {g : GT} {sh : List Shp} (hx : XSh sh) (ho : sh[150]? = some (.inr (3, 1, []))) (h : Hp) (p1 : Int32) (r0 : Int32 × Hp) (hf : L_longestCluster h p1 = some r0) : CtW g mL_longestCluster 11 1 6 [.ref (gB g + 0), .int p1, .ref (gB g + 150)] sh h (PE (some (.int r0.1)) sh r0.2) := by
  refine CtW.of (L := [some (.ref (gB g + 0)), some (.int p1), some (.ref (gB g + 150)), none]) (by decide) (by intro w hw; simp only [List.mem_cons, List.not_mem_nil, or_false] at hw; rcases hw with rfl | rfl | rfl <;> rfl) (Nat.le_of_ble_eq_true rfl) rfl (fun X mx hT => ?_)
  obtain ⟨cx, hR, hml, hrt, -⟩ := mx
  have cx : Cx g X RL cL_longestCluster := cx
  have hrt : X.2.2.2.2.2.2.2.1.sig.returnType = (some .int) := hrt
  have hi3 : 3 < X.2.2.2.2.2.2.2.2.maxLocals := by rw [hml]; exact Nat.le_of_ble_eq_true rfl
  unfold L_longestCluster at hf
  refine PW.aload_n cx qL_longestCluster_0 rfl ?_
  refine PW.iconst (v := 0) cx qL_longestCluster_1 rfl ?_
  refine PW.aload_n cx qL_longestCluster_2 rfl ?_
  refine PW.iload_n cx qL_longestCluster_3 rfl ?_
  refine PW.callVCI (As := [.int p1]) (st := [.int 0, .ref (gB g + 150)]) ckk css cx hR hT qL_longestCluster_4 ktL_126 mvX6_longestCluster (sh_0 hx) rfl rfl rfl rfl (Nat.le_of_ble_eq_true rfl) (Nat.le_of_ble_eq_true rfl) (Nat.le_of_ble_eq_true rfl) (Nat.le_of_ble_eq_true rfl) (Nat.le_of_ble_eq_true rfl) hf sne (fun t e => ctX6_longestCluster hx h p1 t e) (fun i h9 hf => ?_) (fun t2 h1 hf => ?_)
  · rcases caE hf with ⟨rfl, hf⟩ | ⟨-, hf⟩
    · refine ⟨12, ⟨by decide, by decide⟩, rfl, fun q4 => ?_⟩
      refine PW.astore_n (L' := [some (.ref (gB g + 0)), some (.int p1), some (.ref (gB g + 150)), some (.ref q4)]) cx qL_longestCluster_12 hi3 rfl rfl ?_
      refine PW.iconst (v := 1) cx qL_longestCluster_13 rfl ?_
      exact PW.toX (Nat.le_of_ble_eq_true rfl) (Nat.le_of_ble_eq_true rfl) (PW.iret cx hrt qL_longestCluster_14 (le_wi hf))
    · cases hf
  · refine PW.i2l cx qL_longestCluster_7 ?_
    refine PW.last1 cx qL_longestCluster_8 ho hf (fun h3 hf => ?_)
    refine PW.goto cx qL_longestCluster_9 ?_
    refine PW.iconst (v := 0) cx qL_longestCluster_15 rfl ?_
    exact PW.toX (Nat.le_of_ble_eq_true rfl) (Nat.le_of_ble_eq_true rfl) (PW.iret cx hrt qL_longestCluster_16 (le_wi hf))
set_option maxRecDepth 20000 in
theorem ctL_bestReel {g : GT} {sh : List Shp} (hx : XSh sh) (ho : sh[150]? = some (.inr (3, 1, []))) (h : Hp) (p1 : Int32) (r0 : Int32 × Hp) (hf : L_bestReel h p1 = some r0) : CtW g mL_bestReel 11 1 6 [.ref (gB g + 0), .int p1, .ref (gB g + 150)] sh h (PE (some (.int r0.1)) sh r0.2) := by
  refine CtW.of (L := [some (.ref (gB g + 0)), some (.int p1), some (.ref (gB g + 150)), none]) (by decide) (by intro w hw; simp only [List.mem_cons, List.not_mem_nil, or_false] at hw; rcases hw with rfl | rfl | rfl <;> rfl) (Nat.le_of_ble_eq_true rfl) rfl (fun X mx hT => ?_)
  obtain ⟨cx, hR, hml, hrt, -⟩ := mx
  have cx : Cx g X RL cL_bestReel := cx
  have hrt : X.2.2.2.2.2.2.2.1.sig.returnType = (some .int) := hrt
  have hi3 : 3 < X.2.2.2.2.2.2.2.2.maxLocals := by rw [hml]; exact Nat.le_of_ble_eq_true rfl
  unfold L_bestReel at hf
  refine PW.aload_n cx qL_bestReel_0 rfl ?_
  refine PW.iconst (v := 0) cx qL_bestReel_1 rfl ?_
  refine PW.aload_n cx qL_bestReel_2 rfl ?_
  refine PW.iload_n cx qL_bestReel_3 rfl ?_
  refine PW.callVCI (As := [.int p1]) (st := [.int 0, .ref (gB g + 150)]) ckk css cx hR hT qL_bestReel_4 ktL_129 mvX6_bestReel (sh_0 hx) rfl rfl rfl rfl (Nat.le_of_ble_eq_true rfl) (Nat.le_of_ble_eq_true rfl) (Nat.le_of_ble_eq_true rfl) (Nat.le_of_ble_eq_true rfl) (Nat.le_of_ble_eq_true rfl) hf sne (fun t e => ctX6_bestReel hx h p1 t e) (fun i h9 hf => ?_) (fun t2 h1 hf => ?_)
  · rcases caE hf with ⟨rfl, hf⟩ | ⟨-, hf⟩
    · refine ⟨12, ⟨by decide, by decide⟩, rfl, fun q4 => ?_⟩
      refine PW.astore_n (L' := [some (.ref (gB g + 0)), some (.int p1), some (.ref (gB g + 150)), some (.ref q4)]) cx qL_bestReel_12 hi3 rfl rfl ?_
      refine PW.iconst (v := 1) cx qL_bestReel_13 rfl ?_
      exact PW.toX (Nat.le_of_ble_eq_true rfl) (Nat.le_of_ble_eq_true rfl) (PW.iret cx hrt qL_bestReel_14 (le_wi hf))
    · cases hf
  · refine PW.i2l cx qL_bestReel_7 ?_
    refine PW.last1 cx qL_bestReel_8 ho hf (fun h3 hf => ?_)
    refine PW.goto cx qL_bestReel_9 ?_
    refine PW.iconst (v := 0) cx qL_bestReel_15 rfl ?_
    exact PW.toX (Nat.le_of_ble_eq_true rfl) (Nat.le_of_ble_eq_true rfl) (PW.iret cx hrt qL_bestReel_16 (le_wi hf))
set_option maxRecDepth 20000 in
theorem ctL_matches {g : GT} {sh : List Shp} (hx : XSh sh) (ho : sh[150]? = some (.inr (3, 1, []))) (h : Hp) (p1 : Int32) (p2 : Int32) (r0 : Int32 × Hp) (hf : L_matches h p1 p2 = some r0) : CtW g mL_matches 12 2 12 [.ref (gB g + 0), .int p1, .int p2, .ref (gB g + 150)] sh h (PE (some (.int r0.1)) sh r0.2) := by
  refine CtW.of (L := [some (.ref (gB g + 0)), some (.int p1), some (.int p2), some (.ref (gB g + 150)), none]) (by decide) (by intro w hw; simp only [List.mem_cons, List.not_mem_nil, or_false] at hw; rcases hw with rfl | rfl | rfl | rfl <;> rfl) (Nat.le_of_ble_eq_true rfl) rfl (fun X mx hT => ?_)
  obtain ⟨cx, hR, hml, hrt, -⟩ := mx
  have cx : Cx g X RL cL_matches := cx
  have hrt : X.2.2.2.2.2.2.2.1.sig.returnType = (some .int) := hrt
  have hi4 : 4 < X.2.2.2.2.2.2.2.2.maxLocals := by rw [hml]; exact Nat.le_of_ble_eq_true rfl
  unfold L_matches at hf
  refine PW.aload_n cx qL_matches_0 rfl ?_
  refine PW.iconst (v := 0) cx qL_matches_1 rfl ?_
  refine PW.aload_n cx qL_matches_2 rfl ?_
  refine PW.iload_n cx qL_matches_3 rfl ?_
  refine PW.iload_n cx qL_matches_4 rfl ?_
  refine PW.callVCZ (As := [.int p1, .int p2]) (st := [.int 0, .ref (gB g + 150)]) ckk css cx hR hT qL_matches_5 ktL_132 mvX6_matches (sh_0 hx) rfl rfl rfl rfl (Nat.le_of_ble_eq_true rfl) (Nat.le_of_ble_eq_true rfl) (Nat.le_of_ble_eq_true rfl) (Nat.le_of_ble_eq_true rfl) (Nat.le_of_ble_eq_true rfl) hf sne (fun t e => ctX6_matches hx h p1 p2 t e) (fun i h9 hf => ?_) (fun t2 h1 hf => ?_)
  · rcases caE hf with ⟨rfl, hf⟩ | ⟨-, hf⟩
    · refine ⟨20, ⟨by decide, by decide⟩, rfl, fun q6 => ?_⟩
      refine PW.astore (L' := [some (.ref (gB g + 0)), some (.int p1), some (.int p2), some (.ref (gB g + 150)), some (.ref q6)]) cx qL_matches_20 hi4 rfl rfl ?_
      refine PW.iconst (v := 1) cx qL_matches_22 rfl ?_
      exact PW.toX (Nat.le_of_ble_eq_true rfl) (Nat.le_of_ble_eq_true rfl) (PW.iret cx hrt qL_matches_23 (le_wi hf))
    · rcases caE hf with ⟨rfl, hf⟩ | ⟨-, hf⟩
      · refine ⟨24, ⟨by decide, by decide⟩, rfl, fun q5 => ?_⟩
        refine PW.astore (L' := [some (.ref (gB g + 0)), some (.int p1), some (.int p2), some (.ref (gB g + 150)), some (.ref q5)]) cx qL_matches_24 hi4 rfl rfl ?_
        refine PW.iconst (v := 2) cx qL_matches_26 rfl ?_
        exact PW.toX (Nat.le_of_ble_eq_true rfl) (Nat.le_of_ble_eq_true rfl) (PW.iret cx hrt qL_matches_27 (le_wi hf))
      · cases hf
  · refine PW.if_eq cx qL_matches_8 hf (fun hf => ?_) (fun hf => ?_)
    · refine PW.lconst (v := (0 : Int32).toInt64) cx qL_matches_15 rfl ?_
      refine PW.last1 cx qL_matches_16 ho hf (fun h3 hf => ?_)
      refine PW.goto cx qL_matches_17 ?_
      refine PW.iconst (v := 0) cx qL_matches_28 rfl ?_
      exact PW.toX (Nat.le_of_ble_eq_true rfl) (Nat.le_of_ble_eq_true rfl) (PW.iret cx hrt qL_matches_29 (le_wi hf))
    · refine PW.lconst (v := (1 : Int32).toInt64) cx qL_matches_11 rfl ?_
      refine PW.goto cx qL_matches_12 ?_
      refine PW.last1 cx qL_matches_16 ho hf (fun h4 hf => ?_)
      refine PW.goto cx qL_matches_17 ?_
      refine PW.iconst (v := 0) cx qL_matches_28 rfl ?_
      exact PW.toX (Nat.le_of_ble_eq_true rfl) (Nat.le_of_ble_eq_true rfl) (PW.iret cx hrt qL_matches_29 (le_wi hf))
set_option maxRecDepth 20000 in
theorem ctL_matchingSleepers {g : GT} {sh : List Shp} (hx : XSh sh) (ho : sh[150]? = some (.inr (3, 1, []))) (h : Hp) (p1 : Int32) (r0 : Int32 × Hp) (hf : L_matchingSleepers h p1 = some r0) : CtW g mL_matchingSleepers 12 1 6 [.ref (gB g + 0), .int p1, .ref (gB g + 150)] sh h (PE (some (.int r0.1)) sh r0.2) := by
  refine CtW.of (L := [some (.ref (gB g + 0)), some (.int p1), some (.ref (gB g + 150)), none]) (by decide) (by intro w hw; simp only [List.mem_cons, List.not_mem_nil, or_false] at hw; rcases hw with rfl | rfl | rfl <;> rfl) (Nat.le_of_ble_eq_true rfl) rfl (fun X mx hT => ?_)
  obtain ⟨cx, hR, hml, hrt, -⟩ := mx
  have cx : Cx g X RL cL_matchingSleepers := cx
  have hrt : X.2.2.2.2.2.2.2.1.sig.returnType = (some .int) := hrt
  have hi3 : 3 < X.2.2.2.2.2.2.2.2.maxLocals := by rw [hml]; exact Nat.le_of_ble_eq_true rfl
  unfold L_matchingSleepers at hf
  refine PW.aload_n cx qL_matchingSleepers_0 rfl ?_
  refine PW.iconst (v := 0) cx qL_matchingSleepers_1 rfl ?_
  refine PW.aload_n cx qL_matchingSleepers_2 rfl ?_
  refine PW.iload_n cx qL_matchingSleepers_3 rfl ?_
  refine PW.callVCI (As := [.int p1]) (st := [.int 0, .ref (gB g + 150)]) ckk css cx hR hT qL_matchingSleepers_4 ktL_136 mvX6_matchingSleepers (sh_0 hx) rfl rfl rfl rfl (Nat.le_of_ble_eq_true rfl) (Nat.le_of_ble_eq_true rfl) (Nat.le_of_ble_eq_true rfl) (Nat.le_of_ble_eq_true rfl) (Nat.le_of_ble_eq_true rfl) hf sne (fun t e => ctX6_matchingSleepers hx h p1 t e) (fun i h9 hf => ?_) (fun t2 h1 hf => ?_)
  · rcases caE hf with ⟨rfl, hf⟩ | ⟨-, hf⟩
    · refine ⟨12, ⟨by decide, by decide⟩, rfl, fun q4 => ?_⟩
      refine PW.astore_n (L' := [some (.ref (gB g + 0)), some (.int p1), some (.ref (gB g + 150)), some (.ref q4)]) cx qL_matchingSleepers_12 hi3 rfl rfl ?_
      refine PW.iconst (v := 1) cx qL_matchingSleepers_13 rfl ?_
      exact PW.toX (Nat.le_of_ble_eq_true rfl) (Nat.le_of_ble_eq_true rfl) (PW.iret cx hrt qL_matchingSleepers_14 (le_wi hf))
    · cases hf
  · refine PW.i2l cx qL_matchingSleepers_7 ?_
    refine PW.last1 cx qL_matchingSleepers_8 ho hf (fun h3 hf => ?_)
    refine PW.goto cx qL_matchingSleepers_9 ?_
    refine PW.iconst (v := 0) cx qL_matchingSleepers_15 rfl ?_
    exact PW.toX (Nat.le_of_ble_eq_true rfl) (Nat.le_of_ble_eq_true rfl) (PW.iret cx hrt qL_matchingSleepers_16 (le_wi hf))
set_option maxRecDepth 20000 in
theorem ctL_wokenBy {g : GT} {sh : List Shp} (hx : XSh sh) (ho : sh[150]? = some (.inr (3, 1, []))) (h : Hp) (p1 : Int32) (p2 : Int32) (r0 : Int32 × Hp) (hf : L_wokenBy h p1 p2 = some r0) : CtW g mL_wokenBy 12 2 12 [.ref (gB g + 0), .int p1, .int p2, .ref (gB g + 150)] sh h (PE (some (.int r0.1)) sh r0.2) := by
  refine CtW.of (L := [some (.ref (gB g + 0)), some (.int p1), some (.int p2), some (.ref (gB g + 150)), none]) (by decide) (by intro w hw; simp only [List.mem_cons, List.not_mem_nil, or_false] at hw; rcases hw with rfl | rfl | rfl | rfl <;> rfl) (Nat.le_of_ble_eq_true rfl) rfl (fun X mx hT => ?_)
  obtain ⟨cx, hR, hml, hrt, -⟩ := mx
  have cx : Cx g X RL cL_wokenBy := cx
  have hrt : X.2.2.2.2.2.2.2.1.sig.returnType = (some .int) := hrt
  have hi4 : 4 < X.2.2.2.2.2.2.2.2.maxLocals := by rw [hml]; exact Nat.le_of_ble_eq_true rfl
  unfold L_wokenBy at hf
  refine PW.aload_n cx qL_wokenBy_0 rfl ?_
  refine PW.iconst (v := 0) cx qL_wokenBy_1 rfl ?_
  refine PW.aload_n cx qL_wokenBy_2 rfl ?_
  refine PW.iload_n cx qL_wokenBy_3 rfl ?_
  refine PW.iload_n cx qL_wokenBy_4 rfl ?_
  refine PW.callVCI (As := [.int p1, .int p2]) (st := [.int 0, .ref (gB g + 150)]) ckk css cx hR hT qL_wokenBy_5 ktL_139 mvX6_wokenBy (sh_0 hx) rfl rfl rfl rfl (Nat.le_of_ble_eq_true rfl) (Nat.le_of_ble_eq_true rfl) (Nat.le_of_ble_eq_true rfl) (Nat.le_of_ble_eq_true rfl) (Nat.le_of_ble_eq_true rfl) hf sne (fun t e => ctX6_wokenBy hx h p1 p2 t e) (fun i h9 hf => ?_) (fun t2 h1 hf => ?_)
  · rcases caE hf with ⟨rfl, hf⟩ | ⟨-, hf⟩
    · refine ⟨13, ⟨by decide, by decide⟩, rfl, fun q5 => ?_⟩
      refine PW.astore (L' := [some (.ref (gB g + 0)), some (.int p1), some (.int p2), some (.ref (gB g + 150)), some (.ref q5)]) cx qL_wokenBy_13 hi4 rfl rfl ?_
      refine PW.iconst (v := 1) cx qL_wokenBy_15 rfl ?_
      exact PW.toX (Nat.le_of_ble_eq_true rfl) (Nat.le_of_ble_eq_true rfl) (PW.iret cx hrt qL_wokenBy_16 (le_wi hf))
    · rcases caE hf with ⟨rfl, hf⟩ | ⟨-, hf⟩
      · refine ⟨17, ⟨by decide, by decide⟩, rfl, fun q4 => ?_⟩
        refine PW.astore (L' := [some (.ref (gB g + 0)), some (.int p1), some (.int p2), some (.ref (gB g + 150)), some (.ref q4)]) cx qL_wokenBy_17 hi4 rfl rfl ?_
        refine PW.iconst (v := 2) cx qL_wokenBy_19 rfl ?_
        exact PW.toX (Nat.le_of_ble_eq_true rfl) (Nat.le_of_ble_eq_true rfl) (PW.iret cx hrt qL_wokenBy_20 (le_wi hf))
      · cases hf
  · refine PW.i2l cx qL_wokenBy_8 ?_
    refine PW.last1 cx qL_wokenBy_9 ho hf (fun h3 hf => ?_)
    refine PW.goto cx qL_wokenBy_10 ?_
    refine PW.iconst (v := 0) cx qL_wokenBy_21 rfl ?_
    exact PW.toX (Nat.le_of_ble_eq_true rfl) (Nat.le_of_ble_eq_true rfl) (PW.iret cx hrt qL_wokenBy_22 (le_wi hf))
set_option maxRecDepth 20000 in
theorem ctL_firstMatch {g : GT} {sh : List Shp} (hx : XSh sh) (ho : sh[150]? = some (.inr (3, 1, []))) (h : Hp) (p1 : Int32) (p2 : Int32) (r0 : Int32 × Hp) (hf : L_firstMatch h p1 p2 = some r0) : CtW g mL_firstMatch 12 2 12 [.ref (gB g + 0), .int p1, .int p2, .ref (gB g + 150)] sh h (PE (some (.int r0.1)) sh r0.2) := by
  refine CtW.of (L := [some (.ref (gB g + 0)), some (.int p1), some (.int p2), some (.ref (gB g + 150)), none]) (by decide) (by intro w hw; simp only [List.mem_cons, List.not_mem_nil, or_false] at hw; rcases hw with rfl | rfl | rfl | rfl <;> rfl) (Nat.le_of_ble_eq_true rfl) rfl (fun X mx hT => ?_)
  obtain ⟨cx, hR, hml, hrt, -⟩ := mx
  have cx : Cx g X RL cL_firstMatch := cx
  have hrt : X.2.2.2.2.2.2.2.1.sig.returnType = (some .int) := hrt
  have hi4 : 4 < X.2.2.2.2.2.2.2.2.maxLocals := by rw [hml]; exact Nat.le_of_ble_eq_true rfl
  unfold L_firstMatch at hf
  refine PW.aload_n cx qL_firstMatch_0 rfl ?_
  refine PW.iconst (v := 0) cx qL_firstMatch_1 rfl ?_
  refine PW.aload_n cx qL_firstMatch_2 rfl ?_
  refine PW.iload_n cx qL_firstMatch_3 rfl ?_
  refine PW.iload_n cx qL_firstMatch_4 rfl ?_
  refine PW.callVCI (As := [.int p1, .int p2]) (st := [.int 0, .ref (gB g + 150)]) ckk css cx hR hT qL_firstMatch_5 ktL_142 mvX6_firstMatch (sh_0 hx) rfl rfl rfl rfl (Nat.le_of_ble_eq_true rfl) (Nat.le_of_ble_eq_true rfl) (Nat.le_of_ble_eq_true rfl) (Nat.le_of_ble_eq_true rfl) (Nat.le_of_ble_eq_true rfl) hf sne (fun t e => ctX6_firstMatch hx h p1 p2 t e) (fun i h9 hf => ?_) (fun t2 h1 hf => ?_)
  · rcases caE hf with ⟨rfl, hf⟩ | ⟨-, hf⟩
    · refine ⟨13, ⟨by decide, by decide⟩, rfl, fun q5 => ?_⟩
      refine PW.astore (L' := [some (.ref (gB g + 0)), some (.int p1), some (.int p2), some (.ref (gB g + 150)), some (.ref q5)]) cx qL_firstMatch_13 hi4 rfl rfl ?_
      refine PW.iconst (v := 1) cx qL_firstMatch_15 rfl ?_
      exact PW.toX (Nat.le_of_ble_eq_true rfl) (Nat.le_of_ble_eq_true rfl) (PW.iret cx hrt qL_firstMatch_16 (le_wi hf))
    · rcases caE hf with ⟨rfl, hf⟩ | ⟨-, hf⟩
      · refine ⟨17, ⟨by decide, by decide⟩, rfl, fun q4 => ?_⟩
        refine PW.astore (L' := [some (.ref (gB g + 0)), some (.int p1), some (.int p2), some (.ref (gB g + 150)), some (.ref q4)]) cx qL_firstMatch_17 hi4 rfl rfl ?_
        refine PW.iconst (v := 2) cx qL_firstMatch_19 rfl ?_
        exact PW.toX (Nat.le_of_ble_eq_true rfl) (Nat.le_of_ble_eq_true rfl) (PW.iret cx hrt qL_firstMatch_20 (le_wi hf))
      · cases hf
  · refine PW.i2l cx qL_firstMatch_8 ?_
    refine PW.last1 cx qL_firstMatch_9 ho hf (fun h3 hf => ?_)
    refine PW.goto cx qL_firstMatch_10 ?_
    refine PW.iconst (v := 0) cx qL_firstMatch_21 rfl ?_
    exact PW.toX (Nat.le_of_ble_eq_true rfl) (Nat.le_of_ble_eq_true rfl) (PW.iret cx hrt qL_firstMatch_22 (le_wi hf))
set_option maxRecDepth 20000 in
theorem ctL_bestPattern {g : GT} {sh : List Shp} (hx : XSh sh) (ho : sh[150]? = some (.inr (3, 1, []))) (h : Hp) (p1 : Int32) (r0 : Int32 × Hp) (hf : L_bestPattern h p1 = some r0) : CtW g mL_bestPattern 11 1 6 [.ref (gB g + 0), .int p1, .ref (gB g + 150)] sh h (PE (some (.int r0.1)) sh r0.2) := by
  refine CtW.of (L := [some (.ref (gB g + 0)), some (.int p1), some (.ref (gB g + 150)), none]) (by decide) (by intro w hw; simp only [List.mem_cons, List.not_mem_nil, or_false] at hw; rcases hw with rfl | rfl | rfl <;> rfl) (Nat.le_of_ble_eq_true rfl) rfl (fun X mx hT => ?_)
  obtain ⟨cx, hR, hml, hrt, -⟩ := mx
  have cx : Cx g X RL cL_bestPattern := cx
  have hrt : X.2.2.2.2.2.2.2.1.sig.returnType = (some .int) := hrt
  have hi3 : 3 < X.2.2.2.2.2.2.2.2.maxLocals := by rw [hml]; exact Nat.le_of_ble_eq_true rfl
  unfold L_bestPattern at hf
  refine PW.aload_n cx qL_bestPattern_0 rfl ?_
  refine PW.iconst (v := 0) cx qL_bestPattern_1 rfl ?_
  refine PW.aload_n cx qL_bestPattern_2 rfl ?_
  refine PW.iload_n cx qL_bestPattern_3 rfl ?_
  refine PW.callVCI (As := [.int p1]) (st := [.int 0, .ref (gB g + 150)]) ckk css cx hR hT qL_bestPattern_4 ktL_145 mvX6_bestPattern (sh_0 hx) rfl rfl rfl rfl (Nat.le_of_ble_eq_true rfl) (Nat.le_of_ble_eq_true rfl) (Nat.le_of_ble_eq_true rfl) (Nat.le_of_ble_eq_true rfl) (Nat.le_of_ble_eq_true rfl) hf sne (fun t e => ctX6_bestPattern hx h p1 t e) (fun i h9 hf => ?_) (fun t2 h1 hf => ?_)
  · rcases caE hf with ⟨rfl, hf⟩ | ⟨-, hf⟩
    · refine ⟨12, ⟨by decide, by decide⟩, rfl, fun q4 => ?_⟩
      refine PW.astore_n (L' := [some (.ref (gB g + 0)), some (.int p1), some (.ref (gB g + 150)), some (.ref q4)]) cx qL_bestPattern_12 hi3 rfl rfl ?_
      refine PW.iconst (v := 1) cx qL_bestPattern_13 rfl ?_
      exact PW.toX (Nat.le_of_ble_eq_true rfl) (Nat.le_of_ble_eq_true rfl) (PW.iret cx hrt qL_bestPattern_14 (le_wi hf))
    · cases hf
  · refine PW.i2l cx qL_bestPattern_7 ?_
    refine PW.last1 cx qL_bestPattern_8 ho hf (fun h3 hf => ?_)
    refine PW.goto cx qL_bestPattern_9 ?_
    refine PW.iconst (v := 0) cx qL_bestPattern_15 rfl ?_
    exact PW.toX (Nat.le_of_ble_eq_true rfl) (Nat.le_of_ble_eq_true rfl) (PW.iret cx hrt qL_bestPattern_16 (le_wi hf))
set_option maxRecDepth 20000 in
theorem ctL_writeReel {g : GT} {sh : List Shp} (hx : XSh sh) (ho : sh[150]? = some (.inr (3, 1, []))) (h : Hp) (p1 : Int32) (r0 : Int32 × Hp) (hf : L_writeReel h p1 = some r0) : CtW g mL_writeReel 11 1 6 [.ref (gB g + 0), .int p1, .ref (gB g + 150)] sh h (PE (some (.int r0.1)) sh r0.2) := by
  refine CtW.of (L := [some (.ref (gB g + 0)), some (.int p1), some (.ref (gB g + 150)), none]) (by decide) (by intro w hw; simp only [List.mem_cons, List.not_mem_nil, or_false] at hw; rcases hw with rfl | rfl | rfl <;> rfl) (Nat.le_of_ble_eq_true rfl) rfl (fun X mx hT => ?_)
  obtain ⟨cx, hR, hml, hrt, -⟩ := mx
  have cx : Cx g X RL cL_writeReel := cx
  have hrt : X.2.2.2.2.2.2.2.1.sig.returnType = (some .int) := hrt
  have hi3 : 3 < X.2.2.2.2.2.2.2.2.maxLocals := by rw [hml]; exact Nat.le_of_ble_eq_true rfl
  unfold L_writeReel at hf
  refine PW.aload_n cx qL_writeReel_0 rfl ?_
  refine PW.iconst (v := 0) cx qL_writeReel_1 rfl ?_
  refine PW.aload_n cx qL_writeReel_2 rfl ?_
  refine PW.iload_n cx qL_writeReel_3 rfl ?_
  refine PW.callVCI (As := [.int p1]) (st := [.int 0, .ref (gB g + 150)]) ckk css cx hR hT qL_writeReel_4 ktL_148 mvX6_writeReel (sh_0 hx) rfl rfl rfl rfl (Nat.le_of_ble_eq_true rfl) (Nat.le_of_ble_eq_true rfl) (Nat.le_of_ble_eq_true rfl) (Nat.le_of_ble_eq_true rfl) (Nat.le_of_ble_eq_true rfl) hf sne (fun t e => ctX6_writeReel hx h p1 t e) (fun i h9 hf => ?_) (fun t2 h1 hf => ?_)
  · rcases caE hf with ⟨rfl, hf⟩ | ⟨-, hf⟩
    · refine ⟨12, ⟨by decide, by decide⟩, rfl, fun q4 => ?_⟩
      refine PW.astore_n (L' := [some (.ref (gB g + 0)), some (.int p1), some (.ref (gB g + 150)), some (.ref q4)]) cx qL_writeReel_12 hi3 rfl rfl ?_
      refine PW.iconst (v := 1) cx qL_writeReel_13 rfl ?_
      exact PW.toX (Nat.le_of_ble_eq_true rfl) (Nat.le_of_ble_eq_true rfl) (PW.iret cx hrt qL_writeReel_14 (le_wi hf))
    · cases hf
  · refine PW.i2l cx qL_writeReel_7 ?_
    refine PW.last1 cx qL_writeReel_8 ho hf (fun h3 hf => ?_)
    refine PW.goto cx qL_writeReel_9 ?_
    refine PW.iconst (v := 0) cx qL_writeReel_15 rfl ?_
    exact PW.toX (Nat.le_of_ble_eq_true rfl) (Nat.le_of_ble_eq_true rfl) (PW.iret cx hrt qL_writeReel_16 (le_wi hf))
