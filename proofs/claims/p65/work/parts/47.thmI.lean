set_option maxRecDepth 20000 in
set_option maxHeartbeats 4000000 in
theorem ctX1_init {g : GT} {sh0 : List Shp} {B : Nat} (hB : sh0.length = B) (h : Hp) (hz : ∀ k, 1 ≤ k → k ≤ 10 → row (B + k) h = 0) : Ct g mX1_init 1 10 206 true [.ref (gB g + (B + 0))] (sh0 ++ [.inl (0, [(0, 0), (0, 0), (0, 0), (0, 0), (0, 0), (0, 0), (4, 0), (4, 0), (4, 0), (4, 0), (4, 0), (4, 0), (0, 0), (4, 0), (4, 0), (0, 0), (4, 0), (4, 0)])]) h (PE none (sh0 ++ arcL B) h) := by
  refine Ct.of (L := [some (.ref (gB g + (B + 0)))]) (by decide) (by intro w hw; simp only [List.mem_cons, List.not_mem_nil, or_false] at hw; rcases hw with rfl; rfl) (Nat.le_of_ble_eq_true rfl) rfl (fun X mx => ?_)
  obtain ⟨cx, hR, hml, hrt, hin⟩ := mx
  have cx : Cx g X RX1 cX1_init := cx
  have hin : X.2.2.2.2.2.2.2.1.name = "<init>" := hin
  have hrt : X.2.2.2.2.2.2.2.1.sig.returnType = none := hrt
  refine PW.aload_n cx qX1_init_0 rfl ?_
  refine PW.objI cx hR qX1_init_1 obX1_3 ob_w (Nat.le_of_ble_eq_true rfl) (Nat.le_of_ble_eq_true rfl) ?_
  refine PW.aload_n cx qX1_init_4 rfl ?_
  refine PW.bipush (v := 12) cx qX1_init_5 rfl ?_
  refine PW.newarrP (N := 12) (tyk := 0) (ty := .int) (j := 1) (l' := ([.inl (0, [(0, 0), (0, 0), (0, 0), (0, 0), (0, 0), (0, 0), (4, 0), (4, 0), (4, 0), (4, 0), (4, 0), (4, 0), (0, 0), (4, 0), (4, 0), (0, 0), (4, 0), (4, 0)]), .inr (0, 12, [])])) cx hR qX1_init_7 rfl ar_int rfl (fun _ _ h => h) (fun _ => rfl) ⟨rfl, by decide⟩ (by decide) rfl rfl hB (hz 1 (by decide) (by decide)) (Nat.le_of_ble_eq_true rfl) (Nat.le_of_ble_eq_true rfl) ?_
  refine PW.putRefP (ci := 0) (kf := 6) (j := 0) (p := B + 1) (T := TX1) (N := 18) (ty := (.array .int)) (l' := ([.inl (0, [(0, 0), (0, 0), (0, 0), (0, 0), (0, 0), (0, 0), (2, B + 1), (4, 0), (4, 0), (4, 0), (4, 0), (4, 0), (0, 0), (4, 0), (4, 0), (0, 0), (4, 0), (4, 0)]), .inr (0, 12, [])])) cx hin qX1_init_9 rfl (by decide) rfl rfl pfX1_9 rfl (by decide +kernel) (fun _ => rfl) (fun _ => rfl) hB rfl (Nat.le_of_ble_eq_true rfl) rfl ?_
  refine PW.aload_n cx qX1_init_12 rfl ?_
  refine PW.bipush (v := 96) cx qX1_init_13 rfl ?_
  refine PW.newarrP (N := 96) (tyk := 0) (ty := .int) (j := 2) (l' := ([.inl (0, [(0, 0), (0, 0), (0, 0), (0, 0), (0, 0), (0, 0), (2, B + 1), (4, 0), (4, 0), (4, 0), (4, 0), (4, 0), (0, 0), (4, 0), (4, 0), (0, 0), (4, 0), (4, 0)]), .inr (0, 12, []), .inr (0, 96, [])])) cx hR qX1_init_15 rfl ar_int rfl (fun _ _ h => h) (fun _ => rfl) ⟨rfl, by decide⟩ (by decide) rfl rfl hB (hz 2 (by decide) (by decide)) (Nat.le_of_ble_eq_true rfl) (Nat.le_of_ble_eq_true rfl) ?_
  refine PW.putRefP (ci := 0) (kf := 7) (j := 0) (p := B + 2) (T := TX1) (N := 18) (ty := (.array .int)) (l' := ([.inl (0, [(0, 0), (0, 0), (0, 0), (0, 0), (0, 0), (0, 0), (2, B + 1), (2, B + 2), (4, 0), (4, 0), (4, 0), (4, 0), (0, 0), (4, 0), (4, 0), (0, 0), (4, 0), (4, 0)]), .inr (0, 12, []), .inr (0, 96, [])])) cx hin qX1_init_17 rfl (by decide) rfl rfl pfX1_15 rfl (by decide +kernel) (fun _ => rfl) (fun _ => rfl) hB rfl (Nat.le_of_ble_eq_true rfl) rfl ?_
  refine PW.aload_n cx qX1_init_20 rfl ?_
  refine PW.bipush (v := 12) cx qX1_init_21 rfl ?_
  refine PW.newarrP (N := 12) (tyk := 0) (ty := .int) (j := 3) (l' := ([.inl (0, [(0, 0), (0, 0), (0, 0), (0, 0), (0, 0), (0, 0), (2, B + 1), (2, B + 2), (4, 0), (4, 0), (4, 0), (4, 0), (0, 0), (4, 0), (4, 0), (0, 0), (4, 0), (4, 0)]), .inr (0, 12, []), .inr (0, 96, []), .inr (0, 12, [])])) cx hR qX1_init_23 rfl ar_int rfl (fun _ _ h => h) (fun _ => rfl) ⟨rfl, by decide⟩ (by decide) rfl rfl hB (hz 3 (by decide) (by decide)) (Nat.le_of_ble_eq_true rfl) (Nat.le_of_ble_eq_true rfl) ?_
  refine PW.putRefP (ci := 0) (kf := 8) (j := 0) (p := B + 3) (T := TX1) (N := 18) (ty := (.array .int)) (l' := ([.inl (0, [(0, 0), (0, 0), (0, 0), (0, 0), (0, 0), (0, 0), (2, B + 1), (2, B + 2), (2, B + 3), (4, 0), (4, 0), (4, 0), (0, 0), (4, 0), (4, 0), (0, 0), (4, 0), (4, 0)]), .inr (0, 12, []), .inr (0, 96, []), .inr (0, 12, [])])) cx hin qX1_init_25 rfl (by decide) rfl rfl pfX1_18 rfl (by decide +kernel) (fun _ => rfl) (fun _ => rfl) hB rfl (Nat.le_of_ble_eq_true rfl) rfl ?_
  refine PW.aload_n cx qX1_init_28 rfl ?_
  refine PW.bipush (v := 12) cx qX1_init_29 rfl ?_
  refine PW.newarrP (N := 12) (tyk := 0) (ty := .int) (j := 4) (l' := ([.inl (0, [(0, 0), (0, 0), (0, 0), (0, 0), (0, 0), (0, 0), (2, B + 1), (2, B + 2), (2, B + 3), (4, 0), (4, 0), (4, 0), (0, 0), (4, 0), (4, 0), (0, 0), (4, 0), (4, 0)]), .inr (0, 12, []), .inr (0, 96, []), .inr (0, 12, []), .inr (0, 12, [])])) cx hR qX1_init_31 rfl ar_int rfl (fun _ _ h => h) (fun _ => rfl) ⟨rfl, by decide⟩ (by decide) rfl rfl hB (hz 4 (by decide) (by decide)) (Nat.le_of_ble_eq_true rfl) (Nat.le_of_ble_eq_true rfl) ?_
  refine PW.putRefP (ci := 0) (kf := 9) (j := 0) (p := B + 4) (T := TX1) (N := 18) (ty := (.array .int)) (l' := ([.inl (0, [(0, 0), (0, 0), (0, 0), (0, 0), (0, 0), (0, 0), (2, B + 1), (2, B + 2), (2, B + 3), (2, B + 4), (4, 0), (4, 0), (0, 0), (4, 0), (4, 0), (0, 0), (4, 0), (4, 0)]), .inr (0, 12, []), .inr (0, 96, []), .inr (0, 12, []), .inr (0, 12, [])])) cx hin qX1_init_33 rfl (by decide) rfl rfl pfX1_21 rfl (by decide +kernel) (fun _ => rfl) (fun _ => rfl) hB rfl (Nat.le_of_ble_eq_true rfl) rfl ?_
  refine PW.aload_n cx qX1_init_36 rfl ?_
  refine PW.bipush (v := 12) cx qX1_init_37 rfl ?_
  refine PW.newarrP (N := 12) (tyk := 0) (ty := .int) (j := 5) (l' := ([.inl (0, [(0, 0), (0, 0), (0, 0), (0, 0), (0, 0), (0, 0), (2, B + 1), (2, B + 2), (2, B + 3), (2, B + 4), (4, 0), (4, 0), (0, 0), (4, 0), (4, 0), (0, 0), (4, 0), (4, 0)]), .inr (0, 12, []), .inr (0, 96, []), .inr (0, 12, []), .inr (0, 12, []), .inr (0, 12, [])])) cx hR qX1_init_39 rfl ar_int rfl (fun _ _ h => h) (fun _ => rfl) ⟨rfl, by decide⟩ (by decide) rfl rfl hB (hz 5 (by decide) (by decide)) (Nat.le_of_ble_eq_true rfl) (Nat.le_of_ble_eq_true rfl) ?_
  refine PW.putRefP (ci := 0) (kf := 10) (j := 0) (p := B + 5) (T := TX1) (N := 18) (ty := (.array .int)) (l' := ([.inl (0, [(0, 0), (0, 0), (0, 0), (0, 0), (0, 0), (0, 0), (2, B + 1), (2, B + 2), (2, B + 3), (2, B + 4), (2, B + 5), (4, 0), (0, 0), (4, 0), (4, 0), (0, 0), (4, 0), (4, 0)]), .inr (0, 12, []), .inr (0, 96, []), .inr (0, 12, []), .inr (0, 12, []), .inr (0, 12, [])])) cx hin qX1_init_41 rfl (by decide) rfl rfl pfX1_24 rfl (by decide +kernel) (fun _ => rfl) (fun _ => rfl) hB rfl (Nat.le_of_ble_eq_true rfl) rfl ?_
  refine PW.aload_n cx qX1_init_44 rfl ?_
  refine PW.bipush (v := 12) cx qX1_init_45 rfl ?_
  refine PW.newarrP (N := 12) (tyk := 0) (ty := .int) (j := 6) (l' := ([.inl (0, [(0, 0), (0, 0), (0, 0), (0, 0), (0, 0), (0, 0), (2, B + 1), (2, B + 2), (2, B + 3), (2, B + 4), (2, B + 5), (4, 0), (0, 0), (4, 0), (4, 0), (0, 0), (4, 0), (4, 0)]), .inr (0, 12, []), .inr (0, 96, []), .inr (0, 12, []), .inr (0, 12, []), .inr (0, 12, []), .inr (0, 12, [])])) cx hR qX1_init_47 rfl ar_int rfl (fun _ _ h => h) (fun _ => rfl) ⟨rfl, by decide⟩ (by decide) rfl rfl hB (hz 6 (by decide) (by decide)) (Nat.le_of_ble_eq_true rfl) (Nat.le_of_ble_eq_true rfl) ?_
  refine PW.putRefP (ci := 0) (kf := 11) (j := 0) (p := B + 6) (T := TX1) (N := 18) (ty := (.array .int)) (l' := ([.inl (0, [(0, 0), (0, 0), (0, 0), (0, 0), (0, 0), (0, 0), (2, B + 1), (2, B + 2), (2, B + 3), (2, B + 4), (2, B + 5), (2, B + 6), (0, 0), (4, 0), (4, 0), (0, 0), (4, 0), (4, 0)]), .inr (0, 12, []), .inr (0, 96, []), .inr (0, 12, []), .inr (0, 12, []), .inr (0, 12, []), .inr (0, 12, [])])) cx hin qX1_init_49 rfl (by decide) rfl rfl pfX1_27 rfl (by decide +kernel) (fun _ => rfl) (fun _ => rfl) hB rfl (Nat.le_of_ble_eq_true rfl) rfl ?_
  refine PW.aload_n cx qX1_init_52 rfl ?_
  refine PW.iconst (v := 4) cx qX1_init_53 rfl ?_
  refine PW.newarrP (N := 4) (tyk := 0) (ty := .int) (j := 7) (l' := ([.inl (0, [(0, 0), (0, 0), (0, 0), (0, 0), (0, 0), (0, 0), (2, B + 1), (2, B + 2), (2, B + 3), (2, B + 4), (2, B + 5), (2, B + 6), (0, 0), (4, 0), (4, 0), (0, 0), (4, 0), (4, 0)]), .inr (0, 12, []), .inr (0, 96, []), .inr (0, 12, []), .inr (0, 12, []), .inr (0, 12, []), .inr (0, 12, []), .inr (0, 4, [])])) cx hR qX1_init_54 rfl ar_int rfl (fun _ _ h => h) (fun _ => rfl) ⟨rfl, by decide⟩ (by decide) rfl rfl hB (hz 7 (by decide) (by decide)) (Nat.le_of_ble_eq_true rfl) (Nat.le_of_ble_eq_true rfl) ?_
  refine PW.putRefP (ci := 0) (kf := 13) (j := 0) (p := B + 7) (T := TX1) (N := 18) (ty := (.array .int)) (l' := ([.inl (0, [(0, 0), (0, 0), (0, 0), (0, 0), (0, 0), (0, 0), (2, B + 1), (2, B + 2), (2, B + 3), (2, B + 4), (2, B + 5), (2, B + 6), (0, 0), (2, B + 7), (4, 0), (0, 0), (4, 0), (4, 0)]), .inr (0, 12, []), .inr (0, 96, []), .inr (0, 12, []), .inr (0, 12, []), .inr (0, 12, []), .inr (0, 12, []), .inr (0, 4, [])])) cx hin qX1_init_56 rfl (by decide) rfl rfl pfX1_30 rfl (by decide +kernel) (fun _ => rfl) (fun _ => rfl) hB rfl (Nat.le_of_ble_eq_true rfl) rfl ?_
  refine PW.aload_n cx qX1_init_59 rfl ?_
  refine PW.bipush (v := 36) cx qX1_init_60 rfl ?_
  refine PW.newarrP (N := 36) (tyk := 0) (ty := .int) (j := 8) (l' := ([.inl (0, [(0, 0), (0, 0), (0, 0), (0, 0), (0, 0), (0, 0), (2, B + 1), (2, B + 2), (2, B + 3), (2, B + 4), (2, B + 5), (2, B + 6), (0, 0), (2, B + 7), (4, 0), (0, 0), (4, 0), (4, 0)]), .inr (0, 12, []), .inr (0, 96, []), .inr (0, 12, []), .inr (0, 12, []), .inr (0, 12, []), .inr (0, 12, []), .inr (0, 4, []), .inr (0, 36, [])])) cx hR qX1_init_62 rfl ar_int rfl (fun _ _ h => h) (fun _ => rfl) ⟨rfl, by decide⟩ (by decide) rfl rfl hB (hz 8 (by decide) (by decide)) (Nat.le_of_ble_eq_true rfl) (Nat.le_of_ble_eq_true rfl) ?_
  refine PW.putRefP (ci := 0) (kf := 14) (j := 0) (p := B + 8) (T := TX1) (N := 18) (ty := (.array .int)) (l' := ([.inl (0, [(0, 0), (0, 0), (0, 0), (0, 0), (0, 0), (0, 0), (2, B + 1), (2, B + 2), (2, B + 3), (2, B + 4), (2, B + 5), (2, B + 6), (0, 0), (2, B + 7), (2, B + 8), (0, 0), (4, 0), (4, 0)]), .inr (0, 12, []), .inr (0, 96, []), .inr (0, 12, []), .inr (0, 12, []), .inr (0, 12, []), .inr (0, 12, []), .inr (0, 4, []), .inr (0, 36, [])])) cx hin qX1_init_64 rfl (by decide) rfl rfl pfX1_33 rfl (by decide +kernel) (fun _ => rfl) (fun _ => rfl) hB rfl (Nat.le_of_ble_eq_true rfl) rfl ?_
  refine PW.aload_n cx qX1_init_67 rfl ?_
  refine PW.iconst (v := 5) cx qX1_init_68 rfl ?_
  refine PW.newarrP (N := 5) (tyk := 0) (ty := .int) (j := 9) (l' := ([.inl (0, [(0, 0), (0, 0), (0, 0), (0, 0), (0, 0), (0, 0), (2, B + 1), (2, B + 2), (2, B + 3), (2, B + 4), (2, B + 5), (2, B + 6), (0, 0), (2, B + 7), (2, B + 8), (0, 0), (4, 0), (4, 0)]), .inr (0, 12, []), .inr (0, 96, []), .inr (0, 12, []), .inr (0, 12, []), .inr (0, 12, []), .inr (0, 12, []), .inr (0, 4, []), .inr (0, 36, []), .inr (0, 5, [])])) cx hR qX1_init_69 rfl ar_int rfl (fun _ _ h => h) (fun _ => rfl) ⟨rfl, by decide⟩ (by decide) rfl rfl hB (hz 9 (by decide) (by decide)) (Nat.le_of_ble_eq_true rfl) (Nat.le_of_ble_eq_true rfl) ?_
  refine PW.putRefP (ci := 0) (kf := 16) (j := 0) (p := B + 9) (T := TX1) (N := 18) (ty := (.array .int)) (l' := ([.inl (0, [(0, 0), (0, 0), (0, 0), (0, 0), (0, 0), (0, 0), (2, B + 1), (2, B + 2), (2, B + 3), (2, B + 4), (2, B + 5), (2, B + 6), (0, 0), (2, B + 7), (2, B + 8), (0, 0), (2, B + 9), (4, 0)]), .inr (0, 12, []), .inr (0, 96, []), .inr (0, 12, []), .inr (0, 12, []), .inr (0, 12, []), .inr (0, 12, []), .inr (0, 4, []), .inr (0, 36, []), .inr (0, 5, [])])) cx hin qX1_init_71 rfl (by decide) rfl rfl pfX1_36 rfl (by decide +kernel) (fun _ => rfl) (fun _ => rfl) hB rfl (Nat.le_of_ble_eq_true rfl) rfl ?_
  refine PW.aload_n cx qX1_init_74 rfl ?_
  refine PW.iconst (v := 5) cx qX1_init_75 rfl ?_
  refine PW.newarrP (N := 5) (tyk := 0) (ty := .int) (j := 10) (l' := ([.inl (0, [(0, 0), (0, 0), (0, 0), (0, 0), (0, 0), (0, 0), (2, B + 1), (2, B + 2), (2, B + 3), (2, B + 4), (2, B + 5), (2, B + 6), (0, 0), (2, B + 7), (2, B + 8), (0, 0), (2, B + 9), (4, 0)]), .inr (0, 12, []), .inr (0, 96, []), .inr (0, 12, []), .inr (0, 12, []), .inr (0, 12, []), .inr (0, 12, []), .inr (0, 4, []), .inr (0, 36, []), .inr (0, 5, []), .inr (0, 5, [])])) cx hR qX1_init_76 rfl ar_int rfl (fun _ _ h => h) (fun _ => rfl) ⟨rfl, by decide⟩ (by decide) rfl rfl hB (hz 10 (by decide) (by decide)) (Nat.le_of_ble_eq_true rfl) (Nat.le_of_ble_eq_true rfl) ?_
  refine PW.putRefP (ci := 0) (kf := 17) (j := 0) (p := B + 10) (T := TX1) (N := 18) (ty := (.array .int)) (l' := ([.inl (0, [(0, 0), (0, 0), (0, 0), (0, 0), (0, 0), (0, 0), (2, B + 1), (2, B + 2), (2, B + 3), (2, B + 4), (2, B + 5), (2, B + 6), (0, 0), (2, B + 7), (2, B + 8), (0, 0), (2, B + 9), (2, B + 10)]), .inr (0, 12, []), .inr (0, 96, []), .inr (0, 12, []), .inr (0, 12, []), .inr (0, 12, []), .inr (0, 12, []), .inr (0, 4, []), .inr (0, 36, []), .inr (0, 5, []), .inr (0, 5, [])])) cx hin qX1_init_78 rfl (by decide) rfl rfl pfX1_39 rfl (by decide +kernel) (fun _ => rfl) (fun _ => rfl) hB rfl (Nat.le_of_ble_eq_true rfl) rfl ?_
  refine PW.shEq (sh' := sh0 ++ arcL B) rfl ?_
  exact PW.vret cx hrt qX1_init_81 ⟨rfl, rfl, rfl⟩
theorem ctX1_initP {g : GT} {sh0 l : List Shp} {B : Nat} (hB : sh0.length + l.length = B) (h : Hp) (hz : ∀ k, 1 ≤ k → k ≤ 10 → row (B + k) h = 0) : Ct g mX1_init 1 10 206 true [.ref (gB g + (B + 0))] (sh0 ++ (l ++ [.inl (0, [(0, 0), (0, 0), (0, 0), (0, 0), (0, 0), (0, 0), (4, 0), (4, 0), (4, 0), (4, 0), (4, 0), (4, 0), (0, 0), (4, 0), (4, 0), (0, 0), (4, 0), (4, 0)])])) h (PE none (sh0 ++ (l ++ arcL B)) h) := by
  rw [← List.append_assoc, ← List.append_assoc]
  exact ctX1_init (by rw [List.length_append]; exact hB) h hz
set_option maxRecDepth 20000 in
set_option maxHeartbeats 4000000 in
theorem ctX4_init {g : GT} {sh0 : List Shp} (hB : sh0.length = 47) (h : Hp) (hz : row 48 h = 0) : Ct g mX4_init 1 1 600 true [.ref (gB g + (47 + 0))] (sh0 ++ [.inl (2, [(4, 0), (0, 0), (0, 0), (4, 0), (0, 0), (0, 0), (1, 0)])]) h (PE none (sh0 ++ txtL) (up2 h 47 3 5)) := by
  refine Ct.of (L := [some (.ref (gB g + (47 + 0)))]) (by decide) (by intro w hw; simp only [List.mem_cons, List.not_mem_nil, or_false] at hw; rcases hw with rfl; rfl) (Nat.le_of_ble_eq_true rfl) rfl (fun X mx => ?_)
  obtain ⟨cx, hR, hml, hrt, hin⟩ := mx
  have cx : Cx g X RX4 cX4_init := cx
  have hin : X.2.2.2.2.2.2.2.1.name = "<init>" := hin
  have hrt : X.2.2.2.2.2.2.2.1.sig.returnType = none := hrt
  refine PW.aload_n cx qX4_init_0 rfl ?_
  refine PW.objI cx hR qX4_init_1 obX4_3 ob_w (Nat.le_of_ble_eq_true rfl) (Nat.le_of_ble_eq_true rfl) ?_
  refine PW.aload_n cx qX4_init_4 rfl ?_
  refine PW.sipush (v := 600) cx qX4_init_5 rfl ?_
  refine PW.newarrP (N := 600) (tyk := 1) (ty := .byte) (j := 1) (l' := ([.inl (2, [(4, 0), (0, 0), (0, 0), (4, 0), (0, 0), (0, 0), (1, 0)]), .inr (1, 600, [])])) cx hR qX4_init_8 rfl ar_byte rfl (fun _ _ h => h) (fun _ => rfl) ⟨rfl, by decide⟩ (by decide) rfl rfl hB hz (Nat.le_of_ble_eq_true rfl) (Nat.le_of_ble_eq_true rfl) ?_
  refine PW.putRefP (ci := 2) (kf := 0) (j := 0) (p := 48) (T := TX4) (N := 7) (ty := (.array .byte)) (l' := ([.inl (2, [(2, 48), (0, 0), (0, 0), (4, 0), (0, 0), (0, 0), (1, 0)]), .inr (1, 600, [])])) cx hin qX4_init_10 rfl (by decide) rfl rfl pfX4_9 rfl (by decide +kernel) (fun _ => rfl) (fun _ => rfl) hB rfl (Nat.le_of_ble_eq_true rfl) rfl ?_
  refine PW.aload_n cx qX4_init_13 rfl ?_
  refine PW.gsT (v := 5) cx qX4_init_14 (by decide) rfl glX4_15 ?_
  refine PW.putTokP (E := "ClipHibernation$Token") (ci := 2) (kf := 3) (j := 0) (x := 5) (T := TX4) (N := 7) (l' := ([.inl (2, [(2, 48), (0, 0), (0, 0), (3, 0), (0, 0), (0, 0), (1, 0)]), .inr (1, 600, [])])) cx qX4_init_17 rfl (by decide) rfl pfX4_21 rfl (by decide +kernel) hB rfl (Nat.le_of_ble_eq_true rfl) rfl ?_
  refine PW.shEq (sh' := sh0 ++ txtL) rfl ?_
  exact PW.vret cx hrt qX4_init_20 ⟨rfl, rfl, rfl⟩
theorem ctX4_initP {g : GT} {sh0 l : List Shp} (hB : sh0.length + l.length = 47) (h : Hp) (hz : row 48 h = 0) : Ct g mX4_init 1 1 600 true [.ref (gB g + (47 + 0))] (sh0 ++ (l ++ [.inl (2, [(4, 0), (0, 0), (0, 0), (4, 0), (0, 0), (0, 0), (1, 0)])])) h (PE none (sh0 ++ (l ++ txtL)) (up2 h 47 3 5)) := by
  rw [← List.append_assoc, ← List.append_assoc]
  exact ctX4_init (by rw [List.length_append]; exact hB) h hz
set_option maxRecDepth 20000 in
set_option maxHeartbeats 4000000 in
theorem ctX3_init {g : GT} {sh0 : List Shp} (hB : sh0.length = 35) (h : Hp) (hz : ∀ k, 36 ≤ k → k ≤ 50 → row k h = 0) : Ct g mX3_init 2 15 835 true [.ref (gB g + (35 + 0))] (sh0 ++ [.inl (1, [(4, 0), (4, 0), (0, 0), (0, 0), (0, 0), (0, 0), (4, 0), (4, 0), (0, 0), (0, 0), (0, 0)])]) h (PE none (sh0 ++ scrL) (up2 (up2 h 47 3 5) 35 3 (-1))) := by
  refine Ct.of (L := [some (.ref (gB g + (35 + 0)))]) (by decide) (by intro w hw; simp only [List.mem_cons, List.not_mem_nil, or_false] at hw; rcases hw with rfl; rfl) (Nat.le_of_ble_eq_true rfl) rfl (fun X mx => ?_)
  obtain ⟨cx, hR, hml, hrt, hin⟩ := mx
  have cx : Cx g X RX3 cX3_init := cx
  have hin : X.2.2.2.2.2.2.2.1.name = "<init>" := hin
  have hrt : X.2.2.2.2.2.2.2.1.sig.returnType = none := hrt
  refine PW.aload_n cx qX3_init_0 rfl ?_
  refine PW.objI cx hR qX3_init_1 obX3_3 ob_w (Nat.le_of_ble_eq_true rfl) (Nat.le_of_ble_eq_true rfl) ?_
  refine PW.aload_n cx qX3_init_4 rfl ?_
  refine PW.newP (ci := 0) (N := 18) (T := TX1) (ts := [(0, 0), (0, 0), (0, 0), (0, 0), (0, 0), (0, 0), (4, 0), (4, 0), (4, 0), (4, 0), (4, 0), (4, 0), (0, 0), (4, 0), (4, 0), (0, 0), (4, 0), (4, 0)]) (j := 1) (l' := ([.inl (1, [(4, 0), (4, 0), (0, 0), (0, 0), (0, 0), (0, 0), (4, 0), (4, 0), (0, 0), (0, 0), (0, 0)]), .inl (0, [(0, 0), (0, 0), (0, 0), (0, 0), (0, 0), (0, 0), (4, 0), (4, 0), (4, 0), (4, 0), (4, 0), (4, 0), (0, 0), (4, 0), (4, 0), (0, 0), (4, 0), (4, 0)])])) cx hR qX3_init_5 nwkX3_9 nwiX1 nwnX1 rfl rfl rfl hB (hz 36 (by decide) (by decide)) tyX1 tyX1_ok rfl (by decide +kernel) (Nat.le_of_ble_eq_true rfl) (Nat.le_of_ble_eq_true rfl) ?_
  refine PW.dup cx qX3_init_8 rfl ?_
  refine PW.callI cx hR qX3_init_9 klX3_11 miX1_init iiX1 rfl rfl (Nat.le_of_ble_eq_true rfl) (Nat.le_of_ble_eq_true rfl) (Nat.le_of_ble_eq_true rfl) (Nat.le_of_ble_eq_true rfl) (Nat.le_of_ble_eq_true rfl) (ctX1_initP (B := 36) (sh0 := sh0) (by rw [hB]; rfl) h (fun k h1 h2 => hz (36 + k) (by omega) (by omega)) (l := ([.inl (1, [(4, 0), (4, 0), (0, 0), (0, 0), (0, 0), (0, 0), (4, 0), (4, 0), (0, 0), (0, 0), (0, 0)])]))) (fun o sh1 h1 hp => ?_)
  obtain ⟨rfl, rfl, rfl⟩ := hp
  refine PW.shEq (sh' := sh0 ++ ([.inl (1, [(4, 0), (4, 0), (0, 0), (0, 0), (0, 0), (0, 0), (4, 0), (4, 0), (0, 0), (0, 0), (0, 0)])] ++ arcL 36)) rfl ?_
  refine PW.putRefP (ci := 1) (kf := 0) (j := 0) (p := 36) (T := TX3) (N := 11) (ty := (.object RX1)) (l' := ([.inl (1, [(2, 36), (4, 0), (0, 0), (0, 0), (0, 0), (0, 0), (4, 0), (4, 0), (0, 0), (0, 0), (0, 0)])] ++ arcL 36)) cx hin qX3_init_12 rfl (by decide) rfl rfl pfX3_12 rfl (by decide +kernel) (fun _ => rfl) (fun _ => rfl) hB rfl (Nat.le_of_ble_eq_true rfl) rfl ?_
  refine PW.aload_n cx qX3_init_15 rfl ?_
  refine PW.newP (ci := 2) (N := 7) (T := TX4) (ts := [(4, 0), (0, 0), (0, 0), (4, 0), (0, 0), (0, 0), (1, 0)]) (j := 12) (l' := ([.inl (1, [(2, 36), (4, 0), (0, 0), (0, 0), (0, 0), (0, 0), (4, 0), (4, 0), (0, 0), (0, 0), (0, 0)])] ++ arcL 36 ++ [.inl (2, [(4, 0), (0, 0), (0, 0), (4, 0), (0, 0), (0, 0), (1, 0)])])) cx hR qX3_init_16 nwkX3_18 nwiX4 nwnX4 rfl rfl rfl hB (hz 47 (by decide) (by decide)) tyX4 tyX4_ok rfl (by decide +kernel) (Nat.le_of_ble_eq_true rfl) (Nat.le_of_ble_eq_true rfl) ?_
  refine PW.dup cx qX3_init_19 rfl ?_
  refine PW.callI cx hR qX3_init_20 klX3_20 miX4_init iiX4 rfl rfl (Nat.le_of_ble_eq_true rfl) (Nat.le_of_ble_eq_true rfl) (Nat.le_of_ble_eq_true rfl) (Nat.le_of_ble_eq_true rfl) (Nat.le_of_ble_eq_true rfl) (ctX4_initP (sh0 := sh0) (by rw [hB]; rfl) h (hz 48 (by decide) (by decide)) (l := ([.inl (1, [(2, 36), (4, 0), (0, 0), (0, 0), (0, 0), (0, 0), (4, 0), (4, 0), (0, 0), (0, 0), (0, 0)])] ++ arcL 36))) (fun o sh1 h1 hp => ?_)
  obtain ⟨rfl, rfl, rfl⟩ := hp
  refine PW.shEq (sh' := sh0 ++ ([.inl (1, [(2, 36), (4, 0), (0, 0), (0, 0), (0, 0), (0, 0), (4, 0), (4, 0), (0, 0), (0, 0), (0, 0)])] ++ arcL 36 ++ txtL)) rfl ?_
  show PW g X true _ _ _ _ (up2 h 47 3 5) _ _ _
  refine PW.putRefP (ci := 1) (kf := 1) (j := 0) (p := 47) (T := TX3) (N := 11) (ty := (.object RX4)) (l' := ([.inl (1, [(2, 36), (2, 47), (0, 0), (0, 0), (0, 0), (0, 0), (4, 0), (4, 0), (0, 0), (0, 0), (0, 0)])] ++ arcL 36 ++ txtL)) cx hin qX3_init_23 rfl (by decide) rfl rfl pfX3_21 rfl (by decide +kernel) (fun _ => rfl) (fun _ => rfl) hB rfl (Nat.le_of_ble_eq_true rfl) rfl ?_
  refine PW.aload_n cx qX3_init_26 rfl ?_
  refine PW.iconst (v := (-1)) cx qX3_init_27 rfl ?_
  refine PW.puti (x := (-1)) cx qX3_init_28 (at_app hB (k := 0) rfl) rfl fpX3_25 ?_
  show PW g X true _ _ _ _ (up2 (up2 h 47 3 5) 35 3 (-1)) _ _ _
  refine PW.aload_n cx qX3_init_31 rfl ?_
  refine PW.iconst (v := 2) cx qX3_init_32 rfl ?_
  refine PW.newarrP (N := 2) (tyk := 0) (ty := .int) (j := 14) (l' := ([.inl (1, [(2, 36), (2, 47), (0, 0), (0, 0), (0, 0), (0, 0), (4, 0), (4, 0), (0, 0), (0, 0), (0, 0)])] ++ arcL 36 ++ txtL ++ [.inr (0, 2, [])])) cx hR qX3_init_33 rfl ar_int rfl (fun _ _ h => h) (fun _ => rfl) ⟨rfl, by decide⟩ (by decide) rfl rfl hB ((row_up2 (by decide)).trans ((row_up2 (by decide)).trans (hz 49 (by decide) (by decide)))) (Nat.le_of_ble_eq_true rfl) (Nat.le_of_ble_eq_true rfl) ?_
  refine PW.putRefP (ci := 1) (kf := 6) (j := 0) (p := 49) (T := TX3) (N := 11) (ty := (.array .int)) (l' := ([.inl (1, [(2, 36), (2, 47), (0, 0), (0, 0), (0, 0), (0, 0), (2, 49), (4, 0), (0, 0), (0, 0), (0, 0)])] ++ arcL 36 ++ txtL ++ [.inr (0, 2, [])])) cx hin qX3_init_35 rfl (by decide) rfl rfl pfX3_29 rfl (by decide +kernel) (fun _ => rfl) (fun _ => rfl) hB rfl (Nat.le_of_ble_eq_true rfl) rfl ?_
  refine PW.aload_n cx qX3_init_38 rfl ?_
  refine PW.iconst (v := 2) cx qX3_init_39 rfl ?_
  refine PW.newarrP (N := 2) (tyk := 0) (ty := .int) (j := 15) (l' := ([.inl (1, [(2, 36), (2, 47), (0, 0), (0, 0), (0, 0), (0, 0), (2, 49), (4, 0), (0, 0), (0, 0), (0, 0)])] ++ arcL 36 ++ txtL ++ [.inr (0, 2, []), .inr (0, 2, [])])) cx hR qX3_init_40 rfl ar_int rfl (fun _ _ h => h) (fun _ => rfl) ⟨rfl, by decide⟩ (by decide) rfl rfl hB ((row_up2 (by decide)).trans ((row_up2 (by decide)).trans (hz 50 (by decide) (by decide)))) (Nat.le_of_ble_eq_true rfl) (Nat.le_of_ble_eq_true rfl) ?_
  refine PW.putRefP (ci := 1) (kf := 7) (j := 0) (p := 50) (T := TX3) (N := 11) (ty := (.array .int)) (l' := ([.inl (1, [(2, 36), (2, 47), (0, 0), (0, 0), (0, 0), (0, 0), (2, 49), (2, 50), (0, 0), (0, 0), (0, 0)])] ++ arcL 36 ++ txtL ++ [.inr (0, 2, []), .inr (0, 2, [])])) cx hin qX3_init_42 rfl (by decide) rfl rfl pfX3_33 rfl (by decide +kernel) (fun _ => rfl) (fun _ => rfl) hB rfl (Nat.le_of_ble_eq_true rfl) rfl ?_
  refine PW.shEq (sh' := sh0 ++ scrL) rfl ?_
  exact PW.vret cx hrt qX3_init_45 ⟨rfl, rfl, rfl⟩
theorem ctX3_initP {g : GT} {sh0 l : List Shp} (hB : sh0.length + l.length = 35) (h : Hp) (hz : ∀ k, 36 ≤ k → k ≤ 50 → row k h = 0) : Ct g mX3_init 2 15 835 true [.ref (gB g + (35 + 0))] (sh0 ++ (l ++ [.inl (1, [(4, 0), (4, 0), (0, 0), (0, 0), (0, 0), (0, 0), (4, 0), (4, 0), (0, 0), (0, 0), (0, 0)])])) h (PE none (sh0 ++ (l ++ scrL)) (up2 (up2 h 47 3 5) 35 3 (-1))) := by
  rw [← List.append_assoc, ← List.append_assoc]
  exact ctX3_init (by rw [List.length_append]; exact hB) h hz
theorem hX0_row {k : Nat} (h1 : k ≠ 47) (h2 : k ≠ 35) : row k hX0 = 0 := by
  unfold hX0
  rw [row_up2 h2, row_up2 h1, row_nil]
set_option maxRecDepth 20000 in
set_option maxHeartbeats 4000000 in
theorem ctX6_init {g : GT} (r0 : Hp) (hf : C_init = some r0) : Ct g mX6_init 9 139 3399 true [.ref (gB g + (0 + 0))] ([] ++ [.inl (3, [(4, 0), (4, 0), (4, 0), (1, 0), (4, 0), (0, 0), (0, 0), (4, 0), (4, 0), (0, 0)])]) [] (PE none shX r0) := by
  refine Ct.of (L := [some (.ref (gB g + (0 + 0))), none]) (by decide) (by intro w hw; simp only [List.mem_cons, List.not_mem_nil, or_false] at hw; rcases hw with rfl; rfl) (Nat.le_of_ble_eq_true rfl) rfl (fun X mx => ?_)
  obtain ⟨cx, hR, hml, hrt, hin⟩ := mx
  have cx : Cx g X RX6 cX6_init := cx
  have hin : X.2.2.2.2.2.2.2.1.name = "<init>" := hin
  have hrt : X.2.2.2.2.2.2.2.1.sig.returnType = none := hrt
  have hi1 : 1 < X.2.2.2.2.2.2.2.2.maxLocals := by rw [hml]; exact Nat.le_of_ble_eq_true rfl
  have hB : ([] : List Shp).length = 0 := rfl
  refine PW.aload_n cx qX6_init_0 rfl ?_
  refine PW.objI cx hR qX6_init_1 obX6_3 ob_w (Nat.le_of_ble_eq_true rfl) (Nat.le_of_ble_eq_true rfl) ?_
  refine PW.aload_n cx qX6_init_4 rfl ?_
  refine PW.newP (ci := 0) (N := 18) (T := TX1) (ts := [(0, 0), (0, 0), (0, 0), (0, 0), (0, 0), (0, 0), (4, 0), (4, 0), (4, 0), (4, 0), (4, 0), (4, 0), (0, 0), (4, 0), (4, 0), (0, 0), (4, 0), (4, 0)]) (j := 1) (l' := ([.inl (3, [(4, 0), (4, 0), (4, 0), (1, 0), (4, 0), (0, 0), (0, 0), (4, 0), (4, 0), (0, 0)]), .inl (0, [(0, 0), (0, 0), (0, 0), (0, 0), (0, 0), (0, 0), (4, 0), (4, 0), (4, 0), (4, 0), (4, 0), (4, 0), (0, 0), (4, 0), (4, 0), (0, 0), (4, 0), (4, 0)])])) cx hR qX6_init_5 nwkX6_9 nwiX1 nwnX1 rfl rfl rfl hB (row_nil _) tyX1 tyX1_ok rfl (by decide +kernel) (Nat.le_of_ble_eq_true rfl) (Nat.le_of_ble_eq_true rfl) ?_
  refine PW.dup cx qX6_init_8 rfl ?_
  refine PW.callI cx hR qX6_init_9 klX6_11 miX1_init iiX1 rfl rfl (Nat.le_of_ble_eq_true rfl) (Nat.le_of_ble_eq_true rfl) (Nat.le_of_ble_eq_true rfl) (Nat.le_of_ble_eq_true rfl) (Nat.le_of_ble_eq_true rfl) (ctX1_initP (sh0 := []) (B := 1) rfl [] (fun k _ _ => row_nil _) (l := ([.inl (3, [(4, 0), (4, 0), (4, 0), (1, 0), (4, 0), (0, 0), (0, 0), (4, 0), (4, 0), (0, 0)])]))) (fun o sh1 h1 hp => ?_)
  obtain ⟨rfl, rfl, rfl⟩ := hp
  refine PW.shEq (sh' := [] ++ ([.inl (3, [(4, 0), (4, 0), (4, 0), (1, 0), (4, 0), (0, 0), (0, 0), (4, 0), (4, 0), (0, 0)])] ++ arcL 1)) rfl ?_
  refine PW.putRefP (ci := 3) (kf := 0) (j := 0) (p := 1) (T := TX6) (N := 10) (ty := (.object RX1)) (l' := ([.inl (3, [(2, 1), (4, 0), (4, 0), (1, 0), (4, 0), (0, 0), (0, 0), (4, 0), (4, 0), (0, 0)])] ++ arcL 1)) cx hin qX6_init_12 rfl (by decide) rfl rfl pfX6_12 rfl (by decide +kernel) (fun _ => rfl) (fun _ => rfl) hB rfl (Nat.le_of_ble_eq_true rfl) rfl ?_
  refine PW.aload_n cx qX6_init_15 rfl ?_
  refine PW.newP (ci := 0) (N := 18) (T := TX1) (ts := [(0, 0), (0, 0), (0, 0), (0, 0), (0, 0), (0, 0), (4, 0), (4, 0), (4, 0), (4, 0), (4, 0), (4, 0), (0, 0), (4, 0), (4, 0), (0, 0), (4, 0), (4, 0)]) (j := 12) (l' := ([.inl (3, [(2, 1), (4, 0), (4, 0), (1, 0), (4, 0), (0, 0), (0, 0), (4, 0), (4, 0), (0, 0)])] ++ arcL 1 ++ [.inl (0, [(0, 0), (0, 0), (0, 0), (0, 0), (0, 0), (0, 0), (4, 0), (4, 0), (4, 0), (4, 0), (4, 0), (4, 0), (0, 0), (4, 0), (4, 0), (0, 0), (4, 0), (4, 0)])])) cx hR qX6_init_16 nwkX6_9 nwiX1 nwnX1 rfl rfl rfl hB (row_nil _) tyX1 tyX1_ok rfl (by decide +kernel) (Nat.le_of_ble_eq_true rfl) (Nat.le_of_ble_eq_true rfl) ?_
  refine PW.dup cx qX6_init_19 rfl ?_
  refine PW.callI cx hR qX6_init_20 klX6_11 miX1_init iiX1 rfl rfl (Nat.le_of_ble_eq_true rfl) (Nat.le_of_ble_eq_true rfl) (Nat.le_of_ble_eq_true rfl) (Nat.le_of_ble_eq_true rfl) (Nat.le_of_ble_eq_true rfl) (ctX1_initP (sh0 := []) (B := 12) rfl [] (fun k _ _ => row_nil _) (l := ([.inl (3, [(2, 1), (4, 0), (4, 0), (1, 0), (4, 0), (0, 0), (0, 0), (4, 0), (4, 0), (0, 0)])] ++ arcL 1))) (fun o sh1 h1 hp => ?_)
  obtain ⟨rfl, rfl, rfl⟩ := hp
  refine PW.shEq (sh' := [] ++ ([.inl (3, [(2, 1), (4, 0), (4, 0), (1, 0), (4, 0), (0, 0), (0, 0), (4, 0), (4, 0), (0, 0)])] ++ arcL 1 ++ arcL 12)) rfl ?_
  refine PW.putRefP (ci := 3) (kf := 1) (j := 0) (p := 12) (T := TX6) (N := 10) (ty := (.object RX1)) (l' := ([.inl (3, [(2, 1), (2, 12), (4, 0), (1, 0), (4, 0), (0, 0), (0, 0), (4, 0), (4, 0), (0, 0)])] ++ arcL 1 ++ arcL 12)) cx hin qX6_init_23 rfl (by decide) rfl rfl pfX6_16 rfl (by decide +kernel) (fun _ => rfl) (fun _ => rfl) hB rfl (Nat.le_of_ble_eq_true rfl) rfl ?_
  refine PW.aload_n cx qX6_init_26 rfl ?_
  refine PW.newP (ci := 0) (N := 18) (T := TX1) (ts := [(0, 0), (0, 0), (0, 0), (0, 0), (0, 0), (0, 0), (4, 0), (4, 0), (4, 0), (4, 0), (4, 0), (4, 0), (0, 0), (4, 0), (4, 0), (0, 0), (4, 0), (4, 0)]) (j := 23) (l' := ([.inl (3, [(2, 1), (2, 12), (4, 0), (1, 0), (4, 0), (0, 0), (0, 0), (4, 0), (4, 0), (0, 0)])] ++ arcL 1 ++ arcL 12 ++ [.inl (0, [(0, 0), (0, 0), (0, 0), (0, 0), (0, 0), (0, 0), (4, 0), (4, 0), (4, 0), (4, 0), (4, 0), (4, 0), (0, 0), (4, 0), (4, 0), (0, 0), (4, 0), (4, 0)])])) cx hR qX6_init_27 nwkX6_9 nwiX1 nwnX1 rfl rfl rfl hB (row_nil _) tyX1 tyX1_ok rfl (by decide +kernel) (Nat.le_of_ble_eq_true rfl) (Nat.le_of_ble_eq_true rfl) ?_
  refine PW.dup cx qX6_init_30 rfl ?_
  refine PW.callI cx hR qX6_init_31 klX6_11 miX1_init iiX1 rfl rfl (Nat.le_of_ble_eq_true rfl) (Nat.le_of_ble_eq_true rfl) (Nat.le_of_ble_eq_true rfl) (Nat.le_of_ble_eq_true rfl) (Nat.le_of_ble_eq_true rfl) (ctX1_initP (sh0 := []) (B := 23) rfl [] (fun k _ _ => row_nil _) (l := ([.inl (3, [(2, 1), (2, 12), (4, 0), (1, 0), (4, 0), (0, 0), (0, 0), (4, 0), (4, 0), (0, 0)])] ++ arcL 1 ++ arcL 12))) (fun o sh1 h1 hp => ?_)
  obtain ⟨rfl, rfl, rfl⟩ := hp
  refine PW.shEq (sh' := [] ++ ([.inl (3, [(2, 1), (2, 12), (4, 0), (1, 0), (4, 0), (0, 0), (0, 0), (4, 0), (4, 0), (0, 0)])] ++ arcL 1 ++ arcL 12 ++ arcL 23)) rfl ?_
  refine PW.putRefP (ci := 3) (kf := 2) (j := 0) (p := 23) (T := TX6) (N := 10) (ty := (.object RX1)) (l' := ([.inl (3, [(2, 1), (2, 12), (2, 23), (1, 0), (4, 0), (0, 0), (0, 0), (4, 0), (4, 0), (0, 0)])] ++ arcL 1 ++ arcL 12 ++ arcL 23)) cx hin qX6_init_34 rfl (by decide) rfl rfl pfX6_19 rfl (by decide +kernel) (fun _ => rfl) (fun _ => rfl) hB rfl (Nat.le_of_ble_eq_true rfl) rfl ?_
  refine PW.aload_n cx qX6_init_37 rfl ?_
  refine PW.bipush (v := 8) cx qX6_init_38 rfl ?_
  refine PW.anewP (N := 8) (j := 34) (l' := ([.inl (3, [(2, 1), (2, 12), (2, 23), (1, 0), (4, 0), (0, 0), (0, 0), (4, 0), (4, 0), (0, 0)])] ++ arcL 1 ++ arcL 12 ++ arcL 23 ++ [.inr (4, 8, [none, none, none, none, none, none, none, none])])) cx hR qX6_init_40 nwkX6_9 ar_X1 ⟨rfl, by decide⟩ (by decide) rfl rfl hB (Nat.le_of_ble_eq_true rfl) (Nat.le_of_ble_eq_true rfl) ?_
  refine PW.putRefP (ci := 3) (kf := 4) (j := 0) (p := 34) (T := TX6) (N := 10) (ty := (.array (.object RX1))) (l' := ([.inl (3, [(2, 1), (2, 12), (2, 23), (1, 0), (2, 34), (0, 0), (0, 0), (4, 0), (4, 0), (0, 0)])] ++ arcL 1 ++ arcL 12 ++ arcL 23 ++ [.inr (4, 8, [none, none, none, none, none, none, none, none])])) cx hin qX6_init_43 rfl (by decide) rfl rfl pfX6_22 rfl (by decide +kernel) (fun _ => rfl) (fun _ => rfl) hB rfl (Nat.le_of_ble_eq_true rfl) rfl ?_
  refine PW.aload_n cx qX6_init_46 rfl ?_
  refine PW.newP (ci := 1) (N := 11) (T := TX3) (ts := [(4, 0), (4, 0), (0, 0), (0, 0), (0, 0), (0, 0), (4, 0), (4, 0), (0, 0), (0, 0), (0, 0)]) (j := 35) (l' := ([.inl (3, [(2, 1), (2, 12), (2, 23), (1, 0), (2, 34), (0, 0), (0, 0), (4, 0), (4, 0), (0, 0)])] ++ arcL 1 ++ arcL 12 ++ arcL 23 ++ [.inr (4, 8, [none, none, none, none, none, none, none, none]), .inl (1, [(4, 0), (4, 0), (0, 0), (0, 0), (0, 0), (0, 0), (4, 0), (4, 0), (0, 0), (0, 0), (0, 0)])])) cx hR qX6_init_47 nwkX6_26 nwiX3 nwnX3 rfl rfl rfl hB (row_nil _) tyX3 tyX3_ok rfl (by decide +kernel) (Nat.le_of_ble_eq_true rfl) (Nat.le_of_ble_eq_true rfl) ?_
  refine PW.dup cx qX6_init_50 rfl ?_
  refine PW.callI cx hR qX6_init_51 klX6_28 miX3_init iiX3 rfl rfl (Nat.le_of_ble_eq_true rfl) (Nat.le_of_ble_eq_true rfl) (Nat.le_of_ble_eq_true rfl) (Nat.le_of_ble_eq_true rfl) (Nat.le_of_ble_eq_true rfl) (ctX3_initP (sh0 := []) rfl [] (fun k _ _ => row_nil _) (l := ([.inl (3, [(2, 1), (2, 12), (2, 23), (1, 0), (2, 34), (0, 0), (0, 0), (4, 0), (4, 0), (0, 0)])] ++ arcL 1 ++ arcL 12 ++ arcL 23 ++ [.inr (4, 8, [none, none, none, none, none, none, none, none])]))) (fun o sh1 h1 hp => ?_)
  obtain ⟨rfl, rfl, rfl⟩ := hp
  refine PW.shEq (sh' := [] ++ ([.inl (3, [(2, 1), (2, 12), (2, 23), (1, 0), (2, 34), (0, 0), (0, 0), (4, 0), (4, 0), (0, 0)])] ++ arcL 1 ++ arcL 12 ++ arcL 23 ++ [.inr (4, 8, [none, none, none, none, none, none, none, none])] ++ scrL)) rfl ?_
  show PW g X true _ _ _ _ hX0 _ _ _
  refine PW.putRefP (ci := 3) (kf := 7) (j := 0) (p := 35) (T := TX6) (N := 10) (ty := (.object RX3)) (l' := ([.inl (3, [(2, 1), (2, 12), (2, 23), (1, 0), (2, 34), (0, 0), (0, 0), (2, 35), (4, 0), (0, 0)])] ++ arcL 1 ++ arcL 12 ++ arcL 23 ++ [.inr (4, 8, [none, none, none, none, none, none, none, none])] ++ scrL)) cx hin qX6_init_54 rfl (by decide) rfl rfl pfX6_29 rfl (by decide +kernel) (fun _ => rfl) (fun _ => rfl) hB rfl (Nat.le_of_ble_eq_true rfl) rfl ?_
  refine PW.aload_n cx qX6_init_57 rfl ?_
  refine PW.bipush (v := 81) cx qX6_init_58 rfl ?_
  refine PW.newarrP (N := 81) (tyk := 1) (ty := .byte) (j := 51) (l' := ([.inl (3, [(2, 1), (2, 12), (2, 23), (1, 0), (2, 34), (0, 0), (0, 0), (2, 35), (4, 0), (0, 0)])] ++ arcL 1 ++ arcL 12 ++ arcL 23 ++ [.inr (4, 8, [none, none, none, none, none, none, none, none])] ++ scrL ++ [.inr (1, 81, [])])) cx hR qX6_init_60 rfl ar_byte rfl (fun _ _ h => h) (fun _ => rfl) ⟨rfl, by decide⟩ (by decide) rfl rfl hB (hX0_row (by decide) (by decide)) (Nat.le_of_ble_eq_true rfl) (Nat.le_of_ble_eq_true rfl) ?_
  refine PW.putRefP (ci := 3) (kf := 8) (j := 0) (p := 51) (T := TX6) (N := 10) (ty := (.array .byte)) (l' := ([.inl (3, [(2, 1), (2, 12), (2, 23), (1, 0), (2, 34), (0, 0), (0, 0), (2, 35), (2, 51), (0, 0)])] ++ arcL 1 ++ arcL 12 ++ arcL 23 ++ [.inr (4, 8, [none, none, none, none, none, none, none, none])] ++ scrL ++ [.inr (1, 81, [])])) cx hin qX6_init_62 rfl (by decide) rfl rfl pfX6_33 rfl (by decide +kernel) (fun _ => rfl) (fun _ => rfl) hB rfl (Nat.le_of_ble_eq_true rfl) rfl ?_
  refine PW.iconst (v := 0) cx qX6_init_65 rfl ?_
  refine PW.istore_n (L' := [some (.ref (gB g + (0 + 0))), some (.int 0)]) cx qX6_init_66 hi1 rfl rfl ?_
  refine PW.iload_n cx qX6_init_67 rfl ?_
  refine PW.bipush (v := 8) cx qX6_init_68 rfl ?_
  refine PW.icmp_geF cx qX6_init_70 (by decide) ?_
  refine PW.aload_n cx qX6_init_73 rfl ?_
  refine PW.getf (t := (2, 34)) (v := .ref (gB g + 34)) cx qX6_init_74 (at_app hB (k := 0) rfl) rfl flX6_22 rfl ?_
  refine PW.iload_n cx qX6_init_77 rfl ?_
  refine PW.newP (ci := 0) (N := 18) (T := TX1) (ts := [(0, 0), (0, 0), (0, 0), (0, 0), (0, 0), (0, 0), (4, 0), (4, 0), (4, 0), (4, 0), (4, 0), (4, 0), (0, 0), (4, 0), (4, 0), (0, 0), (4, 0), (4, 0)]) (j := 52) (l' := ([.inl (3, [(2, 1), (2, 12), (2, 23), (1, 0), (2, 34), (0, 0), (0, 0), (2, 35), (2, 51), (0, 0)])] ++ arcL 1 ++ arcL 12 ++ arcL 23 ++ [.inr (4, 8, [none, none, none, none, none, none, none, none])] ++ scrL ++ [.inr (1, 81, []), .inl (0, [(0, 0), (0, 0), (0, 0), (0, 0), (0, 0), (0, 0), (4, 0), (4, 0), (4, 0), (4, 0), (4, 0), (4, 0), (0, 0), (4, 0), (4, 0), (0, 0), (4, 0), (4, 0)])])) cx hR qX6_init_78 nwkX6_9 nwiX1 nwnX1 rfl rfl rfl hB (hX0_row (by decide) (by decide)) tyX1 tyX1_ok rfl (by decide +kernel) (Nat.le_of_ble_eq_true rfl) (Nat.le_of_ble_eq_true rfl) ?_
  refine PW.dup cx qX6_init_81 rfl ?_
  refine PW.callI cx hR qX6_init_82 klX6_11 miX1_init iiX1 rfl rfl (Nat.le_of_ble_eq_true rfl) (Nat.le_of_ble_eq_true rfl) (Nat.le_of_ble_eq_true rfl) (Nat.le_of_ble_eq_true rfl) (Nat.le_of_ble_eq_true rfl) (ctX1_initP (sh0 := []) (B := 52) rfl hX0 (fun k h1 h2 => hX0_row (by omega) (by omega)) (l := ([.inl (3, [(2, 1), (2, 12), (2, 23), (1, 0), (2, 34), (0, 0), (0, 0), (2, 35), (2, 51), (0, 0)])] ++ arcL 1 ++ arcL 12 ++ arcL 23 ++ [.inr (4, 8, [none, none, none, none, none, none, none, none])] ++ scrL ++ [.inr (1, 81, [])]))) (fun o sh1 h1 hp => ?_)
  obtain ⟨rfl, rfl, rfl⟩ := hp
  refine PW.shEq (sh' := [] ++ ([.inl (3, [(2, 1), (2, 12), (2, 23), (1, 0), (2, 34), (0, 0), (0, 0), (2, 35), (2, 51), (0, 0)])] ++ arcL 1 ++ arcL 12 ++ arcL 23 ++ [.inr (4, 8, [none, none, none, none, none, none, none, none])] ++ scrL ++ [.inr (1, 81, [])] ++ arcL 52)) rfl ?_
  refine PW.aastP (j := 34) (p := 52) (i := 0) (ts := _) (l' := ([.inl (3, [(2, 1), (2, 12), (2, 23), (1, 0), (2, 34), (0, 0), (0, 0), (2, 35), (2, 51), (0, 0)])] ++ arcL 1 ++ arcL 12 ++ arcL 23 ++ [.inr (4, 8, [some 52, none, none, none, none, none, none, none])] ++ scrL ++ [.inr (1, 81, [])] ++ arcL 52)) cx qX6_init_85 hB rfl rfl ⟨rfl, by decide, by decide, by decide⟩ rfl ?_
  refine PW.iinc (v := 1) (L' := [some (.ref (gB g + (0 + 0))), some (.int 1)]) cx qX6_init_86 rfl rfl hi1 rfl rfl ?_
  refine PW.goto cx qX6_init_89 ?_
  refine PW.iload_n cx qX6_init_67 rfl ?_
  refine PW.bipush (v := 8) cx qX6_init_68 rfl ?_
  refine PW.icmp_geF cx qX6_init_70 (by decide) ?_
  refine PW.aload_n cx qX6_init_73 rfl ?_
  refine PW.getf (t := (2, 34)) (v := .ref (gB g + 34)) cx qX6_init_74 (at_app hB (k := 0) rfl) rfl flX6_22 rfl ?_
  refine PW.iload_n cx qX6_init_77 rfl ?_
  refine PW.newP (ci := 0) (N := 18) (T := TX1) (ts := [(0, 0), (0, 0), (0, 0), (0, 0), (0, 0), (0, 0), (4, 0), (4, 0), (4, 0), (4, 0), (4, 0), (4, 0), (0, 0), (4, 0), (4, 0), (0, 0), (4, 0), (4, 0)]) (j := 63) (l' := ([.inl (3, [(2, 1), (2, 12), (2, 23), (1, 0), (2, 34), (0, 0), (0, 0), (2, 35), (2, 51), (0, 0)])] ++ arcL 1 ++ arcL 12 ++ arcL 23 ++ [.inr (4, 8, [some 52, none, none, none, none, none, none, none])] ++ scrL ++ [.inr (1, 81, [])] ++ arcL 52 ++ [.inl (0, [(0, 0), (0, 0), (0, 0), (0, 0), (0, 0), (0, 0), (4, 0), (4, 0), (4, 0), (4, 0), (4, 0), (4, 0), (0, 0), (4, 0), (4, 0), (0, 0), (4, 0), (4, 0)])])) cx hR qX6_init_78 nwkX6_9 nwiX1 nwnX1 rfl rfl rfl hB (hX0_row (by decide) (by decide)) tyX1 tyX1_ok rfl (by decide +kernel) (Nat.le_of_ble_eq_true rfl) (Nat.le_of_ble_eq_true rfl) ?_
  refine PW.dup cx qX6_init_81 rfl ?_
  refine PW.callI cx hR qX6_init_82 klX6_11 miX1_init iiX1 rfl rfl (Nat.le_of_ble_eq_true rfl) (Nat.le_of_ble_eq_true rfl) (Nat.le_of_ble_eq_true rfl) (Nat.le_of_ble_eq_true rfl) (Nat.le_of_ble_eq_true rfl) (ctX1_initP (sh0 := []) (B := 63) rfl hX0 (fun k h1 h2 => hX0_row (by omega) (by omega)) (l := ([.inl (3, [(2, 1), (2, 12), (2, 23), (1, 0), (2, 34), (0, 0), (0, 0), (2, 35), (2, 51), (0, 0)])] ++ arcL 1 ++ arcL 12 ++ arcL 23 ++ [.inr (4, 8, [some 52, none, none, none, none, none, none, none])] ++ scrL ++ [.inr (1, 81, [])] ++ arcL 52))) (fun o sh1 h1 hp => ?_)
  obtain ⟨rfl, rfl, rfl⟩ := hp
  refine PW.shEq (sh' := [] ++ ([.inl (3, [(2, 1), (2, 12), (2, 23), (1, 0), (2, 34), (0, 0), (0, 0), (2, 35), (2, 51), (0, 0)])] ++ arcL 1 ++ arcL 12 ++ arcL 23 ++ [.inr (4, 8, [some 52, none, none, none, none, none, none, none])] ++ scrL ++ [.inr (1, 81, [])] ++ arcL 52 ++ arcL 63)) rfl ?_
  refine PW.aastP (j := 34) (p := 63) (i := 1) (ts := _) (l' := ([.inl (3, [(2, 1), (2, 12), (2, 23), (1, 0), (2, 34), (0, 0), (0, 0), (2, 35), (2, 51), (0, 0)])] ++ arcL 1 ++ arcL 12 ++ arcL 23 ++ [.inr (4, 8, [some 52, some 63, none, none, none, none, none, none])] ++ scrL ++ [.inr (1, 81, [])] ++ arcL 52 ++ arcL 63)) cx qX6_init_85 hB rfl rfl ⟨rfl, by decide, by decide, by decide⟩ rfl ?_
  refine PW.iinc (v := 1) (L' := [some (.ref (gB g + (0 + 0))), some (.int 2)]) cx qX6_init_86 rfl rfl hi1 rfl rfl ?_
  refine PW.goto cx qX6_init_89 ?_
  refine PW.iload_n cx qX6_init_67 rfl ?_
  refine PW.bipush (v := 8) cx qX6_init_68 rfl ?_
  refine PW.icmp_geF cx qX6_init_70 (by decide) ?_
  refine PW.aload_n cx qX6_init_73 rfl ?_
  refine PW.getf (t := (2, 34)) (v := .ref (gB g + 34)) cx qX6_init_74 (at_app hB (k := 0) rfl) rfl flX6_22 rfl ?_
  refine PW.iload_n cx qX6_init_77 rfl ?_
  refine PW.newP (ci := 0) (N := 18) (T := TX1) (ts := [(0, 0), (0, 0), (0, 0), (0, 0), (0, 0), (0, 0), (4, 0), (4, 0), (4, 0), (4, 0), (4, 0), (4, 0), (0, 0), (4, 0), (4, 0), (0, 0), (4, 0), (4, 0)]) (j := 74) (l' := ([.inl (3, [(2, 1), (2, 12), (2, 23), (1, 0), (2, 34), (0, 0), (0, 0), (2, 35), (2, 51), (0, 0)])] ++ arcL 1 ++ arcL 12 ++ arcL 23 ++ [.inr (4, 8, [some 52, some 63, none, none, none, none, none, none])] ++ scrL ++ [.inr (1, 81, [])] ++ arcL 52 ++ arcL 63 ++ [.inl (0, [(0, 0), (0, 0), (0, 0), (0, 0), (0, 0), (0, 0), (4, 0), (4, 0), (4, 0), (4, 0), (4, 0), (4, 0), (0, 0), (4, 0), (4, 0), (0, 0), (4, 0), (4, 0)])])) cx hR qX6_init_78 nwkX6_9 nwiX1 nwnX1 rfl rfl rfl hB (hX0_row (by decide) (by decide)) tyX1 tyX1_ok rfl (by decide +kernel) (Nat.le_of_ble_eq_true rfl) (Nat.le_of_ble_eq_true rfl) ?_
  refine PW.dup cx qX6_init_81 rfl ?_
  refine PW.callI cx hR qX6_init_82 klX6_11 miX1_init iiX1 rfl rfl (Nat.le_of_ble_eq_true rfl) (Nat.le_of_ble_eq_true rfl) (Nat.le_of_ble_eq_true rfl) (Nat.le_of_ble_eq_true rfl) (Nat.le_of_ble_eq_true rfl) (ctX1_initP (sh0 := []) (B := 74) rfl hX0 (fun k h1 h2 => hX0_row (by omega) (by omega)) (l := ([.inl (3, [(2, 1), (2, 12), (2, 23), (1, 0), (2, 34), (0, 0), (0, 0), (2, 35), (2, 51), (0, 0)])] ++ arcL 1 ++ arcL 12 ++ arcL 23 ++ [.inr (4, 8, [some 52, some 63, none, none, none, none, none, none])] ++ scrL ++ [.inr (1, 81, [])] ++ arcL 52 ++ arcL 63))) (fun o sh1 h1 hp => ?_)
  obtain ⟨rfl, rfl, rfl⟩ := hp
  refine PW.shEq (sh' := [] ++ ([.inl (3, [(2, 1), (2, 12), (2, 23), (1, 0), (2, 34), (0, 0), (0, 0), (2, 35), (2, 51), (0, 0)])] ++ arcL 1 ++ arcL 12 ++ arcL 23 ++ [.inr (4, 8, [some 52, some 63, none, none, none, none, none, none])] ++ scrL ++ [.inr (1, 81, [])] ++ arcL 52 ++ arcL 63 ++ arcL 74)) rfl ?_
  refine PW.aastP (j := 34) (p := 74) (i := 2) (ts := _) (l' := ([.inl (3, [(2, 1), (2, 12), (2, 23), (1, 0), (2, 34), (0, 0), (0, 0), (2, 35), (2, 51), (0, 0)])] ++ arcL 1 ++ arcL 12 ++ arcL 23 ++ [.inr (4, 8, [some 52, some 63, some 74, none, none, none, none, none])] ++ scrL ++ [.inr (1, 81, [])] ++ arcL 52 ++ arcL 63 ++ arcL 74)) cx qX6_init_85 hB rfl rfl ⟨rfl, by decide, by decide, by decide⟩ rfl ?_
  refine PW.iinc (v := 1) (L' := [some (.ref (gB g + (0 + 0))), some (.int 3)]) cx qX6_init_86 rfl rfl hi1 rfl rfl ?_
  refine PW.goto cx qX6_init_89 ?_
  refine PW.iload_n cx qX6_init_67 rfl ?_
  refine PW.bipush (v := 8) cx qX6_init_68 rfl ?_
  refine PW.icmp_geF cx qX6_init_70 (by decide) ?_
  refine PW.aload_n cx qX6_init_73 rfl ?_
  refine PW.getf (t := (2, 34)) (v := .ref (gB g + 34)) cx qX6_init_74 (at_app hB (k := 0) rfl) rfl flX6_22 rfl ?_
  refine PW.iload_n cx qX6_init_77 rfl ?_
  refine PW.newP (ci := 0) (N := 18) (T := TX1) (ts := [(0, 0), (0, 0), (0, 0), (0, 0), (0, 0), (0, 0), (4, 0), (4, 0), (4, 0), (4, 0), (4, 0), (4, 0), (0, 0), (4, 0), (4, 0), (0, 0), (4, 0), (4, 0)]) (j := 85) (l' := ([.inl (3, [(2, 1), (2, 12), (2, 23), (1, 0), (2, 34), (0, 0), (0, 0), (2, 35), (2, 51), (0, 0)])] ++ arcL 1 ++ arcL 12 ++ arcL 23 ++ [.inr (4, 8, [some 52, some 63, some 74, none, none, none, none, none])] ++ scrL ++ [.inr (1, 81, [])] ++ arcL 52 ++ arcL 63 ++ arcL 74 ++ [.inl (0, [(0, 0), (0, 0), (0, 0), (0, 0), (0, 0), (0, 0), (4, 0), (4, 0), (4, 0), (4, 0), (4, 0), (4, 0), (0, 0), (4, 0), (4, 0), (0, 0), (4, 0), (4, 0)])])) cx hR qX6_init_78 nwkX6_9 nwiX1 nwnX1 rfl rfl rfl hB (hX0_row (by decide) (by decide)) tyX1 tyX1_ok rfl (by decide +kernel) (Nat.le_of_ble_eq_true rfl) (Nat.le_of_ble_eq_true rfl) ?_
  refine PW.dup cx qX6_init_81 rfl ?_
  refine PW.callI cx hR qX6_init_82 klX6_11 miX1_init iiX1 rfl rfl (Nat.le_of_ble_eq_true rfl) (Nat.le_of_ble_eq_true rfl) (Nat.le_of_ble_eq_true rfl) (Nat.le_of_ble_eq_true rfl) (Nat.le_of_ble_eq_true rfl) (ctX1_initP (sh0 := []) (B := 85) rfl hX0 (fun k h1 h2 => hX0_row (by omega) (by omega)) (l := ([.inl (3, [(2, 1), (2, 12), (2, 23), (1, 0), (2, 34), (0, 0), (0, 0), (2, 35), (2, 51), (0, 0)])] ++ arcL 1 ++ arcL 12 ++ arcL 23 ++ [.inr (4, 8, [some 52, some 63, some 74, none, none, none, none, none])] ++ scrL ++ [.inr (1, 81, [])] ++ arcL 52 ++ arcL 63 ++ arcL 74))) (fun o sh1 h1 hp => ?_)
  obtain ⟨rfl, rfl, rfl⟩ := hp
  refine PW.shEq (sh' := [] ++ ([.inl (3, [(2, 1), (2, 12), (2, 23), (1, 0), (2, 34), (0, 0), (0, 0), (2, 35), (2, 51), (0, 0)])] ++ arcL 1 ++ arcL 12 ++ arcL 23 ++ [.inr (4, 8, [some 52, some 63, some 74, none, none, none, none, none])] ++ scrL ++ [.inr (1, 81, [])] ++ arcL 52 ++ arcL 63 ++ arcL 74 ++ arcL 85)) rfl ?_
  refine PW.aastP (j := 34) (p := 85) (i := 3) (ts := _) (l' := ([.inl (3, [(2, 1), (2, 12), (2, 23), (1, 0), (2, 34), (0, 0), (0, 0), (2, 35), (2, 51), (0, 0)])] ++ arcL 1 ++ arcL 12 ++ arcL 23 ++ [.inr (4, 8, [some 52, some 63, some 74, some 85, none, none, none, none])] ++ scrL ++ [.inr (1, 81, [])] ++ arcL 52 ++ arcL 63 ++ arcL 74 ++ arcL 85)) cx qX6_init_85 hB rfl rfl ⟨rfl, by decide, by decide, by decide⟩ rfl ?_
  refine PW.iinc (v := 1) (L' := [some (.ref (gB g + (0 + 0))), some (.int 4)]) cx qX6_init_86 rfl rfl hi1 rfl rfl ?_
  refine PW.goto cx qX6_init_89 ?_
  refine PW.iload_n cx qX6_init_67 rfl ?_
  refine PW.bipush (v := 8) cx qX6_init_68 rfl ?_
  refine PW.icmp_geF cx qX6_init_70 (by decide) ?_
  refine PW.aload_n cx qX6_init_73 rfl ?_
  refine PW.getf (t := (2, 34)) (v := .ref (gB g + 34)) cx qX6_init_74 (at_app hB (k := 0) rfl) rfl flX6_22 rfl ?_
  refine PW.iload_n cx qX6_init_77 rfl ?_
  refine PW.newP (ci := 0) (N := 18) (T := TX1) (ts := [(0, 0), (0, 0), (0, 0), (0, 0), (0, 0), (0, 0), (4, 0), (4, 0), (4, 0), (4, 0), (4, 0), (4, 0), (0, 0), (4, 0), (4, 0), (0, 0), (4, 0), (4, 0)]) (j := 96) (l' := ([.inl (3, [(2, 1), (2, 12), (2, 23), (1, 0), (2, 34), (0, 0), (0, 0), (2, 35), (2, 51), (0, 0)])] ++ arcL 1 ++ arcL 12 ++ arcL 23 ++ [.inr (4, 8, [some 52, some 63, some 74, some 85, none, none, none, none])] ++ scrL ++ [.inr (1, 81, [])] ++ arcL 52 ++ arcL 63 ++ arcL 74 ++ arcL 85 ++ [.inl (0, [(0, 0), (0, 0), (0, 0), (0, 0), (0, 0), (0, 0), (4, 0), (4, 0), (4, 0), (4, 0), (4, 0), (4, 0), (0, 0), (4, 0), (4, 0), (0, 0), (4, 0), (4, 0)])])) cx hR qX6_init_78 nwkX6_9 nwiX1 nwnX1 rfl rfl rfl hB (hX0_row (by decide) (by decide)) tyX1 tyX1_ok rfl (by decide +kernel) (Nat.le_of_ble_eq_true rfl) (Nat.le_of_ble_eq_true rfl) ?_
  refine PW.dup cx qX6_init_81 rfl ?_
  refine PW.callI cx hR qX6_init_82 klX6_11 miX1_init iiX1 rfl rfl (Nat.le_of_ble_eq_true rfl) (Nat.le_of_ble_eq_true rfl) (Nat.le_of_ble_eq_true rfl) (Nat.le_of_ble_eq_true rfl) (Nat.le_of_ble_eq_true rfl) (ctX1_initP (sh0 := []) (B := 96) rfl hX0 (fun k h1 h2 => hX0_row (by omega) (by omega)) (l := ([.inl (3, [(2, 1), (2, 12), (2, 23), (1, 0), (2, 34), (0, 0), (0, 0), (2, 35), (2, 51), (0, 0)])] ++ arcL 1 ++ arcL 12 ++ arcL 23 ++ [.inr (4, 8, [some 52, some 63, some 74, some 85, none, none, none, none])] ++ scrL ++ [.inr (1, 81, [])] ++ arcL 52 ++ arcL 63 ++ arcL 74 ++ arcL 85))) (fun o sh1 h1 hp => ?_)
  obtain ⟨rfl, rfl, rfl⟩ := hp
  refine PW.shEq (sh' := [] ++ ([.inl (3, [(2, 1), (2, 12), (2, 23), (1, 0), (2, 34), (0, 0), (0, 0), (2, 35), (2, 51), (0, 0)])] ++ arcL 1 ++ arcL 12 ++ arcL 23 ++ [.inr (4, 8, [some 52, some 63, some 74, some 85, none, none, none, none])] ++ scrL ++ [.inr (1, 81, [])] ++ arcL 52 ++ arcL 63 ++ arcL 74 ++ arcL 85 ++ arcL 96)) rfl ?_
  refine PW.aastP (j := 34) (p := 96) (i := 4) (ts := _) (l' := ([.inl (3, [(2, 1), (2, 12), (2, 23), (1, 0), (2, 34), (0, 0), (0, 0), (2, 35), (2, 51), (0, 0)])] ++ arcL 1 ++ arcL 12 ++ arcL 23 ++ [.inr (4, 8, [some 52, some 63, some 74, some 85, some 96, none, none, none])] ++ scrL ++ [.inr (1, 81, [])] ++ arcL 52 ++ arcL 63 ++ arcL 74 ++ arcL 85 ++ arcL 96)) cx qX6_init_85 hB rfl rfl ⟨rfl, by decide, by decide, by decide⟩ rfl ?_
  refine PW.iinc (v := 1) (L' := [some (.ref (gB g + (0 + 0))), some (.int 5)]) cx qX6_init_86 rfl rfl hi1 rfl rfl ?_
  refine PW.goto cx qX6_init_89 ?_
  refine PW.iload_n cx qX6_init_67 rfl ?_
  refine PW.bipush (v := 8) cx qX6_init_68 rfl ?_
  refine PW.icmp_geF cx qX6_init_70 (by decide) ?_
  refine PW.aload_n cx qX6_init_73 rfl ?_
  refine PW.getf (t := (2, 34)) (v := .ref (gB g + 34)) cx qX6_init_74 (at_app hB (k := 0) rfl) rfl flX6_22 rfl ?_
  refine PW.iload_n cx qX6_init_77 rfl ?_
  refine PW.newP (ci := 0) (N := 18) (T := TX1) (ts := [(0, 0), (0, 0), (0, 0), (0, 0), (0, 0), (0, 0), (4, 0), (4, 0), (4, 0), (4, 0), (4, 0), (4, 0), (0, 0), (4, 0), (4, 0), (0, 0), (4, 0), (4, 0)]) (j := 107) (l' := ([.inl (3, [(2, 1), (2, 12), (2, 23), (1, 0), (2, 34), (0, 0), (0, 0), (2, 35), (2, 51), (0, 0)])] ++ arcL 1 ++ arcL 12 ++ arcL 23 ++ [.inr (4, 8, [some 52, some 63, some 74, some 85, some 96, none, none, none])] ++ scrL ++ [.inr (1, 81, [])] ++ arcL 52 ++ arcL 63 ++ arcL 74 ++ arcL 85 ++ arcL 96 ++ [.inl (0, [(0, 0), (0, 0), (0, 0), (0, 0), (0, 0), (0, 0), (4, 0), (4, 0), (4, 0), (4, 0), (4, 0), (4, 0), (0, 0), (4, 0), (4, 0), (0, 0), (4, 0), (4, 0)])])) cx hR qX6_init_78 nwkX6_9 nwiX1 nwnX1 rfl rfl rfl hB (hX0_row (by decide) (by decide)) tyX1 tyX1_ok rfl (by decide +kernel) (Nat.le_of_ble_eq_true rfl) (Nat.le_of_ble_eq_true rfl) ?_
  refine PW.dup cx qX6_init_81 rfl ?_
  refine PW.callI cx hR qX6_init_82 klX6_11 miX1_init iiX1 rfl rfl (Nat.le_of_ble_eq_true rfl) (Nat.le_of_ble_eq_true rfl) (Nat.le_of_ble_eq_true rfl) (Nat.le_of_ble_eq_true rfl) (Nat.le_of_ble_eq_true rfl) (ctX1_initP (sh0 := []) (B := 107) rfl hX0 (fun k h1 h2 => hX0_row (by omega) (by omega)) (l := ([.inl (3, [(2, 1), (2, 12), (2, 23), (1, 0), (2, 34), (0, 0), (0, 0), (2, 35), (2, 51), (0, 0)])] ++ arcL 1 ++ arcL 12 ++ arcL 23 ++ [.inr (4, 8, [some 52, some 63, some 74, some 85, some 96, none, none, none])] ++ scrL ++ [.inr (1, 81, [])] ++ arcL 52 ++ arcL 63 ++ arcL 74 ++ arcL 85 ++ arcL 96))) (fun o sh1 h1 hp => ?_)
  obtain ⟨rfl, rfl, rfl⟩ := hp
  refine PW.shEq (sh' := [] ++ ([.inl (3, [(2, 1), (2, 12), (2, 23), (1, 0), (2, 34), (0, 0), (0, 0), (2, 35), (2, 51), (0, 0)])] ++ arcL 1 ++ arcL 12 ++ arcL 23 ++ [.inr (4, 8, [some 52, some 63, some 74, some 85, some 96, none, none, none])] ++ scrL ++ [.inr (1, 81, [])] ++ arcL 52 ++ arcL 63 ++ arcL 74 ++ arcL 85 ++ arcL 96 ++ arcL 107)) rfl ?_
  refine PW.aastP (j := 34) (p := 107) (i := 5) (ts := _) (l' := ([.inl (3, [(2, 1), (2, 12), (2, 23), (1, 0), (2, 34), (0, 0), (0, 0), (2, 35), (2, 51), (0, 0)])] ++ arcL 1 ++ arcL 12 ++ arcL 23 ++ [.inr (4, 8, [some 52, some 63, some 74, some 85, some 96, some 107, none, none])] ++ scrL ++ [.inr (1, 81, [])] ++ arcL 52 ++ arcL 63 ++ arcL 74 ++ arcL 85 ++ arcL 96 ++ arcL 107)) cx qX6_init_85 hB rfl rfl ⟨rfl, by decide, by decide, by decide⟩ rfl ?_
  refine PW.iinc (v := 1) (L' := [some (.ref (gB g + (0 + 0))), some (.int 6)]) cx qX6_init_86 rfl rfl hi1 rfl rfl ?_
  refine PW.goto cx qX6_init_89 ?_
  refine PW.iload_n cx qX6_init_67 rfl ?_
  refine PW.bipush (v := 8) cx qX6_init_68 rfl ?_
  refine PW.icmp_geF cx qX6_init_70 (by decide) ?_
  refine PW.aload_n cx qX6_init_73 rfl ?_
  refine PW.getf (t := (2, 34)) (v := .ref (gB g + 34)) cx qX6_init_74 (at_app hB (k := 0) rfl) rfl flX6_22 rfl ?_
  refine PW.iload_n cx qX6_init_77 rfl ?_
  refine PW.newP (ci := 0) (N := 18) (T := TX1) (ts := [(0, 0), (0, 0), (0, 0), (0, 0), (0, 0), (0, 0), (4, 0), (4, 0), (4, 0), (4, 0), (4, 0), (4, 0), (0, 0), (4, 0), (4, 0), (0, 0), (4, 0), (4, 0)]) (j := 118) (l' := ([.inl (3, [(2, 1), (2, 12), (2, 23), (1, 0), (2, 34), (0, 0), (0, 0), (2, 35), (2, 51), (0, 0)])] ++ arcL 1 ++ arcL 12 ++ arcL 23 ++ [.inr (4, 8, [some 52, some 63, some 74, some 85, some 96, some 107, none, none])] ++ scrL ++ [.inr (1, 81, [])] ++ arcL 52 ++ arcL 63 ++ arcL 74 ++ arcL 85 ++ arcL 96 ++ arcL 107 ++ [.inl (0, [(0, 0), (0, 0), (0, 0), (0, 0), (0, 0), (0, 0), (4, 0), (4, 0), (4, 0), (4, 0), (4, 0), (4, 0), (0, 0), (4, 0), (4, 0), (0, 0), (4, 0), (4, 0)])])) cx hR qX6_init_78 nwkX6_9 nwiX1 nwnX1 rfl rfl rfl hB (hX0_row (by decide) (by decide)) tyX1 tyX1_ok rfl (by decide +kernel) (Nat.le_of_ble_eq_true rfl) (Nat.le_of_ble_eq_true rfl) ?_
  refine PW.dup cx qX6_init_81 rfl ?_
  refine PW.callI cx hR qX6_init_82 klX6_11 miX1_init iiX1 rfl rfl (Nat.le_of_ble_eq_true rfl) (Nat.le_of_ble_eq_true rfl) (Nat.le_of_ble_eq_true rfl) (Nat.le_of_ble_eq_true rfl) (Nat.le_of_ble_eq_true rfl) (ctX1_initP (sh0 := []) (B := 118) rfl hX0 (fun k h1 h2 => hX0_row (by omega) (by omega)) (l := ([.inl (3, [(2, 1), (2, 12), (2, 23), (1, 0), (2, 34), (0, 0), (0, 0), (2, 35), (2, 51), (0, 0)])] ++ arcL 1 ++ arcL 12 ++ arcL 23 ++ [.inr (4, 8, [some 52, some 63, some 74, some 85, some 96, some 107, none, none])] ++ scrL ++ [.inr (1, 81, [])] ++ arcL 52 ++ arcL 63 ++ arcL 74 ++ arcL 85 ++ arcL 96 ++ arcL 107))) (fun o sh1 h1 hp => ?_)
  obtain ⟨rfl, rfl, rfl⟩ := hp
  refine PW.shEq (sh' := [] ++ ([.inl (3, [(2, 1), (2, 12), (2, 23), (1, 0), (2, 34), (0, 0), (0, 0), (2, 35), (2, 51), (0, 0)])] ++ arcL 1 ++ arcL 12 ++ arcL 23 ++ [.inr (4, 8, [some 52, some 63, some 74, some 85, some 96, some 107, none, none])] ++ scrL ++ [.inr (1, 81, [])] ++ arcL 52 ++ arcL 63 ++ arcL 74 ++ arcL 85 ++ arcL 96 ++ arcL 107 ++ arcL 118)) rfl ?_
  refine PW.aastP (j := 34) (p := 118) (i := 6) (ts := _) (l' := ([.inl (3, [(2, 1), (2, 12), (2, 23), (1, 0), (2, 34), (0, 0), (0, 0), (2, 35), (2, 51), (0, 0)])] ++ arcL 1 ++ arcL 12 ++ arcL 23 ++ [.inr (4, 8, [some 52, some 63, some 74, some 85, some 96, some 107, some 118, none])] ++ scrL ++ [.inr (1, 81, [])] ++ arcL 52 ++ arcL 63 ++ arcL 74 ++ arcL 85 ++ arcL 96 ++ arcL 107 ++ arcL 118)) cx qX6_init_85 hB rfl rfl ⟨rfl, by decide, by decide, by decide⟩ rfl ?_
  refine PW.iinc (v := 1) (L' := [some (.ref (gB g + (0 + 0))), some (.int 7)]) cx qX6_init_86 rfl rfl hi1 rfl rfl ?_
  refine PW.goto cx qX6_init_89 ?_
  refine PW.iload_n cx qX6_init_67 rfl ?_
  refine PW.bipush (v := 8) cx qX6_init_68 rfl ?_
  refine PW.icmp_geF cx qX6_init_70 (by decide) ?_
  refine PW.aload_n cx qX6_init_73 rfl ?_
  refine PW.getf (t := (2, 34)) (v := .ref (gB g + 34)) cx qX6_init_74 (at_app hB (k := 0) rfl) rfl flX6_22 rfl ?_
  refine PW.iload_n cx qX6_init_77 rfl ?_
  refine PW.newP (ci := 0) (N := 18) (T := TX1) (ts := [(0, 0), (0, 0), (0, 0), (0, 0), (0, 0), (0, 0), (4, 0), (4, 0), (4, 0), (4, 0), (4, 0), (4, 0), (0, 0), (4, 0), (4, 0), (0, 0), (4, 0), (4, 0)]) (j := 129) (l' := ([.inl (3, [(2, 1), (2, 12), (2, 23), (1, 0), (2, 34), (0, 0), (0, 0), (2, 35), (2, 51), (0, 0)])] ++ arcL 1 ++ arcL 12 ++ arcL 23 ++ [.inr (4, 8, [some 52, some 63, some 74, some 85, some 96, some 107, some 118, none])] ++ scrL ++ [.inr (1, 81, [])] ++ arcL 52 ++ arcL 63 ++ arcL 74 ++ arcL 85 ++ arcL 96 ++ arcL 107 ++ arcL 118 ++ [.inl (0, [(0, 0), (0, 0), (0, 0), (0, 0), (0, 0), (0, 0), (4, 0), (4, 0), (4, 0), (4, 0), (4, 0), (4, 0), (0, 0), (4, 0), (4, 0), (0, 0), (4, 0), (4, 0)])])) cx hR qX6_init_78 nwkX6_9 nwiX1 nwnX1 rfl rfl rfl hB (hX0_row (by decide) (by decide)) tyX1 tyX1_ok rfl (by decide +kernel) (Nat.le_of_ble_eq_true rfl) (Nat.le_of_ble_eq_true rfl) ?_
  refine PW.dup cx qX6_init_81 rfl ?_
  refine PW.callI cx hR qX6_init_82 klX6_11 miX1_init iiX1 rfl rfl (Nat.le_of_ble_eq_true rfl) (Nat.le_of_ble_eq_true rfl) (Nat.le_of_ble_eq_true rfl) (Nat.le_of_ble_eq_true rfl) (Nat.le_of_ble_eq_true rfl) (ctX1_initP (sh0 := []) (B := 129) rfl hX0 (fun k h1 h2 => hX0_row (by omega) (by omega)) (l := ([.inl (3, [(2, 1), (2, 12), (2, 23), (1, 0), (2, 34), (0, 0), (0, 0), (2, 35), (2, 51), (0, 0)])] ++ arcL 1 ++ arcL 12 ++ arcL 23 ++ [.inr (4, 8, [some 52, some 63, some 74, some 85, some 96, some 107, some 118, none])] ++ scrL ++ [.inr (1, 81, [])] ++ arcL 52 ++ arcL 63 ++ arcL 74 ++ arcL 85 ++ arcL 96 ++ arcL 107 ++ arcL 118))) (fun o sh1 h1 hp => ?_)
  obtain ⟨rfl, rfl, rfl⟩ := hp
  refine PW.shEq (sh' := [] ++ ([.inl (3, [(2, 1), (2, 12), (2, 23), (1, 0), (2, 34), (0, 0), (0, 0), (2, 35), (2, 51), (0, 0)])] ++ arcL 1 ++ arcL 12 ++ arcL 23 ++ [.inr (4, 8, [some 52, some 63, some 74, some 85, some 96, some 107, some 118, none])] ++ scrL ++ [.inr (1, 81, [])] ++ arcL 52 ++ arcL 63 ++ arcL 74 ++ arcL 85 ++ arcL 96 ++ arcL 107 ++ arcL 118 ++ arcL 129)) rfl ?_
  refine PW.aastP (j := 34) (p := 129) (i := 7) (ts := _) (l' := ([.inl (3, [(2, 1), (2, 12), (2, 23), (1, 0), (2, 34), (0, 0), (0, 0), (2, 35), (2, 51), (0, 0)])] ++ arcL 1 ++ arcL 12 ++ arcL 23 ++ [.inr (4, 8, [some 52, some 63, some 74, some 85, some 96, some 107, some 118, some 129])] ++ scrL ++ [.inr (1, 81, [])] ++ arcL 52 ++ arcL 63 ++ arcL 74 ++ arcL 85 ++ arcL 96 ++ arcL 107 ++ arcL 118 ++ arcL 129)) cx qX6_init_85 hB rfl rfl ⟨rfl, by decide, by decide, by decide⟩ rfl ?_
  refine PW.iinc (v := 1) (L' := [some (.ref (gB g + (0 + 0))), some (.int 8)]) cx qX6_init_86 rfl rfl hi1 rfl rfl ?_
  refine PW.goto cx qX6_init_89 ?_
  refine PW.iload_n cx qX6_init_67 rfl ?_
  refine PW.bipush (v := 8) cx qX6_init_68 rfl ?_
  refine PW.icmp_geT cx qX6_init_70 (by decide) ?_
  refine PW.shEq (sh' := shX) rfl ?_
  have hx : XSh shX := fun _ _ h => h
  refine PW.locs (L' := [some (.ref (gB g + 0)), none]) (Lsub.keep (Lsub.drop Lsub.nil)) ?_
  unfold C_init at hf
  refine PW.aload_n cx qX6_init_92 rfl ?_
  refine PW.getf (t := (2, 35)) (v := .ref (gB g + 35)) cx qX6_init_93 (sh_0 hx) rfl flX6_29 rfl ?_
  refine PW.getf (t := (2, 47)) (v := .ref (gB g + 47)) cx qX6_init_96 (sh_35 hx) rfl flX6_37 rfl ?_
  refine PW.ldcS (v := 113) cx qX6_init_99 ksX6_41 ?_
  refine PW.callVWV (As := [.ref (ga g (113 : Int32).toNatClampNeg)]) (st := []) cx hR qX6_init_101 klX6_43 mvX4_addSigns (sh_47 hx) rfl rfl rfl rfl (Nat.le_of_ble_eq_true rfl) (Nat.le_of_ble_eq_true rfl) (Nat.le_of_ble_eq_true rfl) (Nat.le_of_ble_eq_true rfl) (Nat.le_of_ble_eq_true rfl) hf sne (fun t e => ctX4_addSigns hx hX0 113 t e) (fun h2 hf => ?_)
  refine PW.aload_n cx qX6_init_104 rfl ?_
  refine PW.getf (t := (2, 35)) (v := .ref (gB g + 35)) cx qX6_init_105 (sh_0 hx) rfl flX6_29 rfl ?_
  refine PW.callVWV (As := []) (st := []) cx hR qX6_init_108 klX6_49 mvX3_run (sh_35 hx) rfl rfl rfl rfl (Nat.le_of_ble_eq_true rfl) (Nat.le_of_ble_eq_true rfl) (Nat.le_of_ble_eq_true rfl) (Nat.le_of_ble_eq_true rfl) (Nat.le_of_ble_eq_true rfl) hf sne (fun t e => ctX3_run hx h2 t e) (fun h4 hf => ?_)
  refine PW.aload_n cx qX6_init_111 rfl ?_
  refine PW.getf (t := (2, 1)) (v := .ref (gB g + 1)) cx qX6_init_112 (sh_0 hx) rfl flX6_12 rfl ?_
  refine PW.aload_n cx qX6_init_115 rfl ?_
  refine PW.getf (t := (2, 35)) (v := .ref (gB g + 35)) cx qX6_init_116 (sh_0 hx) rfl flX6_29 rfl ?_
  refine PW.getf (t := (2, 36)) (v := .ref (gB g + 36)) cx qX6_init_119 (sh_35 hx) rfl flX6_52 rfl ?_
  refine PW.callVWV (As := [.ref (gB g + 36)]) (st := []) cx hR qX6_init_122 klX6_55 mvX1_copyFrom (as_1 hx).1 rfl rfl rfl rfl (Nat.le_of_ble_eq_true rfl) (Nat.le_of_ble_eq_true rfl) (Nat.le_of_ble_eq_true rfl) (Nat.le_of_ble_eq_true rfl) (Nat.le_of_ble_eq_true rfl) hf sne (fun t e => ctX1_copyFrom (as_1 hx) (as_36 hx) h4 t e) (fun h6 hf => ?_)
  exact PW.vret cx hrt qX6_init_125 (le_wv hf)
