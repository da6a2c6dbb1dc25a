/-! ===== the world at the law's start ===== -/
def stRep : List (String × Nat) := [("ClipHibernation$Command", 64), ("ClipHibernation$Command", 70), ("ClipHibernation$Command", 73), ("ClipHibernation$Command", 76), ("ClipHibernation$Command", 79), ("ClipHibernation$Command", 82), ("ClipHibernation$Command", 85), ("ClipHibernation$Command", 88), ("ClipHibernation$Command", 91), ("ClipHibernation$Command", 94), ("ClipHibernation$Command", 97), ("ClipHibernation$Command", 100), ("ClipHibernation$Script", 86), ("ClipHibernation", 41), ("ClipHibernation", 41), ("ClipHibernation", 41)]
def stTm (i : Nat) : Term := .string (stRep.getD i ("", 0)).1 (stRep.getD i ("", 0)).2
theorem va_En.as {E d : String} {nm : List String} {F : List (String × String × String × List Int32)} {ad ad' : Nat → Nat} {A : Nat → Prop} {U : State} {H : Heap} (h : va_En E d nm F ad A U H) (e : ∀ i, i < nm.length → ad' i = ad i) : va_En E d nm F ad' A U H :=
  ⟨fun i hi => by rw [e i hi]; exact h.1 i hi, fun i j hi hj q => h.2 i j hi hj (by rw [← e i hi, ← e j hj]; exact q)⟩
theorem vk_S.as {len : List Nat} {byt : List (List Int32)} {adK adV adK' adV' : Nat → Nat} {A : Nat → Prop} {U : State} {H : Heap} (h : vk_S 1 len byt adK adV A U H) (e1 : adK' 0 = adK 0) (e2 : adV' 0 = adV 0) : vk_S 1 len byt adK' adV' A U H := by
  refine ⟨fun i hi => ?_, fun i j hi hj _ => by omega⟩
  have h0 : i = 0 := by omega
  subst h0
  rw [e1, e2]
  exact h.1 0 (by omega)
def flat1 : List Cond := flatC (Jvm.Cond.and given_1 narrow_1)
theorem fx {c : Cond} (n : Nat) (h : flat1[n]? = some c) : c ∈ flat1 := List.mem_of_getElem? h
theorem va_Tas {ty : FieldType} {t N : Nat} {f f' : Nat → Value} {A : Nat → Prop} {U : State} {H : Heap} (h : va_T ty t N f A U H) (e : ∀ j, j < N → f' j = f j) : va_T ty t N f' A U H := by
  obtain ⟨cell, h1, h2, h3, h4, h5, h6, h7⟩ := h
  exact ⟨cell, h1, h2, h3, h4, h5, fun j hj => by rw [e j hj]; exact h6 j hj, h7⟩
section St0
variable {args : Array Value} {s : State}
theorem st_arr {ty : FieldType} (hra : ∀ (U : State) (c : ClassId), U.vm.findClass ("[" ++ ty.toString) = some c → va_RA U c ty) (h : (Cond.arrayClass ty).before args s = true) : ∃ c : ClassId, ArrOfT s c ty ∧ va_RA s c ty := by
  obtain ⟨c, k, comp, h1, h2, h3⟩ := Cond.arrayClass_spec h
  exact ⟨c, fun N z => ⟨(fun k h => by cases h), k, h2, comp, h3⟩, hra s c h1⟩
theorem st_arrO (h : (Cond.arrayOver (.object RX1)).before args s = true) : ∃ c : ClassId, ArrOfT s c (.object RX1) ∧ va_RA s c (.object RX1) := by
  obtain ⟨comp, c, k, h1, -, h2, h3, h4⟩ := Cond.arrayOver_spec h
  exact ⟨c, fun N z => ⟨(fun k h => by cases h), k, h2, comp, h3⟩, k, comp, h2, h3, h1, h4⟩
theorem st_eq {a b : Term} {v : Value} (h : (Cond.eq a b).before args s = true) (hb : b.eval args s none [] s = some v) : a.eval args s none [] s = some v := by
  obtain ⟨y, h1, h2⟩ := Cond.eq_one h
  rw [h1, ← h2, hb]
theorem st_eqi {a : Term} {v : Int32} (h : (Cond.eq a (.int v)).before args s = true) : a.eval args s none [] s = some (.int v) := st_eq h rfl
theorem st_ex {t : Term} {cls : String} (h : (Cond.exactly t cls).before args s = true) : ∃ a : Nat, t.eval args s none [] s = some (.ref a) := by
  obtain ⟨a, c, cell, k, h1, -⟩ := Cond.exactly_spec h
  exact ⟨a, h1⟩
theorem evOf {E n d : String} {a : Nat} {A : Nat → Prop} (hx : (Cond.exactly (.static E n d) E).before args s = true) (h : va_Z E n d (.ref a) A s s.heap) : (Term.static E n d).eval args s none [] s = some (.ref a) := by
  obtain ⟨b, hb⟩ := st_ex hx
  obtain ⟨cf, kf, fi, f, q, cell, h1, h2, h3, h4, h5, h6, h7, h8⟩ := h
  simp [Term.eval, State.fieldNamed?, h1, h2, h4, h5, h6, h7] at hb ⊢
theorem st_str {own : String} {k : Nat} {v : Value} (h : (Term.string own k).eval args s none [] s = some v) : (Term.string own k).eval #[] s none [] s = some v := h
end St0
theorem not_of_ord {args : Array Value} {s : State} {a b : Term} {c n d : String} {x y : Int32} (ha : (Cond.eq (.field a c n d) (.int x)).before args s = true) (hb : (Cond.eq (.field b c n d) (.int y)).before args s = true) (hne : x ≠ y) (ea : ∃ v : Nat, a.eval args s none [] s = some (.ref v)) (eb : ∃ w : Nat, b.eval args s none [] s = some (.ref w)) : (Cond.not (.eq a b)).before args s = true := by
  obtain ⟨v, hv⟩ := ea
  obtain ⟨w, hw⟩ := eb
  have e1 := st_eqi ha
  have e2 := st_eqi hb
  rw [Cond.before_iff]
  have h3 : (Cond.eq a b).value args s none s [] = some (decide (v = w)) := by simp [Cond.value, hv, hw]
  have h4 : v ≠ w := fun q => by
    subst q
    have : (Term.field a c n d).eval args s none [] s = (Term.field b c n d).eval args s none [] s := by simp only [Term.eval, hv, hw]
    rw [e1, e2] at this
    cases this
    exact hne rfl
  simp [Cond.value, hv, hw, h4]
set_option maxRecDepth 100000 in
set_option maxHeartbeats 4000000 in
theorem start_GS {l : Launch} {s : State} {args : Array Value} (hts : ∀ w ∈ lw_tbl, w.before args s = true) (hgv : (Jvm.Cond.and given_1 narrow_1).before args s = true) {b L : Nat} {xs : Nat → Int32} (hX : va_X b L xs s s.heap) (hbl : b < s.heap.size) (hl : l.stackTraces = false) : ∃ (dG : va_G) (cG : Nat → ClassId) (aG : Nat → Nat), GS (l, s.heap.size, dG, cG, aG) s ∧ aG 60 = b ∧ aG 61 = L ∧ ∀ j, nI (aG (1000 + j)) = xs j := by
  have hf : ∀ c ∈ flat1, c.before args s = true := flat_of_before _ hgv
  have tt : ∀ {w : Cond}, w ∈ TG → w.before args s = true := fun h => hts _ (List.mem_filter.mp h).1
  obtain ⟨A, hAe⟩ : ∃ A : Nat → Prop, A = fun q => s.heap.size ≤ q := ⟨_, rfl⟩
  have hA : ∀ a : Nat, a < s.heap.size → ¬ A a := fun a h q => by rw [hAe] at q; exact Nat.not_le.mpr h q
  obtain ⟨c0, i0, k0⟩ := u_known (C := RX1) (T := TX1) (N := 18) (n := 18) hts (fun w hw => (List.mem_filter.mp (in_1 w hw)).1) (hts (.instantiable RX1 18) (by decide +kernel))
  obtain ⟨c1, i1, k1⟩ := u_known (C := RX3) (T := TX3) (N := 11) (n := 11) hts (fun w hw => (List.mem_filter.mp (in_3 w hw)).1) (hts (.instantiable RX3 11) (by decide +kernel))
  obtain ⟨c2, i2, k2⟩ := u_known (C := RX4) (T := TX4) (N := 7) (n := 7) hts (fun w hw => (List.mem_filter.mp (in_4 w hw)).1) (hts (.instantiable RX4 7) (by decide +kernel))
  obtain ⟨c3, i3, k3⟩ := u_known (C := RX6) (T := TX6) (N := 10) (n := 10) hts (fun w hw => (List.mem_filter.mp (in_6 w hw)).1) (hts (.instantiable RX6 10) (by decide +kernel))
  obtain ⟨dC, dI, hKc⟩ : ∃ (dC : Nat → ClassId) (dI : Nat → Nat → Nat), ∀ (k : Nat) (q : vw_C), clX[k]? = some q → u_Kn s q.1 q.2.1 q.2.2 (dC k) (dI k) := by
    refine ⟨fun k => match k with | 0 => c0 | 1 => c1 | 2 => c2 | _ => c3, fun k => match k with | 0 => i0 | 1 => i1 | 2 => i2 | _ => i3, ?_⟩
    intro k q hq
    match k, hq with
    | 0, hq => cases hq; exact k0
    | 1, hq => cases hq; exact k1
    | 2, hq => cases hq; exact k2
    | 3, hq => cases hq; exact k3
    | k + 4, hq => simp [clX] at hq
  obtain ⟨g0, gA0, gR0⟩ := st_arr (ty := .int) (fun _ _ h => h) (hts (.arrayClass .int) (by decide +kernel))
  obtain ⟨g1, gA1, gR1⟩ := st_arr (ty := .byte) (fun _ _ h => h) (hts (.arrayClass .byte) (by decide +kernel))
  obtain ⟨g4, gA4, gR4⟩ := st_arrO (hts (.arrayOver (.object RX1)) (by decide +kernel))
  have hcl : ∀ i, i < 12 → (Cond.laysStatic RX2 (cmdNm.getD i "") "LClipHibernation$Command;").before args s = true := fun i hi => hts _ (by
    have h : ∀ i, i < 12 → Cond.laysStatic RX2 (cmdNm.getD i "") "LClipHibernation$Command;" ∈ lw_tbl := by decide +kernel
    exact h i hi)
  have hcx : ∀ i, i < 12 → (Cond.exactly (.static RX2 (cmdNm.getD i "") "LClipHibernation$Command;") RX2).before args s = true := fun i hi => hf _ (by
    have h : ∀ i, i < 12 → flat1[([60, 64, 68, 72, 76, 80, 84, 88, 91, 94, 97, 40] : List Nat).getD i 0]? = some (Cond.exactly (.static RX2 (cmdNm.getD i "") "LClipHibernation$Command;") RX2) := by decide +kernel
    exact fx _ (h i hi))
  have hco : ∀ i, i < 12 → (Cond.eq (.field (.static RX2 (cmdNm.getD i "") "LClipHibernation$Command;") "java/lang/Enum" "ordinal" "I") (.int (([0, 1, 2, 3, 4, 5, 6, 7, 8, 9, 10, 11] : List Int32).getD i 0))).before args s = true := fun i hi => hf _ (by
    have h : ∀ i, i < 12 → flat1[([61, 65, 69, 73, 77, 81, 85, 89, 92, 95, 98, 41] : List Nat).getD i 0]? = some (Cond.eq (.field (.static RX2 (cmdNm.getD i "") "LClipHibernation$Command;") "java/lang/Enum" "ordinal" "I") (.int (([0, 1, 2, 3, 4, 5, 6, 7, 8, 9, 10, 11] : List Int32).getD i 0))) := by decide +kernel
    exact fx _ (h i hi))
  have hcd : ∀ i j, i < 12 → j < 12 → i ≠ j → (Cond.not (.eq (.static RX2 (cmdNm.getD i "") "LClipHibernation$Command;") (.static RX2 (cmdNm.getD j "") "LClipHibernation$Command;"))).before args s = true ∨ (Cond.not (.eq (.static RX2 (cmdNm.getD j "") "LClipHibernation$Command;") (.static RX2 (cmdNm.getD i "") "LClipHibernation$Command;"))).before args s = true := by
    have h : ∀ i, i < 12 → ∀ j, j < 12 → i ≠ j → ([0, 1, 2, 3, 4, 5, 6, 7, 8, 9, 10, 11] : List Int32).getD i 0 ≠ ([0, 1, 2, 3, 4, 5, 6, 7, 8, 9, 10, 11] : List Int32).getD j 0 := by decide +kernel
    exact fun i j hi hj hn => Or.inl (not_of_ord (hco i hi) (hco j hj) (h i hi j hj hn) (st_ex (hcx i hi)) (st_ex (hcx j hj)))
  obtain ⟨adC, eC⟩ := va_Enof (nm := cmdNm) (F := cmdF) (E := RX2) (d := "LClipHibernation$Command;") (A := A) hcl (hts (.initialized RX2) (by decide +kernel)) hcx (fun q hq i hi => by
    rcases List.mem_cons.mp hq with rfl | hq
    · exact hco i hi
    · exact absurd hq List.not_mem_nil) hcd hA
  have htl : ∀ i, i < 7 → (Cond.laysStatic RX5 (tokNm.getD i "") "LClipHibernation$Token;").before args s = true := fun i hi => hts _ (by
    have h : ∀ i, i < 7 → Cond.laysStatic RX5 (tokNm.getD i "") "LClipHibernation$Token;" ∈ lw_tbl := by decide +kernel
    exact h i hi)
  have htx : ∀ i, i < 7 → (Cond.exactly (.static RX5 (tokNm.getD i "") "LClipHibernation$Token;") RX5).before args s = true := fun i hi => hf _ (by
    have h : ∀ i, i < 7 → flat1[([11, 15, 17, 19, 21, 4, 13] : List Nat).getD i 0]? = some (Cond.exactly (.static RX5 (tokNm.getD i "") "LClipHibernation$Token;") RX5) := by decide +kernel
    exact fx _ (h i hi))
  have hto : ∀ i, i < 7 → (Cond.eq (.field (.static RX5 (tokNm.getD i "") "LClipHibernation$Token;") "java/lang/Enum" "ordinal" "I") (.int (([0, 1, 2, 3, 4, 5, 6] : List Int32).getD i 0))).before args s = true := fun i hi => hf _ (by
    have h : ∀ i, i < 7 → flat1[([12, 16, 18, 20, 22, 5, 14] : List Nat).getD i 0]? = some (Cond.eq (.field (.static RX5 (tokNm.getD i "") "LClipHibernation$Token;") "java/lang/Enum" "ordinal" "I") (.int (([0, 1, 2, 3, 4, 5, 6] : List Int32).getD i 0))) := by decide +kernel
    exact fx _ (h i hi))
  have htd : ∀ i j, i < 7 → j < 7 → i ≠ j → (Cond.not (.eq (.static RX5 (tokNm.getD i "") "LClipHibernation$Token;") (.static RX5 (tokNm.getD j "") "LClipHibernation$Token;"))).before args s = true ∨ (Cond.not (.eq (.static RX5 (tokNm.getD j "") "LClipHibernation$Token;") (.static RX5 (tokNm.getD i "") "LClipHibernation$Token;"))).before args s = true := by
    have h : ∀ i, i < 7 → ∀ j, j < 7 → i ≠ j → ([0, 1, 2, 3, 4, 5, 6] : List Int32).getD i 0 ≠ ([0, 1, 2, 3, 4, 5, 6] : List Int32).getD j 0 := by decide +kernel
    exact fun i j hi hj hn => Or.inl (not_of_ord (hto i hi) (hto j hj) (h i hi j hj hn) (st_ex (htx i hi)) (st_ex (htx j hj)))
  obtain ⟨adT, eT⟩ := va_Enof (nm := tokNm) (F := []) (E := RX5) (d := "LClipHibernation$Token;") (A := A) htl (hts (.initialized RX5) (by decide +kernel)) htx (fun q hq => absurd hq List.not_mem_nil) htd hA
  have evC : ∀ i, i < 12 → (Term.static RX2 (cmdNm.getD i "") "LClipHibernation$Command;").eval args s none [] s = some (.ref (adC i)) := fun i hi => evOf (hcx i hi) (eC.1 i hi).1
  obtain ⟨adS, adV, hS⟩ : ∃ adS adV : Nat → Nat, ∀ i : Nat, i < 16 → vk_S 1 [sx_len.getD i 0] [sx_byt.getD i []] (fun _ => adS i) (fun _ => adV i) A s s.heap ∧ (stTm i).eval args s none [] s = some (.ref (adS i)) := by
    have hx : ∀ i, i < 16 → flat1[([478, 486, 494, 503, 512, 520, 527, 534, 542, 550, 559, 468, 273, 100, 100, 100] : List Nat).getD i 0]? = some (Cond.exactly (stTm i) "java/lang/String") := by decide +kernel
    have hc : ∀ i, i < 16 → flat1[([479, 487, 495, 504, 513, 521, 528, 535, 543, 551, 560, 469, 274, 101, 101, 101] : List Nat).getD i 0]? = some (Cond.eq (.field (stTm i) "java/lang/String" "coder" "B") (.int 0)) := by decide +kernel
    have ha : ∀ i, i < 16 → flat1[([480, 488, 496, 505, 514, 522, 529, 536, 544, 552, 561, 470, 275, 102, 102, 102] : List Nat).getD i 0]? = some (Cond.arrayOf (.field (stTm i) "java/lang/String" "value" "[B") .byte) := by decide +kernel
    have hn : ∀ i, i < 16 → flat1[([481, 489, 497, 506, 515, 523, 530, 537, 545, 553, 562, 471, 276, 103, 103, 103] : List Nat).getD i 0]? = some (Cond.eq (.length (.field (stTm i) "java/lang/String" "value" "[B")) (.int (Int32.ofNat (sx_len.getD i 0)))) := by decide +kernel
    have he : ∀ i, i < 16 → ∀ j, j < sx_len.getD i 0 → flat1[(([[482, 483, 484, 485], [490, 491, 492, 493], [498, 499, 500, 501, 502], [507, 508, 509, 510, 511], [516, 517, 518, 519], [524, 525, 526], [531, 532, 533], [538, 539, 540, 541], [546, 547, 548, 549], [554, 555, 556, 557, 558], [563, 564, 565, 566, 567], [472, 473, 474, 475, 476, 477], [277, 278, 279, 280, 281, 282, 283], [104, 105, 106, 107, 108, 109, 110, 111, 112, 113, 114, 115, 116, 117, 118, 119, 120, 121, 122, 123, 124, 125, 126, 127, 128, 129, 130, 131, 132, 133, 134, 135, 136, 137, 138, 139, 140, 141, 142, 143, 144, 145, 146, 147, 148, 149, 150, 151, 152, 153, 154, 155, 156, 157, 158, 159, 160, 161, 162, 163, 164, 165, 166, 167, 168, 169, 170, 171, 172, 173, 174, 175, 176, 177, 178, 179, 180, 181, 182, 183, 184, 185, 186, 187, 188, 189, 190, 191, 192, 193, 194, 195, 196, 197, 198, 199, 200, 201, 202, 203, 204, 205, 206, 207, 208, 209, 210, 211, 212, 213, 214, 215, 216, 217, 218, 219, 220, 221, 222, 223, 224, 225, 226, 227, 228, 229, 230, 231, 232, 233, 234, 235, 236, 237, 238, 239, 240, 241, 242, 243, 244, 245, 246, 247, 248, 249, 250, 251, 252, 253, 254, 255, 256, 257, 258, 259, 260, 261, 262, 263, 264, 265, 266, 267, 268, 269, 270, 271, 272], [104, 105, 106, 107, 108, 109, 110, 111, 112, 113, 114, 115, 116, 117, 118, 119, 120, 121, 122, 123, 124, 125, 126, 127, 128, 129, 130, 131, 132, 133, 134, 135, 136, 137, 138, 139, 140, 141, 142, 143, 144, 145, 146, 147, 148, 149, 150, 151, 152, 153, 154, 155, 156, 157, 158, 159, 160, 161, 162, 163, 164, 165, 166, 167, 168, 169, 170, 171, 172, 173, 174, 175, 176, 177, 178, 179, 180, 181, 182, 183, 184, 185, 186, 187, 188, 189, 190, 191, 192, 193, 194, 195, 196, 197, 198, 199, 200, 201, 202, 203, 204, 205, 206, 207, 208, 209, 210, 211, 212, 213, 214, 215, 216, 217, 218, 219, 220, 221, 222, 223, 224, 225, 226, 227, 228, 229, 230, 231, 232, 233, 234, 235, 236, 237, 238, 239, 240, 241, 242, 243, 244, 245, 246, 247, 248, 249, 250, 251, 252, 253, 254, 255, 256, 257, 258, 259, 260, 261, 262, 263, 264, 265, 266, 267, 268, 269, 270, 271, 272], [104, 105, 106, 107, 108, 109, 110, 111, 112, 113, 114, 115, 116, 117, 118, 119, 120, 121, 122, 123, 124, 125, 126, 127, 128, 129, 130, 131, 132, 133, 134, 135, 136, 137, 138, 139, 140, 141, 142, 143, 144, 145, 146, 147, 148, 149, 150, 151, 152, 153, 154, 155, 156, 157, 158, 159, 160, 161, 162, 163, 164, 165, 166, 167, 168, 169, 170, 171, 172, 173, 174, 175, 176, 177, 178, 179, 180, 181, 182, 183, 184, 185, 186, 187, 188, 189, 190, 191, 192, 193, 194, 195, 196, 197, 198, 199, 200, 201, 202, 203, 204, 205, 206, 207, 208, 209, 210, 211, 212, 213, 214, 215, 216, 217, 218, 219, 220, 221, 222, 223, 224, 225, 226, 227, 228, 229, 230, 231, 232, 233, 234, 235, 236, 237, 238, 239, 240, 241, 242, 243, 244, 245, 246, 247, 248, 249, 250, 251, 252, 253, 254, 255, 256, 257, 258, 259, 260, 261, 262, 263, 264, 265, 266, 267, 268, 269, 270, 271, 272]] : List (List Nat)).getD i []).getD j 0]? = some (Cond.eq (.elem (.field (stTm i) "java/lang/String" "value" "[B") (.int (Int32.ofNat j))) (.int ((sx_byt.getD i []).getD j 0))) := by decide +kernel
    have hb : ∀ i, i < 16 → sx_len.getD i 0 < 2 ^ 31 := by decide +kernel
    have h1 : ∀ i : Nat, ∃ q : Nat × Nat, i < 16 → vk_S 1 [sx_len.getD i 0] [sx_byt.getD i []] (fun _ => q.1) (fun _ => q.2) A s s.heap ∧ (stTm i).eval args s none [] s = some (.ref q.1) := by
      intro i
      by_cases hi : i < 16
      · obtain ⟨k, v, h, hev⟩ := vk_Sof (args := args) (s := s) (N := 1) (tm := fun _ => stTm i) (len := [sx_len.getD i 0]) (byt := [sx_byt.getD i []]) (A := A) (fun z hz => by
            have h0 : z = 0 := by omega
            subst h0; exact hb i hi) (fun _ _ => hf _ (fx _ (hx i hi))) (fun _ _ => hf _ (fx _ (hc i hi))) (fun _ _ => hf _ (fx _ (ha i hi))) (fun z hz => by
            have h0 : z = 0 := by omega
            subst h0; exact hf _ (fx _ (hn i hi))) (fun z hz j hj => by
            have h0 : z = 0 := by omega
            subst h0; exact hf _ (fx _ (he i hi j hj))) (fun a b ha hb hn => by omega) hA
        exact ⟨(k 0, v 0), fun _ => ⟨vk_S.as h rfl rfl, hev 0 (by omega)⟩⟩
      · exact ⟨(0, 0), fun h => absurd h hi⟩
    exact ⟨fun i => (Classical.choose (h1 i)).1, fun i => (Classical.choose (h1 i)).2, fun i hi => Classical.choose_spec (h1 i) hi⟩
  obtain ⟨aK, evK, tK⟩ := va_Tof (args := args) (s := s) (tm := .static RX3 "COMMANDS" "[LClipHibernation$Command;") (ty := .object RX2) (N := 12) (f := fun j => .ref (adC j)) (A := A) (by decide) (hf _ (fx 25 (by decide +kernel))) (st_eqi (hf _ (fx 26 (by decide +kernel)))) (fun j hj => by
    have h : ∀ j, j < 12 → flat1[([28, 29, 30, 31, 32, 33, 34, 35, 36, 37, 38, 39] : List Nat).getD j 0]? = some (Cond.eq (.elem (.static RX3 "COMMANDS" "[LClipHibernation$Command;") (.int (Int32.ofNat j))) (.static RX2 (cmdNm.getD j "") "LClipHibernation$Command;")) := by decide +kernel
    exact st_eq (hf _ (fx _ (h j hj))) (evC j hj)) hA
  obtain ⟨aM, evM, tM⟩ := va_Tof (args := args) (s := s) (tm := .static RX0 "$SwitchMap$ClipHibernation$Command" "[I") (ty := .int) (N := 12) (f := fun j => .int (swV j)) (A := A) (by decide) (hf _ (fx 44 (by decide +kernel))) (st_eqi (hf _ (fx 45 (by decide +kernel)))) (fun j hj => by
    have h : ∀ j, j < 12 → flat1[([46, 47, 48, 49, 50, 51, 52, 53, 54, 55, 56, 57] : List Nat).getD j 0]? = some (Cond.eq (.elem (.static RX0 "$SwitchMap$ClipHibernation$Command" "[I") (.int (Int32.ofNat j))) (.int (swV j))) := by decide +kernel
    exact st_eqi (hf _ (fx _ (h j hj)))) hA
  obtain ⟨aG, e1, e2, e3, e4, e5, e6, e7, e8, e9⟩ : ∃ aG : Nat → Nat, (∀ i, i < 7 → aG i = adT i) ∧ (∀ i, i < 12 → aG (10 + i) = adC i) ∧ aG 50 = aK ∧ aG 51 = aM ∧ (∀ i, i < 16 → aG (100 + i) = adS i) ∧ (∀ i, i < 16 → aG (150 + i) = adV i) ∧ aG 60 = b ∧ aG 61 = L ∧ (∀ j, aG (1000 + j) = (xs j).toBitVec.toNat) := by
    refine ⟨fun n => if n < 7 then adT n else if n < 40 then adC (n - 10) else if n = 50 then aK else if n = 51 then aM else if n = 60 then b else if n = 61 then L else if n < 130 then adS (n - 100) else if n < 900 then adV (n - 150) else (xs (n - 1000)).toBitVec.toNat, ?_, ?_, rfl, rfl, ?_, ?_, rfl, rfl, ?_⟩
    · intro i hi
      show (if i < 7 then _ else _) = _
      rw [if_pos hi]
    · intro i hi
      show (if 10 + i < 7 then _ else if 10 + i < 40 then _ else _) = _
      rw [if_neg (by omega), if_pos (by omega), Nat.add_sub_cancel_left]
    · intro i hi
      show (if 100 + i < 7 then _ else if 100 + i < 40 then _ else if 100 + i = 50 then _ else if 100 + i = 51 then _ else if 100 + i = 60 then _ else if 100 + i = 61 then _ else if 100 + i < 130 then _ else _) = _
      rw [if_neg (by omega), if_neg (by omega), if_neg (by omega), if_neg (by omega), if_neg (by omega), if_neg (by omega), if_pos (by omega), Nat.add_sub_cancel_left]
    · intro i hi
      show (if 150 + i < 7 then _ else if 150 + i < 40 then _ else if 150 + i = 50 then _ else if 150 + i = 51 then _ else if 150 + i = 60 then _ else if 150 + i = 61 then _ else if 150 + i < 130 then _ else if 150 + i < 900 then _ else _) = _
      rw [if_neg (by omega), if_neg (by omega), if_neg (by omega), if_neg (by omega), if_neg (by omega), if_neg (by omega), if_neg (by omega), if_pos (by omega), Nat.add_sub_cancel_left]
    · intro j
      show (if 1000 + j < 7 then _ else if 1000 + j < 40 then _ else if 1000 + j = 50 then _ else if 1000 + j = 51 then _ else if 1000 + j = 60 then _ else if 1000 + j = 61 then _ else if 1000 + j < 130 then _ else if 1000 + j < 900 then _ else _) = _
      rw [if_neg (by omega), if_neg (by omega), if_neg (by omega), if_neg (by omega), if_neg (by omega), if_neg (by omega), if_neg (by omega), if_neg (by omega), Nat.add_sub_cancel_left]
  have evS : ∀ i, i < 16 → (stTm i).eval args s none [] s = some (.ref (aG (100 + i))) := fun i hi => by rw [e5 i hi]; exact (hS i hi).2
  have hRf : ∀ q ∈ sx_refs, vk_R q.1 q.2.1 q.2.2.1 (aG (100 + q.2.2.2)) s := by
    intro q hq
    have h1 : ∀ q ∈ sx_refs, Cond.stringRef q.1 q.2.1 q.2.2.1 ∈ lw_tbl ∧ q.2.2.2 < 16 := by decide +kernel
    have h2 : ∀ q ∈ sx_refs.zip ([0, 0, 0, 0, 0, 0, 0, 0, 0, 0, 0, 0, 0, 0] : List Nat), (Term.string q.1.1 q.1.2.1 = stTm q.1.2.2.2) ∨ flat1[q.2]? = some (Cond.eq (.string q.1.1 q.1.2.1) (stTm q.1.2.2.2)) ∨ flat1[q.2]? = some (Cond.eq (stTm q.1.2.2.2) (.string q.1.1 q.1.2.1)) := by decide +kernel
    have h5 : ∀ q ∈ sx_refs, ∃ n, (q, n) ∈ sx_refs.zip ([0, 0, 0, 0, 0, 0, 0, 0, 0, 0, 0, 0, 0, 0] : List Nat) := by
      intro q hq
      obtain ⟨i, hi, rfl⟩ := List.getElem_of_mem hq
      have hl : sx_refs.length = 14 := rfl
      exact ⟨_, List.mem_of_getElem? (i := i) (by rw [List.getElem?_zip_eq_some]; exact ⟨List.getElem?_eq_getElem hi, List.getElem?_eq_getElem (by show i < 14; omega)⟩)⟩
    obtain ⟨n5, hn5⟩ := h5 q hq
    have h3 := evS _ (h1 q hq).2
    have h4 : (Term.string q.1 q.2.1).eval args s none [] s = some (.ref (aG (100 + q.2.2.2))) := by
      rcases h2 _ hn5 with h | h | h
      · rw [show Term.string q.1 q.2.1 = _ from h]; exact h3
      · exact st_eq (hf _ (fx _ h)) h3
      · obtain ⟨y, y1, y2⟩ := Cond.eq_one (hf _ (fx _ h))
        rw [y2, ← y1, h3]
    exact vk_R.of (hts _ (h1 q hq).1) h4
  refine ⟨(dC, dI), fun k => match k with | 0 => g0 | 1 => g1 | 2 => g0 | 3 => g0 | _ => g4, aG, ⟨⟨hKc, ?_⟩, ?_, hl, fun w hw => nt_of hw (hts _ (List.mem_filter.mp hw).1)⟩, e7, e8, fun j => by rw [e9 j]; exact r_toNat (xs j)⟩
  · intro k q hq
    match k, hq with
    | 0, hq => cases hq; exact ⟨gA0, gR0⟩
    | 1, hq => cases hq; exact ⟨gA1, gR1⟩
    | 2, hq => cases hq; exact ⟨gA0, gR0⟩
    | 3, hq => cases hq; exact ⟨gA0, gR0⟩
    | 4, hq => cases hq; exact ⟨gA4, gR4⟩
    | k + 5, hq => simp [tysG] at hq
  · subst hAe
    refine ⟨va_En.as eT (fun i hi => e1 i hi), va_En.as eC (fun i hi => e2 i hi), ?_, ?_, hRf, trivial, ?_, ?_, ?_, ?_, trivial⟩
    · refine va_Efof (args := args) (s := s) (N := 12) (E := RX2) (d0 := "LClipHibernation$Command;") (nm := cmdNm) (tm := fun i => stTm i) (fun i hi => by show _ = some (Value.ref (aG (10 + i))); rw [e2 i hi]; exact evC i hi) (fun i hi => hf _ (by
        have h : ∀ i, i < 12 → flat1[([62, 66, 70, 74, 78, 82, 86, 90, 93, 96, 99, 42] : List Nat).getD i 0]? = some (Cond.eq (.field (.static RX2 (cmdNm.getD i "") "LClipHibernation$Command;") RX2 "word" "Ljava/lang/String;") (stTm i)) := by decide +kernel
        exact fx _ (h i hi))) (fun i hi => evS i (by omega)) hA
    · intro i hi
      exact vk_S.as (hS i hi).1 (e5 i hi) (e6 i hi)
    · obtain ⟨scr, x1, x2, x3, x4, x5⟩ := hX
      show va_T .int (aG 60) (aG 61) (fun j => .int (nI (aG (1000 + j)))) _ s s.heap
      rw [e7, e8]
      exact ⟨scr, x1, x2, x3, Nat.le_of_eq x4.symm, by rw [x4], fun j hj => by rw [x5 j hj]; show some (Value.int (xs j)) = some (Value.int (nI (aG (1000 + j)))); rw [e9 j, show nI (xs j).toBitVec.toNat = xs j from r_toNat (xs j)], fun q => Nat.not_le.mpr hbl q⟩
    · refine ⟨?_, ?_⟩
      · show va_Z RX3 "COMMANDS" "[LClipHibernation$Command;" (.ref (aG 50)) _ s s.heap
        rw [e3]
        exact va_Zref (hts _ (by decide +kernel)) (hts (.initialized RX3) (by decide +kernel)) evK hA
      · show va_T (.object RX2) (aG 50) 12 (fun j => .ref (aG (10 + j))) _ s s.heap
        rw [e3]
        exact va_Tas tK (fun j hj => by rw [e2 j hj])
    · refine ⟨?_, ?_⟩
      · show va_Z RX0 "$SwitchMap$ClipHibernation$Command" "[I" (.ref (aG 51)) _ s s.heap
        rw [e4]
        exact va_Zref (hts _ (by decide +kernel)) (hts (.initialized RX0) (by decide +kernel)) evM hA
      · show va_T .int (aG 51) 12 (fun j => .int (swV j)) _ s s.heap
        rw [e4]
        exact tM
    · exact ⟨va_Zof (hts _ (by decide +kernel)) (hts (.initialized "java/lang/String") (by decide +kernel)) (st_eqi (hf _ (fx 6 (by decide +kernel)))) hA, va_Zqof (hts _ (by decide +kernel)) (hts (.initialized "jdk/internal/util/Preconditions") (by decide +kernel)) (hf _ (fx 7 (by decide +kernel))) hA⟩
