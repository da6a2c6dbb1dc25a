/-! ===== the world at the law's start ===== -/
def stRep : List (String × Nat) := [("ClipHibernation$Command", 64), ("ClipHibernation$Command", 70), ("ClipHibernation$Command", 73), ("ClipHibernation$Command", 76), ("ClipHibernation$Command", 79), ("ClipHibernation$Command", 82), ("ClipHibernation$Command", 85), ("ClipHibernation$Command", 88), ("ClipHibernation$Command", 91), ("ClipHibernation$Command", 94), ("ClipHibernation$Command", 97), ("ClipHibernation$Command", 100), ("ClipHibernationModel", 307), ("ClipHibernation", 41), ("ClipHibernationModel", 42), ("ClipHibernationModel", 48)]
def stTm (i : Nat) : Term := .string (stRep.getD i ("", 0)).1 (stRep.getD i ("", 0)).2
theorem va_En.as {E d : String} {nm : List String} {F : List (String × String × String × List Int32)} {ad ad' : Nat → Nat} {A : Nat → Prop} {U : State} {H : Heap} (h : va_En E d nm F ad A U H) (e : ∀ i, i < nm.length → ad' i = ad i) : va_En E d nm F ad' A U H :=
  ⟨fun i hi => by rw [e i hi]; exact h.1 i hi, fun i j hi hj q => h.2 i j hi hj (by rw [← e i hi, ← e j hj]; exact q)⟩
theorem vk_S.as {len : List Nat} {byt : List (List Int32)} {adK adV adK' adV' : Nat → Nat} {A : Nat → Prop} {U : State} {H : Heap} (h : vk_S 1 len byt adK adV A U H) (e1 : adK' 0 = adK 0) (e2 : adV' 0 = adV 0) : vk_S 1 len byt adK' adV' A U H := by
  refine ⟨fun i hi => ?_, fun i j hi hj _ => by omega⟩
  have h0 : i = 0 := by omega
  subst h0
  rw [e1, e2]
  exact h.1 0 (by omega)
def flat1 : List Cond := flatC (Jvm.Cond.and given_1 narrow_1)
theorem fx {c : Cond} (n : Nat) (h : flat1[n]? = some c) : c ∈ flat1 := List.mem_of_getElem? h
theorem va_Tas {ty : FieldType} {t N : Nat} {f f' : Nat → Value} {A : Nat → Prop} {U : State} {H : Heap} (h : va_T ty t N f A U H) (e : ∀ j, j < N → f' j = f j) : va_T ty t N f' A U H := by
  obtain ⟨cell, h1, h2, h3, h4, h5, h6, h7⟩ := h
  exact ⟨cell, h1, h2, h3, h4, h5, fun j hj => by rw [e j hj]; exact h6 j hj, h7⟩
section St0
variable {args : Array Value} {s : State}
theorem st_arr {ty : FieldType} (hra : ∀ (U : State) (c : ClassId), U.vm.findClass ("[" ++ ty.toString) = some c → va_RA U c ty) (h : (Cond.arrayClass ty).before args s = true) : ∃ c : ClassId, ArrOfT s c ty ∧ va_RA s c ty := by
  obtain ⟨c, k, comp, h1, h2, h3⟩ := Cond.arrayClass_spec h
  exact ⟨c, fun N z => ⟨(fun k h => by cases h), k, h2, comp, h3⟩, hra s c h1⟩
theorem st_arrO (h : (Cond.arrayOver (.object RX1)).before args s = true) : ∃ c : ClassId, ArrOfT s c (.object RX1) ∧ va_RA s c (.object RX1) := by
  obtain ⟨comp, c, k, h1, -, h2, h3, h4⟩ := Cond.arrayOver_spec h
  exact ⟨c, fun N z => ⟨(fun k h => by cases h), k, h2, comp, h3⟩, k, comp, h2, h3, h1, h4⟩
theorem st_eq {a b : Term} {v : Value} (h : (Cond.eq a b).before args s = true) (hb : b.eval args s none [] s = some v) : a.eval args s none [] s = some v := by
  obtain ⟨y, h1, h2⟩ := Cond.eq_one h
  rw [h1, ← h2, hb]
theorem st_eqi {a : Term} {v : Int32} (h : (Cond.eq a (.int v)).before args s = true) : a.eval args s none [] s = some (.int v) := st_eq h rfl
theorem st_ex {t : Term} {cls : String} (h : (Cond.exactly t cls).before args s = true) : ∃ a : Nat, t.eval args s none [] s = some (.ref a) := by
  obtain ⟨a, c, cell, k, h1, -⟩ := Cond.exactly_spec h
  exact ⟨a, h1⟩
theorem evOf {E n d : String} {a : Nat} {A : Nat → Prop} (hx : (Cond.exactly (.static E n d) E).before args s = true) (h : va_Z E n d (.ref a) A s s.heap) : (Term.static E n d).eval args s none [] s = some (.ref a) := by
  obtain ⟨b, hb⟩ := st_ex hx
  obtain ⟨cf, kf, fi, f, q, cell, h1, h2, h3, h4, h5, h6, h7, h8⟩ := h
  simp [Term.eval, State.fieldNamed?, h1, h2, h4, h5, h6, h7] at hb ⊢
theorem st_str {own : String} {k : Nat} {v : Value} (h : (Term.string own k).eval args s none [] s = some v) : (Term.string own k).eval #[] s none [] s = some v := h
end St0
set_option maxRecDepth 100000 in
set_option maxHeartbeats 4000000 in
theorem start_GS {l : Launch} {s : State} {args : Array Value} (hts : ∀ w ∈ lw_tbl, w.before args s = true) (hgv : (Jvm.Cond.and given_1 narrow_1).before args s = true) (hl : l.stackTraces = false) : ∃ (dG : va_G) (cG : Nat → ClassId) (aG : Nat → Nat), GS (l, s.heap.size, dG, cG, aG) s := by
  have hf : ∀ c ∈ flat1, c.before args s = true := flat_of_before _ hgv
  have tt : ∀ {w : Cond}, w ∈ TG → w.before args s = true := fun h => hts _ (List.mem_filter.mp h).1
  obtain ⟨A, hAe⟩ : ∃ A : Nat → Prop, A = fun q => s.heap.size ≤ q := ⟨_, rfl⟩
  have hA : ∀ a : Nat, a < s.heap.size → ¬ A a := fun a h q => by rw [hAe] at q; exact Nat.not_le.mpr h q
  obtain ⟨c0, i0, k0⟩ := u_known (C := RX1) (T := TX1) (N := 18) (n := 18) hts (fun w hw => (List.mem_filter.mp (in_1 w hw)).1) (hts (.instantiable RX1 18) (by decide +kernel))
  obtain ⟨c1, i1, k1⟩ := u_known (C := RX3) (T := TX3) (N := 11) (n := 11) hts (fun w hw => (List.mem_filter.mp (in_3 w hw)).1) (hts (.instantiable RX3 11) (by decide +kernel))
  obtain ⟨c2, i2, k2⟩ := u_known (C := RX4) (T := TX4) (N := 7) (n := 7) hts (fun w hw => (List.mem_filter.mp (in_4 w hw)).1) (hts (.instantiable RX4 7) (by decide +kernel))
  obtain ⟨c3, i3, k3⟩ := u_known (C := RX6) (T := TX6) (N := 10) (n := 10) hts (fun w hw => (List.mem_filter.mp (in_6 w hw)).1) (hts (.instantiable RX6 10) (by decide +kernel))
  obtain ⟨c4, i4, k4⟩ := u_known (C := RX7) (T := TX7) (N := 22) (n := 22) hts (fun w hw => (List.mem_filter.mp (in_7 w hw)).1) (hts (.instantiable RX7 22) (by decide +kernel))
  obtain ⟨dC, dI, hKc⟩ : ∃ (dC : Nat → ClassId) (dI : Nat → Nat → Nat), ∀ (k : Nat) (q : vw_C), clX[k]? = some q → u_Kn s q.1 q.2.1 q.2.2 (dC k) (dI k) := by
    refine ⟨fun k => match k with | 0 => c0 | 1 => c1 | 2 => c2 | 3 => c3 | _ => c4, fun k => match k with | 0 => i0 | 1 => i1 | 2 => i2 | 3 => i3 | _ => i4, ?_⟩
    intro k q hq
    match k, hq with
    | 0, hq => cases hq; exact k0
    | 1, hq => cases hq; exact k1
    | 2, hq => cases hq; exact k2
    | 3, hq => cases hq; exact k3
    | 4, hq => cases hq; exact k4
    | k + 5, hq => simp [clX] at hq
  obtain ⟨g0, gA0, gR0⟩ := st_arr (ty := .int) (fun _ _ h => h) (hts (.arrayClass .int) (by decide +kernel))
  obtain ⟨g1, gA1, gR1⟩ := st_arr (ty := .byte) (fun _ _ h => h) (hts (.arrayClass .byte) (by decide +kernel))
  obtain ⟨g2, gA2, gR2⟩ := st_arr (ty := .char) (fun _ _ h => h) (hts (.arrayClass .char) (by decide +kernel))
  obtain ⟨g3, gA3, gR3⟩ := st_arr (ty := .long) (fun _ _ h => h) (hts (.arrayClass .long) (by decide +kernel))
  obtain ⟨g4, gA4, gR4⟩ := st_arrO (hts (.arrayOver (.object RX1)) (by decide +kernel))
  have hcl : ∀ i, i < 12 → (Cond.laysStatic RX2 (cmdNm.getD i "") "LClipHibernation$Command;").before args s = true := fun i hi => hts _ (by
    have h : ∀ i, i < 12 → Cond.laysStatic RX2 (cmdNm.getD i "") "LClipHibernation$Command;" ∈ lw_tbl := by decide +kernel
    exact h i hi)
  have hcx : ∀ i, i < 12 → (Cond.exactly (.static RX2 (cmdNm.getD i "") "LClipHibernation$Command;") RX2).before args s = true := fun i hi => hf _ (by
    have h : ∀ i, i < 12 → flat1[([88, 99, 111, 124, 138, 153, 169, 186, 204, 223, 243, 61] : List Nat).getD i 0]? = some (Cond.exactly (.static RX2 (cmdNm.getD i "") "LClipHibernation$Command;") RX2) := by decide +kernel
    exact fx _ (h i hi))
  have hco : ∀ i, i < 12 → (Cond.eq (.field (.static RX2 (cmdNm.getD i "") "LClipHibernation$Command;") "java/lang/Enum" "ordinal" "I") (.int (([0, 1, 2, 3, 4, 5, 6, 7, 8, 9, 10, 11] : List Int32).getD i 0))).before args s = true := fun i hi => hf _ (by
    have h : ∀ i, i < 12 → flat1[([89, 100, 112, 125, 139, 154, 170, 187, 205, 224, 244, 62] : List Nat).getD i 0]? = some (Cond.eq (.field (.static RX2 (cmdNm.getD i "") "LClipHibernation$Command;") "java/lang/Enum" "ordinal" "I") (.int (([0, 1, 2, 3, 4, 5, 6, 7, 8, 9, 10, 11] : List Int32).getD i 0))) := by decide +kernel
    exact fx _ (h i hi))
  have hcd : ∀ i j, i < 12 → j < 12 → i ≠ j → (Cond.not (.eq (.static RX2 (cmdNm.getD i "") "LClipHibernation$Command;") (.static RX2 (cmdNm.getD j "") "LClipHibernation$Command;"))).before args s = true ∨ (Cond.not (.eq (.static RX2 (cmdNm.getD j "") "LClipHibernation$Command;") (.static RX2 (cmdNm.getD i "") "LClipHibernation$Command;"))).before args s = true := by
    have h : ∀ i, i < 12 → ∀ j, j < 12 → i ≠ j → flat1[([0, 110, 122, 135, 149, 164, 180, 197, 215, 234, 254, 98, 110, 0, 123, 136, 150, 165, 181, 198, 216, 235, 255, 109, 122, 123, 0, 137, 151, 166, 182, 199, 217, 236, 256, 121, 135, 136, 137, 0, 152, 167, 183, 200, 218, 237, 257, 134, 149, 150, 151, 152, 0, 168, 184, 201, 219, 238, 258, 148, 164, 165, 166, 167, 168, 0, 185, 202, 220, 239, 259, 163, 180, 181, 182, 183, 184, 185, 0, 203, 221, 240, 260, 179, 197, 198, 199, 200, 201, 202, 203, 0, 222, 241, 261, 196, 215, 216, 217, 218, 219, 220, 221, 222, 0, 242, 262, 214, 234, 235, 236, 237, 238, 239, 240, 241, 242, 0, 263, 233, 254, 255, 256, 257, 258, 259, 260, 261, 262, 263, 0, 253, 98, 109, 121, 134, 148, 163, 179, 196, 214, 233, 253, 0] : List Nat).getD (12 * i + j) 0]? = some (Cond.not (.eq (.static RX2 (cmdNm.getD i "") "LClipHibernation$Command;") (.static RX2 (cmdNm.getD j "") "LClipHibernation$Command;"))) ∨ flat1[([0, 110, 122, 135, 149, 164, 180, 197, 215, 234, 254, 98, 110, 0, 123, 136, 150, 165, 181, 198, 216, 235, 255, 109, 122, 123, 0, 137, 151, 166, 182, 199, 217, 236, 256, 121, 135, 136, 137, 0, 152, 167, 183, 200, 218, 237, 257, 134, 149, 150, 151, 152, 0, 168, 184, 201, 219, 238, 258, 148, 164, 165, 166, 167, 168, 0, 185, 202, 220, 239, 259, 163, 180, 181, 182, 183, 184, 185, 0, 203, 221, 240, 260, 179, 197, 198, 199, 200, 201, 202, 203, 0, 222, 241, 261, 196, 215, 216, 217, 218, 219, 220, 221, 222, 0, 242, 262, 214, 234, 235, 236, 237, 238, 239, 240, 241, 242, 0, 263, 233, 254, 255, 256, 257, 258, 259, 260, 261, 262, 263, 0, 253, 98, 109, 121, 134, 148, 163, 179, 196, 214, 233, 253, 0] : List Nat).getD (12 * i + j) 0]? = some (Cond.not (.eq (.static RX2 (cmdNm.getD j "") "LClipHibernation$Command;") (.static RX2 (cmdNm.getD i "") "LClipHibernation$Command;"))) := by decide +kernel
    exact fun i j hi hj hn => (h i hi j hj hn).imp (fun q => hf _ (fx _ q)) (fun q => hf _ (fx _ q))
  obtain ⟨adC, eC⟩ := va_Enof (nm := cmdNm) (F := cmdF) (E := RX2) (d := "LClipHibernation$Command;") (A := A) hcl (hts (.initialized RX2) (by decide +kernel)) hcx (fun q hq i hi => by
    rcases List.mem_cons.mp hq with rfl | hq
    · exact hco i hi
    · exact absurd hq List.not_mem_nil) hcd hA
  have htl : ∀ i, i < 7 → (Cond.laysStatic RX5 (tokNm.getD i "") "LClipHibernation$Token;").before args s = true := fun i hi => hts _ (by
    have h : ∀ i, i < 7 → Cond.laysStatic RX5 (tokNm.getD i "") "LClipHibernation$Token;" ∈ lw_tbl := by decide +kernel
    exact h i hi)
  have htx : ∀ i, i < 7 → (Cond.exactly (.static RX5 (tokNm.getD i "") "LClipHibernation$Token;") RX5).before args s = true := fun i hi => hf _ (by
    have h : ∀ i, i < 7 → flat1[([11, 18, 23, 29, 36, 4, 14] : List Nat).getD i 0]? = some (Cond.exactly (.static RX5 (tokNm.getD i "") "LClipHibernation$Token;") RX5) := by decide +kernel
    exact fx _ (h i hi))
  have htd : ∀ i j, i < 7 → j < 7 → i ≠ j → (Cond.not (.eq (.static RX5 (tokNm.getD i "") "LClipHibernation$Token;") (.static RX5 (tokNm.getD j "") "LClipHibernation$Token;"))).before args s = true ∨ (Cond.not (.eq (.static RX5 (tokNm.getD j "") "LClipHibernation$Token;") (.static RX5 (tokNm.getD i "") "LClipHibernation$Token;"))).before args s = true := by
    have h : ∀ i, i < 7 → ∀ j, j < 7 → i ≠ j → flat1[([0, 21, 26, 32, 39, 13, 17, 21, 0, 28, 34, 41, 20, 22, 26, 28, 0, 35, 42, 25, 27, 32, 34, 35, 0, 43, 31, 33, 39, 41, 42, 43, 0, 38, 40, 13, 20, 25, 31, 38, 0, 16, 17, 22, 27, 33, 40, 16, 0] : List Nat).getD (7 * i + j) 0]? = some (Cond.not (.eq (.static RX5 (tokNm.getD i "") "LClipHibernation$Token;") (.static RX5 (tokNm.getD j "") "LClipHibernation$Token;"))) ∨ flat1[([0, 21, 26, 32, 39, 13, 17, 21, 0, 28, 34, 41, 20, 22, 26, 28, 0, 35, 42, 25, 27, 32, 34, 35, 0, 43, 31, 33, 39, 41, 42, 43, 0, 38, 40, 13, 20, 25, 31, 38, 0, 16, 17, 22, 27, 33, 40, 16, 0] : List Nat).getD (7 * i + j) 0]? = some (Cond.not (.eq (.static RX5 (tokNm.getD j "") "LClipHibernation$Token;") (.static RX5 (tokNm.getD i "") "LClipHibernation$Token;"))) := by decide +kernel
    exact fun i j hi hj hn => (h i hi j hj hn).imp (fun q => hf _ (fx _ q)) (fun q => hf _ (fx _ q))
  obtain ⟨adT, eT⟩ := va_Enof (nm := tokNm) (F := []) (E := RX5) (d := "LClipHibernation$Token;") (A := A) htl (hts (.initialized RX5) (by decide +kernel)) htx (fun q hq => absurd hq List.not_mem_nil) htd hA
  have evC : ∀ i, i < 12 → (Term.static RX2 (cmdNm.getD i "") "LClipHibernation$Command;").eval args s none [] s = some (.ref (adC i)) := fun i hi => evOf (hcx i hi) (eC.1 i hi).1
  obtain ⟨adS, adV, hS⟩ : ∃ adS adV : Nat → Nat, ∀ i : Nat, i < 16 → vk_S 1 [sx_len.getD i 0] [sx_byt.getD i []] (fun _ => adS i) (fun _ => adV i) A s s.heap ∧ (stTm i).eval args s none [] s = some (.ref (adS i)) := by
    have hx : ∀ i, i < 16 → flat1[([1003, 1012, 1021, 1031, 1041, 1050, 1058, 1066, 1075, 1084, 1094, 992, 880, 304, 703, 803] : List Nat).getD i 0]? = some (Cond.exactly (stTm i) "java/lang/String") := by decide +kernel
    have hc : ∀ i, i < 16 → flat1[([1004, 1013, 1022, 1032, 1042, 1051, 1059, 1067, 1076, 1085, 1095, 993, 881, 305, 704, 804] : List Nat).getD i 0]? = some (Cond.eq (.field (stTm i) "java/lang/String" "coder" "B") (.int 0)) := by decide +kernel
    have ha : ∀ i, i < 16 → flat1[([1005, 1014, 1023, 1033, 1043, 1052, 1060, 1068, 1077, 1086, 1096, 994, 882, 306, 705, 805] : List Nat).getD i 0]? = some (Cond.arrayOf (.field (stTm i) "java/lang/String" "value" "[B") .byte) := by decide +kernel
    have hn : ∀ i, i < 16 → flat1[([1006, 1015, 1024, 1034, 1044, 1053, 1061, 1069, 1078, 1087, 1097, 995, 883, 307, 706, 806] : List Nat).getD i 0]? = some (Cond.eq (.length (.field (stTm i) "java/lang/String" "value" "[B")) (.int (Int32.ofNat (sx_len.getD i 0)))) := by decide +kernel
    have he : ∀ i, i < 16 → ∀ j, j < sx_len.getD i 0 → flat1[(([[1007, 1008, 1009, 1010], [1016, 1017, 1018, 1019], [1025, 1026, 1027, 1028, 1029], [1035, 1036, 1037, 1038, 1039], [1045, 1046, 1047, 1048], [1054, 1055, 1056], [1062, 1063, 1064], [1070, 1071, 1072, 1073], [1079, 1080, 1081, 1082], [1088, 1089, 1090, 1091, 1092], [1098, 1099, 1100, 1101, 1102], [996, 997, 998, 999, 1000, 1001], [884, 885, 886, 887, 888, 889, 890], [308, 309, 310, 311, 312, 313, 314, 315, 316, 317, 318, 319, 320, 321, 322, 323, 324, 325, 326, 327, 328, 329, 330, 331, 332, 333, 334, 335, 336, 337, 338, 339, 340, 341, 342, 343, 344, 345, 346, 347, 348, 349, 350, 351, 352, 353, 354, 355, 356, 357, 358, 359, 360, 361, 362, 363, 364, 365, 366, 367, 368, 369, 370, 371, 372, 373, 374, 375, 376, 377, 378, 379, 380, 381, 382, 383, 384, 385, 386, 387, 388, 389, 390, 391, 392, 393, 394, 395, 396, 397, 398, 399, 400, 401, 402, 403, 404, 405, 406, 407, 408, 409, 410, 411, 412, 413, 414, 415, 416, 417, 418, 419, 420, 421, 422, 423, 424, 425, 426, 427, 428, 429, 430, 431, 432, 433, 434, 435, 436, 437, 438, 439, 440, 441, 442, 443, 444, 445, 446, 447, 448, 449, 450, 451, 452, 453, 454, 455, 456, 457, 458, 459, 460, 461, 462, 463, 464, 465, 466, 467, 468, 469, 470, 471, 472, 473, 474, 475, 476], [707, 708, 709, 710, 711, 712, 713, 714, 715, 716, 717, 718, 719, 720, 721, 722, 723, 724, 725, 726, 727, 728, 729, 730, 731, 732, 733, 734, 735, 736, 737, 738, 739, 740, 741, 742, 743, 744, 745, 746, 747, 748, 749, 750, 751, 752, 753, 754, 755, 756, 757, 758, 759, 760, 761, 762, 763, 764, 765, 766, 767, 768, 769, 770, 771, 772, 773, 774, 775, 776, 777, 778, 779, 780, 781, 782, 783, 784, 785, 786, 787, 788, 789, 790, 791, 792, 793, 794, 795, 796, 797, 798, 799, 800, 801, 802], [807, 808, 809, 810, 811, 812, 813, 814, 815, 816, 817, 818, 819, 820, 821, 822, 823, 824, 825, 826, 827, 828, 829, 830, 831, 832, 833, 834, 835, 836, 837, 838, 839, 840, 841, 842, 843, 844, 845, 846, 847, 848, 849, 850, 851, 852, 853, 854, 855, 856, 857, 858, 859, 860, 861, 862, 863, 864, 865, 866, 867, 868, 869, 870, 871, 872, 873, 874, 875, 876, 877, 878, 879]] : List (List Nat)).getD i []).getD j 0]? = some (Cond.eq (.elem (.field (stTm i) "java/lang/String" "value" "[B") (.int (Int32.ofNat j))) (.int ((sx_byt.getD i []).getD j 0))) := by decide +kernel
    have hb : ∀ i, i < 16 → sx_len.getD i 0 < 2 ^ 31 := by decide +kernel
    have h1 : ∀ i : Nat, ∃ q : Nat × Nat, i < 16 → vk_S 1 [sx_len.getD i 0] [sx_byt.getD i []] (fun _ => q.1) (fun _ => q.2) A s s.heap ∧ (stTm i).eval args s none [] s = some (.ref q.1) := by
      intro i
      by_cases hi : i < 16
      · obtain ⟨k, v, h, hev⟩ := vk_Sof (args := args) (s := s) (N := 1) (tm := fun _ => stTm i) (len := [sx_len.getD i 0]) (byt := [sx_byt.getD i []]) (A := A) (fun z hz => by
            have h0 : z = 0 := by omega
            subst h0; exact hb i hi) (fun _ _ => hf _ (fx _ (hx i hi))) (fun _ _ => hf _ (fx _ (hc i hi))) (fun _ _ => hf _ (fx _ (ha i hi))) (fun z hz => by
            have h0 : z = 0 := by omega
            subst h0; exact hf _ (fx _ (hn i hi))) (fun z hz j hj => by
            have h0 : z = 0 := by omega
            subst h0; exact hf _ (fx _ (he i hi j hj))) (fun a b ha hb hn => by omega) hA
        exact ⟨(k 0, v 0), fun _ => ⟨vk_S.as h rfl rfl, hev 0 (by omega)⟩⟩
      · exact ⟨(0, 0), fun h => absurd h hi⟩
    exact ⟨fun i => (Classical.choose (h1 i)).1, fun i => (Classical.choose (h1 i)).2, fun i hi => Classical.choose_spec (h1 i) hi⟩
  obtain ⟨aK, evK, tK⟩ := va_Tof (args := args) (s := s) (tm := .static RX3 "COMMANDS" "[LClipHibernation$Command;") (ty := .object RX2) (N := 12) (f := fun j => .ref (adC j)) (A := A) (by decide) (hf _ (fx 46 (by decide +kernel))) (st_eqi (hf _ (fx 47 (by decide +kernel)))) (fun j hj => by
    have h : ∀ j, j < 12 → flat1[([49, 50, 51, 52, 53, 54, 55, 56, 57, 58, 59, 60] : List Nat).getD j 0]? = some (Cond.eq (.elem (.static RX3 "COMMANDS" "[LClipHibernation$Command;") (.int (Int32.ofNat j))) (.static RX2 (cmdNm.getD j "") "LClipHibernation$Command;")) := by decide +kernel
    exact st_eq (hf _ (fx _ (h j hj))) (evC j hj)) hA
  obtain ⟨aM, evM, tM⟩ := va_Tof (args := args) (s := s) (tm := .static RX0 "$SwitchMap$ClipHibernation$Command" "[I") (ty := .int) (N := 12) (f := fun j => .int (swV j)) (A := A) (by decide) (hf _ (fx 72 (by decide +kernel))) (st_eqi (hf _ (fx 73 (by decide +kernel)))) (fun j hj => by
    have h : ∀ j, j < 12 → flat1[([74, 75, 76, 77, 78, 79, 80, 81, 82, 83, 84, 85] : List Nat).getD j 0]? = some (Cond.eq (.elem (.static RX0 "$SwitchMap$ClipHibernation$Command" "[I") (.int (Int32.ofNat j))) (.int (swV j))) := by decide +kernel
    exact st_eqi (hf _ (fx _ (h j hj)))) hA
  obtain ⟨aG, e1, e2, e3, e4, e5, e6⟩ : ∃ aG : Nat → Nat, (∀ i, i < 7 → aG i = adT i) ∧ (∀ i, i < 12 → aG (10 + i) = adC i) ∧ aG 50 = aK ∧ aG 51 = aM ∧ (∀ i, i < 16 → aG (100 + i) = adS i) ∧ (∀ i, i < 16 → aG (150 + i) = adV i) := by
    refine ⟨fun n => if n < 7 then adT n else if n < 40 then adC (n - 10) else if n = 50 then aK else if n = 51 then aM else if n < 130 then adS (n - 100) else adV (n - 150), ?_, ?_, rfl, rfl, ?_, ?_⟩
    · intro i hi
      show (if i < 7 then _ else _) = _
      rw [if_pos hi]
    · intro i hi
      show (if 10 + i < 7 then _ else if 10 + i < 40 then _ else _) = _
      rw [if_neg (by omega), if_pos (by omega), Nat.add_sub_cancel_left]
    · intro i hi
      show (if 100 + i < 7 then _ else if 100 + i < 40 then _ else if 100 + i = 50 then _ else if 100 + i = 51 then _ else if 100 + i < 130 then _ else _) = _
      rw [if_neg (by omega), if_neg (by omega), if_neg (by omega), if_neg (by omega), if_pos (by omega), Nat.add_sub_cancel_left]
    · intro i hi
      show (if 150 + i < 7 then _ else if 150 + i < 40 then _ else if 150 + i = 50 then _ else if 150 + i = 51 then _ else if 150 + i < 130 then _ else _) = _
      rw [if_neg (by omega), if_neg (by omega), if_neg (by omega), if_neg (by omega), if_neg (by omega), Nat.add_sub_cancel_left]
  have evS : ∀ i, i < 16 → (stTm i).eval args s none [] s = some (.ref (aG (100 + i))) := fun i hi => by rw [e5 i hi]; exact (hS i hi).2
  have hRf : ∀ q ∈ sx_refs, vk_R q.1 q.2.1 q.2.2.1 (aG (100 + q.2.2.2)) s := by
    intro q hq
    have h1 : ∀ q ∈ sx_refs, Cond.stringRef q.1 q.2.1 q.2.2.1 ∈ lw_tbl ∧ q.2.2.2 < 16 := by decide +kernel
    have h2 : ∀ q ∈ sx_refs.zip ([0, 891, 0, 0, 0, 1011, 1020, 1030, 1040, 1049, 1057, 1065, 1074, 1083, 1093, 1103, 1002, 0, 0, 0, 0, 0, 0, 0, 0, 0, 0, 0, 0] : List Nat), (Term.string q.1.1 q.1.2.1 = stTm q.1.2.2.2) ∨ flat1[q.2]? = some (Cond.eq (.string q.1.1 q.1.2.1) (stTm q.1.2.2.2)) ∨ flat1[q.2]? = some (Cond.eq (stTm q.1.2.2.2) (.string q.1.1 q.1.2.1)) := by decide +kernel
    have h5 : ∀ q ∈ sx_refs, ∃ n, (q, n) ∈ sx_refs.zip ([0, 891, 0, 0, 0, 1011, 1020, 1030, 1040, 1049, 1057, 1065, 1074, 1083, 1093, 1103, 1002, 0, 0, 0, 0, 0, 0, 0, 0, 0, 0, 0, 0] : List Nat) := by
      intro q hq
      obtain ⟨i, hi, rfl⟩ := List.getElem_of_mem hq
      have hl : sx_refs.length = 29 := rfl
      exact ⟨_, List.mem_of_getElem? (i := i) (by rw [List.getElem?_zip_eq_some]; exact ⟨List.getElem?_eq_getElem hi, List.getElem?_eq_getElem (by show i < 29; omega)⟩)⟩
    obtain ⟨n5, hn5⟩ := h5 q hq
    have h3 := evS _ (h1 q hq).2
    have h4 : (Term.string q.1 q.2.1).eval args s none [] s = some (.ref (aG (100 + q.2.2.2))) := by
      rcases h2 _ hn5 with h | h | h
      · rw [show Term.string q.1 q.2.1 = _ from h]; exact h3
      · exact st_eq (hf _ (fx _ h)) h3
      · obtain ⟨y, y1, y2⟩ := Cond.eq_one (hf _ (fx _ h))
        rw [y2, ← y1, h3]
    exact vk_R.of (hts _ (h1 q hq).1) h4
  refine ⟨(dC, dI), fun k => match k with | 0 => g0 | 1 => g1 | 2 => g2 | 3 => g3 | _ => g4, aG, ⟨hKc, ?_⟩, ?_, hl, fun w hw => nt_of hw (hts _ (List.mem_filter.mp hw).1)⟩
  · intro k q hq
    match k, hq with
    | 0, hq => cases hq; exact ⟨gA0, gR0⟩
    | 1, hq => cases hq; exact ⟨gA1, gR1⟩
    | 2, hq => cases hq; exact ⟨gA2, gR2⟩
    | 3, hq => cases hq; exact ⟨gA3, gR3⟩
    | 4, hq => cases hq; exact ⟨gA4, gR4⟩
    | k + 5, hq => simp [tysG] at hq
  · subst hAe
    refine ⟨va_En.as eT (fun i hi => e1 i hi), va_En.as eC (fun i hi => e2 i hi), ?_, ?_, hRf, ?_, ?_, ?_, ?_, ?_, ?_⟩
    · refine va_Efof (args := args) (s := s) (N := 12) (E := RX2) (d0 := "LClipHibernation$Command;") (nm := cmdNm) (tm := fun i => stTm i) (fun i hi => by show _ = some (Value.ref (aG (10 + i))); rw [e2 i hi]; exact evC i hi) (fun i hi => hf _ (by
        have h : ∀ i, i < 12 → flat1[([90, 101, 113, 126, 140, 155, 171, 188, 206, 225, 245, 63] : List Nat).getD i 0]? = some (Cond.eq (.field (.static RX2 (cmdNm.getD i "") "LClipHibernation$Command;") RX2 "word" "Ljava/lang/String;") (stTm i)) := by decide +kernel
        exact fx _ (h i hi))) (fun i hi => evS i (by omega)) hA
    · intro i hi
      exact vk_S.as (hS i hi).1 (e5 i hi) (e6 i hi)
    · intro q hq
      have h1 : ∀ q ∈ sx_msgs, Cond.stringRef q.1 q.2.1 q.2.2 ∈ lw_tbl := by decide +kernel
      have h2 : ∀ q ∈ sx_msgs.zip ([488, 519, 543, 554, 570, 586, 602, 619, 650, 675] : List Nat), flat1[q.2]? = some (Cond.exactly (.string q.1.1 q.1.2.1) "java/lang/String") := by decide +kernel
      have h5 : ∃ n, (q, n) ∈ sx_msgs.zip ([488, 519, 543, 554, 570, 586, 602, 619, 650, 675] : List Nat) := by
        obtain ⟨i, hi, rfl⟩ := List.getElem_of_mem hq
        have hl : sx_msgs.length = 10 := rfl
        exact ⟨_, List.mem_of_getElem? (i := i) (by rw [List.getElem?_zip_eq_some]; exact ⟨List.getElem?_eq_getElem hi, List.getElem?_eq_getElem (by show i < 10; omega)⟩)⟩
      obtain ⟨n5, hn5⟩ := h5
      obtain ⟨a, ha⟩ := st_ex (hf _ (fx _ (h2 _ hn5)))
      exact ⟨a, vk_R.of (hts _ (h1 q hq)) ha⟩
    · exact ⟨vx_Zqof (hts _ (by decide +kernel)) (hts (.initialized Bundle.tN) (by decide +kernel)) (hf _ (fx 86 (by decide +kernel))) hA, vx_Zqof (hts _ (by decide +kernel)) (hts (.initialized Bundle.tN) (by decide +kernel)) (hf _ (fx 87 (by decide +kernel))) hA⟩
    · refine ⟨?_, ?_⟩
      · show va_Z RX3 "COMMANDS" "[LClipHibernation$Command;" (.ref (aG 50)) _ s s.heap
        rw [e3]
        exact va_Zref (hts _ (by decide +kernel)) (hts (.initialized RX3) (by decide +kernel)) evK hA
      · show va_T (.object RX2) (aG 50) 12 (fun j => .ref (aG (10 + j))) _ s s.heap
        rw [e3]
        exact va_Tas tK (fun j hj => by rw [e2 j hj])
    · refine ⟨?_, ?_⟩
      · show va_Z RX0 "$SwitchMap$ClipHibernation$Command" "[I" (.ref (aG 51)) _ s s.heap
        rw [e4]
        exact va_Zref (hts _ (by decide +kernel)) (hts (.initialized RX0) (by decide +kernel)) evM hA
      · show va_T .int (aG 51) 12 (fun j => .int (swV j)) _ s s.heap
        rw [e4]
        exact tM
    · exact ⟨va_Zof (hts _ (by decide +kernel)) (hts (.initialized "java/lang/String") (by decide +kernel)) (st_eqi (hf _ (fx 6 (by decide +kernel)))) hA, va_Zqof (hts _ (by decide +kernel)) (hts (.initialized "jdk/internal/util/Preconditions") (by decide +kernel)) (hf _ (fx 7 (by decide +kernel))) hA⟩
    · intro q hq
      have h : ∀ q ∈ ncPairs.zip ([281, 291, 301, 271, 292, 302, 272, 282, 303, 273, 283, 293] : List Nat), flat1[q.2]? = some (Cond.not (.castable (excN q.1.1) (excN q.1.2))) := by decide +kernel
      have h5 : ∃ n, (q, n) ∈ ncPairs.zip ([281, 291, 301, 271, 292, 302, 272, 282, 303, 273, 283, 293] : List Nat) := by
        obtain ⟨i, hi, rfl⟩ := List.getElem_of_mem hq
        have hl : ncPairs.length = 12 := rfl
        exact ⟨_, List.mem_of_getElem? (i := i) (by rw [List.getElem?_zip_eq_some]; exact ⟨List.getElem?_eq_getElem hi, List.getElem?_eq_getElem (by show i < 12; omega)⟩)⟩
      obtain ⟨n5, hn5⟩ := h5
      exact va_Nc.of (hf _ (fx _ (h _ hn5)))
