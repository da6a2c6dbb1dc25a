/-! ===== the JDK's own methods: Enum.ordinal, String.length, String.charAt, Integer.bitCount is printed with the class ===== -/
abbrev mJord : MT := (yJx29ce0_ordinal_8abf5, cJx29ce0_ordinal_8abf5, 1, (some .int))
abbrev mJ0_length_8abf5 : MT := (yJ0_length_8abf5, cJ0_length_8abf5, 1, (some .int))
abbrev mJ0_charAt_5068e : MT := (yJ0_charAt_5068e, cJ0_charAt_5068e, 2, (some .char))
abbrev mJ0_coder : MT := (yJ0_coder_7d493, cJ0_coder_7d493, 1, (some .byte))
abbrev mJ0_isLatin1 : MT := (yJ0_isLatin1_aae02, cJ0_isLatin1_aae02, 1, (some .boolean))
abbrev mJ0_checkIndex : MT := (yJ0_checkIndex_df160, cJ0_checkIndex_df160, 2, none)
abbrev mJ1_charAt : MT := (yJ1_charAt_3b067, cJ1_charAt_3b067, 2, (some .char))
abbrev mJ3_checkIndex : MT := (yJ3_checkIndex_8e157, cJ3_checkIndex_8e157, 3, (some .int))
theorem qJord_0 : Dx cJx29ce0_ordinal_8abf5 0 (.aload_n 0) 1 1 := ⟨by decide +kernel, rfl⟩
theorem qJord_1 : Dx cJx29ce0_ordinal_8abf5 1 (.getfield 7) 3 4 := ⟨by decide +kernel, rfl⟩
theorem qJord_4 : Dx cJx29ce0_ordinal_8abf5 4 (.ireturn) 1 5 := ⟨by decide +kernel, rfl⟩
theorem qJ0_length_0 : Dx cJ0_length_8abf5 0 (.aload_n 0) 1 1 := ⟨by decide +kernel, rfl⟩
theorem qJ0_length_1 : Dx cJ0_length_8abf5 1 (.getfield 9) 3 4 := ⟨by decide +kernel, rfl⟩
theorem qJ0_length_4 : Dx cJ0_length_8abf5 4 (.arraylength) 1 5 := ⟨by decide +kernel, rfl⟩
theorem qJ0_length_5 : Dx cJ0_length_8abf5 5 (.aload_n 0) 1 6 := ⟨by decide +kernel, rfl⟩
theorem qJ0_length_6 : Dx cJ0_length_8abf5 6 (.invokevirtual 335) 3 9 := ⟨by decide +kernel, rfl⟩
theorem qJ0_length_9 : Dx cJ0_length_8abf5 9 (.ishr) 1 10 := ⟨by decide +kernel, rfl⟩
theorem qJ0_length_10 : Dx cJ0_length_8abf5 10 (.ireturn) 1 11 := ⟨by decide +kernel, rfl⟩
theorem qJ0_charAt_0 : Dx cJ0_charAt_5068e 0 (.aload_n 0) 1 1 := ⟨by decide +kernel, rfl⟩
theorem qJ0_charAt_1 : Dx cJ0_charAt_5068e 1 (.invokevirtual 492) 3 4 := ⟨by decide +kernel, rfl⟩
theorem qJ0_charAt_4 : Dj cJ0_charAt_5068e 4 (.ifCond .eq 12) 12 7 16 := ⟨by decide +kernel, rfl, rfl⟩
theorem qJ0_charAt_7 : Dx cJ0_charAt_5068e 7 (.aload_n 0) 1 8 := ⟨by decide +kernel, rfl⟩
theorem qJ0_charAt_8 : Dx cJ0_charAt_5068e 8 (.getfield 9) 3 11 := ⟨by decide +kernel, rfl⟩
theorem qJ0_charAt_11 : Dx cJ0_charAt_5068e 11 (.iload_n 1) 1 12 := ⟨by decide +kernel, rfl⟩
theorem qJ0_charAt_12 : Dx cJ0_charAt_5068e 12 (.invokestatic 495) 3 15 := ⟨by decide +kernel, rfl⟩
theorem qJ0_charAt_15 : Dx cJ0_charAt_5068e 15 (.ireturn) 1 16 := ⟨by decide +kernel, rfl⟩
theorem qJ0_charAt_16 : Dx cJ0_charAt_5068e 16 (.aload_n 0) 1 17 := ⟨by decide +kernel, rfl⟩
theorem qJ0_charAt_17 : Dx cJ0_charAt_5068e 17 (.getfield 9) 3 20 := ⟨by decide +kernel, rfl⟩
theorem qJ0_charAt_20 : Dx cJ0_charAt_5068e 20 (.iload_n 1) 1 21 := ⟨by decide +kernel, rfl⟩
theorem qJ0_charAt_21 : Dx cJ0_charAt_5068e 21 (.invokestatic 498) 3 24 := ⟨by decide +kernel, rfl⟩
theorem qJ0_charAt_24 : Dx cJ0_charAt_5068e 24 (.ireturn) 1 25 := ⟨by decide +kernel, rfl⟩
theorem qJ0_coder_0 : Dx cJ0_coder_7d493 0 (.getstatic 38) 3 3 := ⟨by decide +kernel, rfl⟩
theorem qJ0_coder_3 : Dj cJ0_coder_7d493 3 (.ifCond .eq 10) 10 6 13 := ⟨by decide +kernel, rfl, rfl⟩
theorem qJ0_coder_6 : Dx cJ0_coder_7d493 6 (.aload_n 0) 1 7 := ⟨by decide +kernel, rfl⟩
theorem qJ0_coder_7 : Dx cJ0_coder_7d493 7 (.getfield 15) 3 10 := ⟨by decide +kernel, rfl⟩
theorem qJ0_coder_10 : Dj cJ0_coder_7d493 10 (.goto 4) 4 13 14 := ⟨by decide +kernel, rfl, rfl⟩
theorem qJ0_coder_13 : Dx cJ0_coder_7d493 13 (.iconst 1) 1 14 := ⟨by decide +kernel, rfl⟩
theorem qJ0_coder_14 : Dx cJ0_coder_7d493 14 (.ireturn) 1 15 := ⟨by decide +kernel, rfl⟩
theorem qJ0_isLatin1_0 : Dx cJ0_isLatin1_aae02 0 (.getstatic 38) 3 3 := ⟨by decide +kernel, rfl⟩
theorem qJ0_isLatin1_3 : Dj cJ0_isLatin1_aae02 3 (.ifCond .eq 14) 14 6 17 := ⟨by decide +kernel, rfl, rfl⟩
theorem qJ0_isLatin1_6 : Dx cJ0_isLatin1_aae02 6 (.aload_n 0) 1 7 := ⟨by decide +kernel, rfl⟩
theorem qJ0_isLatin1_7 : Dx cJ0_isLatin1_aae02 7 (.getfield 15) 3 10 := ⟨by decide +kernel, rfl⟩
theorem qJ0_isLatin1_10 : Dj cJ0_isLatin1_aae02 10 (.ifCond .ne 7) 7 13 17 := ⟨by decide +kernel, rfl, rfl⟩
theorem qJ0_isLatin1_13 : Dx cJ0_isLatin1_aae02 13 (.iconst 1) 1 14 := ⟨by decide +kernel, rfl⟩
theorem qJ0_isLatin1_14 : Dj cJ0_isLatin1_aae02 14 (.goto 4) 4 17 18 := ⟨by decide +kernel, rfl, rfl⟩
theorem qJ0_isLatin1_17 : Dx cJ0_isLatin1_aae02 17 (.iconst 0) 1 18 := ⟨by decide +kernel, rfl⟩
theorem qJ0_isLatin1_18 : Dx cJ0_isLatin1_aae02 18 (.ireturn) 1 19 := ⟨by decide +kernel, rfl⟩
theorem qJ0_checkIndex_0 : Dx cJ0_checkIndex_df160 0 (.iload_n 0) 1 1 := ⟨by decide +kernel, rfl⟩
theorem qJ0_checkIndex_1 : Dx cJ0_checkIndex_df160 1 (.iload_n 1) 1 2 := ⟨by decide +kernel, rfl⟩
theorem qJ0_checkIndex_2 : Dx cJ0_checkIndex_df160 2 (.getstatic 1053) 3 5 := ⟨by decide +kernel, rfl⟩
theorem qJ0_checkIndex_5 : Dx cJ0_checkIndex_df160 5 (.invokestatic 1059) 3 8 := ⟨by decide +kernel, rfl⟩
theorem qJ0_checkIndex_8 : Dx cJ0_checkIndex_df160 8 (.pop) 1 9 := ⟨by decide +kernel, rfl⟩
theorem qJ0_checkIndex_9 : Dx cJ0_checkIndex_df160 9 (.return_) 1 10 := ⟨by decide +kernel, rfl⟩
theorem qJ1_charAt_0 : Dx cJ1_charAt_3b067 0 (.iload_n 1) 1 1 := ⟨by decide +kernel, rfl⟩
theorem qJ1_charAt_1 : Dx cJ1_charAt_3b067 1 (.aload_n 0) 1 2 := ⟨by decide +kernel, rfl⟩
theorem qJ1_charAt_2 : Dx cJ1_charAt_3b067 2 (.arraylength) 1 3 := ⟨by decide +kernel, rfl⟩
theorem qJ1_charAt_3 : Dx cJ1_charAt_3b067 3 (.invokestatic 9) 3 6 := ⟨by decide +kernel, rfl⟩
theorem qJ1_charAt_6 : Dx cJ1_charAt_3b067 6 (.aload_n 0) 1 7 := ⟨by decide +kernel, rfl⟩
theorem qJ1_charAt_7 : Dx cJ1_charAt_3b067 7 (.iload_n 1) 1 8 := ⟨by decide +kernel, rfl⟩
theorem qJ1_charAt_8 : Dx cJ1_charAt_3b067 8 (.baload) 1 9 := ⟨by decide +kernel, rfl⟩
theorem qJ1_charAt_9 : Dx cJ1_charAt_3b067 9 (.sipush 255) 3 12 := ⟨by decide +kernel, rfl⟩
theorem qJ1_charAt_12 : Dx cJ1_charAt_3b067 12 (.iand) 1 13 := ⟨by decide +kernel, rfl⟩
theorem qJ1_charAt_13 : Dx cJ1_charAt_3b067 13 (.i2c) 1 14 := ⟨by decide +kernel, rfl⟩
theorem qJ1_charAt_14 : Dx cJ1_charAt_3b067 14 (.ireturn) 1 15 := ⟨by decide +kernel, rfl⟩
theorem qJ3_checkIndex_0 : Dx cJ3_checkIndex_8e157 0 (.iload_n 0) 1 1 := ⟨by decide +kernel, rfl⟩
theorem qJ3_checkIndex_1 : Dj cJ3_checkIndex_8e157 1 (.ifCond .lt 8) 8 4 9 := ⟨by decide +kernel, rfl, rfl⟩
theorem qJ3_checkIndex_4 : Dx cJ3_checkIndex_8e157 4 (.iload_n 0) 1 5 := ⟨by decide +kernel, rfl⟩
theorem qJ3_checkIndex_5 : Dx cJ3_checkIndex_8e157 5 (.iload_n 1) 1 6 := ⟨by decide +kernel, rfl⟩
theorem qJ3_checkIndex_6 : Dj cJ3_checkIndex_8e157 6 (.if_icmp .lt 10) 10 9 16 := ⟨by decide +kernel, rfl, rfl⟩
theorem qJ3_checkIndex_9 : Dx cJ3_checkIndex_8e157 9 (.aload_n 2) 1 10 := ⟨by decide +kernel, rfl⟩
theorem qJ3_checkIndex_10 : Dx cJ3_checkIndex_8e157 10 (.iload_n 0) 1 11 := ⟨by decide +kernel, rfl⟩
theorem qJ3_checkIndex_11 : Dx cJ3_checkIndex_8e157 11 (.iload_n 1) 1 12 := ⟨by decide +kernel, rfl⟩
theorem qJ3_checkIndex_12 : Dx cJ3_checkIndex_8e157 12 (.invokestatic 95) 3 15 := ⟨by decide +kernel, rfl⟩
theorem qJ3_checkIndex_15 : Dx cJ3_checkIndex_8e157 15 (.athrow) 1 16 := ⟨by decide +kernel, rfl⟩
theorem qJ3_checkIndex_16 : Dx cJ3_checkIndex_8e157 16 (.iload_n 0) 1 17 := ⟨by decide +kernel, rfl⟩
theorem qJ3_checkIndex_17 : Dx cJ3_checkIndex_8e157 17 (.ireturn) 1 18 := ⟨by decide +kernel, rfl⟩
theorem flJ0_38 : Cond.fieldLink RJ0 38 "java/lang/String" "COMPACT_STRINGS" "Z" ∈ TG := (tg 277 (by decide +kernel) (by decide +kernel))
theorem flJ0_9 : Cond.fieldLink RJ0 9 "java/lang/String" "value" "[B" ∈ TG := (tg 1037 (by decide +kernel) (by decide +kernel))
theorem flJ0_15 : Cond.fieldLink RJ0 15 "java/lang/String" "coder" "B" ∈ TG := (tg 1038 (by decide +kernel) (by decide +kernel))
theorem flJ0_1053 : Cond.fieldLink RJ0 1053 "jdk/internal/util/Preconditions" "SIOOBE_FORMATTER" "Ljava/util/function/BiFunction;" ∈ TG := (tg 293 (by decide +kernel) (by decide +kernel))
theorem flJord : Cond.fieldLink RJx29ce0 7 "java/lang/Enum" "ordinal" "I" ∈ TG := (tg 1040 (by decide +kernel) (by decide +kernel))
theorem klJ0_335 : KL RJ0 335 mJ0_coder := Or.inl (tg 273 (by decide +kernel) (by decide +kernel))
theorem klJ0_492 : KL RJ0 492 mJ0_isLatin1 := Or.inl (tg 283 (by decide +kernel) (by decide +kernel))
theorem klJ0_495 : KL RJ0 495 mJ1_charAt := Or.inl (tg 287 (by decide +kernel) (by decide +kernel))
theorem klJ1_9 : KL RJ1 9 mJ0_checkIndex := Or.inl (tg 290 (by decide +kernel) (by decide +kernel))
theorem klJ0_1059 : KL RJ0 1059 mJ3_checkIndex := Or.inl (tg 295 (by decide +kernel) (by decide +kernel))
theorem mvJ0_coder : MV mJ0_coder 0 := ⟨⟨(tg 276 (by decide +kernel) (by decide +kernel)), (tg 78 (by decide +kernel) (by decide +kernel)), ⟨by decide +kernel, by decide +kernel⟩, by decide +kernel⟩, (tg 274 (by decide +kernel) (by decide +kernel)), (tg 275 (by decide +kernel) (by decide +kernel))⟩
theorem mvJ0_isLatin1 : MV mJ0_isLatin1 0 := ⟨⟨(tg 286 (by decide +kernel) (by decide +kernel)), (tg 78 (by decide +kernel) (by decide +kernel)), ⟨by decide +kernel, by decide +kernel⟩, by decide +kernel⟩, (tg 284 (by decide +kernel) (by decide +kernel)), (tg 285 (by decide +kernel) (by decide +kernel))⟩
theorem mvJ0_length : MV mJ0_length_8abf5 0 := ⟨⟨(tg 272 (by decide +kernel) (by decide +kernel)), (tg 78 (by decide +kernel) (by decide +kernel)), ⟨by decide +kernel, by decide +kernel⟩, by decide +kernel⟩, (tg 270 (by decide +kernel) (by decide +kernel)), (tg 271 (by decide +kernel) (by decide +kernel))⟩
theorem mvJ0_charAt : MV mJ0_charAt_5068e 1 := ⟨⟨(tg 282 (by decide +kernel) (by decide +kernel)), (tg 78 (by decide +kernel) (by decide +kernel)), ⟨by decide +kernel, by decide +kernel⟩, by decide +kernel⟩, (tg 280 (by decide +kernel) (by decide +kernel)), (tg 281 (by decide +kernel) (by decide +kernel))⟩
theorem miJ0_checkIndex : MSt mJ0_checkIndex 2 := ⟨⟨(tg 292 (by decide +kernel) (by decide +kernel)), (tg 78 (by decide +kernel) (by decide +kernel)), ⟨by decide +kernel, by decide +kernel⟩, by decide +kernel⟩, (tg 291 (by decide +kernel) (by decide +kernel))⟩
theorem miJ1_charAt : MSt mJ1_charAt 2 := ⟨⟨(tg 289 (by decide +kernel) (by decide +kernel)), (tg 79 (by decide +kernel) (by decide +kernel)), ⟨by decide +kernel, by decide +kernel⟩, by decide +kernel⟩, (tg 288 (by decide +kernel) (by decide +kernel))⟩
theorem miJ3_checkIndex : MSt mJ3_checkIndex 3 := ⟨⟨(tg 297 (by decide +kernel) (by decide +kernel)), (tg 80 (by decide +kernel) (by decide +kernel)), ⟨by decide +kernel, by decide +kernel⟩, by decide +kernel⟩, (tg 296 (by decide +kernel) (by decide +kernel))⟩
theorem orS1 : Cond.sameMethod RX2 RJx29ce0 "ordinal" "()I" ∈ TG := (tg 411 (by decide +kernel) (by decide +kernel))
theorem orS2 : Cond.selects RX2 ⟨RX2, "ordinal", "()I"⟩ yJx29ce0_ordinal_8abf5 ∈ TG := (tg 413 (by decide +kernel) (by decide +kernel))
theorem orS3 : Cond.instanceMethod yJx29ce0_ordinal_8abf5 ∈ TG := (tg 414 (by decide +kernel) (by decide +kernel))
theorem orS4 : Cond.initialized RJx29ce0 ∈ TG := (tg 76 (by decide +kernel) (by decide +kernel))
theorem orS5 : Cond.code mJord.1 mJord.2.1 mJord.2.2.1 mJord.2.2.2 ∈ TG := (tg 415 (by decide +kernel) (by decide +kernel))
section JDK
variable {g : GT} {X : XT} {own : String} {b : ByteArray} {ex : Bool} {Q : State → Prop} {cells slots : Nat} {sh : List Shp} {h : Hp} {pc n : Nat} {L : List (Option Value)} {st : List Value}
/-- the address of a String constant, of its bytes -/
theorem sx_at {c : Nat} (cx : Cx g X own b) (hc : c < 16) : va_O "java/lang/String" (ga g (100 + c)) (gA g) X.2.2.2.1 X.2.2.2.1.heap ∧ va_OF "java/lang/String" "coder" "B" (.int 0) (ga g (100 + c)) (gA g) X.2.2.2.1 X.2.2.2.1.heap ∧ va_OF "java/lang/String" "value" "[B" (.ref (ga g (150 + c))) (ga g (100 + c)) (gA g) X.2.2.2.1 X.2.2.2.1.heap ∧ va_T .byte (ga g (150 + c)) (sx_len.getD c 0) (fun j => .int ((sx_byt.getD c []).getD j 0)) (gA g) X.2.2.2.1 X.2.2.2.1.heap := by
  have h := (cx.2.2.2.2.1.2.1.2.2.2.1 c hc).1 0 (by decide)
  exact h
theorem sx_recv {c : Nat} (cx : Cx g X own b) (hc : c < 16) (H : Heap) (locs : List Loc) (hS : va_S (gA g) X.2.2.2.1.heap H locs) : ∃ cell : Cell, H[ga g (100 + c)]? = some cell ∧ cell.vm.isStatics = false ∧ X.2.2.2.1.vm.findClass "java/lang/String" = some cell.cls :=
  vk_recv (cx.2.2.2.2.1.2.1.2.2.2.1 c hc) (i := 0) (by decide) hS
theorem PW.sget {idx q : Nat} {f d : String} {v : Value} (cx : Cx g X RJ0 b) (hd : Dx b pc (.getfield idx) 3 n) (hE : va_OF "java/lang/String" f d v q (gA g) X.2.2.2.1 X.2.2.2.1.heap) (hl : Cond.fieldLink RJ0 idx "java/lang/String" f d ∈ TG) (k : PW g X ex Q cells slots sh h n L (v :: st)) : PW g X ex Q cells slots sh h pc L (.ref q :: st) := by
  obtain ⟨hd, rfl⟩ := hd
  exact fun H locs ls hH hS hL => vk_getf cx.1 cx.2.1 hE hS cx.2.2.1 (cx.2.2.2.1 _ hl) (fun _ q => q) hd (k H locs ls hH hS hL)
theorem PW.compact {idx : Nat} (cx : Cx g X RJ0 b) (hd : Dx b pc (.getstatic idx) 3 n) (hl : Cond.fieldLink RJ0 idx "java/lang/String" "COMPACT_STRINGS" "Z" ∈ TG) (k : PW g X ex Q cells slots sh h n L (.int 1 :: st)) : PW g X ex Q cells slots sh h pc L st := by
  obtain ⟨hd, rfl⟩ := hd
  exact fun H locs ls hH hS hL => va_gets cx.1 cx.2.1 cx.2.2.2.2.1.2.1.2.2.2.2.2.2.2.2.2.1.1 hS cx.2.2.1 (cx.2.2.2.1 _ hl) (fun _ q => q) hd (k H locs ls hH hS hL)
theorem PW.salen {q N : Nat} {f : Nat → Value} {v : Int32} (cx : Cx g X own b) (hd : Dx b pc .arraylength 1 n) (hT : va_T .byte q N f (gA g) X.2.2.2.1 X.2.2.2.1.heap) (hv : Int32.ofNat N = v) (k : PW g X ex Q cells slots sh h n L (.int v :: st)) : PW g X ex Q cells slots sh h pc L (.ref q :: st) := by
  obtain ⟨hd, rfl⟩ := hd
  exact fun H locs ls hH hS hL => va_tlen cx.1 cx.2.1 hT hS hv hd (k H locs ls hH hS hL)
theorem PW.sald {q N : Nat} {f : Nat → Value} {i : Int32} {v : Value} (cx : Cx g X own b) (hd : Dx b pc .baload 1 n) (hT : va_T .byte q N f (gA g) X.2.2.2.1 X.2.2.2.1.heap) (hin : vp_in i N) (hv : f i.toNatClampNeg = v) (k : PW g X ex Q cells slots sh h n L (v :: st)) : PW g X ex Q cells slots sh h pc L (.int i :: .ref q :: st) := by
  obtain ⟨hd, rfl⟩ := hd
  exact fun H locs ls hH hS hL => va_tb cx.1 cx.2.1 hT hS hin hv hd (k H locs ls hH hS hL)
theorem PW.ordget {idx i : Nat} (cx : Cx g X RJx29ce0 b) (hd : Dx b pc (.getfield idx) 3 n) (hi : i < 12) (hl : Cond.fieldLink RJx29ce0 idx "java/lang/Enum" "ordinal" "I" ∈ TG) (k : PW g X ex Q cells slots sh h n L (.int (nI i) :: st)) : PW g X ex Q cells slots sh h pc L (.ref (ga g (10 + i)) :: st) := by
  obtain ⟨hd, rfl⟩ := hd
  have e : (([0, 1, 2, 3, 4, 5, 6, 7, 8, 9, 10, 11] : List Int32).getD i 0) = nI i := by
    match i, hi with
    | 0, _ | 1, _ | 2, _ | 3, _ | 4, _ | 5, _ | 6, _ | 7, _ | 8, _ | 9, _ | 10, _ | 11, _ => rfl
    | k + 12, h => omega
  rw [← e] at k
  exact fun H locs ls hH hS hL => va_getE (ad := fun k => ga g (10 + k)) (i := i) cx.1 cx.2.1 cx.2.2.2.2.1.2.1.2.1 hi hS cx.2.2.1 (q := ("java/lang/Enum", "ordinal", "I", [0, 1, 2, 3, 4, 5, 6, 7, 8, 9, 10, 11])) List.mem_cons_self (cx.2.2.2.1 _ hl) (fun _ q => q) hd (k H locs ls hH hS hL)
end JDK
theorem one_cat {v : Value} (h : v.category = 1) : ∀ w ∈ [v], w.category = 1 := fun w hw => by
  rw [List.mem_singleton.mp hw]; exact h
theorem ctOrd {g : GT} {ex : Bool} {sh : List Shp} (h : Hp) {i : Nat} (hi : i < 12) : Ct g mJord 0 0 0 ex [.ref (ga g (10 + i))] sh h (PE (some (.int (nI i))) sh h) := by
  refine Ct.of (L := [some (.ref (ga g (10 + i)))]) (by decide) (one_cat rfl) (Nat.le_of_ble_eq_true rfl) rfl (fun X mx => ?_)
  obtain ⟨cx, hR, hml, hrt, -⟩ := mx
  have cx : Cx g X RJx29ce0 cJx29ce0_ordinal_8abf5 := cx
  have hrt : X.2.2.2.2.2.2.2.1.sig.returnType = (some .int) := hrt
  refine PW.aload_n cx qJord_0 rfl ?_
  refine PW.ordget cx qJord_1 hi flJord ?_
  exact PW.iret cx hrt qJord_4 ⟨rfl, rfl, rfl⟩
theorem ctCoder {g : GT} {ex : Bool} {sh : List Shp} (h : Hp) {c : Nat} (hc : c < 16) : Ct g mJ0_coder 0 0 0 ex [.ref (ga g (100 + c))] sh h (PE (some (.int 0)) sh h) := by
  refine Ct.of (L := [some (.ref (ga g (100 + c)))]) (by decide) (one_cat rfl) (Nat.le_of_ble_eq_true rfl) rfl (fun X mx => ?_)
  obtain ⟨cx, hR, hml, hrt, -⟩ := mx
  have cx : Cx g X RJ0 cJ0_coder_7d493 := cx
  have hrt : X.2.2.2.2.2.2.2.1.sig.returnType = (some .byte) := hrt
  refine PW.compact cx qJ0_coder_0 flJ0_38 ?_
  refine PW.if_eq (ρ := Nat) (A := none) (B := some 0) (r := some 0) cx qJ0_coder_3 rfl (fun hf => by cases hf) (fun _ => ?_)
  refine PW.aload_n cx qJ0_coder_6 rfl ?_
  refine PW.sget cx qJ0_coder_7 (sx_at cx hc).2.1 flJ0_15 ?_
  refine PW.goto cx qJ0_coder_10 ?_
  exact PW.zret cx hrt (by decide) qJ0_coder_14 ⟨rfl, rfl, rfl⟩
theorem ctLatin {g : GT} {ex : Bool} {sh : List Shp} (h : Hp) {c : Nat} (hc : c < 16) : Ct g mJ0_isLatin1 0 0 0 ex [.ref (ga g (100 + c))] sh h (PE (some (.int 1)) sh h) := by
  refine Ct.of (L := [some (.ref (ga g (100 + c)))]) (by decide) (one_cat rfl) (Nat.le_of_ble_eq_true rfl) rfl (fun X mx => ?_)
  obtain ⟨cx, hR, hml, hrt, -⟩ := mx
  have cx : Cx g X RJ0 cJ0_isLatin1_aae02 := cx
  have hrt : X.2.2.2.2.2.2.2.1.sig.returnType = (some .boolean) := hrt
  refine PW.compact cx qJ0_isLatin1_0 flJ0_38 ?_
  refine PW.if_eq (ρ := Nat) (A := none) (B := some 0) (r := some 0) cx qJ0_isLatin1_3 rfl (fun hf => by cases hf) (fun _ => ?_)
  refine PW.aload_n cx qJ0_isLatin1_6 rfl ?_
  refine PW.sget cx qJ0_isLatin1_7 (sx_at cx hc).2.1 flJ0_15 ?_
  refine PW.if_ne (ρ := Nat) (A := some 0) (B := none) (r := some 0) cx qJ0_isLatin1_10 rfl (fun _ => ?_) (fun hf => by cases hf)
  refine PW.iconst (v := 1) cx qJ0_isLatin1_13 rfl ?_
  refine PW.goto cx qJ0_isLatin1_14 ?_
  exact PW.zret cx hrt nb1 qJ0_isLatin1_18 ⟨rfl, rfl, rfl⟩
theorem ctLen {g : GT} {ex : Bool} {sh : List Shp} (h : Hp) {c : Nat} (hc : c < 16) : Ct g mJ0_length_8abf5 1 0 0 ex [.ref (ga g (100 + c))] sh h (PE (some (.int (nI (sx_len.getD c 0)))) sh h) := by
  refine Ct.of (L := [some (.ref (ga g (100 + c)))]) (by decide) (one_cat rfl) (Nat.le_of_ble_eq_true rfl) rfl (fun X mx => ?_)
  obtain ⟨cx, hR, hml, hrt, -⟩ := mx
  have cx : Cx g X RJ0 cJ0_length_8abf5 := cx
  have hrt : X.2.2.2.2.2.2.2.1.sig.returnType = (some .int) := hrt
  refine PW.aload_n cx qJ0_length_0 rfl ?_
  refine PW.sget cx qJ0_length_1 (sx_at cx hc).2.2.1 flJ0_9 ?_
  refine PW.salen cx qJ0_length_4 (sx_at cx hc).2.2.2 rfl ?_
  refine PW.aload_n cx qJ0_length_5 rfl ?_
  refine PW.callVr (mc := 0) (ms := 0) (As := []) (st := [.int (nI (sx_len.getD c 0))]) cx hR qJ0_length_6 klJ0_335 mvJ0_coder (fun H locs _ hS => sx_recv cx hc H locs hS) rfl rfl (Nat.le_of_ble_eq_true rfl) (Nat.le_of_ble_eq_true rfl) (Nat.le_of_ble_eq_true rfl) (Nat.zero_le _) (Nat.zero_le _) (ctCoder h hc) (fun o sh1 h1 hp => ?_)
  obtain ⟨rfl, rfl, rfl⟩ := hp
  refine PW.ishr cx qJ0_length_9 ?_
  have e : nI (sx_len.getD c 0) >>> ((0 : Int32) &&& 31) = nI (sx_len.getD c 0) := by
    match c, hc with
    | 0, _ | 1, _ | 2, _ | 3, _ | 4, _ | 5, _ | 6, _ | 7, _ | 8, _ | 9, _ | 10, _ | 11, _ | 12, _ | 13, _ | 14, _ | 15, _ => decide +kernel
    | k + 16, h => omega
  rw [e]
  exact PW.iret cx hrt qJ0_length_10 ⟨rfl, rfl, rfl⟩
theorem cat3 {a b : Int32} {v : Value} (h : v.category = 1) : ∀ w ∈ [Value.int a, Value.int b, v], w.category = 1 := fun w hw => by
  simp only [List.mem_cons, List.not_mem_nil, or_false] at hw
  rcases hw with rfl | rfl | rfl
  · rfl
  · rfl
  · exact h
theorem ctChk3 {g : GT} {ex : Bool} {sh : List Shp} (h : Hp) {i N : Int32} {v : Value} (hv : v.category = 1) (h0 : ¬ i < 0) (h1 : i < N) : Ct g mJ3_checkIndex 0 0 0 ex [.int i, .int N, v] sh h (PE (some (.int i)) sh h) := by
  refine Ct.of (L := [some (.int i), some (.int N), some v]) (by decide) (cat3 hv) (Nat.le_of_ble_eq_true rfl) rfl (fun X mx => ?_)
  obtain ⟨cx, hR, hml, hrt, -⟩ := mx
  have cx : Cx g X RJ3 cJ3_checkIndex_8e157 := cx
  have hrt : X.2.2.2.2.2.2.2.1.sig.returnType = (some .int) := hrt
  refine PW.iload_n cx qJ3_checkIndex_0 rfl ?_
  refine PW.if_lt (ρ := Nat) (A := none) (B := some 0) (r := some 0) cx qJ3_checkIndex_1 (if_neg h0) (fun hf => by cases hf) (fun _ => ?_)
  refine PW.iload_n cx qJ3_checkIndex_4 rfl ?_
  refine PW.iload_n cx qJ3_checkIndex_5 rfl ?_
  refine PW.icmp_lt (ρ := Nat) (A := some 0) (B := none) (r := some 0) cx qJ3_checkIndex_6 (if_pos h1) (fun _ => ?_) (fun hf => by cases hf)
  refine PW.iload_n cx qJ3_checkIndex_16 rfl ?_
  exact PW.iret cx hrt qJ3_checkIndex_17 ⟨rfl, rfl, rfl⟩
theorem cat2i {a b : Int32} : ∀ w ∈ [Value.int a, Value.int b], w.category = 1 := fun w hw => by
  simp only [List.mem_cons, List.not_mem_nil, or_false] at hw
  rcases hw with rfl | rfl <;> rfl
theorem ctChk {g : GT} {ex : Bool} {sh : List Shp} (h : Hp) {i N : Int32} (h0 : ¬ i < 0) (h1 : i < N) : Ct g mJ0_checkIndex 1 0 0 ex [.int i, .int N] sh h (PE none sh h) := by
  refine Ct.of (L := [some (.int i), some (.int N)]) (by decide) cat2i (Nat.le_of_ble_eq_true rfl) rfl (fun X mx => ?_)
  obtain ⟨cx, hR, hml, hrt, -⟩ := mx
  have cx : Cx g X RJ0 cJ0_checkIndex_df160 := cx
  have hrt : X.2.2.2.2.2.2.2.1.sig.returnType = none := hrt
  refine PW.iload_n cx qJ0_checkIndex_0 rfl ?_
  refine PW.iload_n cx qJ0_checkIndex_1 rfl ?_
  have go : ∀ v : Value, v.category = 1 → PW g X ex (QE g X ex (PE none sh h) 0 0) 0 0 sh h 5 [some (.int i), some (.int N)] [v, .int N, .int i] := by
    intro v hv
    refine PW.callS (mc := 0) (ms := 0) (As := [.int i, .int N, v]) (st := []) cx hR qJ0_checkIndex_5 klJ0_1059 miJ3_checkIndex rfl rfl (Nat.le_of_ble_eq_true rfl) (Nat.le_of_ble_eq_true rfl) (Nat.le_of_ble_eq_true rfl) (Nat.zero_le _) (Nat.zero_le _) (ctChk3 h hv h0 h1) (fun o sh1 h1 hp => ?_)
    obtain ⟨rfl, rfl, rfl⟩ := hp
    refine PW.pop cx qJ0_checkIndex_8 rfl ?_
    exact PW.vret cx hrt qJ0_checkIndex_9 ⟨rfl, rfl, rfl⟩
  obtain ⟨hd2, hn2⟩ := qJ0_checkIndex_2
  rcases cx.2.2.2.2.1.2.1.2.2.2.2.2.2.2.2.2.1.2 with hz | ⟨t, hz⟩
  · exact fun H locs ls hH hS hL => va_gets cx.1 cx.2.1 hz hS cx.2.2.1 (cx.2.2.2.1 _ flJ0_1053) (fun _ q => q) hd2 (go .null rfl H locs ls hH hS hL)
  · exact fun H locs ls hH hS hL => va_gets cx.1 cx.2.1 hz hS cx.2.2.1 (cx.2.2.2.1 _ flJ0_1053) (fun _ q => q) hd2 (go (.ref t) rfl H locs ls hH hS hL)
theorem cat2r {a : Nat} {b : Int32} : ∀ w ∈ [Value.ref a, Value.int b], w.category = 1 := fun w hw => by
  simp only [List.mem_cons, List.not_mem_nil, or_false] at hw
  rcases hw with rfl | rfl <;> rfl
theorem getD_mem {B : List Int32} {j : Nat} (h : j < B.length) : B.getD j 0 ∈ B := by
  rw [List.getD_eq_getElem?_getD, List.getElem?_eq_getElem h, Option.getD_some]
  exact List.getElem_mem _
theorem sx_all : ∀ c, c < 16 → (sx_len.getD c 0 = (sx_byt.getD c []).length ∧ (sx_byt.getD c []).length < 2 ^ 31 ∧ ∀ b ∈ sx_byt.getD c [], i2cI (b &&& 255) = b ∧ narrow .char (.int b) = .int b) := by decide +kernel
theorem ctChr1 {g : GT} {ex : Bool} {sh : List Shp} (h : Hp) {c : Nat} (hc : c < 16) {i : Int32} (h0 : ¬ i < 0) (h1 : i.toNatClampNeg < sx_len.getD c 0) : Ct g mJ1_charAt 2 0 0 ex [.ref (ga g (150 + c)), .int i] sh h (PE (some (.int ((sx_byt.getD c []).getD i.toNatClampNeg 0))) sh h) := by
  obtain ⟨k1, k2, k3⟩ := sx_all c hc
  have hm : (sx_byt.getD c []).getD i.toNatClampNeg 0 ∈ sx_byt.getD c [] := getD_mem (by omega)
  obtain ⟨z1, z2⟩ := k3 _ hm
  have hlt : i < nI (sx_len.getD c 0) := by
    obtain ⟨j, hj, rfl⟩ := nI_of h0
    rw [nI_clamp hj] at h1
    exact nI_lt h1 (by omega)
  refine Ct.of (L := [some (.ref (ga g (150 + c))), some (.int i)]) (by decide) cat2r (Nat.le_of_ble_eq_true rfl) rfl (fun X mx => ?_)
  obtain ⟨cx, hR, hml, hrt, -⟩ := mx
  have cx : Cx g X RJ1 cJ1_charAt_3b067 := cx
  have hrt : X.2.2.2.2.2.2.2.1.sig.returnType = (some .char) := hrt
  have hT := (sx_at cx hc).2.2.2
  refine PW.iload_n cx qJ1_charAt_0 rfl ?_
  refine PW.aload_n cx qJ1_charAt_1 rfl ?_
  refine PW.salen cx qJ1_charAt_2 hT rfl ?_
  refine PW.callS (mc := 0) (ms := 0) (As := [.int i, .int (nI (sx_len.getD c 0))]) (st := []) cx hR qJ1_charAt_3 klJ1_9 miJ0_checkIndex rfl rfl (Nat.le_of_ble_eq_true rfl) (Nat.le_of_ble_eq_true rfl) (Nat.le_of_ble_eq_true rfl) (Nat.zero_le _) (Nat.zero_le _) (ctChk h h0 hlt) (fun o sh1 h1 hp => ?_)
  obtain ⟨rfl, rfl, rfl⟩ := hp
  refine PW.aload_n cx qJ1_charAt_6 rfl ?_
  refine PW.iload_n cx qJ1_charAt_7 rfl ?_
  refine PW.sald cx qJ1_charAt_8 hT (fun q => by rcases q with q | q; exact h0 q; omega) rfl ?_
  refine PW.sipush (v := 255) cx qJ1_charAt_9 rfl ?_
  refine PW.iand cx qJ1_charAt_12 ?_
  refine PW.i2c cx qJ1_charAt_13 ?_
  have e : ((((sx_byt.getD c []).getD i.toNatClampNeg 0) &&& 255).toUInt32 % 65536).toInt32 = (sx_byt.getD c []).getD i.toNatClampNeg 0 := z1
  rw [e]
  exact PW.zret cx hrt z2 qJ1_charAt_14 ⟨rfl, rfl, rfl⟩
theorem ctChr {g : GT} {ex : Bool} {sh : List Shp} (h : Hp) {c : Nat} (hc : c < 16) {i : Int32} (h0 : ¬ i < 0) (h1 : i.toNatClampNeg < sx_len.getD c 0) : Ct g mJ0_charAt_5068e 3 0 0 ex [.ref (ga g (100 + c)), .int i] sh h (PE (some (.int ((sx_byt.getD c []).getD i.toNatClampNeg 0))) sh h) := by
  obtain ⟨k1, k2, k3⟩ := sx_all c hc
  have hm : (sx_byt.getD c []).getD i.toNatClampNeg 0 ∈ sx_byt.getD c [] := getD_mem (by omega)
  obtain ⟨z1, z2⟩ := k3 _ hm
  refine Ct.of (L := [some (.ref (ga g (100 + c))), some (.int i)]) (by decide) cat2r (Nat.le_of_ble_eq_true rfl) rfl (fun X mx => ?_)
  obtain ⟨cx, hR, hml, hrt, -⟩ := mx
  have cx : Cx g X RJ0 cJ0_charAt_5068e := cx
  have hrt : X.2.2.2.2.2.2.2.1.sig.returnType = (some .char) := hrt
  refine PW.aload_n cx qJ0_charAt_0 rfl ?_
  refine PW.callVr (mc := 0) (ms := 0) (As := []) (st := []) cx hR qJ0_charAt_1 klJ0_492 mvJ0_isLatin1 (fun H locs _ hS => sx_recv cx hc H locs hS) rfl rfl (Nat.le_of_ble_eq_true rfl) (Nat.le_of_ble_eq_true rfl) (Nat.le_of_ble_eq_true rfl) (Nat.zero_le _) (Nat.zero_le _) (ctLatin h hc) (fun o sh1 h1 hp => ?_)
  obtain ⟨rfl, rfl, rfl⟩ := hp
  refine PW.if_eq (ρ := Nat) (A := none) (B := some 0) (r := some 0) cx qJ0_charAt_4 rfl (fun hf => by cases hf) (fun _ => ?_)
  refine PW.aload_n cx qJ0_charAt_7 rfl ?_
  refine PW.sget cx qJ0_charAt_8 (sx_at cx hc).2.2.1 flJ0_9 ?_
  refine PW.iload_n cx qJ0_charAt_11 rfl ?_
  refine PW.callS (mc := 0) (ms := 0) (As := [.ref (ga g (150 + c)), .int i]) (st := []) cx hR qJ0_charAt_12 klJ0_495 miJ1_charAt rfl rfl (Nat.le_of_ble_eq_true rfl) (Nat.le_of_ble_eq_true rfl) (Nat.le_of_ble_eq_true rfl) (Nat.zero_le _) (Nat.zero_le _) (ctChr1 h hc h0 h1) (fun o sh1 h1 hp => ?_)
  obtain ⟨rfl, rfl, rfl⟩ := hp
  exact PW.zret cx hrt z2 qJ0_charAt_15 ⟨rfl, rfl, rfl⟩
/-! their calls out of our methods -/
def KO (own : String) (idx : Nat) : Prop := Cond.methodLink own idx ⟨RX2, "ordinal", "()I"⟩ ∈ TG
section JDK2
variable {g : GT} {X : XT} {own : String} {b : ByteArray} {ex : Bool} {Q : State → Prop} {cells slots : Nat} {sh : List Shp} {h : Hp} {pc n : Nat} {L : List (Option Value)} {st : List Value}
theorem PW.slen {D MC MS idx : Nat} {c : Int32} {ρ : Type} {F : Int32 → Option ρ} {r : Option ρ} (cx : Cx g X own b) (hR : RmG X.2.2.1 D MC MS) (hd : Dx b pc (.invokevirtual idx) 3 n) (hl : KL own idx mJ0_length_8abf5) (hD : 5 ≤ D) (hcat : (st.map fun v => v.category).sum ≤ 8) (hmc : cells ≤ MC) (hms : slots ≤ MS) (hf : (slO c).bind F = r) (hr : r ≠ none) (k : ∀ v : Int32, F v = r → PW g X ex Q cells slots sh h n L (.int v :: st)) : PW g X ex Q cells slots sh h pc L (.ref (ga g c.toNatClampNeg) :: st) := by
  obtain ⟨v, e, hf⟩ := bndO hf hr
  unfold slO at e
  split at e
  · rename_i hc
    cases e
    have e1 : c.toNatClampNeg = 100 + (c.toNatClampNeg - 100) := by omega
    have hc2 : c.toNatClampNeg - 100 < 16 := by omega
    have k2 := k _ hf
    rw [e1]
    generalize c.toNatClampNeg - 100 = z at hc2 k2
    refine PW.callVr (mc := 0) (ms := 0) (As := []) (st := st) cx hR hd hl mvJ0_length (fun H locs _ hS => sx_recv cx hc2 H locs hS) rfl rfl hcat (by omega) (by show 8 + (1 + 11) + 40 * 1 ≤ 40 * D; omega) hmc hms (ctLen h hc2) (fun o sh1 h1 hp => ?_)
    obtain ⟨rfl, rfl, rfl⟩ := hp
    exact k2
  · cases e
theorem PW.schar {D MC MS idx : Nat} {c i : Int32} {ρ : Type} {F : Int32 → Option ρ} {r : Option ρ} (cx : Cx g X own b) (hR : RmG X.2.2.1 D MC MS) (hd : Dx b pc (.invokevirtual idx) 3 n) (hl : KL own idx mJ0_charAt_5068e) (hD : 5 ≤ D) (hcat : (st.map fun v => v.category).sum ≤ 8) (hmc : cells ≤ MC) (hms : slots ≤ MS) (hf : (scO c i).bind F = r) (hr : r ≠ none) (k : ∀ v : Int32, F v = r → PW g X ex Q cells slots sh h n L (.int v :: st)) : PW g X ex Q cells slots sh h pc L (.int i :: .ref (ga g c.toNatClampNeg) :: st) := by
  obtain ⟨v, e, hf⟩ := bndO hf hr
  unfold scO at e
  split at e
  · rename_i hc
    cases e
    have e1 : c.toNatClampNeg = 100 + (c.toNatClampNeg - 100) := by omega
    have hc2 : c.toNatClampNeg - 100 < 16 := by omega
    have hc3 := hc.2.2
    have k2 := k _ hf
    rw [e1]
    generalize c.toNatClampNeg - 100 = z at hc2 k2 hc3
    refine PW.callVr (mc := 0) (ms := 0) (As := [.int i]) (st := st) cx hR hd hl mvJ0_charAt (fun H locs _ hS => sx_recv cx hc2 H locs hS) rfl rfl hcat (by omega) (by show 8 + (2 + 11) + 40 * 3 ≤ 40 * D; omega) hmc hms (ctChr h hc2 (fun q => hc3 (Or.inl q)) (Nat.not_le.mp fun q => hc3 (Or.inr q))) (fun o sh1 h1 hp => ?_)
    obtain ⟨rfl, rfl, rfl⟩ := hp
    exact k2
  · cases e
theorem PW.ordn {D MC MS idx : Nat} {c : Int32} {ρ : Type} {F : Int32 → Option ρ} {r : Option ρ} (cx : Cx g X own b) (hR : RmG X.2.2.1 D MC MS) (hd : Dx b pc (.invokevirtual idx) 3 n) (hl : KO own idx) (hD : 1 ≤ D) (hcat : (st.map fun v => v.category).sum ≤ 8) (hmc : cells ≤ MC) (hms : slots ≤ MS) (hf : (orO c).bind F = r) (hr : r ≠ none) (k : ∀ v : Int32, F v = r → PW g X ex Q cells slots sh h n L (.int v :: st)) : PW g X ex Q cells slots sh h pc L (.ref (ga g c.toNatClampNeg) :: st) := by
  obtain ⟨v, e, hf⟩ := bndO hf hr
  unfold orO at e
  split at e
  · rename_i hc
    cases e
    obtain ⟨hd, rfl⟩ := hd
    have e1 : c.toNatClampNeg = 10 + (c.toNatClampNeg - 10) := by omega
    have hc2 : c.toNatClampNeg - 10 < 12 := by omega
    have k2 := k _ hf
    rw [e1]
    generalize c.toNatClampNeg - 10 = z at hc2 k2
    intro H locs ls hH hS hL
    have hts := cx.2.2.2.1
    have hRR : (rmd 0 0 0).frames + 1 ≤ X.2.2.1.frames ∧ 8 + (1 + 11) + (rmd 0 0 0).locals ≤ X.2.2.1.locals := ⟨Nat.le_trans hD hR.1, Nat.le_trans (show 8 + (1 + 11) + 40 * 0 ≤ 40 * D by omega) hR.2.1⟩
    have hff : cells + 0 ≤ X.2.2.1.cells ∧ slots + 0 ≤ X.2.2.1.slots := ⟨Nat.le_trans hmc hR.2.2.1, Nat.le_trans hms hR.2.2.2⟩
    have hgood : GoodIn TG (va_wsU own idx RX2 RJx29ce0 ⟨RX2, "ordinal", "()I"⟩ yJx29ce0_ordinal_8abf5 (wsM mJord)) :=
      good_add hl (fun _ h => h) (good_add orS1 (fun _ h => h) (good_add orS2 (fun _ h => h) (good_add orS3 (fun _ h => h) (good_add orS4 (fun _ h => h) (goodM (fun _ h => h) orS5)))))
    refine PW.after (post := PE (some (.int (nI z))) sh h) (va_runU (C := RX2) (Ts := TG) (n := 0) ⟨cx.1, cx.2.1, rfl, cx.2.2.1, hts⟩ (ctOrd h hc2) (va_cwU (ws' := TG) 0 hts hgood rfl rfl rfl rfl ⟨by decide +kernel, by decide +kernel, by decide +kernel⟩ hRR) ⟨PcG.blind, va_recvE cx.2.2.2.2.1.2.1.2.1 hc2 hS, PcG.at cx hH hS⟩ rfl rfl hL.1 rfl (lv_room hcat) hd hff) hS hL (fun o sh1 h1 hp => ?_)
    obtain ⟨rfl, rfl, rfl⟩ := hp
    exact k2
  · cases e
/-- an element of the row of commands -/
theorem PW.aaldC {i : Int32} {ρ : Type} {F : Int32 → Option ρ} {r : Option ρ} (cx : Cx g X own b) (hd : Dx b pc .aaload 1 n) (hf : (cmO i).bind F = r) (hr : r ≠ none) (k : ∀ v : Int32, F v = r → PW g X ex Q cells slots sh h n L (.ref (ga g v.toNatClampNeg) :: st)) : PW g X ex Q cells slots sh h pc L (.int i :: .ref (ga g 50) :: st) := by
  obtain ⟨hd, rfl⟩ := hd
  by_cases hy : i < 0 ∨ 12 ≤ i.toNatClampNeg
  · simp [cmO, hy] at hf
    exact absurd hf.symm hr
  · simp only [cmO, if_neg hy, Option.bind_some] at hf
    have hlt : i.toNatClampNeg < 12 := Nat.not_le.mp fun q => hy (Or.inr q)
    have k2 := k _ hf
    rw [nI_clamp (by omega)] at k2
    intro H locs ls hH hS hL
    obtain ⟨cell, g1, g2, g3, g4, g5, g6, g7⟩ := va_T.kept cx.2.2.2.2.1.2.1.2.2.2.2.2.2.2.1.2 hS.2.1
    refine W.aald cx.1 cx.2.1 g1 g2 rfl g3 (j := i) ?_ (g6 i.toNatClampNeg hlt) rfl rfl hd (k2 H locs ls hH hS hL)
    intro q
    rcases q with q | q
    · exact hy (Or.inl q)
    · omega
/-- the text of a command's word -/
def wdO (c : Int32) : Option Int32 := if 10 ≤ c.toNatClampNeg ∧ c.toNatClampNeg < 22 then some (nI (c.toNatClampNeg + 90)) else none
theorem PW.wordf {idx : Nat} {c : Int32} {ρ : Type} {F : Int32 → Option ρ} {r : Option ρ} (cx : Cx g X own b) (hd : Dx b pc (.getfield idx) 3 n) (hl : Cond.fieldLink own idx RX2 "word" "Ljava/lang/String;" ∈ TG ∨ ∃ host, Cond.fieldLinkNest own idx RX2 "word" "Ljava/lang/String;" host ∈ NT) (hf : (wdO c).bind F = r) (hr : r ≠ none) (k : ∀ v : Int32, F v = r → PW g X ex Q cells slots sh h n L (.ref (ga g v.toNatClampNeg) :: st)) : PW g X ex Q cells slots sh h pc L (.ref (ga g c.toNatClampNeg) :: st) := by
  obtain ⟨hd, rfl⟩ := hd
  obtain ⟨v, e, hf⟩ := bndO hf hr
  unfold wdO at e
  split at e
  · rename_i hc
    cases e
    have k2 := k _ hf
    rw [nI_clamp (by omega)] at k2
    have e1 : c.toNatClampNeg = 10 + (c.toNatClampNeg - 10) := by omega
    have e2 : c.toNatClampNeg + 90 = 100 + (c.toNatClampNeg - 10) := by omega
    have hc2 : c.toNatClampNeg - 10 < 12 := by omega
    rw [e2] at k2
    rw [e1]
    generalize c.toNatClampNeg - 10 = z at hc2 k2
    intro H locs ls hH hS hL
    have hE := cx.2.2.2.2.1.2.1.2.2.1 z hc2
    rcases hl with hl | ⟨host, hl⟩
    · exact vk_getf cx.1 cx.2.1 hE hS cx.2.2.1 (cx.2.2.2.1 _ hl) (fun _ q => q) hd (k2 H locs ls hH hS hL)
    · obtain ⟨cf, k0, i0, f0, cell, w1, w2, w3, w4, w5, w6⟩ := va_OF.kept hE hS.2.1
      exact va_Wgetf cx.1 cx.2.1 cx.2.2.1 (Cx.nt cx hl) w1 w2 w3 w4 w5 rfl rfl hd (k2 H locs ls hH hS hL)
  · cases e
end JDK2
