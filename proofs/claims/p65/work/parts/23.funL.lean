noncomputable section FunL
def L_colours_L4 (c0 : Int32) (c1 : Int32) : Nat → Int32 → Int32 → Option (Int32)
  | 0, _, _ => none
  | n + 1, v2, v3 =>
    if c1 ≤ v3 then
    some v2
    else
    L_colours_L4 c0 c1 n (((10 * v2) + 1) + ((c0 >>> ((2 * v3) &&& 31)) &&& 3)) (v3 + 1)
def L_colours (p1 : Int32) (p2 : Int32) : Option (Int32) :=
  (L_colours_L4 p1 p2 FU 0 0).bind fun r1 =>
  some r1
def L_deed (h : Hp) (p2 : Int32) : Option (Hp) :=
  (C_clipCount h).bind fun t1 =>
  (rmO ((iush p2 4) &&& 15) t1).bind fun t2 =>
  (C_reelCount h).bind fun t3 =>
  (rmO ((iush p2 8) &&& 3) t3).bind fun t4 =>
  (C_sceneCount h).bind fun t5 =>
  (rmO ((iush p2 10) &&& 7) t5).bind fun t6 =>
  if (p2 &&& 15) = 0 then
  (C_whyNoSleep h t2 t4).bind fun t65 =>
  if t65 = 0 then
  (C_sleep h t2 t4).bind fun (t66, h67) =>
  some h67
  else
  some h
  else
  if (p2 &&& 15) = 1 then
  (C_whyNoSleep h t2 t4).bind fun t62 =>
  if t62 = 0 then
  (C_sleep h t2 t4).bind fun (t63, h64) =>
  some h64
  else
  some h
  else
  if (p2 &&& 15) = 2 then
  (C_whyNoSleep h t2 t4).bind fun t59 =>
  if t59 = 0 then
  (C_sleep h t2 t4).bind fun (t60, h61) =>
  some h61
  else
  some h
  else
  if (p2 &&& 15) = 3 then
  (C_bestReel h t2).bind fun t55 =>
  if t55 = (-1) then
  some h
  else
  (C_bestReel h t2).bind fun t56 =>
  (C_sleep h t2 t56).bind fun (t57, h58) =>
  some h58
  else
  if (p2 &&& 15) = 4 then
  (C_state h t2).bind fun t52 =>
  if t52 = 1 then
  (C_wake h t2).bind fun (t53, h54) =>
  some h54
  else
  some h
  else
  if (p2 &&& 15) = 5 then
  if (((iush p2 13) &&& 65535) - ((iush p2 13) &&& 65535) / 3 * 3) = 0 then
  (C_cut h t6 (1 + (((iush p2 13) &&& 65535) - ((iush p2 13) &&& 65535) / 9 * 9))).bind fun (t46, h47) =>
  some h47
  else
  if (((iush p2 13) &&& 65535) - ((iush p2 13) &&& 65535) / 3 * 3) = 1 then
  (C_cut h t6 (1 + (((iush p2 13) &&& 65535) - ((iush p2 13) &&& 65535) / 50 * 50))).bind fun (t48, h49) =>
  some h49
  else
  (C_cut h t6 (1 + (((iush p2 13) &&& 65535) - ((iush p2 13) &&& 65535) / 999 * 999))).bind fun (t50, h51) =>
  some h51
  else
  if (p2 &&& 15) = 6 then
  if (((iush p2 13) &&& 65535) - ((iush p2 13) &&& 65535) / 3 * 3) = 0 then
  (C_cut h t6 (1 + (((iush p2 13) &&& 65535) - ((iush p2 13) &&& 65535) / 9 * 9))).bind fun (t40, h41) =>
  some h41
  else
  if (((iush p2 13) &&& 65535) - ((iush p2 13) &&& 65535) / 3 * 3) = 1 then
  (C_cut h t6 (1 + (((iush p2 13) &&& 65535) - ((iush p2 13) &&& 65535) / 50 * 50))).bind fun (t42, h43) =>
  some h43
  else
  (C_cut h t6 (1 + (((iush p2 13) &&& 65535) - ((iush p2 13) &&& 65535) / 999 * 999))).bind fun (t44, h45) =>
  some h45
  else
  if (p2 &&& 15) = 7 then
  (C_air h t4).bind fun (t38, h39) =>
  some h39
  else
  if (p2 &&& 15) = 8 then
  (C_state h t2).bind fun t33 =>
  if t33 = 0 then
  (C_food h).bind fun t34 =>
  if t34 < (1 + (((iush p2 13) &&& 65535) - ((iush p2 13) &&& 65535) / 20 * 20)) then
  some h
  else
  (C_fat h t2).bind fun t35 =>
  if 99 < ((t35 + 1) + (((iush p2 13) &&& 65535) - ((iush p2 13) &&& 65535) / 20 * 20)) then
  some h
  else
  (C_feed h t2 (1 + (((iush p2 13) &&& 65535) - ((iush p2 13) &&& 65535) / 20 * 20))).bind fun (t36, h37) =>
  some h37
  else
  some h
  else
  if (p2 &&& 15) = 9 then
  (C_food h).bind fun t30 =>
  if 9999 < ((t30 + 1) + (((iush p2 13) &&& 65535) - ((iush p2 13) &&& 65535) / 99 * 99)) then
  some h
  else
  (C_addFood h (1 + (((iush p2 13) &&& 65535) - ((iush p2 13) &&& 65535) / 99 * 99))).bind fun (t31, h32) =>
  some h32
  else
  if (p2 &&& 15) = 10 then
  (C_state h t2).bind fun t25 =>
  if t25 = 0 then
  (C_length h t2).bind fun t26 =>
  (rmO ((iush p2 13) &&& 65535) t26).bind fun t27 =>
  (C_paint h t2 t27 ((1 : Int32) + ((((iush p2 13) &&& 65535) >>> (4 &&& 31)) - (((iush p2 13) &&& 65535) >>> (4 &&& 31)) / 9 * 9))).bind fun (t28, h29) =>
  some h29
  else
  some h
  else
  if (p2 &&& 15) = 11 then
  (C_state h t2).bind fun t20 =>
  if t20 = 0 then
  (C_length h t2).bind fun t21 =>
  (rmO ((iush p2 13) &&& 65535) t21).bind fun t22 =>
  (C_paint h t2 t22 ((1 : Int32) + ((((iush p2 13) &&& 65535) >>> (4 &&& 31)) - (((iush p2 13) &&& 65535) >>> (4 &&& 31)) / 9 * 9))).bind fun (t23, h24) =>
  some h24
  else
  some h
  else
  if (p2 &&& 15) = 12 then
  (C_clipCount h).bind fun t16 =>
  if 12 ≤ t16 then
  some h
  else
  (L_colours ((iush p2 13) &&& 65535) (1 + ((iush p2 4) &&& 7))).bind fun t17 =>
  (C_addClip h t17).bind fun (t18, h19) =>
  some h19
  else
  if (p2 &&& 15) = 13 then
  (C_reelCount h).bind fun t13 =>
  if 4 ≤ t13 then
  some h
  else
  (C_addReel h (1 + (((iush p2 13) &&& 65535) - ((iush p2 13) &&& 65535) / 9 * 9))).bind fun (t14, h15) =>
  some h15
  else
  if (p2 &&& 15) = 14 then
  (C_sceneCount h).bind fun t10 =>
  if 5 ≤ t10 then
  some h
  else
  (C_addScene h (1 + (((iush p2 13) &&& 65535) - ((iush p2 13) &&& 65535) / 9 * 9))).bind fun (t11, h12) =>
  some h12
  else
  (C_week h).bind fun t7 =>
  if 999 < ((t7 + 1) + (((iush p2 13) &&& 65535) - ((iush p2 13) &&& 65535) / 9 * 9)) then
  some h
  else
  (C_passWeeks h (1 + (((iush p2 13) &&& 65535) - ((iush p2 13) &&& 65535) / 9 * 9))).bind fun (t8, h9) =>
  some h9
def L_isFound_L10 (h : Hp) (c1 : Int32) (c2 : Int32) (c3 : Int32) : Nat → Int32 → Option ((Unit) ⊕ (Bool))
  | 0, _ => none
  | n + 1, v4 =>
    if c3 ≤ v4 then
    some (.inl ())
    else
    (C_home h c1 c2).bind fun t2 =>
    (C_bedCount h c2).bind fun t3 =>
    (rmO (t2 + v4) t3).bind fun t4 =>
    (C_bed h c2 t4).bind fun t5 =>
    if t5 = (-1) then
    some (.inr false)
    else
    lt (α := Unit → Option ((Unit) ⊕ (Bool))) (fun (u_60 : Unit) =>
    if v4 = (c3 - 1) then
    if t5 = c1 then
    L_isFound_L10 h c1 c2 c3 n (v4 + 1)
    else
    some (.inr false)
    else
    L_isFound_L10 h c1 c2 c3 n (v4 + 1)) fun j60 =>
    if t5 = c1 then
    if v4 = (c3 - 1) then
    j60 ()
    else
    some (.inr false)
    else
    j60 ()
def L_isFound (h : Hp) (p2 : Int32) (p3 : Int32) : Option (Bool) :=
  (C_looksFor h p2 p3).bind fun t1 =>
  (L_isFound_L10 h p2 p3 t1 FU 0).bind fun r6 => match r6 with
  | .inr y => some y
  | .inl () =>
  if t1 < 1 then
  some false
  else
  (C_bedCount h p3).bind fun t7 =>
  if t7 < t1 then
  some false
  else
  (C_longestLook h p3).bind fun t8 =>
  if t8 < t1 then
  some false
  else
  some true
def L_holds_L79 (h : Hp) (c4 : Int32) (c6 : Int32) : Nat → Int32 → Int32 → Option ((Int32) ⊕ (Bool))
  | 0, _, _ => none
  | n + 1, v5, v7 =>
    (C_bedCount h c6).bind fun t8 =>
    if t8 ≤ v7 then
    some (.inl v5)
    else
    (C_bed h c6 v7).bind fun t9 =>
    if t9 = c4 then
    (C_reelOf h c4).bind fun t10 =>
    if t10 = c6 then
    (C_bedOf h c4).bind fun t11 =>
    if t11 = v7 then
    L_holds_L79 h c4 c6 n (v5 + 1) (v7 + 1)
    else
    some (.inr false)
    else
    some (.inr false)
    else
    L_holds_L79 h c4 c6 n v5 (v7 + 1)
def L_holds_L67 (h : Hp) (c4 : Int32) : Nat → Int32 → Int32 → Option ((Int32) ⊕ (Bool))
  | 0, _, _ => none
  | n + 1, v5, v6 =>
    (C_reelCount h).bind fun t7 =>
    if t7 ≤ v6 then
    some (.inl v5)
    else
    (L_holds_L79 h c4 v6 FU v5 0).bind fun r12 => match r12 with
    | .inr y => some (.inr y)
    | .inl x5_13 =>
    L_holds_L67 h c4 n x5_13 (v6 + 1)
def L_holds_L52 (h : Hp) : Nat → Int32 → Int32 → Int32 → Option ((Int32 × Int32) ⊕ (Bool))
  | 0, _, _, _ => none
  | n + 1, v1, v3, v4 =>
    (C_clipCount h).bind fun t6 =>
    if t6 ≤ v4 then
    some (.inl (v1, v3))
    else
    (L_holds_L67 h v4 FU 0 0).bind fun r14 => match r14 with
    | .inr y => some (.inr y)
    | .inl x5_15 =>
    (C_state h v4).bind fun t16 =>
    lt (α := Bool → Option ((Int32 × Int32) ⊕ (Bool))) (fun (z0_159 : Bool) =>
    if x5_15 = (b2i z0_159) then
    (C_state h v4).bind fun t17 =>
    lt (α := Unit → Option ((Int32 × Int32) ⊕ (Bool))) (fun (u_194 : Unit) =>
    (C_fat h v4).bind fun t18 =>
    if t18 < 0 then
    some (.inr false)
    else
    (C_fat h v4).bind fun t19 =>
    if 99 < t19 then
    some (.inr false)
    else
    (C_fat h v4).bind fun t20 =>
    lt (α := Bool → Option ((Int32 × Int32) ⊕ (Bool))) (fun (z0_228 : Bool) =>
    (C_state h v4).bind fun t21 =>
    lt (α := Bool → Option ((Int32 × Int32) ⊕ (Bool))) (fun (z0_243 : Bool) =>
    if (b2i z0_228) = (b2i z0_243) then
    (C_sceneOf h v4).bind fun t22 =>
    if t22 < (-1) then
    some (.inr false)
    else
    (C_sceneOf h v4).bind fun t23 =>
    (C_sceneCount h).bind fun t24 =>
    if t23 < t24 then
    (C_state h v4).bind fun t25 =>
    lt (α := Int32 → Option ((Int32 × Int32) ⊕ (Bool))) (fun (z0_295 : Int32) =>
    if x5_15 = 1 then
    (C_reelOf h v4).bind fun t26 =>
    (L_isFound h v4 t26).bind fun t27 =>
    if (b2i t27) = 0 then
    some (.inr false)
    else
    L_holds_L52 h n (v1 + x5_15) (v3 ||| z0_295) (v4 + 1)
    else
    L_holds_L52 h n (v1 + x5_15) (v3 ||| z0_295) (v4 + 1)) fun j295 =>
    if t25 = 2 then
    j295 (1 <<< (v4 &&& 31))
    else
    j295 0
    else
    some (.inr false)
    else
    some (.inr false)) fun j243 =>
    if t21 = 2 then
    j243 true
    else
    j243 false) fun j228 =>
    if t20 = 0 then
    j228 true
    else
    j228 false) fun j194 =>
    if t17 = 1 then
    j194 ()
    else
    (C_reelOf h v4).bind fun t28 =>
    if t28 = (-1) then
    (C_bedOf h v4).bind fun t29 =>
    if t29 = (-1) then
    j194 ()
    else
    some (.inr false)
    else
    some (.inr false)
    else
    some (.inr false)) fun j159 =>
    if t16 = 1 then
    j159 true
    else
    j159 false
def L_holds_L341 (h : Hp) (c4 : Int32) : Nat → Int32 → Int32 → Option (Int32)
  | 0, _, _ => none
  | n + 1, v2, v5 =>
    (C_bedCount h c4).bind fun t34 =>
    if t34 ≤ v5 then
    some v2
    else
    (C_bed h c4 v5).bind fun t35 =>
    if t35 < 0 then
    L_holds_L341 h c4 n (v2 + 0) (v5 + 1)
    else
    L_holds_L341 h c4 n (v2 + 1) (v5 + 1)
def L_holds_L329 (h : Hp) : Nat → Int32 → Int32 → Option (Int32)
  | 0, _, _ => none
  | n + 1, v2, v4 =>
    (C_reelCount h).bind fun t33 =>
    if t33 ≤ v4 then
    some v2
    else
    (L_holds_L341 h v4 FU v2 0).bind fun r36 =>
    L_holds_L329 h n r36 (v4 + 1)
def L_holds_L386 (h : Hp) : Nat → Int32 → Option ((Unit) ⊕ (Bool))
  | 0, _ => none
  | n + 1, v4 =>
    (C_sceneCount h).bind fun t38 =>
    if t38 ≤ v4 then
    some (.inl ())
    else
    (C_springs h v4).bind fun t39 =>
    if t39 < 0 then
    some (.inr false)
    else
    (C_springs h v4).bind fun t40 =>
    if t40 ≤ 9 then
    L_holds_L386 h n (v4 + 1)
    else
    some (.inr false)
def L_holds (h : Hp) : Option (Bool) :=
  (C_violations h).bind fun t1 =>
  if t1 = 0 then
  (C_week h).bind fun t2 =>
  if t2 < 0 then
  some false
  else
  (C_week h).bind fun t3 =>
  if 999 < t3 then
  some false
  else
  (C_food h).bind fun t4 =>
  if t4 < 0 then
  some false
  else
  (C_food h).bind fun t5 =>
  if t5 ≤ 9999 then
  (L_holds_L52 h FU 0 0 0).bind fun r30 => match r30 with
  | .inr y => some y
  | .inl (x1_31, x3_32) =>
  (L_holds_L329 h FU 0 0).bind fun r37 =>
  (L_holds_L386 h FU 0).bind fun r41 => match r41 with
  | .inr y => some y
  | .inl () =>
  if r37 = x1_31 then
  (C_fadedClips h).bind fun t42 =>
  if t42 = x3_32 then
  some true
  else
  some false
  else
  some false
  else
  some false
  else
  some false
def L_sum_L39 (h : Hp) : Nat → Int64 → Int32 → Option (Int64)
  | 0, _, _ => none
  | n + 1, v2, v4 =>
    (C_clipCount h).bind fun t6 =>
    if t6 ≤ v4 then
    some v2
    else
    (C_colours h v4).bind fun t7 =>
    (C_state h v4).bind fun t8 =>
    nm ((((31 : Int64) * v2) + t7.toInt64) + ((3 : Int64) * t8.toInt64)) fun w9 =>
    (C_fat h v4).bind fun t10 =>
    (C_sceneOf h v4).bind fun t11 =>
    (C_reelOf h v4).bind fun t12 =>
    nm (((((31 : Int64) * w9) + t10.toInt64) + ((100 : Int64) * t11.toInt64)) + ((1000 : Int64) * t12.toInt64)) fun w13 =>
    L_sum_L39 h n w13 (v4 + 1)
def L_sum_L121 (h : Hp) : Nat → Int64 → Int32 → Option (Int64)
  | 0, _, _ => none
  | n + 1, v2, v4 =>
    (C_sceneCount h).bind fun t15 =>
    if t15 ≤ v4 then
    some v2
    else
    (C_springs h v4).bind fun t16 =>
    L_sum_L121 h n (((31 : Int64) * v2) + t16.toInt64) (v4 + 1)
def L_sum_L191 (h : Hp) (c1 : Bool) (c4 : Int32) : Nat → Int64 → Int32 → Option (Int64)
  | 0, _, _ => none
  | n + 1, v2, v5 =>
    if (b2i c1) = 0 then
    some v2
    else
    (C_bedCount h c4).bind fun t22 =>
    if t22 ≤ v5 then
    some v2
    else
    (C_bed h c4 v5).bind fun t23 =>
    L_sum_L191 h c1 c4 n (((31 : Int64) * v2) + t23.toInt64) (v5 + 1)
def L_sum_L153 (h : Hp) (c1 : Bool) : Nat → Int64 → Int32 → Option (Int64)
  | 0, _, _ => none
  | n + 1, v2, v4 =>
    (C_reelCount h).bind fun t18 =>
    if t18 ≤ v4 then
    some v2
    else
    (C_bedCount h v4).bind fun t19 =>
    (C_sleepers h v4).bind fun t20 =>
    nm ((((31 : Int64) * v2) + t19.toInt64) + ((100 : Int64) * t20.toInt64)) fun w21 =>
    (L_sum_L191 h c1 v4 FU w21 0).bind fun r24 =>
    L_sum_L153 h c1 n r24 (v4 + 1)
def L_sum (h : Hp) (p2 : Bool) : Option (Int64) :=
  (C_week h).bind fun t1 =>
  (C_food h).bind fun t2 =>
  (C_burnedFat h).bind fun t3 =>
  (C_wakings h).bind fun t4 =>
  nm (((t1.toInt64 + ((1000 : Int64) * t2.toInt64)) + ((7 : Int64) * t3.toInt64)) + ((11 : Int64) * t4.toInt64)) fun w5 =>
  (L_sum_L39 h FU w5 0).bind fun r14 =>
  (L_sum_L121 h FU r14 0).bind fun r17 =>
  (L_sum_L153 h p2 FU r17 0).bind fun r25 =>
  some r25
def L_isAired_L26 (h : Hp) (c1 : Int32) : Nat → Int32 → Int32 → Option (Int32)
  | 0, _, _ => none
  | n + 1, v6, v8 =>
    (C_bedCount h c1).bind fun t5 =>
    if t5 ≤ v8 then
    some v6
    else
    (C_bed h c1 v8).bind fun t6 =>
    if t6 = (-2) then
    L_isAired_L26 h c1 n (v6 + 1) (v8 + 1)
    else
    L_isAired_L26 h c1 n (v6 + 0) (v8 + 1)
def L_isAired_L105 (h : Hp) (c1 : Int32) : Nat → Int32 → Int32 → Option ((Int32) ⊕ (Bool × Hp))
  | 0, _, _ => none
  | n + 1, v9, v10 =>
    (C_bedCount h c1).bind fun t10 =>
    if t10 ≤ v10 then
    some (.inl v9)
    else
    (C_bed h c1 v10).bind fun t11 =>
    if t11 = (-2) then
    some (.inr (false, h))
    else
    (C_bed h c1 v10).bind fun t12 =>
    if t12 < 0 then
    L_isAired_L105 h c1 n v9 (v10 + 1)
    else
    (C_bed h c1 v10).bind fun t13 =>
    (C_looksFor h t13 c1).bind fun t14 =>
    L_isAired_L105 h c1 n (v9 + t14) (v10 + 1)
def L_isAired (h : Hp) (p2 : Int32) : Option (Bool × Hp) :=
  (L_sum h true).bind fun t1 =>
  (L_sum h false).bind fun t2 =>
  (C_looksIfAired h p2).bind fun (t3, h4) =>
  (L_isAired_L26 h4 p2 FU 0 0).bind fun r7 =>
  (C_air h4 p2).bind fun (t8, h9) =>
  lt (α := Bool → Option (Bool × Hp)) (fun (z0_97 : Bool) =>
  (L_isAired_L105 h9 p2 FU 0 0).bind fun r15 => match r15 with
  | .inr y => some y
  | .inl x9_16 =>
  lt (α := Bool → Hp → Option (Bool × Hp)) (fun (z0_197 : Bool) (h_197 : Hp) =>
  (C_undo h_197).bind fun (t17, h18) =>
  (C_undo h18).bind fun (t19, h20) =>
  if (b2i z0_197) = 0 then
  some (false, h20)
  else
  (L_sum h20 true).bind fun t21 =>
  if (lg_cmp t21 t1) = 0 then
  some (true, h20)
  else
  some (false, h20)) fun j197 =>
  lt (α := Hp → Option (Bool × Hp)) (fun (h_196 : Hp) =>
  j197 false h_196) fun j196 =>
  if (b2i z0_97) = 0 then
  j196 h9
  else
  if x9_16 = t3 then
  (C_looksIfAired h9 p2).bind fun (t22, h23) =>
  if t22 = t3 then
  (C_air h23 p2).bind fun (t24, h25) =>
  if t24 = 0 then
  j197 true h25
  else
  j196 h25
  else
  j196 h23
  else
  j196 h9) fun j97 =>
  lt (α := Unit → Option (Bool × Hp)) (fun (u_96 : Unit) =>
  j97 false) fun j96 =>
  if t8 = r7 then
  (L_sum h9 false).bind fun t26 =>
  if (lg_cmp t26 t2) = 0 then
  (L_holds h9).bind fun t27 =>
  if (b2i t27) = 0 then
  j96 ()
  else
  j97 true
  else
  j96 ()
  else
  j96 ()
def L_isSame (h : Hp) (p2 : Int32) (p3 : Int32) : Option (Bool × Hp) :=
  (C_week h).bind fun t1 =>
  if ((t1 + p2) + p3) ≤ 999 then
  (L_sum h true).bind fun t2 =>
  (C_saveSnapshot h).bind fun (t3, h4) =>
  (C_passWeeks h4 (p2 + p3)).bind fun (t5, h6) =>
  (L_sum h6 true).bind fun t7 =>
  (C_restoreSnapshot h6).bind fun (t8, h9) =>
  (C_passWeeks h9 p2).bind fun (t10, h11) =>
  (C_passWeeks h11 p3).bind fun (t12, h13) =>
  lt (α := Bool → Option (Bool × Hp)) (fun (z0_80 : Bool) =>
  (C_restoreSnapshot h13).bind fun (t14, h15) =>
  if (b2i z0_80) = 0 then
  some (false, h15)
  else
  (L_sum h15 true).bind fun t16 =>
  if (lg_cmp t16 t2) = 0 then
  some (true, h15)
  else
  some (false, h15)) fun j80 =>
  lt (α := Unit → Option (Bool × Hp)) (fun (u_79 : Unit) =>
  j80 false) fun j79 =>
  if (t10 + t12) = t5 then
  (L_sum h13 true).bind fun t17 =>
  if (lg_cmp t17 t7) = 0 then
  j80 true
  else
  j79 ()
  else
  j79 ()
  else
  some (true, h)
def L_step (h : Hp) (i : Int32) (c : Int32) : Option Hp :=
  (C_undoCount h).bind fun t1 =>
  (L_sum h true).bind fun t2 =>
  (L_deed h c).bind fun h4 =>
  (C_undoCount h4).bind fun t5 =>
  lt (α := Bool → Option (Hp)) (fun (z0_63 : Bool) =>
  (L_holds h4).bind fun t6 =>
  if (b2i t6) = 0 then
  none
  else
  lt (α := Unit → Option (Hp)) (fun (u_97 : Unit) =>
  lt (α := Hp → Option (Hp)) (fun (h_134 : Hp) =>
  if (i - i / 4 * 4) = 3 then
  (C_reelCount h_134).bind fun t7 =>
  (rmO ((iush c 6) &&& 3) t7).bind fun t8 =>
  (L_isAired h_134 t8).bind fun (t9, h10) =>
  if (b2i t9) = 0 then
  none
  else
  some h10
  else
  some h_134) fun j134 =>
  if (b2i z0_63) = 0 then
  j134 h4
  else
  if ((iush c 29) &&& 3) = 1 then
  (C_undo h4).bind fun (t11, h12) =>
  if t11 = t1 then
  (L_sum h12 true).bind fun t13 =>
  if (lg_cmp t13 t2) = 0 then
  j134 h12
  else
  none
  else
  none
  else
  j134 h4) fun j97 =>
  if (b2i z0_63) = 0 then
  if 8 ≤ t1 then
  j97 ()
  else
  (L_sum h4 true).bind fun t14 =>
  if (lg_cmp t14 t2) = 0 then
  j97 ()
  else
  none
  else
  j97 ()) fun j63 =>
  if t5 ≤ t1 then
  j63 false
  else
  j63 true
end FunL
