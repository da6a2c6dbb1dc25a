noncomputable section FunC
def A_copyFrom (h : Hp) (a : Nat) (o : Nat) : Option (Hp) :=
  nm (up2 h a 0 (rd h o 0)) fun h1 =>
  nm (up2 h1 a 1 (rd h1 o 1)) fun h2 =>
  nm (up2 h2 a 2 (rd h2 o 2)) fun h3 =>
  nm (up2 h3 a 3 (rd h3 o 3)) fun h4 =>
  nm (up2 h4 a 4 (rd h4 o 4)) fun h5 =>
  nm (up2 h5 a 5 (rd h5 o 5)) fun h6 =>
  nm (acp h6 (a + 1) (o + 1) 12) fun h7 =>
  nm (acp h7 (a + 2) (o + 2) 96) fun h8 =>
  nm (acp h8 (a + 3) (o + 3) 12) fun h9 =>
  nm (acp h9 (a + 4) (o + 4) 12) fun h10 =>
  nm (acp h10 (a + 5) (o + 5) 12) fun h11 =>
  nm (acp h11 (a + 6) (o + 6) 12) fun h12 =>
  nm (up2 h12 a 12 (rd h12 o 12)) fun h13 =>
  nm (acp h13 (a + 7) (o + 7) 4) fun h14 =>
  nm (acp h14 (a + 8) (o + 8) 36) fun h15 =>
  nm (up2 h15 a 15 (rd h15 o 15)) fun h16 =>
  nm (acp h16 (a + 9) (o + 9) 5) fun h17 =>
  nm (acp h17 (a + 10) (o + 10) 5) fun h18 =>
  some h18
def A_empty (h : Hp) (a : Nat) : Option (Hp) :=
  nm (up2 h a 0 0) fun h1 =>
  nm (up2 h1 a 1 100) fun h2 =>
  nm (up2 h2 a 2 0) fun h3 =>
  nm (up2 h3 a 3 0) fun h4 =>
  nm (up2 h4 a 4 0) fun h5 =>
  nm (up2 h5 a 5 0) fun h6 =>
  nm (up2 h6 a 12 0) fun h7 =>
  nm (up2 h7 a 15 0) fun h8 =>
  some h8
def A_areColours_L4 : Nat → Int32 → Int32 → Option ((Unit) ⊕ (Bool))
  | 0, _, _ => none
  | n + 1, v1, v2 =>
    if 8 ≤ v2 then
    some (.inl ())
    else
    if v1 < 1 then
    some (.inr false)
    else
    if (v1 - v1 / 10 * 10) = 0 then
    some (.inr false)
    else
    if (v1 / 10) = 0 then
    some (.inr true)
    else
    A_areColours_L4 n (v1 / 10) (v2 + 1)
def A_areColours (p1 : Int32) : Option (Bool) :=
  (A_areColours_L4 FU p1 0).bind fun r1 => match r1 with
  | .inr y => some y
  | .inl () =>
  some false
def A_hasRoomForClip (h : Hp) (a : Nat) : Option (Bool) :=
  if 12 ≤ (rd h a 5) then
  some false
  else
  some true
def A_hasRoomForReel (h : Hp) (a : Nat) : Option (Bool) :=
  if 4 ≤ (rd h a 12) then
  some false
  else
  some true
def A_hasRoomForScene (h : Hp) (a : Nat) : Option (Bool) :=
  if 5 ≤ (rd h a 15) then
  some false
  else
  some true
def A_digits_L7 : Nat → Int32 → Int32 → Option (Int32)
  | 0, _, _ => none
  | n + 1, v1, v2 =>
    if v2 ≤ 0 then
    some v1
    else
    if 8 ≤ v1 then
    some v1
    else
    A_digits_L7 n (v1 + 1) (v2 / 10)
def A_digits (p1 : Int32) : Option (Int32) :=
  (A_digits_L7 FU 1 (p1 / 10)).bind fun r1 =>
  some r1
def A_colourAt (h : Hp) (a : Nat) (p1 : Int32) (p2 : Int32) : Option (Int32) :=
  (rdO 96 (rd h (a + 2)) ((p1 * 8) + p2)).bind fun t1 =>
  some t1
def A_renewHash_L4 (h : Hp) (a : Nat) (c1 : Int32) : Nat → Int32 → Int32 → Option (Int32)
  | 0, _, _ => none
  | n + 1, v2, v3 =>
    (rdO 12 (rd h (a + 1)) c1).bind fun t1 =>
    if t1 ≤ v3 then
    some v2
    else
    (A_colourAt h a c1 v3).bind fun t2 =>
    A_renewHash_L4 h a c1 n (((31 * v2) + t2) - ((31 * v2) + t2) / 997 * 997) (v3 + 1)
def A_renewHash (h : Hp) (a : Nat) (p1 : Int32) : Option (Hp) :=
  (A_renewHash_L4 h a p1 FU 0 0).bind fun r3 =>
  (wrO h (a + 3) 12 p1 r3).bind fun h4 =>
  some h4
def A_putClip_L37 (a : Nat) (c2 : Int32) : Nat → Int32 → Int32 → Hp → Option (Hp)
  | 0, _, _, _ => none
  | n + 1, v3, v4, h =>
    if v4 < 0 then
    some h
    else
    (wrO h (a + 2) 96 ((c2 * 8) + v4) (v3 - v3 / 10 * 10)).bind fun h5 =>
    A_putClip_L37 a c2 n (v3 / 10) (v4 + (-1)) h5
def A_putClip (h : Hp) (a : Nat) (p1 : Int32) : Option (Int32 × Hp) :=
  nm (up2 h a 5 ((rd h a 5) + 1)) fun h1 =>
  (A_digits p1).bind fun t2 =>
  (wrO h1 (a + 1) 12 (rd h a 5) t2).bind fun h3 =>
  (rdO 12 (rd h3 (a + 1)) (rd h a 5)).bind fun t4 =>
  (A_putClip_L37 a (rd h a 5) FU p1 (t4 - 1) h3).bind fun r6 =>
  (wrO r6 (a + 4) 12 (rd h a 5) 0).bind fun h7 =>
  (wrO h7 (a + 5) 12 (rd h a 5) 40).bind fun h8 =>
  (wrO h8 (a + 6) 12 (rd h a 5) (-1)).bind fun h9 =>
  (A_renewHash h9 a (rd h a 5)).bind fun h11 =>
  some ((rd h a 5), h11)
def A_setBed (h : Hp) (a : Nat) (p1 : Int32) (p2 : Int32) (p3 : Int32) : Option (Hp) :=
  (wrO h (a + 8) 36 ((p1 * 9) + p2) p3).bind fun h1 =>
  some h1
def A_putReel_L24 (a : Nat) (c1 : Int32) (c2 : Int32) : Nat → Int32 → Hp → Option (Hp)
  | 0, _, _ => none
  | n + 1, v3, h =>
    if c1 ≤ v3 then
    some h
    else
    (A_setBed h a c2 v3 (-1)).bind fun h4 =>
    A_putReel_L24 a c1 c2 n (v3 + 1) h4
def A_putReel (h : Hp) (a : Nat) (p1 : Int32) : Option (Int32 × Hp) :=
  nm (up2 h a 12 ((rd h a 12) + 1)) fun h1 =>
  (wrO h1 (a + 7) 4 (rd h a 12) p1).bind fun h2 =>
  (A_putReel_L24 a p1 (rd h a 12) FU 0 h2).bind fun r5 =>
  some ((rd h a 12), r5)
def A_putScene (h : Hp) (a : Nat) (p1 : Int32) : Option (Int32 × Hp) :=
  nm (up2 h a 15 ((rd h a 15) + 1)) fun h1 =>
  (wrO h1 (a + 9) 5 (rd h a 15) p1).bind fun h2 =>
  (wrO h2 (a + 10) 5 (rd h a 15) p1).bind fun h3 =>
  some ((rd h a 15), h3)
def A_coloursOf_L4 (h : Hp) (a : Nat) (c1 : Int32) : Nat → Int32 → Int32 → Option (Int32)
  | 0, _, _ => none
  | n + 1, v2, v3 =>
    (rdO 12 (rd h (a + 1)) c1).bind fun t1 =>
    if t1 ≤ v3 then
    some v2
    else
    (A_colourAt h a c1 v3).bind fun t2 =>
    A_coloursOf_L4 h a c1 n ((10 * v2) + t2) (v3 + 1)
def A_coloursOf (h : Hp) (a : Nat) (p1 : Int32) : Option (Int32) :=
  (A_coloursOf_L4 h a p1 FU 0 0).bind fun r3 =>
  some r3
def A_paintClip (h : Hp) (a : Nat) (p1 : Int32) (p2 : Int32) (p3 : Int32) : Option (Int32 × Hp) :=
  (wrO h (a + 2) 96 ((p1 * 8) + p2) p3).bind fun h1 =>
  (A_renewHash h1 a p1).bind fun h3 =>
  (rdO 12 (rd h3 (a + 3)) p1).bind fun t4 =>
  some (t4, h3)
def A_matchesAt_L8 (h : Hp) (a : Nat) (c1 : Int32) : Nat → Int32 → Int32 → Option ((Unit) ⊕ (Bool))
  | 0, _, _ => none
  | n + 1, v4, v5 =>
    if v5 < 0 then
    some (.inl ())
    else
    if v4 ≤ 0 then
    some (.inl ())
    else
    if (v4 - v4 / 10 * 10) = 0 then
    A_matchesAt_L8 h a c1 n (v4 / 10) (v5 + (-1))
    else
    (A_colourAt h a c1 v5).bind fun t1 =>
    if (v4 - v4 / 10 * 10) = t1 then
    A_matchesAt_L8 h a c1 n (v4 / 10) (v5 + (-1))
    else
    some (.inr false)
def A_matchesAt (h : Hp) (a : Nat) (p1 : Int32) (p2 : Int32) (p3 : Int32) : Option (Bool) :=
  (A_matchesAt_L8 h a p1 FU p3 (p2 - 1)).bind fun r2 => match r2 with
  | .inr y => some y
  | .inl () =>
  some true
def A_findPattern_L8 (h : Hp) (a : Nat) (c1 : Int32) (c2 : Int32) (c3 : Int32) : Nat → Int32 → Option ((Unit) ⊕ (Int32))
  | 0, _ => none
  | n + 1, v4 =>
    (rdO 12 (rd h (a + 1)) c1).bind fun t2 =>
    if t2 < (v4 + c3) then
    some (.inl ())
    else
    (A_matchesAt h a c1 (v4 + c3) c2).bind fun t3 =>
    if (b2i t3) = 0 then
    A_findPattern_L8 h a c1 c2 c3 n (v4 + 1)
    else
    some (.inr v4)
def A_findPattern (h : Hp) (a : Nat) (p1 : Int32) (p2 : Int32) : Option (Int32) :=
  (A_digits p2).bind fun t1 =>
  (A_findPattern_L8 h a p1 p2 t1 FU 0).bind fun r4 => match r4 with
  | .inr y => some y
  | .inl () =>
  some (-1)
def A_inBed (h : Hp) (a : Nat) (p1 : Int32) (p2 : Int32) : Option (Int32) :=
  (rdO 36 (rd h (a + 8)) ((p1 * 9) + p2)).bind fun t1 =>
  some t1
def A_cutScene_L17 (a : Nat) (c1 : Int32) (c2 : Int32) (c4 : Int32) : Nat → Int32 → Int32 → Hp → Option (Int32 × Hp)
  | 0, _, _, _ => none
  | n + 1, v3, v5, h =>
    (rdO 4 (rd h (a + 7)) c4).bind fun t1 =>
    if t1 ≤ v5 then
    some (v3, h)
    else
    (A_inBed h a c4 v5).bind fun t2 =>
    (rdO 5 (rd h (a + 10)) c1).bind fun t3 =>
    if t3 ≤ 0 then
    A_cutScene_L17 a c1 c2 c4 n v3 (v5 + 1) h
    else
    if t2 < 0 then
    A_cutScene_L17 a c1 c2 c4 n v3 (v5 + 1) h
    else
    (A_findPattern h a t2 c2).bind fun t4 =>
    if t4 = (-1) then
    A_cutScene_L17 a c1 c2 c4 n v3 (v5 + 1) h
    else
    (rdO 5 (rd h (a + 10)) c1).bind fun t5 =>
    (wrO h (a + 10) 5 c1 (t5 - 1)).bind fun h6 =>
    nm (up2 h6 a 4 ((rd h6 a 4) + 1)) fun h7 =>
    (wrO h7 (a + 6) 12 t2 c1).bind fun h8 =>
    (wrO h8 (a + 4) 12 t2 0).bind fun h9 =>
    (A_setBed h9 a c4 v5 (-2)).bind fun h11 =>
    A_cutScene_L17 a c1 c2 c4 n (v3 ||| (1 <<< (t2 &&& 31))) (v5 + 1) h11
def A_cutScene_L5 (a : Nat) (c1 : Int32) (c2 : Int32) : Nat → Int32 → Int32 → Hp → Option (Int32 × Hp)
  | 0, _, _, _ => none
  | n + 1, v3, v4, h =>
    if (rd h a 12) ≤ v4 then
    some (v3, h)
    else
    (A_cutScene_L17 a c1 c2 v4 FU v3 0 h).bind fun r12 => match r12 with
    | (x3_13, h14) =>
    A_cutScene_L5 a c1 c2 n x3_13 (v4 + 1) h14
def A_cutScene (h : Hp) (a : Nat) (p1 : Int32) (p2 : Int32) : Option (Int32 × Hp) :=
  (A_cutScene_L5 a p1 p2 FU 0 0 h).bind fun r15 => match r15 with
  | (x3_16, h17) =>
  some (x3_16, h17)
def A_placeOf_L12 (h : Hp) (a : Nat) (c1 : Int32) (c2 : Int32) : Nat → Int32 → Option ((Unit) ⊕ (Int32))
  | 0, _ => none
  | n + 1, v3 =>
    (rdO 4 (rd h (a + 7)) c2).bind fun t1 =>
    if t1 ≤ v3 then
    some (.inl ())
    else
    (rdO 36 (rd h (a + 8)) ((c2 * 9) + v3)).bind fun t2 =>
    if t2 = c1 then
    some (.inr ((c2 * 9) + v3))
    else
    A_placeOf_L12 h a c1 c2 n (v3 + 1)
def A_placeOf_L2 (h : Hp) (a : Nat) (c1 : Int32) : Nat → Int32 → Option ((Unit) ⊕ (Int32))
  | 0, _ => none
  | n + 1, v2 =>
    if (rd h a 12) ≤ v2 then
    some (.inl ())
    else
    (A_placeOf_L12 h a c1 v2 FU 0).bind fun r3 => match r3 with
    | .inr y => some (.inr y)
    | .inl () =>
    A_placeOf_L2 h a c1 n (v2 + 1)
def A_placeOf (h : Hp) (a : Nat) (p1 : Int32) : Option (Int32) :=
  (A_placeOf_L2 h a p1 FU 0).bind fun r4 => match r4 with
  | .inr y => some y
  | .inl () =>
  some (-1)
def A_sleepersIn_L4 (h : Hp) (a : Nat) (c1 : Int32) : Nat → Int32 → Int32 → Option (Int32)
  | 0, _, _ => none
  | n + 1, v2, v3 =>
    (rdO 4 (rd h (a + 7)) c1).bind fun t1 =>
    if t1 ≤ v3 then
    some v2
    else
    (A_inBed h a c1 v3).bind fun t2 =>
    if t2 < 0 then
    A_sleepersIn_L4 h a c1 n v2 (v3 + 1)
    else
    A_sleepersIn_L4 h a c1 n (v2 ||| (1 <<< (t2 &&& 31))) (v3 + 1)
def A_sleepersIn (h : Hp) (a : Nat) (p1 : Int32) : Option (Int32) :=
  (A_sleepersIn_L4 h a p1 FU 0 0).bind fun r3 =>
  some r3
def A_wayBed (h : Hp) (a : Nat) (p1 : Int32) (p2 : Int32) (p3 : Int32) : Option (Int32) :=
  (rdO 4 (rd h (a + 7)) p2).bind fun t1 =>
  if 1 ≤ t1 then
  (rdO 12 (rd h (a + 3)) p1).bind fun t2 =>
  (rmO (t2 + p3) t1).bind fun t3 =>
  some t3
  else
  some 0
def A_homeOf (h : Hp) (a : Nat) (p1 : Int32) (p2 : Int32) : Option (Int32) :=
  (A_wayBed h a p1 p2 0).bind fun t1 =>
  some t1
def A_passedBeds_L2 (h : Hp) (a : Nat) (c1 : Int32) (c2 : Int32) : Nat → Int32 → Option ((Unit) ⊕ (Int32))
  | 0, _ => none
  | n + 1, v3 =>
    (rdO 4 (rd h (a + 7)) c2).bind fun t1 =>
    if t1 ≤ v3 then
    some (.inl ())
    else
    (A_wayBed h a c1 c2 v3).bind fun t2 =>
    (A_inBed h a c2 t2).bind fun t3 =>
    if 0 ≤ t3 then
    A_passedBeds_L2 h a c1 c2 n (v3 + 1)
    else
    some (.inr v3)
def A_passedBeds (h : Hp) (a : Nat) (p1 : Int32) (p2 : Int32) : Option (Int32) :=
  (A_passedBeds_L2 h a p1 p2 FU 0).bind fun r4 => match r4 with
  | .inr y => some y
  | .inl () =>
  some (-1)
def A_refusal (h : Hp) (a : Nat) (p1 : Int32) (p2 : Int32) : Option (Int32) :=
  (rdO 12 (rd h (a + 4)) p1).bind fun t1 =>
  if t1 = 0 then
  (rdO 12 (rd h (a + 5)) p1).bind fun t2 =>
  if 10 ≤ t2 then
  (A_passedBeds h a p1 p2).bind fun t3 =>
  if t3 = (-1) then
  some 3
  else
  some 0
  else
  some 2
  else
  some 1
def A_layDown (h : Hp) (a : Nat) (p1 : Int32) (p2 : Int32) : Option (Int32 × Hp) :=
  (A_passedBeds h a p1 p2).bind fun t1 =>
  if t1 = (-1) then
  some ((-1), h)
  else
  (A_wayBed h a p1 p2 t1).bind fun t2 =>
  (A_setBed h a p2 t2 p1).bind fun h4 =>
  (wrO h4 (a + 4) 12 p1 1).bind fun h5 =>
  some (t2, h5)
def A_leaveBed (h : Hp) (a : Nat) (p1 : Int32) : Option (Int32 × Hp) :=
  (A_placeOf h a p1).bind fun t1 =>
  if t1 = (-1) then
  some ((-1), h)
  else
  (wrO h (a + 8) 36 t1 (-2)).bind fun h2 =>
  some ((t1 / 9), h2)
def A_rouse (h : Hp) (a : Nat) (p1 : Int32) : Option (Int32 × Hp) :=
  (wrO h (a + 4) 12 p1 0).bind fun h1 =>
  (A_leaveBed h1 a p1).bind fun (t2, h3) =>
  some (t2, h3)
def A_airReel_L11 (a : Nat) (c1 : Int32) : Nat → Int32 → Int32 → Hp → Option (Int32 × Hp)
  | 0, _, _, _ => none
  | n + 1, v3, v4, h =>
    (rdO 4 (rd h (a + 7)) c1).bind fun t2 =>
    if t2 ≤ v4 then
    some (v3, h)
    else
    (A_inBed h a c1 v4).bind fun t3 =>
    lt (α := Int32 → Option (Int32 × Hp)) (fun (y3_37 : Int32) =>
    (A_setBed h a c1 v4 (-1)).bind fun h5 =>
    A_airReel_L11 a c1 n y3_37 (v4 + 1) h5) fun j37 =>
    if t3 = (-2) then
    j37 (v3 + 1)
    else
    j37 v3
def A_airReel_L54 (a : Nat) (c1 : Int32) (c2 : Int32) : Nat → Int32 → Hp → Option (Hp)
  | 0, _, _ => none
  | n + 1, v4, h =>
    if (rd h a 5) ≤ v4 then
    some h
    else
    if ((c2 >>> (v4 &&& 31)) &&& 1) = 1 then
    (A_layDown h a v4 c1).bind fun (t9, h10) =>
    A_airReel_L54 a c1 c2 n (v4 + 1) h10
    else
    A_airReel_L54 a c1 c2 n (v4 + 1) h
def A_airReel (h : Hp) (a : Nat) (p1 : Int32) : Option (Int32 × Hp) :=
  (A_sleepersIn h a p1).bind fun t1 =>
  (A_airReel_L11 a p1 FU 0 0 h).bind fun r6 => match r6 with
  | (x3_7, h8) =>
  (A_airReel_L54 a p1 t1 FU 0 h8).bind fun r11 =>
  some (x3_7, r11)
def A_looks_L2 (h : Hp) (a : Nat) (c1 : Int32) (c2 : Int32) : Nat → Int32 → Option ((Unit) ⊕ (Int32))
  | 0, _ => none
  | n + 1, v3 =>
    (rdO 4 (rd h (a + 7)) c2).bind fun t1 =>
    if t1 ≤ v3 then
    some (.inl ())
    else
    (A_wayBed h a c1 c2 v3).bind fun t2 =>
    (A_inBed h a c2 t2).bind fun t3 =>
    if t3 = c1 then
    some (.inr (v3 + 1))
    else
    if t3 = (-1) then
    some (.inr (v3 + 1))
    else
    A_looks_L2 h a c1 c2 n (v3 + 1)
def A_looks (h : Hp) (a : Nat) (p1 : Int32) (p2 : Int32) : Option (Int32) :=
  (A_looks_L2 h a p1 p2 FU 0).bind fun r4 => match r4 with
  | .inr y => some y
  | .inl () =>
  (rdO 4 (rd h (a + 7)) p2).bind fun t5 =>
  some t5
def A_mostLooks_L4 (h : Hp) (a : Nat) (c1 : Int32) : Nat → Int32 → Int32 → Option (Int32)
  | 0, _, _ => none
  | n + 1, v2, v3 =>
    (rdO 4 (rd h (a + 7)) c1).bind fun t1 =>
    if t1 ≤ v3 then
    some v2
    else
    (A_inBed h a c1 v3).bind fun t2 =>
    if t2 < 0 then
    A_mostLooks_L4 h a c1 n v2 (v3 + 1)
    else
    (A_looks h a t2 c1).bind fun t3 =>
    A_mostLooks_L4 h a c1 n (mxI v2 t3) (v3 + 1)
def A_mostLooks (h : Hp) (a : Nat) (p1 : Int32) : Option (Int32) :=
  (A_mostLooks_L4 h a p1 FU 0 0).bind fun r4 =>
  some r4
def A_allLooks_L4 (h : Hp) (a : Nat) (c1 : Int32) : Nat → Int32 → Int32 → Option (Int32)
  | 0, _, _ => none
  | n + 1, v2, v3 =>
    (rdO 4 (rd h (a + 7)) c1).bind fun t1 =>
    if t1 ≤ v3 then
    some v2
    else
    (A_inBed h a c1 v3).bind fun t2 =>
    if t2 < 0 then
    A_allLooks_L4 h a c1 n v2 (v3 + 1)
    else
    (A_looks h a t2 c1).bind fun t3 =>
    A_allLooks_L4 h a c1 n (v2 + t3) (v3 + 1)
def A_allLooks (h : Hp) (a : Nat) (p1 : Int32) : Option (Int32) :=
  (A_allLooks_L4 h a p1 FU 0 0).bind fun r4 =>
  some r4
def A_nearestReel_L8 (h : Hp) (a : Nat) (c1 : Int32) : Nat → Int32 → Int32 → Int32 → Option (Int32)
  | 0, _, _, _ => none
  | n + 1, v2, v3, v4 =>
    if (rd h a 12) ≤ v4 then
    some v2
    else
    (A_refusal h a c1 v4).bind fun t1 =>
    if t1 = 0 then
    (A_passedBeds h a c1 v4).bind fun t2 =>
    if v3 ≤ t2 then
    A_nearestReel_L8 h a c1 n v2 v3 (v4 + 1)
    else
    (A_passedBeds h a c1 v4).bind fun t3 =>
    A_nearestReel_L8 h a c1 n v4 t3 (v4 + 1)
    else
    A_nearestReel_L8 h a c1 n v2 v3 (v4 + 1)
def A_nearestReel (h : Hp) (a : Nat) (p1 : Int32) : Option (Int32) :=
  (A_nearestReel_L8 h a p1 FU (-1) 9 0).bind fun r4 =>
  some r4
def A_mayFeed (h : Hp) (a : Nat) (p1 : Int32) (p2 : Int32) : Option (Bool) :=
  (rdO 12 (rd h (a + 4)) p1).bind fun t1 =>
  if t1 = 0 then
  if (rd h a 1) < p2 then
  some false
  else
  (rdO 12 (rd h (a + 5)) p1).bind fun t2 =>
  if 99 < (t2 + p2) then
  some false
  else
  some true
  else
  some false
def A_feedClip (h : Hp) (a : Nat) (p1 : Int32) (p2 : Int32) : Option (Int32 × Hp) :=
  (rdO 12 (rd h (a + 5)) p1).bind fun t1 =>
  (wrO h (a + 5) 12 p1 (t1 + p2)).bind fun h2 =>
  nm (up2 h2 a 1 ((rd h2 a 1) - p2)) fun h3 =>
  nm (up2 h3 a 2 ((rd h3 a 2) + p2)) fun h4 =>
  (rdO 12 (rd h4 (a + 5)) p1).bind fun t5 =>
  some (t5, h4)
def A_mayStore (h : Hp) (a : Nat) (p1 : Int32) : Option (Bool) :=
  if 9999 < ((rd h a 1) + p1) then
  some false
  else
  some true
def A_store (h : Hp) (a : Nat) (p1 : Int32) : Option (Int32 × Hp) :=
  nm (up2 h a 1 ((rd h a 1) + p1)) fun h1 =>
  some ((rd h1 a 1), h1)
def A_mayPass (h : Hp) (a : Nat) (p1 : Int32) : Option (Bool) :=
  if 999 < ((rd h a 0) + p1) then
  some false
  else
  some true
def A_burn (h : Hp) (a : Nat) (p1 : Int32) : Option (Int32 × Hp) :=
  (rdO 12 (rd h (a + 4)) p1).bind fun t1 =>
  if t1 = 2 then
  some (0, h)
  else
  (rdO 12 (rd h (a + 5)) p1).bind fun t2 =>
  (rdO 12 (rd h (a + 4)) p1).bind fun t3 =>
  lt (α := Int32 → Option (Int32 × Hp)) (fun (z0_33 : Int32) =>
  (rdO 12 (rd h (a + 5)) p1).bind fun t4 =>
  (wrO h (a + 5) 12 p1 (t4 - (mnI t2 z0_33))).bind fun h5 =>
  nm (up2 h5 a 3 ((rd h5 a 3) + (mnI t2 z0_33))) fun h6 =>
  (rdO 12 (rd h6 (a + 5)) p1).bind fun t7 =>
  if t7 ≤ 0 then
  (A_leaveBed h6 a p1).bind fun (t8, h9) =>
  (wrO h9 (a + 4) 12 p1 2).bind fun h10 =>
  some (1, h10)
  else
  some (0, h6)) fun j33 =>
  if t3 = 1 then
  j33 1
  else
  j33 4
def A_refillSprings_L2 (a : Nat) : Nat → Int32 → Hp → Option (Hp)
  | 0, _, _ => none
  | n + 1, v1, h =>
    if (rd h a 15) ≤ v1 then
    some h
    else
    (rdO 5 (rd h (a + 10)) v1).bind fun t1 =>
    (rdO 5 (rd h (a + 9)) v1).bind fun t2 =>
    (wrO h (a + 10) 5 v1 (mnI (t1 + 1) t2)).bind fun h3 =>
    A_refillSprings_L2 a n (v1 + 1) h3
def A_refillSprings (h : Hp) (a : Nat) : Option (Hp) :=
  (A_refillSprings_L2 a FU 0 h).bind fun r4 =>
  some r4
def A_pass_L22 (a : Nat) : Nat → Int32 → Int32 → Hp → Option (Int32 × Hp)
  | 0, _, _, _ => none
  | n + 1, v2, v4, h =>
    if (rd h a 5) ≤ v4 then
    some (v2, h)
    else
    (A_burn h a v4).bind fun (t2, h3) =>
    A_pass_L22 a n (v2 + t2) (v4 + 1) h3
def A_pass_L4 (a : Nat) (c1 : Int32) : Nat → Int32 → Int32 → Hp → Option (Int32 × Hp)
  | 0, _, _, _ => none
  | n + 1, v2, v3, h =>
    if c1 ≤ v3 then
    some (v2, h)
    else
    nm (up2 h a 0 ((rd h a 0) + 1)) fun h1 =>
    (A_pass_L22 a FU v2 0 h1).bind fun r4 => match r4 with
    | (x2_5, h6) =>
    (A_refillSprings h6 a).bind fun h8 =>
    A_pass_L4 a c1 n x2_5 (v3 + 1) h8
def A_pass (h : Hp) (a : Nat) (p1 : Int32) : Option (Int32 × Hp) :=
  (A_pass_L4 a p1 FU 0 0 h).bind fun r9 => match r9 with
  | (x2_10, h11) =>
  some (x2_10, h11)
def A_allFat_L4 (h : Hp) (a : Nat) : Nat → Int32 → Int32 → Option (Int32)
  | 0, _, _ => none
  | n + 1, v1, v2 =>
    if (rd h a 5) ≤ v2 then
    some v1
    else
    (rdO 12 (rd h (a + 5)) v2).bind fun t1 =>
    A_allFat_L4 h a n (v1 + t1) (v2 + 1)
def A_allFat (h : Hp) (a : Nat) : Option (Int32) :=
  (A_allFat_L4 h a FU 0 0).bind fun r2 =>
  some r2
def A_clipsInState_L4 (h : Hp) (a : Nat) (c1 : Int32) : Nat → Int32 → Int32 → Option (Int32)
  | 0, _, _ => none
  | n + 1, v2, v3 =>
    if (rd h a 5) ≤ v3 then
    some v2
    else
    (rdO 12 (rd h (a + 4)) v3).bind fun t1 =>
    if t1 = c1 then
    A_clipsInState_L4 h a c1 n (v2 ||| (1 <<< (v3 &&& 31))) (v3 + 1)
    else
    A_clipsInState_L4 h a c1 n v2 (v3 + 1)
def A_clipsInState (h : Hp) (a : Nat) (p1 : Int32) : Option (Int32) :=
  (A_clipsInState_L4 h a p1 FU 0 0).bind fun r2 =>
  some r2
def A_bedsWith_L15 (h : Hp) (a : Nat) (c1 : Int32) (c3 : Int32) : Nat → Int32 → Int32 → Option (Int32)
  | 0, _, _ => none
  | n + 1, v2, v4 =>
    (rdO 4 (rd h (a + 7)) c3).bind fun t1 =>
    if t1 ≤ v4 then
    some v2
    else
    (A_inBed h a c3 v4).bind fun t2 =>
    if t2 = c1 then
    A_bedsWith_L15 h a c1 c3 n (v2 + 1) (v4 + 1)
    else
    A_bedsWith_L15 h a c1 c3 n v2 (v4 + 1)
def A_bedsWith_L4 (h : Hp) (a : Nat) (c1 : Int32) : Nat → Int32 → Int32 → Option (Int32)
  | 0, _, _ => none
  | n + 1, v2, v3 =>
    if (rd h a 12) ≤ v3 then
    some v2
    else
    (A_bedsWith_L15 h a c1 v3 FU v2 0).bind fun r3 =>
    A_bedsWith_L4 h a c1 n r3 (v3 + 1)
def A_bedsWith (h : Hp) (a : Nat) (p1 : Int32) : Option (Int32) :=
  (A_bedsWith_L4 h a p1 FU 0 0).bind fun r4 =>
  some r4
def A_isFound (h : Hp) (a : Nat) (p1 : Int32) : Option (Bool) :=
  (A_placeOf h a p1).bind fun t1 =>
  if t1 = (-1) then
  some false
  else
  (A_looks h a p1 (t1 / 9)).bind fun t2 =>
  (A_wayBed h a p1 (t1 / 9) (t2 - 1)).bind fun t3 =>
  (A_inBed h a (t1 / 9) t3).bind fun t4 =>
  if t4 = p1 then
  some true
  else
  some false
def J_bitCount (p1 : Int32) : Option (Int32) :=
  nm (((p1 - ((iush p1 1) &&& 1431655765)) &&& 858993459) + ((iush (p1 - ((iush p1 1) &&& 1431655765)) 2) &&& 858993459)) fun w1 =>
  nm (((w1 + (iush w1 4)) &&& 252645135) + (iush ((w1 + (iush w1 4)) &&& 252645135) 8)) fun w2 =>
  some ((w2 + (iush w2 16)) &&& 63)
def A_faults_L28 (h : Hp) (a : Nat) : Nat → Int32 → Int32 → Option (Int32)
  | 0, _, _ => none
  | n + 1, v1, v2 =>
    if (rd h a 5) ≤ v2 then
    some v1
    else
    (rdO 12 (rd h (a + 4)) v2).bind fun t2 =>
    if t2 = 1 then
    (A_bedsWith h a v2).bind fun t3 =>
    if t3 = 1 then
    (A_isFound h a v2).bind fun t4 =>
    if (b2i t4) = 0 then
    A_faults_L28 h a n (v1 + 1) (v2 + 1)
    else
    A_faults_L28 h a n v1 (v2 + 1)
    else
    A_faults_L28 h a n (v1 + 1) (v2 + 1)
    else
    A_faults_L28 h a n v1 (v2 + 1)
def A_faults_L74 (h : Hp) (a : Nat) : Nat → Int32 → Int32 → Option (Int32)
  | 0, _, _ => none
  | n + 1, v1, v2 =>
    if (rd h a 12) ≤ v2 then
    some v1
    else
    (A_sleepersIn h a v2).bind fun t6 =>
    (A_clipsInState h a 1).bind fun t7 =>
    (J_bitCount (t6 &&& (t7 ^^^ (-1)))).bind fun t8 =>
    A_faults_L74 h a n (v1 + t8) (v2 + 1)
def A_faults (h : Hp) (a : Nat) : Option (Int32) :=
  (A_allFat h a).bind fun t1 =>
  (A_faults_L28 h a FU (abI ((((40 * (rd h a 5)) + (rd h a 2)) - t1) - (rd h a 3))) 0).bind fun r5 =>
  (A_faults_L74 h a FU r5 0).bind fun r9 =>
  some r9
def T_readWord_L7 : Nat → Hp → Option (Hp)
  | 0, _ => none
  | n + 1, h =>
    if (rd h 47 1) ≤ (rd h 47 2) then
    some h
    else
    (rdO 600 (rd h 48) (rd h 47 2)).bind fun t2 =>
    if t2 < 97 then
    some h
    else
    (rdO 600 (rd h 48) (rd h 47 2)).bind fun t3 =>
    if 122 < t3 then
    some h
    else
    nm (up2 h 47 2 ((rd h 47 2) + 1)) fun h4 =>
    T_readWord_L7 n h4
def T_readWord (h : Hp) : Option (Hp) :=
  nm (up2 h 47 3 0) fun h1 =>
  (T_readWord_L7 FU h1).bind fun r5 =>
  some r5
def T_readNumber_L10 : Nat → Hp → Option (Hp)
  | 0, _ => none
  | n + 1, h =>
    if (rd h 47 1) ≤ (rd h 47 2) then
    some h
    else
    (rdO 600 (rd h 48) (rd h 47 2)).bind fun t3 =>
    if t3 < 48 then
    some h
    else
    (rdO 600 (rd h 48) (rd h 47 2)).bind fun t4 =>
    if 57 < t4 then
    some h
    else
    (rdO 600 (rd h 48) (rd h 47 2)).bind fun t5 =>
    nm (up2 h 47 5 (((10 * (rd h 47 5)) + t5) - 48)) fun h6 =>
    lt (α := Bool → Option (Hp)) (fun (z0_100 : Bool) =>
    nm (up2 h6 47 6 (b2i z0_100)) fun h7 =>
    nm (up2 h7 47 2 ((rd h7 47 2) + 1)) fun h8 =>
    T_readNumber_L10 n h8) fun j100 =>
    lt (α := Unit → Option (Hp)) (fun (u_95 : Unit) =>
    j100 true) fun j95 =>
    if (rd h6 47 6) = 0 then
    (rdO 600 (rd h6 48) (rd h6 47 2)).bind fun t9 =>
    if t9 = 48 then
    j95 ()
    else
    j100 false
    else
    j95 ()
def T_readNumber (h : Hp) : Option (Hp) :=
  nm (up2 h 47 5 0) fun h1 =>
  nm (up2 h1 47 6 0) fun h2 =>
  (T_readNumber_L10 FU h2).bind fun r10 =>
  if ((rd r10 47 2) - (rd r10 47 4)) ≤ 8 then
  nm (up2 r10 47 3 1) fun h11 =>
  some h11
  else
  nm (up2 r10 47 3 6) fun h12 =>
  some h12
def T_tokenOf (p1 : Int32) : Option (Int32) :=
  if p1 = 40 then
  some 2
  else
  if p1 = 41 then
  some 3
  else
  if p1 = 59 then
  some 4
  else
  some 6
def T_readToken_L0 : Nat → Hp → Option (Hp)
  | 0, _ => none
  | n + 1, h =>
    if (rd h 47 1) ≤ (rd h 47 2) then
    some h
    else
    (rdO 600 (rd h 48) (rd h 47 2)).bind fun t1 =>
    lt (α := Unit → Option (Hp)) (fun (u_39 : Unit) =>
    nm (up2 h 47 2 ((rd h 47 2) + 1)) fun h2 =>
    T_readToken_L0 n h2) fun j39 =>
    if t1 = 32 then
    j39 ()
    else
    (rdO 600 (rd h 48) (rd h 47 2)).bind fun t3 =>
    if t3 = 10 then
    j39 ()
    else
    some h
def T_readToken (h : Hp) : Option (Hp) :=
  (T_readToken_L0 FU h).bind fun r4 =>
  nm (up2 r4 47 4 (rd r4 47 2)) fun h5 =>
  if (rd h5 47 2) < (rd h5 47 1) then
  (rdO 600 (rd h5 48) (rd h5 47 2)).bind fun t6 =>
  lt (α := Unit → Option (Hp)) (fun (u_108 : Unit) =>
  lt (α := Unit → Option (Hp)) (fun (u_127 : Unit) =>
  (T_tokenOf t6).bind fun t7 =>
  nm (up2 h5 47 3 t7) fun h8 =>
  nm (up2 h8 47 2 ((rd h8 47 2) + 1)) fun h9 =>
  some h9) fun j127 =>
  if t6 < 48 then
  j127 ()
  else
  if 57 < t6 then
  j127 ()
  else
  (T_readNumber h5).bind fun h11 =>
  some h11) fun j108 =>
  if t6 < 97 then
  j108 ()
  else
  if 122 < t6 then
  j108 ()
  else
  (T_readWord h5).bind fun h13 =>
  some h13
  else
  nm (up2 h5 47 3 5) fun h14 =>
  some h14
def S_fail (h : Hp) (p1 : Int32) : Option (Hp) :=
  nm (up2 h 35 2 p1) fun h1 =>
  nm (up2 h1 35 3 (rd h1 47 4)) fun h2 =>
  some h2
def S_expect (h : Hp) (p1 : Int32) : Option (Hp) :=
  if (rd h 35 2) = 0 then
  (T_readToken h).bind fun h2 =>
  (acO (rd h2 47 3) p1).bind fun e => bcase e (
  some h2) (
  (S_fail h2 1).bind fun h4 =>
  some h4)
  else
  some h
def T_isWord_L30 (h : Hp) (c1 : Int32) : Nat → Int32 → Option ((Unit) ⊕ (Bool))
  | 0, _ => none
  | n + 1, v2 =>
    (slO c1).bind fun t2 =>
    if t2 ≤ v2 then
    some (.inl ())
    else
    if (rd h 47 1) ≤ ((rd h 47 4) + v2) then
    some (.inl ())
    else
    (rdO 600 (rd h 48) ((rd h 47 4) + v2)).bind fun t3 =>
    (scO c1 v2).bind fun t4 =>
    if t3 = t4 then
    T_isWord_L30 h c1 n (v2 + 1)
    else
    some (.inr false)
def T_isWord (h : Hp) (p1 : Int32) : Option (Bool) :=
  (acO (rd h 47 3) 0).bind fun e => bcase e (
  (slO p1).bind fun t1 =>
  if ((rd h 47 2) - (rd h 47 4)) = t1 then
  (T_isWord_L30 h p1 FU 0).bind fun r5 => match r5 with
  | .inr y => some y
  | .inl () =>
  some true
  else
  some false) (
  some false)
def S_begin (h : Hp) : Option (Hp) :=
  (A_empty h 36).bind fun h2 =>
  nm (up2 h2 47 2 0) fun h3 =>
  nm (up2 h3 35 2 0) fun h4 =>
  nm (up2 h4 35 3 (-1)) fun h5 =>
  nm (up2 h5 35 4 0) fun h6 =>
  nm (up2 h6 35 5 0) fun h7 =>
  (S_expect h7 0).bind fun h9 =>
  if (rd h9 35 2) = 0 then
  (T_isWord h9 112).bind fun t10 =>
  if (b2i t10) = 0 then
  (S_fail h9 1).bind fun h12 =>
  (S_expect h12 4).bind fun h14 =>
  some h14
  else
  (S_expect h9 4).bind fun h16 =>
  some h16
  else
  (S_expect h9 4).bind fun h18 =>
  some h18
def S_endRound (h : Hp) : Option (Hp) :=
  if ((rd h 35 5) - 1) < 0 then
  some h
  else
  if ((rd h 35 5) - 1) < 2 then
  (rdO 2 (rd h 50) ((rd h 35 5) - 1)).bind fun t1 =>
  (wrO h 50 2 ((rd h 35 5) - 1) (t1 - 1)).bind fun h2 =>
  (rdO 2 (rd h2 50) ((rd h 35 5) - 1)).bind fun t3 =>
  if t3 ≤ 0 then
  nm (up2 h2 35 5 ((rd h 35 5) - 1)) fun h4 =>
  (S_expect h4 4).bind fun h6 =>
  some h6
  else
  (rdO 2 (rd h2 49) ((rd h 35 5) - 1)).bind fun t7 =>
  nm (up2 h2 47 2 t7) fun h8 =>
  some h8
  else
  some h
def S_presentCommand_L9 (h : Hp) (c2 : Int32) : Nat → Int32 → Option ((Unit) ⊕ (Int32))
  | 0, _ => none
  | n + 1, v3 =>
    if c2 ≤ v3 then
    some (.inl ())
    else
    (cmO v3).bind fun t1 =>
    (wdO t1).bind fun t2 =>
    (T_isWord h t2).bind fun t3 =>
    if (b2i t3) = 0 then
    S_presentCommand_L9 h c2 n (v3 + 1)
    else
    some (.inr t1)
def S_presentCommand (h : Hp) : Option (Int32) :=
  (S_presentCommand_L9 h 12 FU 0).bind fun r4 => match r4 with
  | .inr y => some y
  | .inl () =>
  some (-1)
def S_number (h : Hp) (p1 : Int32) (p2 : Int32) : Option (Int32 × Hp) :=
  (S_expect h 1).bind fun h2 =>
  lt (α := Hp → Option (Int32 × Hp)) (fun (h_41 : Hp) =>
  if (rd h_41 35 2) = 0 then
  some ((rd h_41 47 5), h_41)
  else
  some (0, h_41)) fun j41 =>
  if (rd h2 35 2) = 0 then
  lt (α := Unit → Option (Int32 × Hp)) (fun (u_36 : Unit) =>
  (S_fail h2 2).bind fun h4 =>
  j41 h4) fun j36 =>
  if (rd h2 47 5) < p1 then
  j36 ()
  else
  if (rd h2 47 5) ≤ p2 then
  j41 h2
  else
  j36 ()
  else
  j41 h2
def S_beginRepeat (h : Hp) : Option (Hp) :=
  if (rd h 35 5) < 2 then
  (S_number h 1 20).bind fun (t1, h2) =>
  (S_expect h2 2).bind fun h4 =>
  (wrO h4 49 2 (rd h4 35 5) (rd h4 47 2)).bind fun h5 =>
  (wrO h5 50 2 (rd h5 35 5) t1).bind fun h6 =>
  nm (up2 h6 35 5 ((rd h6 35 5) + 1)) fun h7 =>
  some h7
  else
  (S_fail h 4).bind fun h9 =>
  some h9
def S_coloursNumber (h : Hp) : Option (Int32 × Hp) :=
  (S_expect h 1).bind fun h2 =>
  lt (α := Hp → Option (Int32 × Hp)) (fun (h_29 : Hp) =>
  if (rd h_29 35 2) = 0 then
  some ((rd h_29 47 5), h_29)
  else
  some (0, h_29)) fun j29 =>
  if (rd h2 35 2) = 0 then
  if (rd h2 47 6) = 0 then
  j29 h2
  else
  (S_fail h2 2).bind fun h4 =>
  j29 h4
  else
  j29 h2
def S_readNumbers (h : Hp) (p1 : Int32) : Option (Hp) :=
  (orO p1).bind fun t1 =>
  (swO t1).bind fun t2 =>
  if t2 = 1 then
  (S_coloursNumber h).bind fun (t49, h50) =>
  nm (up2 h50 35 8 t49) fun h51 =>
  some h51
  else
  if t2 = 2 then
  (S_number h 1 9).bind fun (t46, h47) =>
  nm (up2 h47 35 8 t46) fun h48 =>
  some h48
  else
  if t2 = 3 then
  (S_number h 1 9).bind fun (t43, h44) =>
  nm (up2 h44 35 8 t43) fun h45 =>
  some h45
  else
  if t2 = 4 then
  (S_number h 0 ((rd h 36 5) - 1)).bind fun (t37, h38) =>
  nm (up2 h38 35 8 t37) fun h39 =>
  (S_number h39 0 ((rd h39 36 12) - 1)).bind fun (t40, h41) =>
  nm (up2 h41 35 9 t40) fun h42 =>
  some h42
  else
  if t2 = 5 then
  (S_number h 0 ((rd h 36 5) - 1)).bind fun (t34, h35) =>
  nm (up2 h35 35 8 t34) fun h36 =>
  some h36
  else
  if t2 = 6 then
  (S_number h 0 ((rd h 36 15) - 1)).bind fun (t28, h29) =>
  nm (up2 h29 35 8 t28) fun h30 =>
  (S_number h30 1 9999).bind fun (t31, h32) =>
  nm (up2 h32 35 9 t31) fun h33 =>
  some h33
  else
  if t2 = 7 then
  (S_number h 0 ((rd h 36 12) - 1)).bind fun (t25, h26) =>
  nm (up2 h26 35 8 t25) fun h27 =>
  some h27
  else
  if t2 = 8 then
  (S_number h 0 ((rd h 36 5) - 1)).bind fun (t19, h20) =>
  nm (up2 h20 35 8 t19) fun h21 =>
  (S_number h21 1 50).bind fun (t22, h23) =>
  nm (up2 h23 35 9 t22) fun h24 =>
  some h24
  else
  if t2 = 9 then
  (S_number h 1 999).bind fun (t16, h17) =>
  nm (up2 h17 35 8 t16) fun h18 =>
  some h18
  else
  if t2 = 10 then
  (S_number h 0 ((rd h 36 5) - 1)).bind fun (t6, h7) =>
  nm (up2 h7 35 8 t6) fun h8 =>
  (rdO 12 (rd h8 (36 + 1)) (rd h8 35 8)).bind fun t9 =>
  (S_number h8 0 (t9 - 1)).bind fun (t10, h11) =>
  nm (up2 h11 35 9 t10) fun h12 =>
  (S_number h12 1 9).bind fun (t13, h14) =>
  nm (up2 h14 35 10 t13) fun h15 =>
  some h15
  else
  if t2 = 11 then
  (S_number h 1 50).bind fun (t3, h4) =>
  nm (up2 h4 35 8 t3) fun h5 =>
  some h5
  else
  some h
def S_isRefused (h : Hp) (p1 : Int32) : Option (Bool) :=
  (orO p1).bind fun t1 =>
  (swO t1).bind fun t2 =>
  if t2 = 1 then
  (A_hasRoomForClip h 36).bind fun t11 =>
  if (b2i t11) = 0 then
  some true
  else
  some false
  else
  if t2 = 2 then
  (A_hasRoomForReel h 36).bind fun t10 =>
  if (b2i t10) = 0 then
  some true
  else
  some false
  else
  if t2 = 3 then
  (A_hasRoomForScene h 36).bind fun t9 =>
  if (b2i t9) = 0 then
  some true
  else
  some false
  else
  if t2 = 4 then
  (A_refusal h 36 (rd h 35 8) (rd h 35 9)).bind fun t8 =>
  if t8 = 0 then
  some false
  else
  some true
  else
  if t2 = 5 then
  (rdO 12 (rd h (36 + 4)) (rd h 35 8)).bind fun t7 =>
  if t7 = 1 then
  some false
  else
  some true
  else
  if t2 = 6 then
  some false
  else
  if t2 = 7 then
  some false
  else
  if t2 = 8 then
  (A_mayFeed h 36 (rd h 35 8) (rd h 35 9)).bind fun t6 =>
  if (b2i t6) = 0 then
  some true
  else
  some false
  else
  if t2 = 9 then
  (A_mayStore h 36 (rd h 35 8)).bind fun t5 =>
  if (b2i t5) = 0 then
  some true
  else
  some false
  else
  if t2 = 10 then
  (rdO 12 (rd h (36 + 4)) (rd h 35 8)).bind fun t4 =>
  if t4 = 0 then
  some false
  else
  some true
  else
  if t2 = 11 then
  (A_mayPass h 36 (rd h 35 8)).bind fun t3 =>
  if (b2i t3) = 0 then
  some true
  else
  some false
  else
  some false
def S_carryOut (h : Hp) (p1 : Int32) : Option (Hp) :=
  (orO p1).bind fun t1 =>
  (swO t1).bind fun t2 =>
  if t2 = 1 then
  (A_putClip h 36 (rd h 35 8)).bind fun (t23, h24) =>
  some h24
  else
  if t2 = 2 then
  (A_putReel h 36 (rd h 35 8)).bind fun (t21, h22) =>
  some h22
  else
  if t2 = 3 then
  (A_putScene h 36 (rd h 35 8)).bind fun (t19, h20) =>
  some h20
  else
  if t2 = 4 then
  (A_layDown h 36 (rd h 35 8) (rd h 35 9)).bind fun (t17, h18) =>
  some h18
  else
  if t2 = 5 then
  (A_rouse h 36 (rd h 35 8)).bind fun (t15, h16) =>
  some h16
  else
  if t2 = 6 then
  (A_cutScene h 36 (rd h 35 8) (rd h 35 9)).bind fun (t13, h14) =>
  some h14
  else
  if t2 = 7 then
  (A_airReel h 36 (rd h 35 8)).bind fun (t11, h12) =>
  some h12
  else
  if t2 = 8 then
  (A_feedClip h 36 (rd h 35 8) (rd h 35 9)).bind fun (t9, h10) =>
  some h10
  else
  if t2 = 9 then
  (A_store h 36 (rd h 35 8)).bind fun (t7, h8) =>
  some h8
  else
  if t2 = 10 then
  (A_paintClip h 36 (rd h 35 8) (rd h 35 9) (rd h 35 10)).bind fun (t5, h6) =>
  some h6
  else
  if t2 = 11 then
  (A_pass h 36 (rd h 35 8)).bind fun (t3, h4) =>
  some h4
  else
  some h
def S_runCommand (h : Hp) : Option (Hp) :=
  (S_presentCommand h).bind fun t1 =>
  if t1 = (-1) then
  (S_fail h 1).bind fun h17 =>
  some h17
  else
  (acO t1 21).bind fun e => bcase e (
  (S_beginRepeat h).bind fun h3 =>
  some h3) (
  if (rd h 35 4) < 200 then
  nm (up2 h 35 4 ((rd h 35 4) + 1)) fun h4 =>
  (S_readNumbers h4 t1).bind fun h6 =>
  (S_expect h6 4).bind fun h8 =>
  lt (α := Hp → Option (Hp)) (fun (h_91 : Hp) =>
  if (rd h_91 35 2) = 0 then
  (S_carryOut h_91 t1).bind fun h10 =>
  some h10
  else
  some h_91) fun j91 =>
  if (rd h8 35 2) = 0 then
  (S_isRefused h8 t1).bind fun t11 =>
  if (b2i t11) = 0 then
  j91 h8
  else
  (S_fail h8 3).bind fun h13 =>
  j91 h13
  else
  j91 h8
  else
  (S_fail h 5).bind fun h15 =>
  some h15)
def S_run_L8 : Nat → Int32 → Int32 → Hp → Option (Hp)
  | 0, _, _, _ => none
  | n + 1, v1, v2, h =>
    if 1000000 ≤ v2 then
    some h
    else
    if v1 = 0 then
    if (rd h 35 2) = 0 then
    (T_readToken h).bind fun h4 =>
    lt (α := Unit → Option (Hp)) (fun (u_57 : Unit) =>
    (acO (rd h4 47 3) 3).bind fun e => bcase e (
    if (rd h4 35 5) ≤ 0 then
    (S_runCommand h4).bind fun h6 =>
    S_run_L8 n v1 (v2 + 1) h6
    else
    (S_endRound h4).bind fun h8 =>
    S_run_L8 n v1 (v2 + 1) h8) (
    (S_runCommand h4).bind fun h10 =>
    S_run_L8 n v1 (v2 + 1) h10)) fun j57 =>
    (acO (rd h4 47 3) 5).bind fun e => bcase e (
    if (rd h4 35 5) = 0 then
    S_run_L8 n 1 (v2 + 1) h4
    else
    j57 ()) (
    j57 ())
    else
    some h
    else
    some h
def S_run (h : Hp) : Option (Hp) :=
  (S_begin h).bind fun h2 =>
  (S_run_L8 FU 0 0 h2).bind fun r11 =>
  nm (up2 r11 47 1 0) fun h12 =>
  some h12
def T_add (h : Hp) (p1 : Int32) : Option (Hp) :=
  if 600 ≤ (rd h 47 1) then
  some h
  else
  (wrO h 48 600 (rd h 47 1) ((p1.toInt8.toInt32).toInt8.toInt32)).bind fun h1 =>
  nm (up2 h1 47 1 ((rd h1 47 1) + 1)) fun h2 =>
  some h2
def T_addSigns_L2 (c1 : Int32) : Nat → Int32 → Hp → Option (Hp)
  | 0, _, _ => none
  | n + 1, v2, h =>
    (slO c1).bind fun t1 =>
    if t1 ≤ v2 then
    some h
    else
    (scO c1 v2).bind fun t2 =>
    (T_add h t2).bind fun h4 =>
    T_addSigns_L2 c1 n (v2 + 1) h4
def T_addSigns (h : Hp) (p1 : Int32) : Option (Hp) :=
  (T_addSigns_L2 p1 FU 0 h).bind fun r5 =>
  some r5
def C_refuseIf (p1 : Bool) : Option (Unit) :=
  if (b2i p1) = 0 then
  some ()
  else
  none
def C_remember (h : Hp) : Option (Hp) :=
  (paO (rd h 0 6)).bind fun p1 =>
  (A_copyFrom h p1 1).bind fun h3 =>
  nm (up2 h3 0 6 (((rd h3 0 6) + 1) - ((rd h3 0 6) + 1) / 8 * 8)) fun h4 =>
  nm (up2 h4 0 5 (mnI ((rd h4 0 5) + 1) 8)) fun h5 =>
  some h5
def C_addClip (h : Hp) (p1 : Int32) : Option (Int32 × Hp) :=
  (A_areColours p1).bind fun t1 =>
  if (b2i t1) = 0 then
  none
  else
  (A_hasRoomForClip h 1).bind fun t2 =>
  lt (α := Bool → Option (Int32 × Hp)) (fun (z0_33 : Bool) =>
  (C_refuseIf z0_33).bind fun _ =>
  (C_remember h).bind fun h5 =>
  (A_putClip h5 1 p1).bind fun (t6, h7) =>
  some (t6, h7)) fun j33 =>
  if (b2i t2) = 0 then
  j33 true
  else
  j33 false
def C_needRange (p1 : Int32) (p2 : Int32) (p3 : Int32) : Option (Unit) :=
  if p1 < p2 then
  none
  else
  if p1 ≤ p3 then
  some ()
  else
  none
def C_addReel (h : Hp) (p1 : Int32) : Option (Int32 × Hp) :=
  (C_needRange p1 1 9).bind fun _ =>
  (A_hasRoomForReel h 1).bind fun t2 =>
  lt (α := Bool → Option (Int32 × Hp)) (fun (z0_24 : Bool) =>
  (C_refuseIf z0_24).bind fun _ =>
  (C_remember h).bind fun h5 =>
  (A_putReel h5 1 p1).bind fun (t6, h7) =>
  some (t6, h7)) fun j24 =>
  if (b2i t2) = 0 then
  j24 true
  else
  j24 false
def C_addScene (h : Hp) (p1 : Int32) : Option (Int32 × Hp) :=
  (C_needRange p1 1 9).bind fun _ =>
  (A_hasRoomForScene h 1).bind fun t2 =>
  lt (α := Bool → Option (Int32 × Hp)) (fun (z0_24 : Bool) =>
  (C_refuseIf z0_24).bind fun _ =>
  (C_remember h).bind fun h5 =>
  (A_putScene h5 1 p1).bind fun (t6, h7) =>
  some (t6, h7)) fun j24 =>
  if (b2i t2) = 0 then
  j24 true
  else
  j24 false
def C_needClip (h : Hp) (p1 : Int32) : Option (Unit) :=
  if p1 < 0 then
  none
  else
  if p1 < (rd h 1 5) then
  some ()
  else
  none
def C_needReel (h : Hp) (p1 : Int32) : Option (Unit) :=
  if p1 < 0 then
  none
  else
  if p1 < (rd h 1 12) then
  some ()
  else
  none
def C_sleep (h : Hp) (p1 : Int32) (p2 : Int32) : Option (Int32 × Hp) :=
  (C_needClip h p1).bind fun _ =>
  (C_needReel h p2).bind fun _ =>
  (A_refusal h 1 p1 p2).bind fun t3 =>
  lt (α := Bool → Option (Int32 × Hp)) (fun (z0_28 : Bool) =>
  (C_refuseIf z0_28).bind fun _ =>
  (C_remember h).bind fun h6 =>
  (A_layDown h6 1 p1 p2).bind fun (t7, h8) =>
  some (t7, h8)) fun j28 =>
  if t3 = 0 then
  j28 false
  else
  j28 true
def C_wake (h : Hp) (p1 : Int32) : Option (Int32 × Hp) :=
  (C_needClip h p1).bind fun _ =>
  (rdO 12 (rd h (1 + 4)) p1).bind fun t2 =>
  lt (α := Bool → Option (Int32 × Hp)) (fun (z0_24 : Bool) =>
  (C_refuseIf z0_24).bind fun _ =>
  (C_remember h).bind fun h5 =>
  (A_rouse h5 1 p1).bind fun (t6, h7) =>
  some (t6, h7)) fun j24 =>
  if t2 = 1 then
  j24 false
  else
  j24 true
def C_needScene (h : Hp) (p1 : Int32) : Option (Unit) :=
  if p1 < 0 then
  none
  else
  if p1 < (rd h 1 15) then
  some ()
  else
  none
def C_needPattern (p1 : Int32) : Option (Unit) :=
  (C_needRange p1 1 9999).bind fun _ =>
  some ()
def C_cut (h : Hp) (p1 : Int32) (p2 : Int32) : Option (Int32 × Hp) :=
  (C_needScene h p1).bind fun _ =>
  (C_needPattern p2).bind fun _ =>
  (C_remember h).bind fun h4 =>
  (A_cutScene h4 1 p1 p2).bind fun (t5, h6) =>
  some (t5, h6)
def C_air (h : Hp) (p1 : Int32) : Option (Int32 × Hp) :=
  (C_needReel h p1).bind fun _ =>
  (C_remember h).bind fun h3 =>
  (A_airReel h3 1 p1).bind fun (t4, h5) =>
  some (t4, h5)
def C_feed (h : Hp) (p1 : Int32) (p2 : Int32) : Option (Int32 × Hp) :=
  (C_needClip h p1).bind fun _ =>
  (C_needRange p2 1 50).bind fun _ =>
  (A_mayFeed h 1 p1 p2).bind fun t3 =>
  lt (α := Bool → Option (Int32 × Hp)) (fun (z0_31 : Bool) =>
  (C_refuseIf z0_31).bind fun _ =>
  (C_remember h).bind fun h6 =>
  (A_feedClip h6 1 p1 p2).bind fun (t7, h8) =>
  some (t7, h8)) fun j31 =>
  if (b2i t3) = 0 then
  j31 true
  else
  j31 false
def C_addFood (h : Hp) (p1 : Int32) : Option (Int32 × Hp) :=
  (C_needRange p1 1 999).bind fun _ =>
  (A_mayStore h 1 p1).bind fun t2 =>
  lt (α := Bool → Option (Int32 × Hp)) (fun (z0_26 : Bool) =>
  (C_refuseIf z0_26).bind fun _ =>
  (C_remember h).bind fun h5 =>
  (A_store h5 1 p1).bind fun (t6, h7) =>
  some (t6, h7)) fun j26 =>
  if (b2i t2) = 0 then
  j26 true
  else
  j26 false
def C_paint (h : Hp) (p1 : Int32) (p2 : Int32) (p3 : Int32) : Option (Int32 × Hp) :=
  (C_needClip h p1).bind fun _ =>
  if p2 < 0 then
  none
  else
  (rdO 12 (rd h (1 + 1)) p1).bind fun t2 =>
  if p2 < t2 then
  (C_needRange p3 1 9).bind fun _ =>
  (rdO 12 (rd h (1 + 4)) p1).bind fun t4 =>
  lt (α := Bool → Option (Int32 × Hp)) (fun (z0_58 : Bool) =>
  (C_refuseIf z0_58).bind fun _ =>
  (C_remember h).bind fun h7 =>
  (A_paintClip h7 1 p1 p2 p3).bind fun (t8, h9) =>
  some (t8, h9)) fun j58 =>
  if t4 = 0 then
  j58 false
  else
  j58 true
  else
  none
def C_passWeeks (h : Hp) (p1 : Int32) : Option (Int32 × Hp) :=
  (C_needRange p1 1 50).bind fun _ =>
  (A_mayPass h 1 p1).bind fun t2 =>
  lt (α := Bool → Option (Int32 × Hp)) (fun (z0_25 : Bool) =>
  (C_refuseIf z0_25).bind fun _ =>
  (C_remember h).bind fun h5 =>
  (A_pass h5 1 p1).bind fun (t6, h7) =>
  some (t6, h7)) fun j25 =>
  if (b2i t2) = 0 then
  j25 true
  else
  j25 false
def C_undo (h : Hp) : Option (Int32 × Hp) :=
  if (rd h 0 5) = 0 then
  some ((-1), h)
  else
  nm (up2 h 0 6 ((((rd h 0 6) + 8) - 1) - (((rd h 0 6) + 8) - 1) / 8 * 8)) fun h1 =>
  nm (up2 h1 0 5 ((rd h1 0 5) - 1)) fun h2 =>
  (paO (rd h2 0 6)).bind fun p3 =>
  (A_copyFrom h2 1 p3).bind fun h5 =>
  some ((rd h5 0 5), h5)
def C_undoCount (h : Hp) : Option (Int32) :=
  some (rd h 0 5)
def C_saveSnapshot (h : Hp) : Option (Int32 × Hp) :=
  (A_copyFrom h 23 1).bind fun h2 =>
  nm (up2 h2 0 3 1) fun h3 =>
  some ((rd h3 1 0), h3)
def C_restoreSnapshot (h : Hp) : Option (Int32 × Hp) :=
  if (rd h 0 3) = 0 then
  none
  else
  (A_copyFrom h 1 23).bind fun h2 =>
  nm (up2 h2 0 5 0) fun h3 =>
  some ((rd h3 1 0), h3)
def C_week (h : Hp) : Option (Int32) :=
  some (rd h 1 0)
def C_food (h : Hp) : Option (Int32) :=
  some (rd h 1 1)
def C_clipCount (h : Hp) : Option (Int32) :=
  some (rd h 1 5)
def C_reelCount (h : Hp) : Option (Int32) :=
  some (rd h 1 12)
def C_sceneCount (h : Hp) : Option (Int32) :=
  some (rd h 1 15)
def C_springs (h : Hp) (p1 : Int32) : Option (Int32) :=
  (C_needScene h p1).bind fun _ =>
  (rdO 5 (rd h (1 + 10)) p1).bind fun t2 =>
  some t2
def C_state (h : Hp) (p1 : Int32) : Option (Int32) :=
  (C_needClip h p1).bind fun _ =>
  (rdO 12 (rd h (1 + 4)) p1).bind fun t2 =>
  some t2
def C_colours (h : Hp) (p1 : Int32) : Option (Int32) :=
  (C_needClip h p1).bind fun _ =>
  (A_coloursOf h 1 p1).bind fun t2 =>
  some t2
def C_length (h : Hp) (p1 : Int32) : Option (Int32) :=
  (C_needClip h p1).bind fun _ =>
  (rdO 12 (rd h (1 + 1)) p1).bind fun t2 =>
  some t2
def C_fat (h : Hp) (p1 : Int32) : Option (Int32) :=
  (C_needClip h p1).bind fun _ =>
  (rdO 12 (rd h (1 + 5)) p1).bind fun t2 =>
  some t2
def C_reelOf (h : Hp) (p1 : Int32) : Option (Int32) :=
  (C_needClip h p1).bind fun _ =>
  (A_placeOf h 1 p1).bind fun t2 =>
  if t2 = (-1) then
  some (-1)
  else
  some (t2 / 9)
def C_bedOf (h : Hp) (p1 : Int32) : Option (Int32) :=
  (C_needClip h p1).bind fun _ =>
  (A_placeOf h 1 p1).bind fun t2 =>
  if t2 = (-1) then
  some (-1)
  else
  some (t2 - t2 / 9 * 9)
def C_sceneOf (h : Hp) (p1 : Int32) : Option (Int32) :=
  (C_needClip h p1).bind fun _ =>
  (rdO 12 (rd h (1 + 6)) p1).bind fun t2 =>
  some t2
def C_bedCount (h : Hp) (p1 : Int32) : Option (Int32) :=
  (C_needReel h p1).bind fun _ =>
  (rdO 4 (rd h (1 + 7)) p1).bind fun t2 =>
  some t2
def C_bed (h : Hp) (p1 : Int32) (p2 : Int32) : Option (Int32) :=
  (C_needReel h p1).bind fun _ =>
  if p2 < 0 then
  none
  else
  (rdO 4 (rd h (1 + 7)) p1).bind fun t2 =>
  if p2 < t2 then
  (A_inBed h 1 p1 p2).bind fun t3 =>
  some t3
  else
  none
def C_sleepers (h : Hp) (p1 : Int32) : Option (Int32) :=
  (C_needReel h p1).bind fun _ =>
  (A_sleepersIn h 1 p1).bind fun t2 =>
  some t2
def C_home (h : Hp) (p1 : Int32) (p2 : Int32) : Option (Int32) :=
  (C_needClip h p1).bind fun _ =>
  (C_needReel h p2).bind fun _ =>
  (A_homeOf h 1 p1 p2).bind fun t3 =>
  some t3
def C_whyNoSleep (h : Hp) (p1 : Int32) (p2 : Int32) : Option (Int32) :=
  (C_needClip h p1).bind fun _ =>
  (C_needReel h p2).bind fun _ =>
  (A_refusal h 1 p1 p2).bind fun t3 =>
  some t3
def C_looksFor (h : Hp) (p1 : Int32) (p2 : Int32) : Option (Int32) :=
  (C_needClip h p1).bind fun _ =>
  (C_needReel h p2).bind fun _ =>
  (A_looks h 1 p1 p2).bind fun t3 =>
  some t3
def C_longestLook (h : Hp) (p1 : Int32) : Option (Int32) :=
  (C_needReel h p1).bind fun _ =>
  (A_mostLooks h 1 p1).bind fun t2 =>
  some t2
def C_looksIfAired (h : Hp) (p1 : Int32) : Option (Int32 × Hp) :=
  (C_needReel h p1).bind fun _ =>
  (A_copyFrom h 12 1).bind fun h3 =>
  (A_airReel h3 12 p1).bind fun (t4, h5) =>
  (A_allLooks h5 12 p1).bind fun t6 =>
  some (t6, h5)
def C_bestReel (h : Hp) (p1 : Int32) : Option (Int32) :=
  (C_needClip h p1).bind fun _ =>
  (A_nearestReel h 1 p1).bind fun t2 =>
  some t2
def C_burnedFat (h : Hp) : Option (Int32) :=
  some (rd h 1 3)
def C_wakings (h : Hp) : Option (Int32) :=
  some (rd h 1 4)
def C_fadedClips (h : Hp) : Option (Int32) :=
  (A_clipsInState h 1 2).bind fun t1 =>
  some t1
def C_violations (h : Hp) : Option (Int32) :=
  (A_faults h 1).bind fun t1 =>
  some t1
end FunC
