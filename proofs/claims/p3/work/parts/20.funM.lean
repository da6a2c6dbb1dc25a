noncomputable section FunM
def M_thrown (h : Hp) : Option (Int32) :=
  some (rd h 140 15)
def M_in (p1 : Int32) (p2 : Int32) (p3 : Int32) : Option (Bool) :=
  if p1 < p2 then
  some false
  else
  if p3 < p1 then
  some false
  else
  some true
def M_throwsOne (h : Hp) (p1 : Bool) : Option (Bool × Hp) :=
  if (b2i p1) = 0 then
  nm (up2 h 140 15 0) fun h1 =>
  some (p1, h1)
  else
  nm (up2 h 140 15 1) fun h2 =>
  some (p1, h2)
def M_throwsOne2 (h : Hp) (p1 : Bool) (p2 : Bool) : Option (Bool × Hp) :=
  lt (α := Int32 → Option (Bool × Hp)) (fun (z0_18 : Int32) =>
  nm (up2 h 140 15 z0_18) fun h1 =>
  if (b2i p1) = 0 then
  if (b2i p2) = 0 then
  some (false, h1)
  else
  some (true, h1)
  else
  some (true, h1)) fun j18 =>
  if (b2i p1) = 0 then
  if (b2i p2) = 0 then
  j18 0
  else
  j18 2
  else
  j18 1
def M_throwsOne3 (h : Hp) (p1 : Bool) (p2 : Bool) (p3 : Bool) : Option (Bool × Hp) :=
  lt (α := Int32 → Option (Bool × Hp)) (fun (z0_26 : Int32) =>
  nm (up2 h 140 15 z0_26) fun h1 =>
  if (b2i p1) = 0 then
  if (b2i p2) = 0 then
  if (b2i p3) = 0 then
  some (false, h1)
  else
  some (true, h1)
  else
  some (true, h1)
  else
  some (true, h1)) fun j26 =>
  if (b2i p1) = 0 then
  if (b2i p2) = 0 then
  if (b2i p3) = 0 then
  j26 0
  else
  j26 3
  else
  j26 2
  else
  j26 1
def M_isClip (h : Hp) (p1 : Int32) : Option (Bool) :=
  (rdO 106 (rd h 141) 2).bind fun t1 =>
  (M_in p1 0 (t1 - 1)).bind fun t2 =>
  some t2
def M_isReel (h : Hp) (p1 : Int32) : Option (Bool) :=
  (rdO 106 (rd h 141) 3).bind fun t1 =>
  (M_in p1 0 (t1 - 1)).bind fun t2 =>
  some t2
def M_isScene (h : Hp) (p1 : Int32) : Option (Bool) :=
  (rdO 106 (rd h 141) 4).bind fun t1 =>
  (M_in p1 0 (t1 - 1)).bind fun t2 =>
  some t2
def M_of (h : Hp) (p1 : Int32) (p2 : Int32) : Option (Int32) :=
  (rdO 106 (rd h 141) ((8 + (4 * p1)) + p2)).bind fun t1 =>
  some t1
def M_to (h : Hp) (p1 : Int32) (p2 : Int32) (p3 : Int32) : Option (Hp) :=
  (wrO h 141 106 ((8 + (4 * p1)) + p2) p3).bind fun h1 =>
  some h1
def M_scene (h : Hp) (p1 : Int32) (p2 : Int32) : Option (Int32) :=
  (rdO 106 (rd h 141) ((96 + (2 * p1)) + p2)).bind fun t1 =>
  some t1
def M_beds (h : Hp) (p1 : Int32) : Option (Int32) :=
  (rdO 106 (rd h 141) (56 + p1)).bind fun t1 =>
  some t1
def M_inBed (h : Hp) (p1 : Int32) (p2 : Int32) : Option (Int32) :=
  (rdO 106 (rd h 141) ((60 + (9 * p1)) + p2)).bind fun t1 =>
  some t1
def M_setBed (h : Hp) (p1 : Int32) (p2 : Int32) (p3 : Int32) : Option (Hp) :=
  (wrO h 141 106 ((60 + (9 * p1)) + p2) p3).bind fun h1 =>
  some h1
def M_digits_L4 : Nat → Int32 → Int32 → Option (Int32)
  | 0, _, _ => none
  | n + 1, v1, v2 =>
    if v2 ≤ 0 then
    some v1
    else
    M_digits_L4 n (v1 + 1) (v2 / 10)
def M_digits (p1 : Int32) : Option (Int32) :=
  (M_digits_L4 FU 0 p1).bind fun r1 =>
  some r1
def M_digit_L9 (c1 : Int32) : Nat → Int32 → Int32 → Option (Int32)
  | 0, _, _ => none
  | n + 1, v2, v3 =>
    if v3 ≤ c1 then
    some v2
    else
    M_digit_L9 c1 n (v2 / 10) (v3 + (-1))
def M_digit (p1 : Int32) (p2 : Int32) : Option (Int32) :=
  (M_digits p1).bind fun t1 =>
  (M_digit_L9 p2 FU p1 (t1 - 1)).bind fun r2 =>
  some (r2 - r2 / 10 * 10)
def M_hasZero_L2 : Nat → Int32 → Option ((Unit) ⊕ (Bool))
  | 0, _ => none
  | n + 1, v1 =>
    if v1 ≤ 0 then
    some (.inl ())
    else
    if (v1 - v1 / 10 * 10) = 0 then
    some (.inr true)
    else
    M_hasZero_L2 n (v1 / 10)
def M_hasZero (p1 : Int32) : Option (Bool) :=
  (M_hasZero_L2 FU p1).bind fun r1 => match r1 with
  | .inr y => some y
  | .inl () =>
  some false
def M_areColours (p1 : Int32) : Option (Bool) :=
  (M_in p1 1 99999999).bind fun t1 =>
  if (b2i t1) = 0 then
  some false
  else
  (M_hasZero p1).bind fun t2 =>
  if (b2i t2) = 0 then
  some true
  else
  some false
def M_isPattern (p1 : Int32) : Option (Bool) :=
  (M_in p1 1 9999).bind fun t1 =>
  some t1
def M_hashOf_L4 (h : Hp) (c1 : Int32) : Nat → Int32 → Int32 → Option (Int32)
  | 0, _, _ => none
  | n + 1, v2, v3 =>
    (M_of h c1 0).bind fun t1 =>
    (M_digits t1).bind fun t2 =>
    if t2 ≤ v3 then
    some v2
    else
    (M_of h c1 0).bind fun t3 =>
    (M_digit t3 v3).bind fun t4 =>
    M_hashOf_L4 h c1 n (((31 * v2) + t4) - ((31 * v2) + t4) / 997 * 997) (v3 + 1)
def M_hashOf (h : Hp) (p1 : Int32) : Option (Int32) :=
  (M_hashOf_L4 h p1 FU 0 0).bind fun r5 =>
  some r5
def M_fitsAt_L2 (c0 : Int32) (c1 : Int32) (c2 : Int32) : Nat → Int32 → Option ((Unit) ⊕ (Bool))
  | 0, _ => none
  | n + 1, v3 =>
    (M_digits c1).bind fun t1 =>
    if t1 ≤ v3 then
    some (.inl ())
    else
    (M_digit c1 v3).bind fun t2 =>
    if t2 = 0 then
    M_fitsAt_L2 c0 c1 c2 n (v3 + 1)
    else
    (M_digit c0 (c2 + v3)).bind fun t3 =>
    if t2 = t3 then
    M_fitsAt_L2 c0 c1 c2 n (v3 + 1)
    else
    some (.inr false)
def M_fitsAt (p1 : Int32) (p2 : Int32) (p3 : Int32) : Option (Bool) :=
  (M_fitsAt_L2 p1 p2 p3 FU 0).bind fun r4 => match r4 with
  | .inr y => some y
  | .inl () =>
  some true
def M_matchOf_L10 (c2 : Int32) (c3 : Int32) : Nat → Int32 → Option ((Unit) ⊕ (Int32))
  | 0, _ => none
  | n + 1, v4 =>
    (M_digits c2).bind fun t2 =>
    (M_digits c3).bind fun t3 =>
    if t3 < (v4 + t2) then
    some (.inl ())
    else
    (M_fitsAt c3 c2 v4).bind fun t4 =>
    if (b2i t4) = 0 then
    M_matchOf_L10 c2 c3 n (v4 + 1)
    else
    some (.inr v4)
def M_matchOf (h : Hp) (p1 : Int32) (p2 : Int32) : Option (Int32) :=
  (M_of h p1 0).bind fun t1 =>
  (M_matchOf_L10 p2 t1 FU 0).bind fun r5 => match r5 with
  | .inr y => some y
  | .inl () =>
  some (-1)
def M_runFrom_L19 (c3 : Int32) (c4 : Int32) (c5 : Int32) (c6 : Int32) : Nat → Int32 → Option (Int32)
  | 0, _ => none
  | n + 1, v7 =>
    (M_digits c5).bind fun t3 =>
    if t3 ≤ (c3 + v7) then
    some v7
    else
    (M_digits c6).bind fun t4 =>
    if t4 ≤ (c4 + v7) then
    some v7
    else
    (M_digit c5 (c3 + v7)).bind fun t5 =>
    (M_digit c6 (c4 + v7)).bind fun t6 =>
    if t5 = t6 then
    M_runFrom_L19 c3 c4 c5 c6 n (v7 + 1)
    else
    some v7
def M_runFrom (h : Hp) (p1 : Int32) (p2 : Int32) (p3 : Int32) (p4 : Int32) : Option (Int32) :=
  (M_of h p1 0).bind fun t1 =>
  (M_of h p2 0).bind fun t2 =>
  (M_runFrom_L19 p3 p4 t1 t2 FU 0).bind fun r7 =>
  some r7
def M_run_L22 (h : Hp) (c1 : Int32) (c2 : Int32) (c4 : Int32) : Nat → Int32 → Int32 → Option (Int32)
  | 0, _, _ => none
  | n + 1, v3, v5 =>
    (M_of h c2 0).bind fun t3 =>
    (M_digits t3).bind fun t4 =>
    if t4 ≤ v5 then
    some v3
    else
    (M_runFrom h c1 c2 c4 v5).bind fun t5 =>
    M_run_L22 h c1 c2 c4 n (mxI v3 t5) (v5 + 1)
def M_run_L5 (h : Hp) (c1 : Int32) (c2 : Int32) : Nat → Int32 → Int32 → Option (Int32)
  | 0, _, _ => none
  | n + 1, v3, v4 =>
    (M_of h c1 0).bind fun t1 =>
    (M_digits t1).bind fun t2 =>
    if t2 ≤ v4 then
    some v3
    else
    (M_run_L22 h c1 c2 v4 FU v3 0).bind fun r6 =>
    M_run_L5 h c1 c2 n r6 (v4 + 1)
def M_run (h : Hp) (p1 : Int32) (p2 : Int32) : Option (Int32) :=
  (M_run_L5 h p1 p2 FU 0 0).bind fun r7 =>
  some r7
def M_homeOf (h : Hp) (p1 : Int32) (p2 : Int32) : Option (Int32) :=
  (M_hashOf h p1).bind fun t1 =>
  (M_beds h p2).bind fun t2 =>
  (rmO t1 t2).bind fun t3 =>
  some t3
def M_onWay (h : Hp) (p1 : Int32) (p2 : Int32) (p3 : Int32) : Option (Int32) :=
  (M_homeOf h p1 p2).bind fun t1 =>
  (M_beds h p2).bind fun t2 =>
  (rmO (t1 + p3) t2).bind fun t3 =>
  some t3
def M_passedBy_L2 (h : Hp) (c1 : Int32) (c2 : Int32) : Nat → Int32 → Option ((Unit) ⊕ (Int32))
  | 0, _ => none
  | n + 1, v3 =>
    (M_beds h c2).bind fun t1 =>
    if t1 ≤ v3 then
    some (.inl ())
    else
    (M_onWay h c1 c2 v3).bind fun t2 =>
    (M_inBed h c2 t2).bind fun t3 =>
    if 0 ≤ t3 then
    M_passedBy_L2 h c1 c2 n (v3 + 1)
    else
    some (.inr v3)
def M_passedBy (h : Hp) (p1 : Int32) (p2 : Int32) : Option (Int32) :=
  (M_passedBy_L2 h p1 p2 FU 0).bind fun r4 => match r4 with
  | .inr y => some y
  | .inl () =>
  some (-1)
def M_looks_L2 (h : Hp) (c1 : Int32) (c2 : Int32) : Nat → Int32 → Option ((Unit) ⊕ (Int32))
  | 0, _ => none
  | n + 1, v3 =>
    (M_beds h c2).bind fun t1 =>
    if t1 ≤ v3 then
    some (.inl ())
    else
    (M_onWay h c1 c2 v3).bind fun t2 =>
    (M_inBed h c2 t2).bind fun t3 =>
    if t3 = c1 then
    some (.inr (v3 + 1))
    else
    if t3 = (-1) then
    some (.inr (v3 + 1))
    else
    M_looks_L2 h c1 c2 n (v3 + 1)
def M_looks (h : Hp) (p1 : Int32) (p2 : Int32) : Option (Int32) :=
  (M_looks_L2 h p1 p2 FU 0).bind fun r4 => match r4 with
  | .inr y => some y
  | .inl () =>
  (M_beds h p2).bind fun t5 =>
  some t5
def M_bedWith_L2 (h : Hp) (c1 : Int32) (c2 : Int32) : Nat → Int32 → Option ((Unit) ⊕ (Int32))
  | 0, _ => none
  | n + 1, v3 =>
    (M_beds h c2).bind fun t1 =>
    if t1 ≤ v3 then
    some (.inl ())
    else
    (M_inBed h c2 v3).bind fun t2 =>
    if t2 = c1 then
    some (.inr v3)
    else
    M_bedWith_L2 h c1 c2 n (v3 + 1)
def M_bedWith (h : Hp) (p1 : Int32) (p2 : Int32) : Option (Int32) :=
  (M_bedWith_L2 h p1 p2 FU 0).bind fun r3 => match r3 with
  | .inr y => some y
  | .inl () =>
  some (-1)
def M_reelWith_L2 (h : Hp) (c1 : Int32) : Nat → Int32 → Option ((Unit) ⊕ (Int32))
  | 0, _ => none
  | n + 1, v2 =>
    (rdO 106 (rd h 141) 3).bind fun t1 =>
    if t1 ≤ v2 then
    some (.inl ())
    else
    (M_bedWith h c1 v2).bind fun t2 =>
    if t2 = (-1) then
    M_reelWith_L2 h c1 n (v2 + 1)
    else
    some (.inr v2)
def M_reelWith (h : Hp) (p1 : Int32) : Option (Int32) :=
  (M_reelWith_L2 h p1 FU 0).bind fun r3 => match r3 with
  | .inr y => some y
  | .inl () =>
  some (-1)
def M_sleepersIn_L4 (h : Hp) (c1 : Int32) : Nat → Int32 → Int32 → Option (Int32)
  | 0, _, _ => none
  | n + 1, v2, v3 =>
    (M_beds h c1).bind fun t1 =>
    if t1 ≤ v3 then
    some v2
    else
    (M_inBed h c1 v3).bind fun t2 =>
    if t2 < 0 then
    M_sleepersIn_L4 h c1 n (v2 ||| 0) (v3 + 1)
    else
    (M_inBed h c1 v3).bind fun t3 =>
    M_sleepersIn_L4 h c1 n (v2 ||| (1 <<< (t3 &&& 31))) (v3 + 1)
def M_sleepersIn (h : Hp) (p1 : Int32) : Option (Int32) :=
  (M_sleepersIn_L4 h p1 FU 0 0).bind fun r4 =>
  some r4
def M_whyStaysUp (h : Hp) (p1 : Int32) (p2 : Int32) : Option (Int32) :=
  (M_of h p1 1).bind fun t1 =>
  if t1 = 0 then
  (M_of h p1 2).bind fun t2 =>
  if 10 ≤ t2 then
  (M_passedBy h p1 p2).bind fun t3 =>
  if t3 = (-1) then
  some 3
  else
  some 0
  else
  some 2
  else
  some 1
def M_looksTogether_L11 (h : Hp) (c1 : Int32) (c3 : Int32) : Nat → Int32 → Int32 → Option (Int32)
  | 0, _, _ => none
  | n + 1, v2, v4 =>
    (rdO 106 (rd h 141) 2).bind fun t2 =>
    if t2 ≤ v4 then
    some v2
    else
    if ((c3 >>> (v4 &&& 31)) &&& 1) = 1 then
    (M_looks h v4 c1).bind fun t3 =>
    M_looksTogether_L11 h c1 c3 n (v2 + t3) (v4 + 1)
    else
    M_looksTogether_L11 h c1 c3 n (v2 + 0) (v4 + 1)
def M_looksTogether (h : Hp) (p1 : Int32) : Option (Int32) :=
  (M_sleepersIn h p1).bind fun t1 =>
  (M_looksTogether_L11 h p1 t1 FU 0 0).bind fun r4 =>
  some r4
def M_adds (h : Hp) (p1 : Int32) : Option (Int32 × Hp) :=
  (rdO 106 (rd h 141) 2).bind fun t1 =>
  (rdO 106 (rd h 141) 2).bind fun t2 =>
  (wrO h 141 106 2 (t2 + 1)).bind fun h3 =>
  (M_to h3 t1 0 p1).bind fun h5 =>
  (M_to h5 t1 1 0).bind fun h7 =>
  (M_to h7 t1 2 40).bind fun h9 =>
  (M_to h9 t1 3 (-1)).bind fun h11 =>
  some (t1, h11)
def M_hangs_L29 (c1 : Int32) (c2 : Int32) : Nat → Int32 → Hp → Option (Hp)
  | 0, _, _ => none
  | n + 1, v3, h =>
    if c1 ≤ v3 then
    some h
    else
    (M_setBed h c2 v3 (-1)).bind fun h6 =>
    M_hangs_L29 c1 c2 n (v3 + 1) h6
def M_hangs (h : Hp) (p1 : Int32) : Option (Int32 × Hp) :=
  (rdO 106 (rd h 141) 3).bind fun t1 =>
  (rdO 106 (rd h 141) 3).bind fun t2 =>
  (wrO h 141 106 3 (t2 + 1)).bind fun h3 =>
  (wrO h3 141 106 (56 + t1) p1).bind fun h4 =>
  (M_hangs_L29 p1 t1 FU 0 h4).bind fun r7 =>
  some (t1, r7)
def M_opens (h : Hp) (p1 : Int32) : Option (Int32 × Hp) :=
  (rdO 106 (rd h 141) 4).bind fun t1 =>
  (wrO h 141 106 ((96 + (2 * t1)) + 0) p1).bind fun h2 =>
  (wrO h2 141 106 ((96 + (2 * t1)) + 1) p1).bind fun h3 =>
  (rdO 106 (rd h3 141) 4).bind fun t4 =>
  (wrO h3 141 106 4 (t4 + 1)).bind fun h5 =>
  (rdO 106 (rd h5 141) 4).bind fun t6 =>
  some ((t6 - 1), h5)
def M_liesDown (h : Hp) (p1 : Int32) (p2 : Int32) : Option (Int32 × Hp) :=
  (M_passedBy h p1 p2).bind fun t1 =>
  (M_onWay h p1 p2 t1).bind fun t2 =>
  (M_setBed h p2 t2 p1).bind fun h4 =>
  (M_to h4 p1 1 1).bind fun h6 =>
  some (t2, h6)
def M_leaves (h : Hp) (p1 : Int32) (p2 : Int32) : Option (Int32 × Hp) :=
  (M_reelWith h p1).bind fun t1 =>
  lt (α := Hp → Option (Int32 × Hp)) (fun (h_24 : Hp) =>
  (M_to h_24 p1 1 p2).bind fun h3 =>
  some (t1, h3)) fun j24 =>
  if t1 = (-1) then
  j24 h
  else
  (M_bedWith h p1 t1).bind fun t4 =>
  (M_setBed h t1 t4 (-2)).bind fun h6 =>
  j24 h6
def M_cuts_L19 (c1 : Int32) (c2 : Int32) (c4 : Int32) : Nat → Int32 → Int32 → Hp → Option (Int32 × Hp)
  | 0, _, _, _ => none
  | n + 1, v3, v5, h =>
    (M_beds h c4).bind fun t2 =>
    if t2 ≤ v5 then
    some (v3, h)
    else
    (M_inBed h c4 v5).bind fun t3 =>
    if t3 < 0 then
    M_cuts_L19 c1 c2 c4 n v3 (v5 + 1) h
    else
    (M_scene h c1 1).bind fun t4 =>
    if t4 ≤ 0 then
    M_cuts_L19 c1 c2 c4 n v3 (v5 + 1) h
    else
    (M_matchOf h t3 c2).bind fun t5 =>
    if t5 = (-1) then
    M_cuts_L19 c1 c2 c4 n v3 (v5 + 1) h
    else
    (M_leaves h t3 0).bind fun (t6, h7) =>
    (M_to h7 t3 3 c1).bind fun h9 =>
    (rdO 106 (rd h9 141) ((96 + (2 * c1)) + 1)).bind fun t10 =>
    (wrO h9 141 106 ((96 + (2 * c1)) + 1) (t10 - 1)).bind fun h11 =>
    (rdO 106 (rd h11 141) 7).bind fun t12 =>
    (wrO h11 141 106 7 (t12 + 1)).bind fun h13 =>
    M_cuts_L19 c1 c2 c4 n (v3 ||| (1 <<< (t3 &&& 31))) (v5 + 1) h13
def M_cuts_L5 (c1 : Int32) (c2 : Int32) : Nat → Int32 → Int32 → Hp → Option (Int32 × Hp)
  | 0, _, _, _ => none
  | n + 1, v3, v4, h =>
    (rdO 106 (rd h 141) 3).bind fun t1 =>
    if t1 ≤ v4 then
    some (v3, h)
    else
    (M_cuts_L19 c1 c2 v4 FU v3 0 h).bind fun r14 => match r14 with
    | (x3_15, h16) =>
    M_cuts_L5 c1 c2 n x3_15 (v4 + 1) h16
def M_cuts (h : Hp) (p1 : Int32) (p2 : Int32) : Option (Int32 × Hp) :=
  (M_cuts_L5 p1 p2 FU 0 0 h).bind fun r17 => match r17 with
  | (x3_18, h19) =>
  some (x3_18, h19)
def M_airs_L11 (c1 : Int32) : Nat → Int32 → Int32 → Hp → Option (Int32 × Hp)
  | 0, _, _, _ => none
  | n + 1, v3, v4, h =>
    (M_beds h c1).bind fun t2 =>
    if t2 ≤ v4 then
    some (v3, h)
    else
    (M_inBed h c1 v4).bind fun t3 =>
    lt (α := Bool → Option (Int32 × Hp)) (fun (z0_39 : Bool) =>
    (M_setBed h c1 v4 (-1)).bind fun h5 =>
    M_airs_L11 c1 n (v3 + (b2i z0_39)) (v4 + 1) h5) fun j39 =>
    if t3 = (-2) then
    j39 true
    else
    j39 false
def M_airs_L58 (c1 : Int32) (c2 : Int32) : Nat → Int32 → Hp → Option (Hp)
  | 0, _, _ => none
  | n + 1, v4, h =>
    (rdO 106 (rd h 141) 2).bind fun t9 =>
    if t9 ≤ v4 then
    some h
    else
    if ((c2 >>> (v4 &&& 31)) &&& 1) = 1 then
    (M_liesDown h v4 c1).bind fun (t10, h11) =>
    M_airs_L58 c1 c2 n (v4 + 1) h11
    else
    M_airs_L58 c1 c2 n (v4 + 1) h
def M_airs (h : Hp) (p1 : Int32) : Option (Int32 × Hp) :=
  (M_sleepersIn h p1).bind fun t1 =>
  (M_airs_L11 p1 FU 0 0 h).bind fun r6 => match r6 with
  | (x3_7, h8) =>
  (M_airs_L58 p1 t1 FU 0 h8).bind fun r12 =>
  some (x3_7, r12)
def M_canFeed (h : Hp) (p1 : Int32) (p2 : Int32) : Option (Bool) :=
  (M_of h p1 1).bind fun t1 =>
  if t1 = 0 then
  (rdO 106 (rd h 141) 1).bind fun t2 =>
  if t2 < p2 then
  some false
  else
  (M_of h p1 2).bind fun t3 =>
  if 99 < (t3 + p2) then
  some false
  else
  some true
  else
  some false
def M_feeds (h : Hp) (p1 : Int32) (p2 : Int32) : Option (Int32 × Hp) :=
  (M_of h p1 2).bind fun t1 =>
  (M_to h p1 2 (t1 + p2)).bind fun h3 =>
  (rdO 106 (rd h3 141) 1).bind fun t4 =>
  (wrO h3 141 106 1 (t4 - p2)).bind fun h5 =>
  (rdO 106 (rd h5 141) 6).bind fun t6 =>
  (wrO h5 141 106 6 (t6 + p2)).bind fun h7 =>
  (M_of h7 p1 2).bind fun t8 =>
  some (t8, h7)
def M_paints_L6 (h : Hp) (c1 : Int32) (c2 : Int32) (c3 : Int32) : Nat → Int32 → Int32 → Option (Int32)
  | 0, _, _ => none
  | n + 1, v4, v5 =>
    (M_of h c1 0).bind fun t1 =>
    (M_digits t1).bind fun t2 =>
    if t2 ≤ v5 then
    some v4
    else
    if v5 = c2 then
    M_paints_L6 h c1 c2 c3 n ((10 * v4) + c3) (v5 + 1)
    else
    (M_of h c1 0).bind fun t3 =>
    (M_digit t3 v5).bind fun t4 =>
    M_paints_L6 h c1 c2 c3 n ((10 * v4) + t4) (v5 + 1)
def M_paints (h : Hp) (p1 : Int32) (p2 : Int32) (p3 : Int32) : Option (Int32 × Hp) :=
  (M_paints_L6 h p1 p2 p3 FU 0 0).bind fun r5 =>
  (M_to h p1 0 r5).bind fun h7 =>
  (M_hashOf h7 p1).bind fun t8 =>
  some (t8, h7)
def M_burns (h : Hp) (p1 : Int32) : Option (Bool × Hp) :=
  (M_of h p1 1).bind fun t1 =>
  if t1 = 2 then
  some (false, h)
  else
  (M_of h p1 2).bind fun t2 =>
  (M_of h p1 1).bind fun t3 =>
  lt (α := Int32 → Option (Bool × Hp)) (fun (z0_33 : Int32) =>
  (M_of h p1 2).bind fun t4 =>
  (M_to h p1 2 (t4 - (mnI t2 z0_33))).bind fun h6 =>
  (rdO 106 (rd h6 141) 5).bind fun t7 =>
  (wrO h6 141 106 5 (t7 + (mnI t2 z0_33))).bind fun h8 =>
  (M_of h8 p1 2).bind fun t9 =>
  lt (α := Hp → Option (Bool × Hp)) (fun (h_77 : Hp) =>
  (M_of h_77 p1 2).bind fun t10 =>
  if t10 = 0 then
  some (true, h_77)
  else
  some (false, h_77)) fun j77 =>
  if t9 = 0 then
  (M_leaves h8 p1 2).bind fun (t11, h12) =>
  j77 h12
  else
  j77 h8) fun j33 =>
  if t3 = 1 then
  j33 1
  else
  j33 4
def M_passes_L22 : Nat → Int32 → Int32 → Hp → Option (Int32 × Hp)
  | 0, _, _, _ => none
  | n + 1, v2, v4, h =>
    (rdO 106 (rd h 141) 2).bind fun t3 =>
    if t3 ≤ v4 then
    some (v2, h)
    else
    (M_burns h v4).bind fun (t4, h5) =>
    if (b2i t4) = 0 then
    M_passes_L22 n (v2 + 0) (v4 + 1) h5
    else
    M_passes_L22 n (v2 + 1) (v4 + 1) h5
def M_passes_L59 : Nat → Int32 → Hp → Option (Hp)
  | 0, _, _ => none
  | n + 1, v4, h =>
    (rdO 106 (rd h 141) 4).bind fun t9 =>
    if t9 ≤ v4 then
    some h
    else
    (rdO 106 (rd h 141) ((96 + (2 * v4)) + 0)).bind fun t10 =>
    (rdO 106 (rd h 141) ((96 + (2 * v4)) + 1)).bind fun t11 =>
    (wrO h 141 106 ((96 + (2 * v4)) + 1) (mnI t10 (t11 + 1))).bind fun h12 =>
    M_passes_L59 n (v4 + 1) h12
def M_passes_L4 (c1 : Int32) : Nat → Int32 → Int32 → Hp → Option (Int32 × Hp)
  | 0, _, _, _ => none
  | n + 1, v2, v3, h =>
    if c1 ≤ v3 then
    some (v2, h)
    else
    (rdO 106 (rd h 141) 0).bind fun t1 =>
    (wrO h 141 106 0 (t1 + 1)).bind fun h2 =>
    (M_passes_L22 FU v2 0 h2).bind fun r6 => match r6 with
    | (x2_7, h8) =>
    (M_passes_L59 FU 0 h8).bind fun r13 =>
    M_passes_L4 c1 n x2_7 (v3 + 1) r13
def M_passes (h : Hp) (p1 : Int32) : Option (Int32 × Hp) :=
  (M_passes_L4 p1 FU 0 0 h).bind fun r14 => match r14 with
  | (x2_15, h16) =>
  some (x2_15, h16)
def M_setAside_L2 : Nat → Int32 → Hp → Option (Hp)
  | 0, _, _ => none
  | n + 1, v1, h =>
    if 106 ≤ v1 then
    some h
    else
    (rdO 106 (rd h 141) v1).bind fun t1 =>
    (wrO h 143 106 v1 t1).bind fun h2 =>
    M_setAside_L2 n (v1 + 1) h2
def M_setAside (h : Hp) : Option (Hp) :=
  (M_setAside_L2 FU 0 h).bind fun r3 =>
  some r3
def M_bringBack_L2 : Nat → Int32 → Hp → Option (Hp)
  | 0, _, _ => none
  | n + 1, v1, h =>
    if 106 ≤ v1 then
    some h
    else
    (rdO 106 (rd h 143) v1).bind fun t1 =>
    (wrO h 141 106 v1 t1).bind fun h2 =>
    M_bringBack_L2 n (v1 + 1) h2
def M_bringBack (h : Hp) : Option (Hp) :=
  (M_bringBack_L2 FU 0 h).bind fun r3 =>
  some r3
def M_tell_L2 (c1 : Int32) : Nat → Int32 → Hp → Option (Hp)
  | 0, _, _ => none
  | n + 1, v2, h =>
    (slO c1).bind fun t1 =>
    if t1 ≤ v2 then
    some h
    else
    (scO c1 v2).bind fun t2 =>
    (wrO h 147 600 (rd h 140 10) t2).bind fun h3 =>
    nm (up2 h3 140 10 ((rd h3 140 10) + 1)) fun h4 =>
    M_tell_L2 c1 n (v2 + 1) h4
def M_tell (h : Hp) (p1 : Int32) : Option (Hp) :=
  (M_tell_L2 p1 FU 0 h).bind fun r5 =>
  some r5
def M_sortOf (p1 : Int32) : Option (Int32) :=
  if p1 = 59 then
  some 1
  else
  lt (α := Unit → Option (Int32)) (fun (u_26 : Unit) =>
  lt (α := Unit → Option (Int32)) (fun (u_42 : Unit) =>
  if p1 = 40 then
  some 4
  else
  if p1 = 41 then
  some 5
  else
  some 6) fun j42 =>
  if p1 < 48 then
  j42 ()
  else
  if 57 < p1 then
  j42 ()
  else
  some 3) fun j26 =>
  if p1 < 97 then
  j26 ()
  else
  if 122 < p1 then
  j26 ()
  else
  some 2
def M_next_L8 : Nat → Hp → Option (Hp)
  | 0, _ => none
  | n + 1, h =>
    if (rd h 140 10) ≤ (rd h 140 17) then
    some h
    else
    (rdO 600 (rd h 147) (rd h 140 17)).bind fun t2 =>
    lt (α := Unit → Option (Hp)) (fun (u_47 : Unit) =>
    nm (up2 h 140 17 ((rd h 140 17) + 1)) fun h3 =>
    M_next_L8 n h3) fun j47 =>
    if t2 = 32 then
    j47 ()
    else
    (rdO 600 (rd h 147) (rd h 140 17)).bind fun t4 =>
    if t4 = 10 then
    j47 ()
    else
    some h
def M_next_L111 : Nat → Hp → Option (Hp)
  | 0, _ => none
  | n + 1, h =>
    lt (α := Unit → Option (Hp)) (fun (u_127 : Unit) =>
    if (rd h 140 10) ≤ (rd h 140 18) then
    some h
    else
    (rdO 600 (rd h 147) (rd h 140 18)).bind fun t12 =>
    (M_sortOf t12).bind fun t13 =>
    if t13 = (rd h 140 16) then
    nm (up2 h 140 18 ((rd h 140 18) + 1)) fun h14 =>
    M_next_L111 n h14
    else
    some h) fun j127 =>
    if (rd h 140 16) = 2 then
    j127 ()
    else
    if (rd h 140 16) = 3 then
    j127 ()
    else
    some h
def M_next_L208 : Nat → Int32 → Hp → Option (Hp)
  | 0, _, _ => none
  | n + 1, v1, h =>
    if (rd h 140 18) ≤ v1 then
    some h
    else
    if (rd h 140 16) = 3 then
    (rdO 600 (rd h 147) v1).bind fun t17 =>
    nm (up2 h 140 19 (((10 * (rd h 140 19)) + t17) - 48)) fun h18 =>
    M_next_L208 n (v1 + 1) h18
    else
    some h
def M_next (h : Hp) : Option (Hp) :=
  nm (up2 h 140 17 (rd h 140 18)) fun h1 =>
  (M_next_L8 FU h1).bind fun r5 =>
  nm (up2 r5 140 18 (rd r5 140 17)) fun h6 =>
  if (rd h6 140 17) = (rd h6 140 10) then
  nm (up2 h6 140 16 0) fun h7 =>
  some h7
  else
  (rdO 600 (rd h6 147) (rd h6 140 17)).bind fun t8 =>
  (M_sortOf t8).bind fun t9 =>
  nm (up2 h6 140 16 t9) fun h10 =>
  nm (up2 h10 140 18 ((rd h10 140 18) + 1)) fun h11 =>
  (M_next_L111 FU h11).bind fun r15 =>
  lt (α := Hp → Option (Hp)) (fun (h_198 : Hp) =>
  nm (up2 h_198 140 19 0) fun h16 =>
  (M_next_L208 FU (rd h16 140 17) h16).bind fun r19 =>
  some r19) fun j198 =>
  if (rd r15 140 16) = 3 then
  if ((rd r15 140 18) - (rd r15 140 17)) ≤ 8 then
  j198 r15
  else
  nm (up2 r15 140 16 6) fun h20 =>
  j198 h20
  else
  j198 r15
def M_says_L28 (h : Hp) (c1 : Int32) : Nat → Int32 → Option ((Unit) ⊕ (Bool))
  | 0, _ => none
  | n + 1, v2 =>
    (slO c1).bind fun t2 =>
    if t2 ≤ v2 then
    some (.inl ())
    else
    (rdO 600 (rd h 147) ((rd h 140 17) + v2)).bind fun t3 =>
    (scO c1 v2).bind fun t4 =>
    if t3 = t4 then
    M_says_L28 h c1 n (v2 + 1)
    else
    some (.inr false)
def M_says (h : Hp) (p1 : Int32) : Option (Bool) :=
  if (rd h 140 16) = 2 then
  (slO p1).bind fun t1 =>
  if ((rd h 140 18) - (rd h 140 17)) = t1 then
  (M_says_L28 h p1 FU 0).bind fun r5 => match r5 with
  | .inr y => some y
  | .inl () =>
  some true
  else
  some false
  else
  some false
def M_fail (h : Hp) (p1 : Int32) : Option (Bool × Hp) :=
  if (rd h 140 11) = 0 then
  nm (up2 h 140 11 p1) fun h1 =>
  nm (up2 h1 140 12 (rd h1 140 17)) fun h2 =>
  some (false, h2)
  else
  some (false, h)
def M_is (h : Hp) (p1 : Int32) : Option (Bool × Hp) :=
  if (rd h 140 16) = p1 then
  some (true, h)
  else
  (M_fail h 1).bind fun (t1, h2) =>
  if (b2i t1) = 0 then
  some (false, h2)
  else
  some (true, h2)
def M_number (h : Hp) (p1 : Int32) (p2 : Int32) (p3 : Int32) : Option (Bool × Hp) :=
  (M_is h 3).bind fun (t1, h2) =>
  if (b2i t1) = 0 then
  some (false, h2)
  else
  (M_in (rd h2 140 19) p2 p3).bind fun t3 =>
  if (b2i t3) = 0 then
  (M_fail h2 2).bind fun (t4, h5) =>
  some (t4, h5)
  else
  (wrO h2 149 3 p1 (rd h2 140 19)).bind fun h6 =>
  (M_next h6).bind fun h8 =>
  some (true, h8)
def M_clipAt (h : Hp) (p1 : Int32) : Option (Bool × Hp) :=
  (rdO 106 (rd h 141) 2).bind fun t1 =>
  (M_number h p1 0 (t1 - 1)).bind fun (t2, h3) =>
  some (t2, h3)
def M_stops (h : Hp) (p1 : Bool) : Option (Bool × Hp) :=
  (M_is h 1).bind fun (t1, h2) =>
  if (b2i t1) = 0 then
  some (false, h2)
  else
  if (b2i p1) = 0 then
  (M_fail h2 3).bind fun (t3, h4) =>
  if (b2i t3) = 0 then
  some (false, h4)
  else
  some (true, h4)
  else
  some (true, h2)
def M_readsClip (h : Hp) : Option (Bool × Hp) :=
  lt (α := Unit → Option (Bool × Hp)) (fun (u_24 : Unit) =>
  (M_number h 0 1 99999999).bind fun (t1, h2) =>
  if (b2i t1) = 0 then
  some (false, h2)
  else
  (rdO 106 (rd h2 141) 2).bind fun t3 =>
  lt (α := Bool → Option (Bool × Hp)) (fun (z0_52 : Bool) =>
  (M_stops h2 z0_52).bind fun (t4, h5) =>
  if (b2i t4) = 0 then
  some (false, h5)
  else
  (rdO 3 (rd h5 149) 0).bind fun t6 =>
  (M_adds h5 t6).bind fun (t7, h8) =>
  some (true, h8)) fun j52 =>
  if 12 ≤ t3 then
  j52 false
  else
  j52 true) fun j24 =>
  if (rd h 140 16) = 3 then
  (M_areColours (rd h 140 19)).bind fun t9 =>
  if (b2i t9) = 0 then
  (M_fail h 2).bind fun (t10, h11) =>
  some (t10, h11)
  else
  j24 ()
  else
  j24 ()
def M_readsReel (h : Hp) : Option (Bool × Hp) :=
  (M_number h 0 1 9).bind fun (t1, h2) =>
  if (b2i t1) = 0 then
  some (false, h2)
  else
  (rdO 106 (rd h2 141) 3).bind fun t3 =>
  lt (α := Bool → Option (Bool × Hp)) (fun (z0_27 : Bool) =>
  (M_stops h2 z0_27).bind fun (t4, h5) =>
  if (b2i t4) = 0 then
  some (false, h5)
  else
  (rdO 3 (rd h5 149) 0).bind fun t6 =>
  (M_hangs h5 t6).bind fun (t7, h8) =>
  some (true, h8)) fun j27 =>
  if 4 ≤ t3 then
  j27 false
  else
  j27 true
def M_readsScene (h : Hp) : Option (Bool × Hp) :=
  (M_number h 0 1 9).bind fun (t1, h2) =>
  if (b2i t1) = 0 then
  some (false, h2)
  else
  (rdO 106 (rd h2 141) 4).bind fun t3 =>
  lt (α := Bool → Option (Bool × Hp)) (fun (z0_27 : Bool) =>
  (M_stops h2 z0_27).bind fun (t4, h5) =>
  if (b2i t4) = 0 then
  some (false, h5)
  else
  (rdO 3 (rd h5 149) 0).bind fun t6 =>
  (M_opens h5 t6).bind fun (t7, h8) =>
  some (true, h8)) fun j27 =>
  if 5 ≤ t3 then
  j27 false
  else
  j27 true
def M_readsSleep (h : Hp) : Option (Bool × Hp) :=
  (M_clipAt h 0).bind fun (t1, h2) =>
  if (b2i t1) = 0 then
  some (false, h2)
  else
  (rdO 106 (rd h2 141) 3).bind fun t3 =>
  (M_number h2 1 0 (t3 - 1)).bind fun (t4, h5) =>
  if (b2i t4) = 0 then
  some (false, h5)
  else
  (rdO 3 (rd h5 149) 0).bind fun t6 =>
  (rdO 3 (rd h5 149) 1).bind fun t7 =>
  (M_whyStaysUp h5 t6 t7).bind fun t8 =>
  lt (α := Bool → Option (Bool × Hp)) (fun (z0_50 : Bool) =>
  (M_stops h5 z0_50).bind fun (t9, h10) =>
  if (b2i t9) = 0 then
  some (false, h10)
  else
  (rdO 3 (rd h10 149) 0).bind fun t11 =>
  (rdO 3 (rd h10 149) 1).bind fun t12 =>
  (M_liesDown h10 t11 t12).bind fun (t13, h14) =>
  some (true, h14)) fun j50 =>
  if t8 = 0 then
  j50 true
  else
  j50 false
def M_readsWake (h : Hp) : Option (Bool × Hp) :=
  (M_clipAt h 0).bind fun (t1, h2) =>
  if (b2i t1) = 0 then
  some (false, h2)
  else
  (rdO 3 (rd h2 149) 0).bind fun t3 =>
  (M_of h2 t3 1).bind fun t4 =>
  lt (α := Bool → Option (Bool × Hp)) (fun (z0_29 : Bool) =>
  (M_stops h2 z0_29).bind fun (t5, h6) =>
  if (b2i t5) = 0 then
  some (false, h6)
  else
  (rdO 3 (rd h6 149) 0).bind fun t7 =>
  (M_leaves h6 t7 0).bind fun (t8, h9) =>
  some (true, h9)) fun j29 =>
  if t4 = 1 then
  j29 true
  else
  j29 false
def M_readsCut (h : Hp) : Option (Bool × Hp) :=
  (rdO 106 (rd h 141) 4).bind fun t1 =>
  (M_number h 0 0 (t1 - 1)).bind fun (t2, h3) =>
  if (b2i t2) = 0 then
  some (false, h3)
  else
  (M_number h3 1 1 9999).bind fun (t4, h5) =>
  if (b2i t4) = 0 then
  some (false, h5)
  else
  (M_stops h5 true).bind fun (t6, h7) =>
  if (b2i t6) = 0 then
  some (false, h7)
  else
  (rdO 3 (rd h7 149) 0).bind fun t8 =>
  (rdO 3 (rd h7 149) 1).bind fun t9 =>
  (M_cuts h7 t8 t9).bind fun (t10, h11) =>
  some (true, h11)
def M_readsAir (h : Hp) : Option (Bool × Hp) :=
  (rdO 106 (rd h 141) 3).bind fun t1 =>
  (M_number h 0 0 (t1 - 1)).bind fun (t2, h3) =>
  if (b2i t2) = 0 then
  some (false, h3)
  else
  (M_stops h3 true).bind fun (t4, h5) =>
  if (b2i t4) = 0 then
  some (false, h5)
  else
  (rdO 3 (rd h5 149) 0).bind fun t6 =>
  (M_airs h5 t6).bind fun (t7, h8) =>
  some (true, h8)
def M_readsFeed (h : Hp) : Option (Bool × Hp) :=
  (M_clipAt h 0).bind fun (t1, h2) =>
  if (b2i t1) = 0 then
  some (false, h2)
  else
  (M_number h2 1 1 50).bind fun (t3, h4) =>
  if (b2i t3) = 0 then
  some (false, h4)
  else
  (rdO 3 (rd h4 149) 0).bind fun t5 =>
  (rdO 3 (rd h4 149) 1).bind fun t6 =>
  (M_canFeed h4 t5 t6).bind fun t7 =>
  (M_stops h4 t7).bind fun (t8, h9) =>
  if (b2i t8) = 0 then
  some (false, h9)
  else
  (rdO 3 (rd h9 149) 0).bind fun t10 =>
  (rdO 3 (rd h9 149) 1).bind fun t11 =>
  (M_feeds h9 t10 t11).bind fun (t12, h13) =>
  some (true, h13)
def M_readsFood (h : Hp) : Option (Bool × Hp) :=
  (M_number h 0 1 999).bind fun (t1, h2) =>
  if (b2i t1) = 0 then
  some (false, h2)
  else
  (rdO 106 (rd h2 141) 1).bind fun t3 =>
  (rdO 3 (rd h2 149) 0).bind fun t4 =>
  lt (α := Bool → Option (Bool × Hp)) (fun (z0_37 : Bool) =>
  (M_stops h2 z0_37).bind fun (t5, h6) =>
  if (b2i t5) = 0 then
  some (false, h6)
  else
  (rdO 106 (rd h6 141) 1).bind fun t7 =>
  (rdO 3 (rd h6 149) 0).bind fun t8 =>
  (wrO h6 141 106 1 (t7 + t8)).bind fun h9 =>
  some (true, h9)) fun j37 =>
  if 9999 < (t3 + t4) then
  j37 false
  else
  j37 true
def M_readsPaint (h : Hp) : Option (Bool × Hp) :=
  (M_clipAt h 0).bind fun (t1, h2) =>
  if (b2i t1) = 0 then
  some (false, h2)
  else
  (rdO 3 (rd h2 149) 0).bind fun t3 =>
  (M_of h2 t3 0).bind fun t4 =>
  (M_digits t4).bind fun t5 =>
  (M_number h2 1 0 (t5 - 1)).bind fun (t6, h7) =>
  if (b2i t6) = 0 then
  some (false, h7)
  else
  (M_number h7 2 1 9).bind fun (t8, h9) =>
  if (b2i t8) = 0 then
  some (false, h9)
  else
  (rdO 3 (rd h9 149) 0).bind fun t10 =>
  (M_of h9 t10 1).bind fun t11 =>
  lt (α := Bool → Option (Bool × Hp)) (fun (z0_64 : Bool) =>
  (M_stops h9 z0_64).bind fun (t12, h13) =>
  if (b2i t12) = 0 then
  some (false, h13)
  else
  (rdO 3 (rd h13 149) 0).bind fun t14 =>
  (rdO 3 (rd h13 149) 1).bind fun t15 =>
  (rdO 3 (rd h13 149) 2).bind fun t16 =>
  (M_paints h13 t14 t15 t16).bind fun (t17, h18) =>
  some (true, h18)) fun j64 =>
  if t11 = 0 then
  j64 true
  else
  j64 false
def M_readsWeeks (h : Hp) : Option (Bool × Hp) :=
  (M_number h 0 1 50).bind fun (t1, h2) =>
  if (b2i t1) = 0 then
  some (false, h2)
  else
  (rdO 106 (rd h2 141) 0).bind fun t3 =>
  (rdO 3 (rd h2 149) 0).bind fun t4 =>
  lt (α := Bool → Option (Bool × Hp)) (fun (z0_36 : Bool) =>
  (M_stops h2 z0_36).bind fun (t5, h6) =>
  if (b2i t5) = 0 then
  some (false, h6)
  else
  (rdO 3 (rd h6 149) 0).bind fun t7 =>
  (M_passes h6 t7).bind fun (t8, h9) =>
  some (true, h9)) fun j36 =>
  if 999 < (t3 + t4) then
  j36 false
  else
  j36 true
def M_laterWord (h : Hp) : Option (Int32) :=
  (M_says h 106).bind fun t1 =>
  if (b2i t1) = 0 then
  (M_says h 107).bind fun t2 =>
  if (b2i t2) = 0 then
  (M_says h 108).bind fun t3 =>
  if (b2i t3) = 0 then
  (M_says h 109).bind fun t4 =>
  if (b2i t4) = 0 then
  (M_says h 110).bind fun t5 =>
  if (b2i t5) = 0 then
  (M_says h 111).bind fun t6 =>
  if (b2i t6) = 0 then
  some (-1)
  else
  some 11
  else
  some 10
  else
  some 9
  else
  some 8
  else
  some 7
  else
  some 6
def M_wordAhead (h : Hp) : Option (Int32) :=
  (M_says h 100).bind fun t1 =>
  if (b2i t1) = 0 then
  (M_says h 101).bind fun t2 =>
  if (b2i t2) = 0 then
  (M_says h 102).bind fun t3 =>
  if (b2i t3) = 0 then
  (M_says h 103).bind fun t4 =>
  if (b2i t4) = 0 then
  (M_says h 104).bind fun t5 =>
  if (b2i t5) = 0 then
  (M_says h 105).bind fun t6 =>
  if (b2i t6) = 0 then
  (M_laterWord h).bind fun t7 =>
  some t7
  else
  some 5
  else
  some 4
  else
  some 3
  else
  some 2
  else
  some 1
  else
  some 0
def M_readsWord (h : Hp) (p1 : Int32) : Option (Bool × Hp) :=
  if p1 = 0 then
  (M_readsClip h).bind fun (t21, h22) =>
  some (t21, h22)
  else
  if p1 = 1 then
  (M_readsReel h).bind fun (t19, h20) =>
  some (t19, h20)
  else
  if p1 = 2 then
  (M_readsScene h).bind fun (t17, h18) =>
  some (t17, h18)
  else
  if p1 = 3 then
  (M_readsSleep h).bind fun (t15, h16) =>
  some (t15, h16)
  else
  if p1 = 4 then
  (M_readsWake h).bind fun (t13, h14) =>
  some (t13, h14)
  else
  if p1 = 5 then
  (M_readsCut h).bind fun (t11, h12) =>
  some (t11, h12)
  else
  if p1 = 6 then
  (M_readsAir h).bind fun (t9, h10) =>
  some (t9, h10)
  else
  if p1 = 7 then
  (M_readsFeed h).bind fun (t7, h8) =>
  some (t7, h8)
  else
  if p1 = 8 then
  (M_readsFood h).bind fun (t5, h6) =>
  some (t5, h6)
  else
  if p1 = 9 then
  (M_readsPaint h).bind fun (t3, h4) =>
  some (t3, h4)
  else
  (M_readsWeeks h).bind fun (t1, h2) =>
  some (t1, h2)
def M_readsCommand_0 (h : Hp) (p1 : Int32) : Option (Bool × Hp) :=
  (M_wordAhead h).bind fun t1 =>
  if t1 = (-1) then
  (M_fail h 1).bind fun (t2, h3) =>
  some (t2, h3)
  else
  if t1 = 11 then
  if p1 = 2 then
  (M_fail h 4).bind fun (t4, h5) =>
  some (t4, h5)
  else
  (M_next h).bind fun h7 =>
  none
  else
  if (rd h 140 20) = 200 then
  (M_fail h 5).bind fun (t8, h9) =>
  some (t8, h9)
  else
  nm (up2 h 140 20 ((rd h 140 20) + 1)) fun h10 =>
  (M_next h10).bind fun h12 =>
  (M_readsWord h12 t1).bind fun (t13, h14) =>
  some (t13, h14)
def M_readsRepeat_1_L51 (c1 : Int32) : Nat → Hp → Option ((Hp) ⊕ (Bool × Hp))
  | 0, _ => none
  | n + 1, h =>
    if (rd h 140 16) = 5 then
    some (.inl h)
    else
    (M_readsCommand_0 h (c1 + 1)).bind fun (t9, h10) =>
    if (b2i t9) = 0 then
    some (.inr (false, h10))
    else
    (M_next h10).bind fun h12 =>
    M_readsRepeat_1_L51 c1 n h12
def M_readsRepeat_1_L36 (c1 : Int32) (c2 : Int32) (c3 : Int32) : Nat → Int32 → Hp → Option ((Hp) ⊕ (Bool × Hp))
  | 0, _, _ => none
  | n + 1, v4, h =>
    if c2 ≤ v4 then
    some (.inl h)
    else
    nm (up2 h 140 18 c3) fun h6 =>
    (M_next h6).bind fun h8 =>
    (M_readsRepeat_1_L51 c1 FU h8).bind fun r13 => match r13 with
    | .inr y => some (.inr y)
    | .inl h14 =>
    M_readsRepeat_1_L36 c1 c2 c3 n (v4 + 1) h14
def M_readsRepeat_1 (h : Hp) (p1 : Int32) : Option (Bool × Hp) :=
  (M_number h 0 1 20).bind fun (t1, h2) =>
  if (b2i t1) = 0 then
  some (false, h2)
  else
  (M_is h2 4).bind fun (t3, h4) =>
  if (b2i t3) = 0 then
  some (false, h4)
  else
  (rdO 3 (rd h4 149) 0).bind fun t5 =>
  (M_readsRepeat_1_L36 p1 t5 (rd h4 140 18) FU 0 h4).bind fun r15 => match r15 with
  | .inr y => some y
  | .inl h16 =>
  (M_next h16).bind fun h18 =>
  (M_is h18 1).bind fun (t19, h20) =>
  some (t19, h20)
def M_readsCommand_1 (h : Hp) (p1 : Int32) : Option (Bool × Hp) :=
  (M_wordAhead h).bind fun t1 =>
  if t1 = (-1) then
  (M_fail h 1).bind fun (t2, h3) =>
  some (t2, h3)
  else
  if t1 = 11 then
  if p1 = 2 then
  (M_fail h 4).bind fun (t4, h5) =>
  some (t4, h5)
  else
  (M_next h).bind fun h7 =>
  (M_readsRepeat_1 h7 p1).bind fun (t8, h9) =>
  some (t8, h9)
  else
  if (rd h 140 20) = 200 then
  (M_fail h 5).bind fun (t10, h11) =>
  some (t10, h11)
  else
  nm (up2 h 140 20 ((rd h 140 20) + 1)) fun h12 =>
  (M_next h12).bind fun h14 =>
  (M_readsWord h14 t1).bind fun (t15, h16) =>
  some (t15, h16)
def M_readsRepeat_2_L51 (c1 : Int32) : Nat → Hp → Option ((Hp) ⊕ (Bool × Hp))
  | 0, _ => none
  | n + 1, h =>
    if (rd h 140 16) = 5 then
    some (.inl h)
    else
    (M_readsCommand_1 h (c1 + 1)).bind fun (t9, h10) =>
    if (b2i t9) = 0 then
    some (.inr (false, h10))
    else
    (M_next h10).bind fun h12 =>
    M_readsRepeat_2_L51 c1 n h12
def M_readsRepeat_2_L36 (c1 : Int32) (c2 : Int32) (c3 : Int32) : Nat → Int32 → Hp → Option ((Hp) ⊕ (Bool × Hp))
  | 0, _, _ => none
  | n + 1, v4, h =>
    if c2 ≤ v4 then
    some (.inl h)
    else
    nm (up2 h 140 18 c3) fun h6 =>
    (M_next h6).bind fun h8 =>
    (M_readsRepeat_2_L51 c1 FU h8).bind fun r13 => match r13 with
    | .inr y => some (.inr y)
    | .inl h14 =>
    M_readsRepeat_2_L36 c1 c2 c3 n (v4 + 1) h14
def M_readsRepeat_2 (h : Hp) (p1 : Int32) : Option (Bool × Hp) :=
  (M_number h 0 1 20).bind fun (t1, h2) =>
  if (b2i t1) = 0 then
  some (false, h2)
  else
  (M_is h2 4).bind fun (t3, h4) =>
  if (b2i t3) = 0 then
  some (false, h4)
  else
  (rdO 3 (rd h4 149) 0).bind fun t5 =>
  (M_readsRepeat_2_L36 p1 t5 (rd h4 140 18) FU 0 h4).bind fun r15 => match r15 with
  | .inr y => some y
  | .inl h16 =>
  (M_next h16).bind fun h18 =>
  (M_is h18 1).bind fun (t19, h20) =>
  some (t19, h20)
def M_readsCommand_2 (h : Hp) (p1 : Int32) : Option (Bool × Hp) :=
  (M_wordAhead h).bind fun t1 =>
  if t1 = (-1) then
  (M_fail h 1).bind fun (t2, h3) =>
  some (t2, h3)
  else
  if t1 = 11 then
  if p1 = 2 then
  (M_fail h 4).bind fun (t4, h5) =>
  some (t4, h5)
  else
  (M_next h).bind fun h7 =>
  (M_readsRepeat_2 h7 p1).bind fun (t8, h9) =>
  some (t8, h9)
  else
  if (rd h 140 20) = 200 then
  (M_fail h 5).bind fun (t10, h11) =>
  some (t10, h11)
  else
  nm (up2 h 140 20 ((rd h 140 20) + 1)) fun h12 =>
  (M_next h12).bind fun h14 =>
  (M_readsWord h14 t1).bind fun (t15, h16) =>
  some (t15, h16)
def M_readsAll_L34 : Nat → Hp → Option ((Hp) ⊕ (Bool × Hp))
  | 0, _ => none
  | n + 1, h =>
    if (rd h 140 16) = 0 then
    some (.inl h)
    else
    (M_readsCommand_2 h 0).bind fun (t10, h11) =>
    if (b2i t10) = 0 then
    some (.inr (false, h11))
    else
    (M_next h11).bind fun h13 =>
    M_readsAll_L34 n h13
def M_readsAll (h : Hp) : Option (Bool × Hp) :=
  (M_says h 112).bind fun t1 =>
  if (b2i t1) = 0 then
  (M_fail h 1).bind fun (t2, h3) =>
  some (t2, h3)
  else
  (M_next h).bind fun h5 =>
  (M_is h5 1).bind fun (t6, h7) =>
  if (b2i t6) = 0 then
  some (false, h7)
  else
  (M_next h7).bind fun h9 =>
  (M_readsAll_L34 FU h9).bind fun r14 => match r14 with
  | .inr y => some y
  | .inl h15 =>
  some (true, h15)
def M_parses_L2 : Nat → Int32 → Hp → Option (Hp)
  | 0, _, _ => none
  | n + 1, v1, h =>
    if 106 ≤ v1 then
    some h
    else
    (wrO h 141 106 v1 0).bind fun h1 =>
    M_parses_L2 n (v1 + 1) h1
def M_parses (h : Hp) : Option (Bool × Hp) :=
  (M_parses_L2 FU 0 h).bind fun r2 =>
  (wrO r2 141 106 1 100).bind fun h3 =>
  nm (up2 h3 140 11 0) fun h4 =>
  nm (up2 h4 140 12 (-1)) fun h5 =>
  nm (up2 h5 140 20 0) fun h6 =>
  nm (up2 h6 140 18 0) fun h7 =>
  (M_next h7).bind fun h9 =>
  (M_readsAll h9).bind fun (t10, h11) =>
  some (t10, h11)
def M_type_L3 (c1 : Int32) : Nat → Int32 → Hp → Option (Hp)
  | 0, _, _ => none
  | n + 1, v2, h =>
    if v2 < 0 then
    some h
    else
    (wrO h 146 600 (rd h 140 9) ((c1 >>> (v2 &&& 31)) &&& 255)).bind fun h1 =>
    nm (up2 h1 140 9 ((rd h1 140 9) + 1)) fun h2 =>
    M_type_L3 c1 n (v2 + (-8)) h2
def M_type (h : Hp) (p1 : Int32) : Option (Hp) :=
  (M_type_L3 p1 FU 24 h).bind fun r3 =>
  some r3
def M_append (h : Hp) (p1 : Int32) (p2 : Int32) (p3 : Int32) (p4 : Int32) (p5 : Int32) : Option (Int32 × Hp) :=
  nm (up2 h 140 15 0) fun h1 =>
  if ((rd h1 140 9) + 20) ≤ 600 then
  (M_type h1 p1).bind fun h3 =>
  (M_type h3 p2).bind fun h5 =>
  (M_type h5 p3).bind fun h7 =>
  (M_type h7 p4).bind fun h9 =>
  (M_type h9 p5).bind fun h11 =>
  some ((rd h11 140 9), h11)
  else
  some ((-1), h1)
def M_truncateInput (h : Hp) (p1 : Int32) : Option (Int32 × Hp) :=
  (M_in p1 0 (rd h 140 9)).bind fun t1 =>
  lt (α := Bool → Option (Int32 × Hp)) (fun (z0_18 : Bool) =>
  (M_throwsOne h z0_18).bind fun (t2, h3) =>
  if (b2i t2) = 0 then
  nm (up2 h3 140 9 p1) fun h4 =>
  some (p1, h4)
  else
  some (0, h3)) fun j18 =>
  if (b2i t1) = 0 then
  j18 true
  else
  j18 false
def M_begins_L2 : Nat → Int32 → Hp → Option (Hp)
  | 0, _, _ => none
  | n + 1, v1, h =>
    if 106 ≤ v1 then
    some h
    else
    (rdO 106 (rd h 141) v1).bind fun t1 =>
    (wrO h 142 106 v1 t1).bind fun h2 =>
    M_begins_L2 n (v1 + 1) h2
def M_begins (h : Hp) : Option (Hp) :=
  (M_begins_L2 FU 0 h).bind fun r3 =>
  some r3
def M_remember_L52 : Nat → Int32 → Hp → Option (Hp)
  | 0, _, _ => none
  | n + 1, v2, h =>
    if 106 ≤ v2 then
    some h
    else
    (rdO 106 (rd h 142) v2).bind fun t1 =>
    (wrO h 144 848 ((106 * (rd h 140 5)) + v2) t1).bind fun h2 =>
    M_remember_L52 n (v2 + 1) h2
def M_remember_L12 : Nat → Int32 → Hp → Option (Hp)
  | 0, _, _ => none
  | n + 1, v2, h =>
    if 848 ≤ v2 then
    some h
    else
    (rdO 848 (rd h 144) v2).bind fun t5 =>
    (wrO h 144 848 (v2 - 106) t5).bind fun h6 =>
    M_remember_L12 n (v2 + 1) h6
def M_remember (h : Hp) (p1 : Int32) : Option (Int32 × Hp) :=
  lt (α := Hp → Option (Int32 × Hp)) (fun (h_50 : Hp) =>
  (M_remember_L52 FU 0 h_50).bind fun r3 =>
  nm (up2 r3 140 5 ((rd r3 140 5) + 1)) fun h4 =>
  some (p1, h4)) fun j50 =>
  if (rd h 140 5) = 8 then
  (M_remember_L12 FU 106 h).bind fun r7 =>
  nm (up2 r7 140 5 ((rd r7 140 5) - 1)) fun h8 =>
  j50 h8
  else
  j50 h
def M_runScript_L7 : Nat → Int32 → Hp → Option (Hp)
  | 0, _, _ => none
  | n + 1, v1, h =>
    if (rd h 140 9) ≤ v1 then
    some h
    else
    (rdO 600 (rd h 146) v1).bind fun t2 =>
    (wrO h 147 600 v1 t2).bind fun h3 =>
    M_runScript_L7 n (v1 + 1) h3
def M_runScript_L59 : Nat → Int32 → Hp → Option (Hp)
  | 0, _, _ => none
  | n + 1, v1, h =>
    if 106 ≤ v1 then
    some h
    else
    (rdO 106 (rd h 142) v1).bind fun t11 =>
    (wrO h 141 106 v1 t11).bind fun h12 =>
    M_runScript_L59 n (v1 + 1) h12
def M_runScript (h : Hp) : Option (Int32 × Hp) :=
  nm (up2 h 140 15 0) fun h1 =>
  (M_runScript_L7 FU 0 h1).bind fun r4 =>
  nm (up2 r4 140 10 (rd r4 140 9)) fun h5 =>
  nm (up2 h5 140 9 0) fun h6 =>
  (M_begins h6).bind fun h8 =>
  (M_parses h8).bind fun (t9, h10) =>
  if (b2i t9) = 0 then
  (M_runScript_L59 FU 0 h10).bind fun r13 =>
  some ((-1), r13)
  else
  (rdO 106 (rd h10 141) 2).bind fun t14 =>
  (M_remember h10 t14).bind fun (t15, h16) =>
  some (t15, h16)
def M_addClip (h : Hp) (p1 : Int32) : Option (Int32 × Hp) :=
  (M_areColours p1).bind fun t1 =>
  lt (α := Bool → Option (Int32 × Hp)) (fun (z0_13 : Bool) =>
  (rdO 106 (rd h 141) 2).bind fun t2 =>
  lt (α := Bool → Option (Int32 × Hp)) (fun (z0_29 : Bool) =>
  (M_throwsOne2 h z0_13 z0_29).bind fun (t3, h4) =>
  if (b2i t3) = 0 then
  (M_begins h4).bind fun h6 =>
  (M_adds h6 p1).bind fun (t7, h8) =>
  (M_remember h8 t7).bind fun (t9, h10) =>
  some (t9, h10)
  else
  some (0, h4)) fun j29 =>
  if t2 = 12 then
  j29 true
  else
  j29 false) fun j13 =>
  if (b2i t1) = 0 then
  j13 true
  else
  j13 false
def M_addReel (h : Hp) (p1 : Int32) : Option (Int32 × Hp) :=
  (M_in p1 1 9).bind fun t1 =>
  lt (α := Bool → Option (Int32 × Hp)) (fun (z0_16 : Bool) =>
  (rdO 106 (rd h 141) 3).bind fun t2 =>
  lt (α := Bool → Option (Int32 × Hp)) (fun (z0_31 : Bool) =>
  (M_throwsOne2 h z0_16 z0_31).bind fun (t3, h4) =>
  if (b2i t3) = 0 then
  (M_begins h4).bind fun h6 =>
  (M_hangs h6 p1).bind fun (t7, h8) =>
  (M_remember h8 t7).bind fun (t9, h10) =>
  some (t9, h10)
  else
  some (0, h4)) fun j31 =>
  if t2 = 4 then
  j31 true
  else
  j31 false) fun j16 =>
  if (b2i t1) = 0 then
  j16 true
  else
  j16 false
def M_addScene (h : Hp) (p1 : Int32) : Option (Int32 × Hp) :=
  (M_in p1 1 9).bind fun t1 =>
  lt (α := Bool → Option (Int32 × Hp)) (fun (z0_16 : Bool) =>
  (rdO 106 (rd h 141) 4).bind fun t2 =>
  lt (α := Bool → Option (Int32 × Hp)) (fun (z0_31 : Bool) =>
  (M_throwsOne2 h z0_16 z0_31).bind fun (t3, h4) =>
  if (b2i t3) = 0 then
  (M_begins h4).bind fun h6 =>
  (M_opens h6 p1).bind fun (t7, h8) =>
  (M_remember h8 t7).bind fun (t9, h10) =>
  some (t9, h10)
  else
  some (0, h4)) fun j31 =>
  if t2 = 5 then
  j31 true
  else
  j31 false) fun j16 =>
  if (b2i t1) = 0 then
  j16 true
  else
  j16 false
def M_sleep (h : Hp) (p1 : Int32) (p2 : Int32) : Option (Int32 × Hp) :=
  (M_isClip h p1).bind fun t1 =>
  lt (α := Bool → Option (Int32 × Hp)) (fun (z0_21 : Bool) =>
  lt (α := Bool → Option (Int32 × Hp)) (fun (z0_32 : Bool) =>
  lt (α := Bool → Option (Int32 × Hp)) (fun (z0_50 : Bool) =>
  (M_throwsOne2 h z0_32 z0_50).bind fun (t2, h3) =>
  if (b2i t2) = 0 then
  (M_begins h3).bind fun h5 =>
  (M_liesDown h5 p1 p2).bind fun (t6, h7) =>
  (M_remember h7 t6).bind fun (t8, h9) =>
  some (t8, h9)
  else
  some (0, h3)) fun j50 =>
  lt (α := Unit → Option (Int32 × Hp)) (fun (u_49 : Unit) =>
  j50 false) fun j49 =>
  if (b2i z0_21) = 0 then
  j49 ()
  else
  (M_whyStaysUp h p1 p2).bind fun t10 =>
  if t10 = 0 then
  j49 ()
  else
  j50 true) fun j32 =>
  if (b2i z0_21) = 0 then
  j32 true
  else
  j32 false) fun j21 =>
  lt (α := Unit → Option (Int32 × Hp)) (fun (u_20 : Unit) =>
  j21 false) fun j20 =>
  if (b2i t1) = 0 then
  j20 ()
  else
  (M_isReel h p2).bind fun t11 =>
  if (b2i t11) = 0 then
  j20 ()
  else
  j21 true
def M_wake (h : Hp) (p1 : Int32) : Option (Int32 × Hp) :=
  (M_isClip h p1).bind fun t1 =>
  lt (α := Bool → Option (Int32 × Hp)) (fun (z0_16 : Bool) =>
  lt (α := Bool → Option (Int32 × Hp)) (fun (z0_35 : Bool) =>
  (M_throwsOne2 h z0_16 z0_35).bind fun (t2, h3) =>
  if (b2i t2) = 0 then
  (M_begins h3).bind fun h5 =>
  (M_leaves h5 p1 0).bind fun (t6, h7) =>
  (M_remember h7 t6).bind fun (t8, h9) =>
  some (t8, h9)
  else
  some (0, h3)) fun j35 =>
  lt (α := Unit → Option (Int32 × Hp)) (fun (u_34 : Unit) =>
  j35 false) fun j34 =>
  if (b2i t1) = 0 then
  j34 ()
  else
  (M_of h p1 1).bind fun t10 =>
  if t10 = 1 then
  j34 ()
  else
  j35 true) fun j16 =>
  if (b2i t1) = 0 then
  j16 true
  else
  j16 false
def M_cut (h : Hp) (p1 : Int32) (p2 : Int32) : Option (Int32 × Hp) :=
  (M_isScene h p1).bind fun t1 =>
  lt (α := Bool → Option (Int32 × Hp)) (fun (z0_14 : Bool) =>
  (M_isPattern p2).bind fun t2 =>
  lt (α := Bool → Option (Int32 × Hp)) (fun (z0_26 : Bool) =>
  (M_throwsOne2 h z0_14 z0_26).bind fun (t3, h4) =>
  if (b2i t3) = 0 then
  (M_begins h4).bind fun h6 =>
  (M_cuts h6 p1 p2).bind fun (t7, h8) =>
  (M_remember h8 t7).bind fun (t9, h10) =>
  some (t9, h10)
  else
  some (0, h4)) fun j26 =>
  if (b2i t2) = 0 then
  j26 true
  else
  j26 false) fun j14 =>
  if (b2i t1) = 0 then
  j14 true
  else
  j14 false
def M_air (h : Hp) (p1 : Int32) : Option (Int32 × Hp) :=
  (M_isReel h p1).bind fun t1 =>
  lt (α := Bool → Option (Int32 × Hp)) (fun (z0_14 : Bool) =>
  (M_throwsOne h z0_14).bind fun (t2, h3) =>
  if (b2i t2) = 0 then
  (M_begins h3).bind fun h5 =>
  (M_airs h5 p1).bind fun (t6, h7) =>
  (M_remember h7 t6).bind fun (t8, h9) =>
  some (t8, h9)
  else
  some (0, h3)) fun j14 =>
  if (b2i t1) = 0 then
  j14 true
  else
  j14 false
def M_feed (h : Hp) (p1 : Int32) (p2 : Int32) : Option (Int32 × Hp) :=
  (M_isClip h p1).bind fun t1 =>
  (M_in p2 1 50).bind fun t2 =>
  lt (α := Bool → Option (Int32 × Hp)) (fun (z0_21 : Bool) =>
  lt (α := Bool → Option (Int32 × Hp)) (fun (z0_33 : Bool) =>
  lt (α := Bool → Option (Int32 × Hp)) (fun (z0_58 : Bool) =>
  (M_throwsOne3 h z0_33 z0_21 z0_58).bind fun (t3, h4) =>
  if (b2i t3) = 0 then
  (M_begins h4).bind fun h6 =>
  (M_feeds h6 p1 p2).bind fun (t7, h8) =>
  (M_remember h8 t7).bind fun (t9, h10) =>
  some (t9, h10)
  else
  some (0, h4)) fun j58 =>
  lt (α := Unit → Option (Int32 × Hp)) (fun (u_57 : Unit) =>
  j58 false) fun j57 =>
  if (b2i t1) = 0 then
  j57 ()
  else
  if (b2i z0_21) = 0 then
  (M_canFeed h p1 p2).bind fun t11 =>
  if (b2i t11) = 0 then
  j58 true
  else
  j57 ()
  else
  j57 ()) fun j33 =>
  if (b2i t1) = 0 then
  j33 true
  else
  j33 false) fun j21 =>
  if (b2i t2) = 0 then
  j21 true
  else
  j21 false
def M_addFood (h : Hp) (p1 : Int32) : Option (Int32 × Hp) :=
  (M_in p1 1 999).bind fun t1 =>
  lt (α := Bool → Option (Int32 × Hp)) (fun (z0_16 : Bool) =>
  lt (α := Bool → Option (Int32 × Hp)) (fun (z0_42 : Bool) =>
  (M_throwsOne2 h z0_16 z0_42).bind fun (t2, h3) =>
  if (b2i t2) = 0 then
  (M_begins h3).bind fun h5 =>
  (rdO 106 (rd h5 141) 1).bind fun t6 =>
  (wrO h5 141 106 1 (t6 + p1)).bind fun h7 =>
  (rdO 106 (rd h7 141) 1).bind fun t8 =>
  (M_remember h7 t8).bind fun (t9, h10) =>
  some (t9, h10)
  else
  some (0, h3)) fun j42 =>
  lt (α := Unit → Option (Int32 × Hp)) (fun (u_41 : Unit) =>
  j42 false) fun j41 =>
  if (b2i z0_16) = 0 then
  (rdO 106 (rd h 141) 1).bind fun t11 =>
  if (t11 + p1) ≤ 9999 then
  j41 ()
  else
  j42 true
  else
  j41 ()) fun j16 =>
  if (b2i t1) = 0 then
  j16 true
  else
  j16 false
def M_paint (h : Hp) (p1 : Int32) (p2 : Int32) (p3 : Int32) : Option (Int32 × Hp) :=
  (M_isClip h p1).bind fun t1 =>
  lt (α := Bool → Option (Int32 × Hp)) (fun (z0_32 : Bool) =>
  lt (α := Bool → Option (Int32 × Hp)) (fun (z0_45 : Bool) =>
  (M_in p3 1 9).bind fun t2 =>
  lt (α := Bool → Option (Int32 × Hp)) (fun (z0_60 : Bool) =>
  lt (α := Bool → Option (Int32 × Hp)) (fun (z0_79 : Bool) =>
  (M_throwsOne3 h z0_45 z0_60 z0_79).bind fun (t3, h4) =>
  if (b2i t3) = 0 then
  (M_begins h4).bind fun h6 =>
  (M_paints h6 p1 p2 p3).bind fun (t7, h8) =>
  (M_remember h8 t7).bind fun (t9, h10) =>
  some (t9, h10)
  else
  some (0, h4)) fun j79 =>
  lt (α := Unit → Option (Int32 × Hp)) (fun (u_78 : Unit) =>
  j79 false) fun j78 =>
  if (b2i z0_32) = 0 then
  j78 ()
  else
  (M_of h p1 1).bind fun t11 =>
  if t11 = 0 then
  j78 ()
  else
  j79 true) fun j60 =>
  if (b2i t2) = 0 then
  j60 true
  else
  j60 false) fun j45 =>
  if (b2i z0_32) = 0 then
  j45 true
  else
  j45 false) fun j32 =>
  lt (α := Unit → Option (Int32 × Hp)) (fun (u_31 : Unit) =>
  j32 false) fun j31 =>
  if (b2i t1) = 0 then
  j31 ()
  else
  (M_of h p1 0).bind fun t12 =>
  (M_digits t12).bind fun t13 =>
  (M_in p2 0 (t13 - 1)).bind fun t14 =>
  if (b2i t14) = 0 then
  j31 ()
  else
  j32 true
def M_passWeeks (h : Hp) (p1 : Int32) : Option (Int32 × Hp) :=
  (M_in p1 1 50).bind fun t1 =>
  lt (α := Bool → Option (Int32 × Hp)) (fun (z0_15 : Bool) =>
  lt (α := Bool → Option (Int32 × Hp)) (fun (z0_41 : Bool) =>
  (M_throwsOne2 h z0_15 z0_41).bind fun (t2, h3) =>
  if (b2i t2) = 0 then
  (M_begins h3).bind fun h5 =>
  (M_passes h5 p1).bind fun (t6, h7) =>
  (M_remember h7 t6).bind fun (t8, h9) =>
  some (t8, h9)
  else
  some (0, h3)) fun j41 =>
  lt (α := Unit → Option (Int32 × Hp)) (fun (u_40 : Unit) =>
  j41 false) fun j40 =>
  if (b2i z0_15) = 0 then
  (rdO 106 (rd h 141) 0).bind fun t10 =>
  if (t10 + p1) ≤ 999 then
  j40 ()
  else
  j41 true
  else
  j40 ()) fun j15 =>
  if (b2i t1) = 0 then
  j15 true
  else
  j15 false
def M_undo_L26 : Nat → Int32 → Hp → Option (Hp)
  | 0, _, _ => none
  | n + 1, v1, h =>
    if 106 ≤ v1 then
    some h
    else
    (rdO 848 (rd h 144) ((106 * (rd h 140 5)) + v1)).bind fun t3 =>
    (wrO h 141 106 v1 t3).bind fun h4 =>
    M_undo_L26 n (v1 + 1) h4
def M_undo (h : Hp) : Option (Int32 × Hp) :=
  nm (up2 h 140 15 0) fun h1 =>
  if (rd h1 140 5) = 0 then
  some ((-1), h1)
  else
  nm (up2 h1 140 5 ((rd h1 140 5) - 1)) fun h2 =>
  (M_undo_L26 FU 0 h2).bind fun r5 =>
  some ((rd r5 140 5), r5)
def M_undoCount (h : Hp) : Option (Int32 × Hp) :=
  nm (up2 h 140 15 0) fun h1 =>
  some ((rd h1 140 5), h1)
def M_saveSnapshot_L12 : Nat → Int32 → Hp → Option (Hp)
  | 0, _, _ => none
  | n + 1, v1, h =>
    if 106 ≤ v1 then
    some h
    else
    (rdO 106 (rd h 141) v1).bind fun t3 =>
    (wrO h 145 106 v1 t3).bind fun h4 =>
    M_saveSnapshot_L12 n (v1 + 1) h4
def M_saveSnapshot (h : Hp) : Option (Int32 × Hp) :=
  nm (up2 h 140 15 0) fun h1 =>
  nm (up2 h1 140 6 1) fun h2 =>
  (M_saveSnapshot_L12 FU 0 h2).bind fun r5 =>
  (rdO 106 (rd r5 141) 0).bind fun t6 =>
  some (t6, r5)
def M_restoreSnapshot_L23 : Nat → Int32 → Hp → Option (Hp)
  | 0, _, _ => none
  | n + 1, v1, h =>
    if 106 ≤ v1 then
    some h
    else
    (rdO 106 (rd h 145) v1).bind fun t3 =>
    (wrO h 141 106 v1 t3).bind fun h4 =>
    M_restoreSnapshot_L23 n (v1 + 1) h4
def M_restoreSnapshot (h : Hp) : Option (Int32 × Hp) :=
  lt (α := Bool → Option (Int32 × Hp)) (fun (z0_13 : Bool) =>
  (M_throwsOne h z0_13).bind fun (t1, h2) =>
  if (b2i t1) = 0 then
  (M_restoreSnapshot_L23 FU 0 h2).bind fun r5 =>
  nm (up2 r5 140 5 0) fun h6 =>
  (rdO 106 (rd h6 141) 0).bind fun t7 =>
  some (t7, h6)
  else
  some (0, h2)) fun j13 =>
  if (rd h 140 6) = 0 then
  j13 true
  else
  j13 false
def M_scriptErrorKind (h : Hp) : Option (Int32 × Hp) :=
  nm (up2 h 140 15 0) fun h1 =>
  some ((rd h1 140 11), h1)
def M_scriptErrorOffset (h : Hp) : Option (Int32 × Hp) :=
  nm (up2 h 140 15 0) fun h1 =>
  some ((rd h1 140 12), h1)
def M_told (h : Hp) (p1 : Int32) : Option (Int32 × Hp) :=
  nm (up2 h 140 15 0) fun h1 =>
  (rdO 106 (rd h1 141) p1).bind fun t2 =>
  some (t2, h1)
def M_week (h : Hp) : Option (Int32 × Hp) :=
  (M_told h 0).bind fun (t1, h2) =>
  some (t1, h2)
def M_food (h : Hp) : Option (Int32 × Hp) :=
  (M_told h 1).bind fun (t1, h2) =>
  some (t1, h2)
def M_clipCount (h : Hp) : Option (Int32 × Hp) :=
  (M_told h 2).bind fun (t1, h2) =>
  some (t1, h2)
def M_reelCount (h : Hp) : Option (Int32 × Hp) :=
  (M_told h 3).bind fun (t1, h2) =>
  some (t1, h2)
def M_sceneCount (h : Hp) : Option (Int32 × Hp) :=
  (M_told h 4).bind fun (t1, h2) =>
  some (t1, h2)
def M_springs (h : Hp) (p1 : Int32) : Option (Int32 × Hp) :=
  (M_isScene h p1).bind fun t1 =>
  lt (α := Bool → Option (Int32 × Hp)) (fun (z0_14 : Bool) =>
  (M_throwsOne h z0_14).bind fun (t2, h3) =>
  if (b2i t2) = 0 then
  (M_scene h3 p1 1).bind fun t4 =>
  some (t4, h3)
  else
  some (0, h3)) fun j14 =>
  if (b2i t1) = 0 then
  j14 true
  else
  j14 false
def M_clipTold (h : Hp) (p1 : Int32) (p2 : Int32) : Option (Int32 × Hp) :=
  (M_isClip h p1).bind fun t1 =>
  lt (α := Bool → Option (Int32 × Hp)) (fun (z0_14 : Bool) =>
  (M_throwsOne h z0_14).bind fun (t2, h3) =>
  if (b2i t2) = 0 then
  (M_of h3 p1 p2).bind fun t4 =>
  some (t4, h3)
  else
  some (0, h3)) fun j14 =>
  if (b2i t1) = 0 then
  j14 true
  else
  j14 false
def M_state (h : Hp) (p1 : Int32) : Option (Int32 × Hp) :=
  (M_clipTold h p1 1).bind fun (t1, h2) =>
  some (t1, h2)
def M_colours (h : Hp) (p1 : Int32) : Option (Int32 × Hp) :=
  (M_clipTold h p1 0).bind fun (t1, h2) =>
  some (t1, h2)
def M_length (h : Hp) (p1 : Int32) : Option (Int32 × Hp) :=
  (M_isClip h p1).bind fun t1 =>
  lt (α := Bool → Option (Int32 × Hp)) (fun (z0_14 : Bool) =>
  (M_throwsOne h z0_14).bind fun (t2, h3) =>
  if (b2i t2) = 0 then
  (M_of h3 p1 0).bind fun t4 =>
  (M_digits t4).bind fun t5 =>
  some (t5, h3)
  else
  some (0, h3)) fun j14 =>
  if (b2i t1) = 0 then
  j14 true
  else
  j14 false
def M_hash (h : Hp) (p1 : Int32) : Option (Int32 × Hp) :=
  (M_isClip h p1).bind fun t1 =>
  lt (α := Bool → Option (Int32 × Hp)) (fun (z0_14 : Bool) =>
  (M_throwsOne h z0_14).bind fun (t2, h3) =>
  if (b2i t2) = 0 then
  (M_hashOf h3 p1).bind fun t4 =>
  some (t4, h3)
  else
  some (0, h3)) fun j14 =>
  if (b2i t1) = 0 then
  j14 true
  else
  j14 false
def M_fat (h : Hp) (p1 : Int32) : Option (Int32 × Hp) :=
  (M_clipTold h p1 2).bind fun (t1, h2) =>
  some (t1, h2)
def M_reelOf (h : Hp) (p1 : Int32) : Option (Int32 × Hp) :=
  (M_isClip h p1).bind fun t1 =>
  lt (α := Bool → Option (Int32 × Hp)) (fun (z0_14 : Bool) =>
  (M_throwsOne h z0_14).bind fun (t2, h3) =>
  if (b2i t2) = 0 then
  (M_reelWith h3 p1).bind fun t4 =>
  some (t4, h3)
  else
  some (0, h3)) fun j14 =>
  if (b2i t1) = 0 then
  j14 true
  else
  j14 false
def M_bedOf (h : Hp) (p1 : Int32) : Option (Int32 × Hp) :=
  (M_isClip h p1).bind fun t1 =>
  lt (α := Bool → Option (Int32 × Hp)) (fun (z0_14 : Bool) =>
  (M_throwsOne h z0_14).bind fun (t2, h3) =>
  if (b2i t2) = 0 then
  (M_reelWith h3 p1).bind fun t4 =>
  if t4 = (-1) then
  some ((-1), h3)
  else
  (M_bedWith h3 p1 t4).bind fun t5 =>
  some (t5, h3)
  else
  some (0, h3)) fun j14 =>
  if (b2i t1) = 0 then
  j14 true
  else
  j14 false
def M_sceneOf (h : Hp) (p1 : Int32) : Option (Int32 × Hp) :=
  (M_clipTold h p1 3).bind fun (t1, h2) =>
  some (t1, h2)
def M_commonRun (h : Hp) (p1 : Int32) (p2 : Int32) : Option (Int32 × Hp) :=
  (M_isClip h p1).bind fun t1 =>
  lt (α := Bool → Option (Int32 × Hp)) (fun (z0_22 : Bool) =>
  (M_throwsOne h z0_22).bind fun (t2, h3) =>
  if (b2i t2) = 0 then
  (M_run h3 p1 p2).bind fun t4 =>
  some (t4, h3)
  else
  some (0, h3)) fun j22 =>
  lt (α := Unit → Option (Int32 × Hp)) (fun (u_17 : Unit) =>
  j22 true) fun j17 =>
  if (b2i t1) = 0 then
  j17 ()
  else
  (M_isClip h p2).bind fun t5 =>
  if (b2i t5) = 0 then
  j17 ()
  else
  j22 false
def M_nearestClip_L26 (h : Hp) (c1 : Int32) : Nat → Int32 → Int32 → Option (Int32)
  | 0, _, _ => none
  | n + 1, v2, v3 =>
    (rdO 106 (rd h 141) 2).bind fun t4 =>
    if t4 ≤ v3 then
    some v2
    else
    if v3 = c1 then
    M_nearestClip_L26 h c1 n v2 (v3 + 1)
    else
    if v2 = (-1) then
    M_nearestClip_L26 h c1 n v3 (v3 + 1)
    else
    (M_run h c1 v3).bind fun t5 =>
    (M_run h c1 v2).bind fun t6 =>
    if t5 ≤ t6 then
    M_nearestClip_L26 h c1 n v2 (v3 + 1)
    else
    M_nearestClip_L26 h c1 n v3 (v3 + 1)
def M_nearestClip (h : Hp) (p1 : Int32) : Option (Int32 × Hp) :=
  (M_isClip h p1).bind fun t1 =>
  lt (α := Bool → Option (Int32 × Hp)) (fun (z0_14 : Bool) =>
  (M_throwsOne h z0_14).bind fun (t2, h3) =>
  if (b2i t2) = 0 then
  (M_nearestClip_L26 h3 p1 FU (-1) 0).bind fun r7 =>
  some (r7, h3)
  else
  some (0, h3)) fun j14 =>
  if (b2i t1) = 0 then
  j14 true
  else
  j14 false
def M_twinsOf_L26 (h : Hp) (c1 : Int32) : Nat → Int32 → Int32 → Option (Int32)
  | 0, _, _ => none
  | n + 1, v2, v3 =>
    (rdO 106 (rd h 141) 2).bind fun t4 =>
    if t4 ≤ v3 then
    some v2
    else
    if v3 = c1 then
    M_twinsOf_L26 h c1 n (v2 ||| 0) (v3 + 1)
    else
    (M_hashOf h v3).bind fun t5 =>
    (M_hashOf h c1).bind fun t6 =>
    if t5 = t6 then
    M_twinsOf_L26 h c1 n (v2 ||| (1 <<< (v3 &&& 31))) (v3 + 1)
    else
    M_twinsOf_L26 h c1 n (v2 ||| 0) (v3 + 1)
def M_twinsOf (h : Hp) (p1 : Int32) : Option (Int32 × Hp) :=
  (M_isClip h p1).bind fun t1 =>
  lt (α := Bool → Option (Int32 × Hp)) (fun (z0_14 : Bool) =>
  (M_throwsOne h z0_14).bind fun (t2, h3) =>
  if (b2i t2) = 0 then
  (M_twinsOf_L26 h3 p1 FU 0 0).bind fun r7 =>
  some (r7, h3)
  else
  some (0, h3)) fun j14 =>
  if (b2i t1) = 0 then
  j14 true
  else
  j14 false
def M_weeksToFade (h : Hp) (p1 : Int32) : Option (Int32 × Hp) :=
  (M_isClip h p1).bind fun t1 =>
  lt (α := Bool → Option (Int32 × Hp)) (fun (z0_14 : Bool) =>
  (M_throwsOne h z0_14).bind fun (t2, h3) =>
  if (b2i t2) = 0 then
  (M_of h3 p1 1).bind fun t4 =>
  if t4 = 2 then
  some (0, h3)
  else
  (M_of h3 p1 1).bind fun t5 =>
  if t5 = 1 then
  (M_of h3 p1 2).bind fun t6 =>
  some (t6, h3)
  else
  (M_of h3 p1 2).bind fun t7 =>
  some (((t7 + 3) / 4), h3)
  else
  some (0, h3)) fun j14 =>
  if (b2i t1) = 0 then
  j14 true
  else
  j14 false
def M_bedCount (h : Hp) (p1 : Int32) : Option (Int32 × Hp) :=
  (M_isReel h p1).bind fun t1 =>
  lt (α := Bool → Option (Int32 × Hp)) (fun (z0_14 : Bool) =>
  (M_throwsOne h z0_14).bind fun (t2, h3) =>
  if (b2i t2) = 0 then
  (M_beds h3 p1).bind fun t4 =>
  some (t4, h3)
  else
  some (0, h3)) fun j14 =>
  if (b2i t1) = 0 then
  j14 true
  else
  j14 false
def M_bed (h : Hp) (p1 : Int32) (p2 : Int32) : Option (Int32 × Hp) :=
  (M_isReel h p1).bind fun t1 =>
  lt (α := Bool → Option (Int32 × Hp)) (fun (z0_29 : Bool) =>
  (M_throwsOne h z0_29).bind fun (t2, h3) =>
  if (b2i t2) = 0 then
  (M_inBed h3 p1 p2).bind fun t4 =>
  some (t4, h3)
  else
  some (0, h3)) fun j29 =>
  lt (α := Unit → Option (Int32 × Hp)) (fun (u_24 : Unit) =>
  j29 true) fun j24 =>
  if (b2i t1) = 0 then
  j24 ()
  else
  (M_beds h p1).bind fun t5 =>
  (M_in p2 0 (t5 - 1)).bind fun t6 =>
  if (b2i t6) = 0 then
  j24 ()
  else
  j29 false
def M_sleepers (h : Hp) (p1 : Int32) : Option (Int32 × Hp) :=
  (M_isReel h p1).bind fun t1 =>
  lt (α := Bool → Option (Int32 × Hp)) (fun (z0_14 : Bool) =>
  (M_throwsOne h z0_14).bind fun (t2, h3) =>
  if (b2i t2) = 0 then
  (M_sleepersIn h3 p1).bind fun t4 =>
  some (t4, h3)
  else
  some (0, h3)) fun j14 =>
  if (b2i t1) = 0 then
  j14 true
  else
  j14 false
def M_throwsPair (h : Hp) (p1 : Int32) (p2 : Int32) : Option (Bool × Hp) :=
  (M_isClip h p1).bind fun t1 =>
  if (b2i t1) = 0 then
  (M_throwsOne h true).bind fun (t2, h3) =>
  some (t2, h3)
  else
  (M_isReel h p2).bind fun t4 =>
  if (b2i t4) = 0 then
  (M_throwsOne h true).bind fun (t5, h6) =>
  some (t5, h6)
  else
  (M_throwsOne h false).bind fun (t7, h8) =>
  some (t7, h8)
def M_home (h : Hp) (p1 : Int32) (p2 : Int32) : Option (Int32 × Hp) :=
  (M_throwsPair h p1 p2).bind fun (t1, h2) =>
  if (b2i t1) = 0 then
  (M_homeOf h2 p1 p2).bind fun t3 =>
  some (t3, h2)
  else
  some (0, h2)
def M_whyNoSleep (h : Hp) (p1 : Int32) (p2 : Int32) : Option (Int32 × Hp) :=
  (M_throwsPair h p1 p2).bind fun (t1, h2) =>
  if (b2i t1) = 0 then
  (M_whyStaysUp h2 p1 p2).bind fun t3 =>
  some (t3, h2)
  else
  some (0, h2)
def M_bedFor (h : Hp) (p1 : Int32) (p2 : Int32) : Option (Int32 × Hp) :=
  (M_throwsPair h p1 p2).bind fun (t1, h2) =>
  if (b2i t1) = 0 then
  (M_whyStaysUp h2 p1 p2).bind fun t3 =>
  if t3 = 0 then
  (M_passedBy h2 p1 p2).bind fun t4 =>
  (M_onWay h2 p1 p2 t4).bind fun t5 =>
  some (t5, h2)
  else
  some ((-1), h2)
  else
  some (0, h2)
def M_looksFor (h : Hp) (p1 : Int32) (p2 : Int32) : Option (Int32 × Hp) :=
  (M_throwsPair h p1 p2).bind fun (t1, h2) =>
  if (b2i t1) = 0 then
  (M_looks h2 p1 p2).bind fun t3 =>
  some (t3, h2)
  else
  some (0, h2)
def M_longestLook_L26 (h : Hp) (c1 : Int32) : Nat → Int32 → Int32 → Option (Int32)
  | 0, _, _ => none
  | n + 1, v2, v3 =>
    (M_beds h c1).bind fun t4 =>
    if t4 ≤ v3 then
    some v2
    else
    (M_inBed h c1 v3).bind fun t5 =>
    if t5 < 0 then
    M_longestLook_L26 h c1 n v2 (v3 + 1)
    else
    (M_inBed h c1 v3).bind fun t6 =>
    (M_looks h t6 c1).bind fun t7 =>
    M_longestLook_L26 h c1 n (mxI v2 t7) (v3 + 1)
def M_longestLook (h : Hp) (p1 : Int32) : Option (Int32 × Hp) :=
  (M_isReel h p1).bind fun t1 =>
  lt (α := Bool → Option (Int32 × Hp)) (fun (z0_14 : Bool) =>
  (M_throwsOne h z0_14).bind fun (t2, h3) =>
  if (b2i t2) = 0 then
  (M_longestLook_L26 h3 p1 FU 0 0).bind fun r8 =>
  some (r8, h3)
  else
  some (0, h3)) fun j14 =>
  if (b2i t1) = 0 then
  j14 true
  else
  j14 false
def M_looksIfAired (h : Hp) (p1 : Int32) : Option (Int32 × Hp) :=
  (M_isReel h p1).bind fun t1 =>
  lt (α := Bool → Option (Int32 × Hp)) (fun (z0_14 : Bool) =>
  (M_throwsOne h z0_14).bind fun (t2, h3) =>
  if (b2i t2) = 0 then
  (M_setAside h3).bind fun h5 =>
  (M_airs h5 p1).bind fun (t6, h7) =>
  (M_looksTogether h7 p1).bind fun t8 =>
  (M_bringBack h7).bind fun h10 =>
  some (t8, h10)
  else
  some (0, h3)) fun j14 =>
  if (b2i t1) = 0 then
  j14 true
  else
  j14 false
def M_longestCluster_L29 (h : Hp) (c1 : Int32) : Nat → Int32 → Int32 → Int32 → Option (Int32)
  | 0, _, _, _ => none
  | n + 1, v2, v3, v4 =>
    (M_beds h c1).bind fun t4 =>
    if (2 * t4) ≤ v4 then
    some v2
    else
    (M_beds h c1).bind fun t5 =>
    (rmO v4 t5).bind fun t6 =>
    (M_inBed h c1 t6).bind fun t7 =>
    lt (α := Int32 → Option (Int32)) (fun (z0_65 : Int32) =>
    M_longestCluster_L29 h c1 n (mxI v2 z0_65) z0_65 (v4 + 1)) fun j65 =>
    if t7 = (-1) then
    j65 0
    else
    j65 (v3 + 1)
def M_longestCluster (h : Hp) (p1 : Int32) : Option (Int32 × Hp) :=
  (M_isReel h p1).bind fun t1 =>
  lt (α := Bool → Option (Int32 × Hp)) (fun (z0_14 : Bool) =>
  (M_throwsOne h z0_14).bind fun (t2, h3) =>
  if (b2i t2) = 0 then
  (M_longestCluster_L29 h3 p1 FU 0 0 0).bind fun r8 =>
  (M_beds h3 p1).bind fun t9 =>
  some ((mnI r8 t9), h3)
  else
  some (0, h3)) fun j14 =>
  if (b2i t1) = 0 then
  j14 true
  else
  j14 false
def M_bestReel_L26 (h : Hp) (c1 : Int32) : Nat → Int32 → Int32 → Option (Int32)
  | 0, _, _ => none
  | n + 1, v2, v3 =>
    (rdO 106 (rd h 141) 3).bind fun t4 =>
    if t4 ≤ v3 then
    some v2
    else
    (M_whyStaysUp h c1 v3).bind fun t5 =>
    if t5 = 0 then
    if v2 = (-1) then
    M_bestReel_L26 h c1 n v3 (v3 + 1)
    else
    (M_passedBy h c1 v3).bind fun t6 =>
    (M_passedBy h c1 v2).bind fun t7 =>
    if t7 ≤ t6 then
    M_bestReel_L26 h c1 n v2 (v3 + 1)
    else
    M_bestReel_L26 h c1 n v3 (v3 + 1)
    else
    M_bestReel_L26 h c1 n v2 (v3 + 1)
def M_bestReel (h : Hp) (p1 : Int32) : Option (Int32 × Hp) :=
  (M_isClip h p1).bind fun t1 =>
  lt (α := Bool → Option (Int32 × Hp)) (fun (z0_14 : Bool) =>
  (M_throwsOne h z0_14).bind fun (t2, h3) =>
  if (b2i t2) = 0 then
  (M_bestReel_L26 h3 p1 FU (-1) 0).bind fun r8 =>
  some (r8, h3)
  else
  some (0, h3)) fun j14 =>
  if (b2i t1) = 0 then
  j14 true
  else
  j14 false
def M_matches (h : Hp) (p1 : Int32) (p2 : Int32) : Option (Bool × Hp) :=
  (M_isClip h p1).bind fun t1 =>
  lt (α := Bool → Option (Bool × Hp)) (fun (z0_14 : Bool) =>
  (M_isPattern p2).bind fun t2 =>
  lt (α := Bool → Option (Bool × Hp)) (fun (z0_26 : Bool) =>
  (M_throwsOne2 h z0_14 z0_26).bind fun (t3, h4) =>
  if (b2i t3) = 0 then
  (M_matchOf h4 p1 p2).bind fun t5 =>
  if t5 = (-1) then
  some (false, h4)
  else
  some (true, h4)
  else
  some (false, h4)) fun j26 =>
  if (b2i t2) = 0 then
  j26 true
  else
  j26 false) fun j14 =>
  if (b2i t1) = 0 then
  j14 true
  else
  j14 false
def M_matchingSleepers_L25 (h : Hp) (c1 : Int32) : Nat → Int32 → Int32 → Option (Int32)
  | 0, _, _ => none
  | n + 1, v2, v3 =>
    (rdO 106 (rd h 141) 2).bind fun t4 =>
    if t4 ≤ v3 then
    some v2
    else
    (M_of h v3 1).bind fun t5 =>
    if t5 = 1 then
    (M_matchOf h v3 c1).bind fun t6 =>
    if t6 = (-1) then
    M_matchingSleepers_L25 h c1 n (v2 ||| 0) (v3 + 1)
    else
    M_matchingSleepers_L25 h c1 n (v2 ||| (1 <<< (v3 &&& 31))) (v3 + 1)
    else
    M_matchingSleepers_L25 h c1 n (v2 ||| 0) (v3 + 1)
def M_matchingSleepers (h : Hp) (p1 : Int32) : Option (Int32 × Hp) :=
  (M_isPattern p1).bind fun t1 =>
  lt (α := Bool → Option (Int32 × Hp)) (fun (z0_13 : Bool) =>
  (M_throwsOne h z0_13).bind fun (t2, h3) =>
  if (b2i t2) = 0 then
  (M_matchingSleepers_L25 h3 p1 FU 0 0).bind fun r7 =>
  some (r7, h3)
  else
  some (0, h3)) fun j13 =>
  if (b2i t1) = 0 then
  j13 true
  else
  j13 false
def M_wokenBy (h : Hp) (p1 : Int32) (p2 : Int32) : Option (Int32 × Hp) :=
  (M_isScene h p1).bind fun t1 =>
  lt (α := Bool → Option (Int32 × Hp)) (fun (z0_14 : Bool) =>
  (M_isPattern p2).bind fun t2 =>
  lt (α := Bool → Option (Int32 × Hp)) (fun (z0_26 : Bool) =>
  (M_throwsOne2 h z0_14 z0_26).bind fun (t3, h4) =>
  if (b2i t3) = 0 then
  (M_setAside h4).bind fun h6 =>
  (M_cuts h6 p1 p2).bind fun (t7, h8) =>
  (M_bringBack h8).bind fun h10 =>
  some (t7, h10)
  else
  some (0, h4)) fun j26 =>
  if (b2i t2) = 0 then
  j26 true
  else
  j26 false) fun j14 =>
  if (b2i t1) = 0 then
  j14 true
  else
  j14 false
def M_firstMatch (h : Hp) (p1 : Int32) (p2 : Int32) : Option (Int32 × Hp) :=
  (M_isClip h p1).bind fun t1 =>
  lt (α := Bool → Option (Int32 × Hp)) (fun (z0_14 : Bool) =>
  (M_isPattern p2).bind fun t2 =>
  lt (α := Bool → Option (Int32 × Hp)) (fun (z0_26 : Bool) =>
  (M_throwsOne2 h z0_14 z0_26).bind fun (t3, h4) =>
  if (b2i t3) = 0 then
  (M_matchOf h4 p1 p2).bind fun t5 =>
  some (t5, h4)
  else
  some (0, h4)) fun j26 =>
  if (b2i t2) = 0 then
  j26 true
  else
  j26 false) fun j14 =>
  if (b2i t1) = 0 then
  j14 true
  else
  j14 false
def M_isAlone_L2 (h : Hp) (c1 : Int32) (c2 : Int32) : Nat → Int32 → Option ((Unit) ⊕ (Bool))
  | 0, _ => none
  | n + 1, v3 =>
    (rdO 106 (rd h 141) 2).bind fun t1 =>
    if t1 ≤ v3 then
    some (.inl ())
    else
    if v3 = c1 then
    M_isAlone_L2 h c1 c2 n (v3 + 1)
    else
    (M_of h v3 1).bind fun t2 =>
    if t2 = 2 then
    M_isAlone_L2 h c1 c2 n (v3 + 1)
    else
    (M_matchOf h v3 c2).bind fun t3 =>
    if t3 = (-1) then
    M_isAlone_L2 h c1 c2 n (v3 + 1)
    else
    some (.inr false)
def M_isAlone (h : Hp) (p1 : Int32) (p2 : Int32) : Option (Bool) :=
  (M_isAlone_L2 h p1 p2 FU 0).bind fun r4 => match r4 with
  | .inr y => some y
  | .inl () =>
  some true
def M_part_L6 (h : Hp) (c1 : Int32) (c2 : Int32) (c3 : Int32) : Nat → Int32 → Int32 → Option (Int32)
  | 0, _, _ => none
  | n + 1, v4, v5 =>
    if (c2 + c3) ≤ v5 then
    some v4
    else
    (M_of h c1 0).bind fun t1 =>
    (M_digit t1 v5).bind fun t2 =>
    M_part_L6 h c1 c2 c3 n ((10 * v4) + t2) (v5 + 1)
def M_part (h : Hp) (p1 : Int32) (p2 : Int32) (p3 : Int32) : Option (Int32) :=
  (M_part_L6 h p1 p2 p3 FU 0 p2).bind fun r3 =>
  some r3
def M_bestPattern_L39 (h : Hp) (c1 : Int32) (c3 : Int32) : Nat → Int32 → Int32 → Option (Int32)
  | 0, _, _ => none
  | n + 1, v2, v4 =>
    (M_of h c1 0).bind fun t4 =>
    (M_digits t4).bind fun t5 =>
    if t5 < (v4 + c3) then
    some v2
    else
    (M_part h c1 v4 c3).bind fun t6 =>
    lt (α := Unit → Option (Int32)) (fun (u_76 : Unit) =>
    (M_isAlone h c1 t6).bind fun t7 =>
    if (b2i t7) = 0 then
    M_bestPattern_L39 h c1 c3 n v2 (v4 + 1)
    else
    M_bestPattern_L39 h c1 c3 n t6 (v4 + 1)) fun j76 =>
    if v2 = (-1) then
    j76 ()
    else
    if v2 ≤ t6 then
    M_bestPattern_L39 h c1 c3 n v2 (v4 + 1)
    else
    j76 ()
def M_bestPattern_L26 (h : Hp) (c1 : Int32) : Nat → Int32 → Int32 → Option (Int32)
  | 0, _, _ => none
  | n + 1, v2, v3 =>
    if 4 < v3 then
    some v2
    else
    if v2 = (-1) then
    (M_bestPattern_L39 h c1 v3 FU v2 0).bind fun r8 =>
    M_bestPattern_L26 h c1 n r8 (v3 + 1)
    else
    some v2
def M_bestPattern (h : Hp) (p1 : Int32) : Option (Int32 × Hp) :=
  (M_isClip h p1).bind fun t1 =>
  lt (α := Bool → Option (Int32 × Hp)) (fun (z0_14 : Bool) =>
  (M_throwsOne h z0_14).bind fun (t2, h3) =>
  if (b2i t2) = 0 then
  (M_bestPattern_L26 h3 p1 FU (-1) 1).bind fun r9 =>
  some (r9, h3)
  else
  some (0, h3)) fun j14 =>
  if (b2i t1) = 0 then
  j14 true
  else
  j14 false
def M_burnedFat (h : Hp) : Option (Int32 × Hp) :=
  (M_told h 5).bind fun (t1, h2) =>
  some (t1, h2)
def M_wakings (h : Hp) : Option (Int32 × Hp) :=
  (M_told h 7).bind fun (t1, h2) =>
  some (t1, h2)
def M_setOf_L4 (h : Hp) (c1 : Int32) : Nat → Int32 → Int32 → Option (Int32)
  | 0, _, _ => none
  | n + 1, v2, v3 =>
    (rdO 106 (rd h 141) 2).bind fun t1 =>
    if t1 ≤ v3 then
    some v2
    else
    (M_of h v3 1).bind fun t2 =>
    if t2 = c1 then
    M_setOf_L4 h c1 n (v2 ||| (1 <<< (v3 &&& 31))) (v3 + 1)
    else
    M_setOf_L4 h c1 n (v2 ||| 0) (v3 + 1)
def M_setOf (h : Hp) (p1 : Int32) : Option (Int32) :=
  (M_setOf_L4 h p1 FU 0 0).bind fun r3 =>
  some r3
def M_manyOf_L4 (h : Hp) (c1 : Int32) : Nat → Int32 → Int32 → Option (Int32)
  | 0, _, _ => none
  | n + 1, v2, v3 =>
    (rdO 106 (rd h 141) 2).bind fun t1 =>
    if t1 ≤ v3 then
    some v2
    else
    (M_of h v3 1).bind fun t2 =>
    if t2 = c1 then
    M_manyOf_L4 h c1 n (v2 + 1) (v3 + 1)
    else
    M_manyOf_L4 h c1 n (v2 + 0) (v3 + 1)
def M_manyOf (h : Hp) (p1 : Int32) : Option (Int32) :=
  (M_manyOf_L4 h p1 FU 0 0).bind fun r3 =>
  some r3
def M_fadedClips (h : Hp) : Option (Int32 × Hp) :=
  nm (up2 h 140 15 0) fun h1 =>
  (M_setOf h1 2).bind fun t2 =>
  some (t2, h1)
def M_allFat_L4 (h : Hp) : Nat → Int32 → Int32 → Option (Int32)
  | 0, _, _ => none
  | n + 1, v1, v2 =>
    (rdO 106 (rd h 141) 2).bind fun t1 =>
    if t1 ≤ v2 then
    some v1
    else
    (M_of h v2 2).bind fun t2 =>
    M_allFat_L4 h n (v1 + t2) (v2 + 1)
def M_allFat (h : Hp) : Option (Int32) :=
  (M_allFat_L4 h FU 0 0).bind fun r3 =>
  some r3
def M_meanFat (h : Hp) : Option (UInt64 × Hp) :=
  nm (up2 h 140 15 0) fun h1 =>
  (rdO 106 (rd h1 141) 2).bind fun t2 =>
  (M_manyOf h1 2).bind fun t3 =>
  if (t2 - t3) = 0 then
  some (0, h1)
  else
  (M_allFat h1).bind fun t4 =>
  (ddivO (FP.i2d t4) (FP.i2d (t2 - t3))).bind fun t5 =>
  some (t5, h1)
def M_sleepShare (h : Hp) : Option (UInt32 × Hp) :=
  nm (up2 h 140 15 0) fun h1 =>
  (rdO 106 (rd h1 141) 2).bind fun t2 =>
  if t2 = 0 then
  some (0, h1)
  else
  (M_manyOf h1 1).bind fun t3 =>
  (rdO 106 (rd h1 141) 2).bind fun t4 =>
  (fdivO (FP.i2f t3) (FP.i2f t4)).bind fun t5 =>
  some (t5, h1)
def M_bedsWith_L17 (h : Hp) (c1 : Int32) (c3 : Int32) : Nat → Int32 → Int32 → Option (Int32)
  | 0, _, _ => none
  | n + 1, v2, v4 =>
    (M_beds h c3).bind fun t2 =>
    if t2 ≤ v4 then
    some v2
    else
    (M_inBed h c3 v4).bind fun t3 =>
    if t3 = c1 then
    M_bedsWith_L17 h c1 c3 n (v2 + 1) (v4 + 1)
    else
    M_bedsWith_L17 h c1 c3 n (v2 + 0) (v4 + 1)
def M_bedsWith_L4 (h : Hp) (c1 : Int32) : Nat → Int32 → Int32 → Option (Int32)
  | 0, _, _ => none
  | n + 1, v2, v3 =>
    (rdO 106 (rd h 141) 3).bind fun t1 =>
    if t1 ≤ v3 then
    some v2
    else
    (M_bedsWith_L17 h c1 v3 FU v2 0).bind fun r4 =>
    M_bedsWith_L4 h c1 n r4 (v3 + 1)
def M_bedsWith (h : Hp) (p1 : Int32) : Option (Int32) :=
  (M_bedsWith_L4 h p1 FU 0 0).bind fun r5 =>
  some r5
def M_isLost (h : Hp) (p1 : Int32) : Option (Bool) :=
  (M_bedsWith h p1).bind fun t1 =>
  if t1 = 1 then
  (M_reelWith h p1).bind fun t2 =>
  (M_looks h p1 t2).bind fun t3 =>
  (M_onWay h p1 t2 (t3 - 1)).bind fun t4 =>
  (M_inBed h t2 t4).bind fun t5 =>
  if t5 = p1 then
  some false
  else
  some true
  else
  some true
def M_violations_L48 (h : Hp) : Nat → Int32 → Int32 → Option (Int32)
  | 0, _, _ => none
  | n + 1, v2, v3 =>
    (rdO 106 (rd h 141) 2).bind fun t6 =>
    if t6 ≤ v3 then
    some v2
    else
    (M_of h v3 1).bind fun t7 =>
    if t7 = 1 then
    (M_isLost h v3).bind fun t8 =>
    if (b2i t8) = 0 then
    M_violations_L48 h n (v2 + 0) (v3 + 1)
    else
    M_violations_L48 h n (v2 + 1) (v3 + 1)
    else
    (M_bedsWith h v3).bind fun t9 =>
    M_violations_L48 h n (v2 + t9) (v3 + 1)
def M_violations (h : Hp) : Option (Int32 × Hp) :=
  nm (up2 h 140 15 0) fun h1 =>
  (rdO 106 (rd h1 141) 2).bind fun t2 =>
  (rdO 106 (rd h1 141) 6).bind fun t3 =>
  (M_allFat h1).bind fun t4 =>
  (rdO 106 (rd h1 141) 5).bind fun t5 =>
  lt (α := Int32 → Option (Int32 × Hp)) (fun (z0_45 : Int32) =>
  (M_violations_L48 h1 FU z0_45 0).bind fun r10 =>
  some (r10, h1)) fun j45 =>
  if 0 ≤ ((((40 * t2) + t3) - t4) - t5) then
  j45 ((((40 * t2) + t3) - t4) - t5)
  else
  j45 (-((((40 * t2) + t3) - t4) - t5))
def M_write (h : Hp) (p1 : Int32) : Option (Hp) :=
  (wrO h 148 90 (rd h 140 14) (i2cI (i2cI p1))).bind fun h1 =>
  nm (up2 h1 140 14 ((rd h1 140 14) + 1)) fun h2 =>
  some h2
def M_writeNumber_0 (h : Hp) (p1 : Int32) : Option (Hp) :=
  if p1 ≤ 9 then
  (M_write h (48 + (p1 - p1 / 10 * 10))).bind fun h2 =>
  some h2
  else
  none
def M_writeNumber_1 (h : Hp) (p1 : Int32) : Option (Hp) :=
  lt (α := Hp → Option (Hp)) (fun (h_14 : Hp) =>
  (M_write h_14 (48 + (p1 - p1 / 10 * 10))).bind fun h2 =>
  some h2) fun j14 =>
  if p1 ≤ 9 then
  j14 h
  else
  (M_writeNumber_0 h (p1 / 10)).bind fun h4 =>
  j14 h4
def M_writeNumber_2 (h : Hp) (p1 : Int32) : Option (Hp) :=
  lt (α := Hp → Option (Hp)) (fun (h_14 : Hp) =>
  (M_write h_14 (48 + (p1 - p1 / 10 * 10))).bind fun h2 =>
  some h2) fun j14 =>
  if p1 ≤ 9 then
  j14 h
  else
  (M_writeNumber_1 h (p1 / 10)).bind fun h4 =>
  j14 h4
def M_writeNumber_3 (h : Hp) (p1 : Int32) : Option (Hp) :=
  lt (α := Hp → Option (Hp)) (fun (h_14 : Hp) =>
  (M_write h_14 (48 + (p1 - p1 / 10 * 10))).bind fun h2 =>
  some h2) fun j14 =>
  if p1 ≤ 9 then
  j14 h
  else
  (M_writeNumber_2 h (p1 / 10)).bind fun h4 =>
  j14 h4
def M_writeNumber_4 (h : Hp) (p1 : Int32) : Option (Hp) :=
  lt (α := Hp → Option (Hp)) (fun (h_14 : Hp) =>
  (M_write h_14 (48 + (p1 - p1 / 10 * 10))).bind fun h2 =>
  some h2) fun j14 =>
  if p1 ≤ 9 then
  j14 h
  else
  (M_writeNumber_3 h (p1 / 10)).bind fun h4 =>
  j14 h4
def M_writeNumber_5 (h : Hp) (p1 : Int32) : Option (Hp) :=
  lt (α := Hp → Option (Hp)) (fun (h_14 : Hp) =>
  (M_write h_14 (48 + (p1 - p1 / 10 * 10))).bind fun h2 =>
  some h2) fun j14 =>
  if p1 ≤ 9 then
  j14 h
  else
  (M_writeNumber_4 h (p1 / 10)).bind fun h4 =>
  j14 h4
def M_writeNumber_6 (h : Hp) (p1 : Int32) : Option (Hp) :=
  lt (α := Hp → Option (Hp)) (fun (h_14 : Hp) =>
  (M_write h_14 (48 + (p1 - p1 / 10 * 10))).bind fun h2 =>
  some h2) fun j14 =>
  if p1 ≤ 9 then
  j14 h
  else
  (M_writeNumber_5 h (p1 / 10)).bind fun h4 =>
  j14 h4
def M_writeNumber_7 (h : Hp) (p1 : Int32) : Option (Hp) :=
  lt (α := Hp → Option (Hp)) (fun (h_14 : Hp) =>
  (M_write h_14 (48 + (p1 - p1 / 10 * 10))).bind fun h2 =>
  some h2) fun j14 =>
  if p1 ≤ 9 then
  j14 h
  else
  (M_writeNumber_6 h (p1 / 10)).bind fun h4 =>
  j14 h4
def M_writeNumber_8 (h : Hp) (p1 : Int32) : Option (Hp) :=
  lt (α := Hp → Option (Hp)) (fun (h_14 : Hp) =>
  (M_write h_14 (48 + (p1 - p1 / 10 * 10))).bind fun h2 =>
  some h2) fun j14 =>
  if p1 ≤ 9 then
  j14 h
  else
  (M_writeNumber_7 h (p1 / 10)).bind fun h4 =>
  j14 h4
def M_writeBed (h : Hp) (p1 : Int32) : Option (Hp) :=
  if p1 = (-1) then
  (M_write h 45).bind fun h2 =>
  some h2
  else
  if p1 = (-2) then
  (M_write h 126).bind fun h4 =>
  some h4
  else
  (M_of h p1 0).bind fun t5 =>
  (M_writeNumber_8 h t5).bind fun h7 =>
  some h7
def M_writeReel_L29 (c1 : Int32) : Nat → Int32 → Hp → Option (Hp)
  | 0, _, _ => none
  | n + 1, v2, h =>
    (M_beds h c1).bind fun t5 =>
    if t5 ≤ v2 then
    some h
    else
    lt (α := Hp → Option (Hp)) (fun (h_48 : Hp) =>
    (M_inBed h_48 c1 v2).bind fun t6 =>
    (M_writeBed h_48 t6).bind fun h8 =>
    M_writeReel_L29 c1 n (v2 + 1) h8) fun j48 =>
    if v2 ≤ 0 then
    j48 h
    else
    (M_write h 32).bind fun h10 =>
    j48 h10
def M_writeReel (h : Hp) (p1 : Int32) : Option (Int32 × Hp) :=
  (M_isReel h p1).bind fun t1 =>
  lt (α := Bool → Option (Int32 × Hp)) (fun (z0_14 : Bool) =>
  (M_throwsOne h z0_14).bind fun (t2, h3) =>
  if (b2i t2) = 0 then
  nm (up2 h3 140 14 0) fun h4 =>
  (M_writeReel_L29 p1 FU 0 h4).bind fun r11 =>
  some ((rd r11 140 14), r11)
  else
  some (0, h3)) fun j14 =>
  if (b2i t1) = 0 then
  j14 true
  else
  j14 false
def M_reportByte (h : Hp) (p1 : Int32) : Option (Int32 × Hp) :=
  nm (up2 h 140 15 0) fun h1 =>
  (M_in p1 0 ((rd h1 140 14) - 1)).bind fun t2 =>
  if (b2i t2) = 0 then
  some ((-1), h1)
  else
  (rdO 90 (rd h1 148) p1).bind fun t3 =>
  some (t3, h1)
end FunM
