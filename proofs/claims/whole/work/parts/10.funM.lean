def M_in (p1 : Int32) (p2 : Int32) (p3 : Int32) : Option (Bool) :=
  if p1 < p2 then
  some false
  else
  if p3 < p1 then
  some false
  else
  some true
def M_throwsOne (h : Hp) (p1 : Bool) : Option (Bool × Hp) :=
  if (b2i p1) = 0 then
  nm (up2 h 140 15 0) fun h1 =>
  some (p1, h1)
  else
  nm (up2 h 140 15 1) fun h2 =>
  some (p1, h2)
def M_throwsOne2 (h : Hp) (p1 : Bool) (p2 : Bool) : Option (Bool × Hp) :=
  lt (fun (z0_18 : Int32) =>
  nm (up2 h 140 15 z0_18) fun h1 =>
  if (b2i p1) = 0 then
  if (b2i p2) = 0 then
  some (false, h1)
  else
  some (true, h1)
  else
  some (true, h1)) fun j18 =>
  if (b2i p1) = 0 then
  if (b2i p2) = 0 then
  j18 0
  else
  j18 2
  else
  j18 1
def M_throwsOne3 (h : Hp) (p1 : Bool) (p2 : Bool) (p3 : Bool) : Option (Bool × Hp) :=
  lt (fun (z0_26 : Int32) =>
  nm (up2 h 140 15 z0_26) fun h1 =>
  if (b2i p1) = 0 then
  if (b2i p2) = 0 then
  if (b2i p3) = 0 then
  some (false, h1)
  else
  some (true, h1)
  else
  some (true, h1)
  else
  some (true, h1)) fun j26 =>
  if (b2i p1) = 0 then
  if (b2i p2) = 0 then
  if (b2i p3) = 0 then
  j26 0
  else
  j26 3
  else
  j26 2
  else
  j26 1
def M_of (h : Hp) (p1 : Int32) (p2 : Int32) : Option (Int32) :=
  (rdO 106 (h 141) ((8 + (4 * p1)) + p2)).bind fun t1 =>
  some t1
def M_to (h : Hp) (p1 : Int32) (p2 : Int32) (p3 : Int32) : Option (Hp) :=
  (wrO h 141 106 ((8 + (4 * p1)) + p2) p3).bind fun h1 =>
  some h1
def M_beds (h : Hp) (p1 : Int32) : Option (Int32) :=
  (rdO 106 (h 141) (56 + p1)).bind fun t1 =>
  some t1
def M_inBed (h : Hp) (p1 : Int32) (p2 : Int32) : Option (Int32) :=
  (rdO 106 (h 141) ((60 + (9 * p1)) + p2)).bind fun t1 =>
  some t1
def M_setBed (h : Hp) (p1 : Int32) (p2 : Int32) (p3 : Int32) : Option (Hp) :=
  (wrO h 141 106 ((60 + (9 * p1)) + p2) p3).bind fun h1 =>
  some h1
def M_digits_L4 : Nat → Int32 → Int32 → Option (Int32)
  | 0, _, _ => none
  | n + 1, v1, v2 =>
    if v2 ≤ 0 then
    some v1
    else
    M_digits_L4 n (v1 + 1) (v2 / 10)
def M_digits (p1 : Int32) : Option (Int32) :=
  (M_digits_L4 FU 0 p1).bind fun r1 => match r1 with
  | x1_2 =>
  some x1_2
def M_digit_L9 (c1 : Int32) : Nat → Int32 → Int32 → Option (Int32)
  | 0, _, _ => none
  | n + 1, v2, v3 =>
    if v3 ≤ c1 then
    some v2
    else
    M_digit_L9 c1 n (v2 / 10) (v3 + (-1))
def M_digit (p1 : Int32) (p2 : Int32) : Option (Int32) :=
  (M_digits p1).bind fun t1 =>
  (M_digit_L9 p2 FU p1 (t1 - 1)).bind fun r2 => match r2 with
  | x2_3 =>
  some (x2_3 - x2_3 / 10 * 10)
def M_hasZero_L2 : Nat → Int32 → Option ((Unit) ⊕ (Bool))
  | 0, _ => none
  | n + 1, v1 =>
    if v1 ≤ 0 then
    some (.inl ())
    else
    if (v1 - v1 / 10 * 10) = 0 then
    some (.inr true)
    else
    M_hasZero_L2 n (v1 / 10)
def M_hasZero (p1 : Int32) : Option (Bool) :=
  (M_hasZero_L2 FU p1).bind fun r1 => match r1 with
  | .inr y => some y
  | .inl () =>
  some false
def M_areColours (p1 : Int32) : Option (Bool) :=
  (M_in p1 1 99999999).bind fun t1 =>
  if (b2i t1) = 0 then
  some false
  else
  (M_hasZero p1).bind fun t2 =>
  if (b2i t2) = 0 then
  some true
  else
  some false
def M_hashOf_L4 (h : Hp) (c1 : Int32) : Nat → Int32 → Int32 → Option (Int32)
  | 0, _, _ => none
  | n + 1, v2, v3 =>
    (M_of h c1 0).bind fun t1 =>
    (M_digits t1).bind fun t2 =>
    if t2 ≤ v3 then
    some v2
    else
    (M_of h c1 0).bind fun t3 =>
    (M_digit t3 v3).bind fun t4 =>
    M_hashOf_L4 h c1 n (((31 * v2) + t4) - ((31 * v2) + t4) / 997 * 997) (v3 + 1)
def M_hashOf (h : Hp) (p1 : Int32) : Option (Int32) :=
  (M_hashOf_L4 h p1 FU 0 0).bind fun r5 => match r5 with
  | x2_6 =>
  some x2_6
def M_homeOf (h : Hp) (p1 : Int32) (p2 : Int32) : Option (Int32) :=
  (M_hashOf h p1).bind fun t1 =>
  (M_beds h p2).bind fun t2 =>
  (rmO t1 t2).bind fun t3 =>
  some t3
def M_onWay (h : Hp) (p1 : Int32) (p2 : Int32) (p3 : Int32) : Option (Int32) :=
  (M_homeOf h p1 p2).bind fun t1 =>
  (M_beds h p2).bind fun t2 =>
  (rmO (t1 + p3) t2).bind fun t3 =>
  some t3
def M_passedBy_L2 (h : Hp) (c1 : Int32) (c2 : Int32) : Nat → Int32 → Option ((Unit) ⊕ (Int32))
  | 0, _ => none
  | n + 1, v3 =>
    (M_beds h c2).bind fun t1 =>
    if t1 ≤ v3 then
    some (.inl ())
    else
    (M_onWay h c1 c2 v3).bind fun t2 =>
    (M_inBed h c2 t2).bind fun t3 =>
    if 0 ≤ t3 then
    M_passedBy_L2 h c1 c2 n (v3 + 1)
    else
    some (.inr v3)
def M_passedBy (h : Hp) (p1 : Int32) (p2 : Int32) : Option (Int32) :=
  (M_passedBy_L2 h p1 p2 FU 0).bind fun r4 => match r4 with
  | .inr y => some y
  | .inl () =>
  some (-1)
def M_looks_L2 (h : Hp) (c1 : Int32) (c2 : Int32) : Nat → Int32 → Option ((Unit) ⊕ (Int32))
  | 0, _ => none
  | n + 1, v3 =>
    (M_beds h c2).bind fun t1 =>
    if t1 ≤ v3 then
    some (.inl ())
    else
    (M_onWay h c1 c2 v3).bind fun t2 =>
    (M_inBed h c2 t2).bind fun t3 =>
    if t3 = c1 then
    some (.inr (v3 + 1))
    else
    if t3 = (-1) then
    some (.inr (v3 + 1))
    else
    M_looks_L2 h c1 c2 n (v3 + 1)
def M_looks (h : Hp) (p1 : Int32) (p2 : Int32) : Option (Int32) :=
  (M_looks_L2 h p1 p2 FU 0).bind fun r4 => match r4 with
  | .inr y => some y
  | .inl () =>
  (M_beds h p2).bind fun t5 =>
  some t5
