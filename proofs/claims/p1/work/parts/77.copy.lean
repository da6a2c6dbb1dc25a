/-! ===== the model over the number of its row w alone; cuts with an oracle in place of the match ===== -/
noncomputable def wrN (r N : Nat) (i x : Int32) : Option Nat := if i < 0 ∨ N ≤ i.toNatClampNeg then none else some (rst r i.toNatClampNeg x)
noncomputable section
def N_of (h : Nat) (p1 : Int32) (p2 : Int32) : Option (Int32) :=
  (rdO 106 (rgt h) ((8 + (4 * p1)) + p2)).bind fun t1 =>
  some t1
def N_to (h : Nat) (p1 : Int32) (p2 : Int32) (p3 : Int32) : Option (Nat) :=
  (wrN h 106 ((8 + (4 * p1)) + p2) p3).bind fun h1 =>
  some h1
def N_scene (h : Nat) (p1 : Int32) (p2 : Int32) : Option (Int32) :=
  (rdO 106 (rgt h) ((96 + (2 * p1)) + p2)).bind fun t1 =>
  some t1
def N_beds (h : Nat) (p1 : Int32) : Option (Int32) :=
  (rdO 106 (rgt h) (56 + p1)).bind fun t1 =>
  some t1
def N_inBed (h : Nat) (p1 : Int32) (p2 : Int32) : Option (Int32) :=
  (rdO 106 (rgt h) ((60 + (9 * p1)) + p2)).bind fun t1 =>
  some t1
def N_setBed (h : Nat) (p1 : Int32) (p2 : Int32) (p3 : Int32) : Option (Nat) :=
  (wrN h 106 ((60 + (9 * p1)) + p2) p3).bind fun h1 =>
  some h1
def N_bedWith_L2 (h : Nat) (c1 : Int32) (c2 : Int32) : Nat → Int32 → Option ((Unit) ⊕ (Int32))
  | 0, _ => none
  | n + 1, v3 =>
    (N_beds h c2).bind fun t1 =>
    if t1 ≤ v3 then
    some (.inl ())
    else
    (N_inBed h c2 v3).bind fun t2 =>
    if t2 = c1 then
    some (.inr v3)
    else
    N_bedWith_L2 h c1 c2 n (v3 + 1)
def N_bedWith (h : Nat) (p1 : Int32) (p2 : Int32) : Option (Int32) :=
  (N_bedWith_L2 h p1 p2 FU 0).bind fun r3 => match r3 with
  | .inr y => some y
  | .inl () =>
  some (-1)
def N_reelWith_L2 (h : Nat) (c1 : Int32) : Nat → Int32 → Option ((Unit) ⊕ (Int32))
  | 0, _ => none
  | n + 1, v2 =>
    (rdO 106 (rgt h) 3).bind fun t1 =>
    if t1 ≤ v2 then
    some (.inl ())
    else
    (N_bedWith h c1 v2).bind fun t2 =>
    if t2 = (-1) then
    N_reelWith_L2 h c1 n (v2 + 1)
    else
    some (.inr v2)
def N_reelWith (h : Nat) (p1 : Int32) : Option (Int32) :=
  (N_reelWith_L2 h p1 FU 0).bind fun r3 => match r3 with
  | .inr y => some y
  | .inl () =>
  some (-1)
def N_leaves (h : Nat) (p1 : Int32) (p2 : Int32) : Option (Int32 × Nat) :=
  (N_reelWith h p1).bind fun t1 =>
  lt (α := Nat → Option (Int32 × Nat)) (fun (h_24 : Nat) =>
  (N_to h_24 p1 1 p2).bind fun h3 =>
  some (t1, h3)) fun j24 =>
  if t1 = (-1) then
  j24 h
  else
  (N_bedWith h p1 t1).bind fun t4 =>
  (N_setBed h t1 t4 (-2)).bind fun h6 =>
  j24 h6
def N_burns (h : Nat) (p1 : Int32) : Option (Bool × Nat) :=
  (N_of h p1 1).bind fun t1 =>
  if t1 = 2 then
  some (false, h)
  else
  (N_of h p1 2).bind fun t2 =>
  (N_of h p1 1).bind fun t3 =>
  lt (α := Int32 → Option (Bool × Nat)) (fun (z0_33 : Int32) =>
  (N_of h p1 2).bind fun t4 =>
  (N_to h p1 2 (t4 - (mnI t2 z0_33))).bind fun h6 =>
  (rdO 106 (rgt h6) 5).bind fun t7 =>
  (wrN h6 106 5 (t7 + (mnI t2 z0_33))).bind fun h8 =>
  (N_of h8 p1 2).bind fun t9 =>
  lt (α := Nat → Option (Bool × Nat)) (fun (h_77 : Nat) =>
  (N_of h_77 p1 2).bind fun t10 =>
  if t10 = 0 then
  some (true, h_77)
  else
  some (false, h_77)) fun j77 =>
  if t9 = 0 then
  (N_leaves h8 p1 2).bind fun (t11, h12) =>
  j77 h12
  else
  j77 h8) fun j33 =>
  if t3 = 1 then
  j33 1
  else
  j33 4
def N_passes_L22 : Nat → Int32 → Int32 → Nat → Option (Int32 × Nat)
  | 0, _, _, _ => none
  | n + 1, v2, v4, h =>
    (rdO 106 (rgt h) 2).bind fun t3 =>
    if t3 ≤ v4 then
    some (v2, h)
    else
    (N_burns h v4).bind fun (t4, h5) =>
    if (b2i t4) = 0 then
    N_passes_L22 n (v2 + 0) (v4 + 1) h5
    else
    N_passes_L22 n (v2 + 1) (v4 + 1) h5
def N_passes_L59 : Nat → Int32 → Nat → Option (Nat)
  | 0, _, _ => none
  | n + 1, v4, h =>
    (rdO 106 (rgt h) 4).bind fun t9 =>
    if t9 ≤ v4 then
    some h
    else
    (rdO 106 (rgt h) ((96 + (2 * v4)) + 0)).bind fun t10 =>
    (rdO 106 (rgt h) ((96 + (2 * v4)) + 1)).bind fun t11 =>
    (wrN h 106 ((96 + (2 * v4)) + 1) (mnI t10 (t11 + 1))).bind fun h12 =>
    N_passes_L59 n (v4 + 1) h12
def N_passes_L4 (c1 : Int32) : Nat → Int32 → Int32 → Nat → Option (Int32 × Nat)
  | 0, _, _, _ => none
  | n + 1, v2, v3, h =>
    if c1 ≤ v3 then
    some (v2, h)
    else
    (rdO 106 (rgt h) 0).bind fun t1 =>
    (wrN h 106 0 (t1 + 1)).bind fun h2 =>
    (N_passes_L22 FU v2 0 h2).bind fun r6 => match r6 with
    | (x2_7, h8) =>
    (N_passes_L59 FU 0 h8).bind fun r13 =>
    N_passes_L4 c1 n x2_7 (v3 + 1) r13
def N_passes (h : Nat) (p1 : Int32) : Option (Int32 × Nat) :=
  (N_passes_L4 p1 FU 0 0 h).bind fun r14 => match r14 with
  | (x2_15, h16) =>
  some (x2_15, h16)
def N_cuts_L19 (go : Int32 → Option Bool) (c1 : Int32) (c4 : Int32) : Nat → Int32 → Int32 → Nat → Option (Int32 × Nat)
  | 0, _, _, _ => none
  | n + 1, v3, v5, h =>
    (N_beds h c4).bind fun t2 =>
    if t2 ≤ v5 then
    some (v3, h)
    else
    (N_inBed h c4 v5).bind fun t3 =>
    if t3 < 0 then
    N_cuts_L19 go c1 c4 n v3 (v5 + 1) h
    else
    (N_scene h c1 1).bind fun t4 =>
    if t4 ≤ 0 then
    N_cuts_L19 go c1 c4 n v3 (v5 + 1) h
    else
    ((N_of h t3 0).bind go).bind fun t5 =>
    if t5 = true then
    N_cuts_L19 go c1 c4 n v3 (v5 + 1) h
    else
    (N_leaves h t3 0).bind fun (t6, h7) =>
    (N_to h7 t3 3 c1).bind fun h9 =>
    (rdO 106 (rgt h9) ((96 + (2 * c1)) + 1)).bind fun t10 =>
    (wrN h9 106 ((96 + (2 * c1)) + 1) (t10 - 1)).bind fun h11 =>
    (rdO 106 (rgt h11) 7).bind fun t12 =>
    (wrN h11 106 7 (t12 + 1)).bind fun h13 =>
    N_cuts_L19 go c1 c4 n (v3 ||| (1 <<< (t3 &&& 31))) (v5 + 1) h13
def N_cuts_L5 (go : Int32 → Option Bool) (c1 : Int32) : Nat → Int32 → Int32 → Nat → Option (Int32 × Nat)
  | 0, _, _, _ => none
  | n + 1, v3, v4, h =>
    (rdO 106 (rgt h) 3).bind fun t1 =>
    if t1 ≤ v4 then
    some (v3, h)
    else
    (N_cuts_L19 go c1 v4 FU v3 0 h).bind fun r14 => match r14 with
    | (x3_15, h16) =>
    N_cuts_L5 go c1 n x3_15 (v4 + 1) h16
def N_cuts (go : Int32 → Option Bool) (h : Nat) (p1 : Int32) (p2 : Int32) : Option (Int32 × Nat) :=
  (N_cuts_L5 go p1 FU 0 0 h).bind fun r17 => match r17 with
  | (x3_18, h19) =>
  some (x3_18, h19)
def O_cutScene_L17 (fo : Int32 → Option Bool) (a : Nat) (c1 : Int32) (c2 : Int32) (c4 : Int32) : Nat → Int32 → Int32 → Hp → Option (Int32 × Hp)
  | 0, _, _, _ => none
  | n + 1, v3, v5, h =>
    (rdO 4 (rd h (a + 7)) c4).bind fun t1 =>
    if t1 ≤ v5 then
    some (v3, h)
    else
    (A_inBed h a c4 v5).bind fun t2 =>
    (rdO 5 (rd h (a + 10)) c1).bind fun t3 =>
    if t3 ≤ 0 then
    O_cutScene_L17 fo a c1 c2 c4 n v3 (v5 + 1) h
    else
    if t2 < 0 then
    O_cutScene_L17 fo a c1 c2 c4 n v3 (v5 + 1) h
    else
    (fo t2).bind fun t4 =>
    if t4 = true then
    O_cutScene_L17 fo a c1 c2 c4 n v3 (v5 + 1) h
    else
    (rdO 5 (rd h (a + 10)) c1).bind fun t5 =>
    (wrO h (a + 10) 5 c1 (t5 - 1)).bind fun h6 =>
    nm (up2 h6 a 4 ((rd h6 a 4) + 1)) fun h7 =>
    (wrO h7 (a + 6) 12 t2 c1).bind fun h8 =>
    (wrO h8 (a + 4) 12 t2 0).bind fun h9 =>
    (A_setBed h9 a c4 v5 (-2)).bind fun h11 =>
    O_cutScene_L17 fo a c1 c2 c4 n (v3 ||| (1 <<< (t2 &&& 31))) (v5 + 1) h11
def O_cutScene_L5 (fo : Int32 → Option Bool) (a : Nat) (c1 : Int32) (c2 : Int32) : Nat → Int32 → Int32 → Hp → Option (Int32 × Hp)
  | 0, _, _, _ => none
  | n + 1, v3, v4, h =>
    if (rd h a 12) ≤ v4 then
    some (v3, h)
    else
    (O_cutScene_L17 fo a c1 c2 v4 FU v3 0 h).bind fun r12 => match r12 with
    | (x3_13, h14) =>
    O_cutScene_L5 fo a c1 c2 n x3_13 (v4 + 1) h14
def O_cutScene (fo : Int32 → Option Bool) (h : Hp) (a : Nat) (p1 : Int32) (p2 : Int32) : Option (Int32 × Hp) :=
  (O_cutScene_L5 fo a p1 p2 FU 0 0 h).bind fun r15 => match r15 with
  | (x3_16, h17) =>
  some (x3_16, h17)
end
