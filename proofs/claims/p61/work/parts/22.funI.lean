noncomputable section FunI
def hX0 : Hp := up2 (up2 [] 47 3 5) 35 3 (-1)
def C_init : Option Hp :=
  (T_addSigns hX0 113).bind fun h2 =>
  (S_run h2).bind fun h4 =>
  (A_copyFrom h4 1 36).bind fun h6 =>
  some h6
def M_init (h : Hp) : Option Hp :=
  nm (up2 h 140 12 (-1)) fun h0 =>
  (M_tell h0 114).bind fun h2 =>
  (M_tell h2 115).bind fun h4 =>
  (M_parses h4).bind fun (t5, h6) =>
  nm (up2 h6 140 15 0) fun h7 =>
  some h7
end FunI
