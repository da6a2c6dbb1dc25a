noncomputable section FunI
def hX0 : Hp := up2 (up2 [] 47 3 5) 35 3 (-1)
def C_init : Option Hp :=
  (T_addSigns hX0 113).bind fun h2 =>
  (S_run h2).bind fun h4 =>
  (A_copyFrom h4 1 36).bind fun h6 =>
  some h6
end FunI
