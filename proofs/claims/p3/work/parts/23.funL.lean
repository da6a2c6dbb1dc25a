noncomputable section FunL
def L_truncateInput (h : Hp) (p1 : Int32) : Option (Int32 × Hp) :=
  caB (C_truncateInput h p1) (fun i h9 =>
  if i = 1 then
  some (1, h9)
  else
  none) fun (t2, h1) =>
  nm (up2 h1 150 0 t2) fun h3 =>
  some (0, h3)
def L_addClip (h : Hp) (p1 : Int32) : Option (Int32 × Hp) :=
  caB (C_addClip h p1) (fun i h9 =>
  if i = 1 then
  some (1, h9)
  else
  if i = 2 then
  some (2, h9)
  else
  none) fun (t2, h1) =>
  nm (up2 h1 150 0 t2) fun h3 =>
  some (0, h3)
def L_addReel (h : Hp) (p1 : Int32) : Option (Int32 × Hp) :=
  caB (C_addReel h p1) (fun i h9 =>
  if i = 1 then
  some (1, h9)
  else
  if i = 2 then
  some (2, h9)
  else
  none) fun (t2, h1) =>
  nm (up2 h1 150 0 t2) fun h3 =>
  some (0, h3)
def L_addScene (h : Hp) (p1 : Int32) : Option (Int32 × Hp) :=
  caB (C_addScene h p1) (fun i h9 =>
  if i = 1 then
  some (1, h9)
  else
  if i = 2 then
  some (2, h9)
  else
  none) fun (t2, h1) =>
  nm (up2 h1 150 0 t2) fun h3 =>
  some (0, h3)
def L_sleep (h : Hp) (p1 : Int32) (p2 : Int32) : Option (Int32 × Hp) :=
  caB (C_sleep h p1 p2) (fun i h9 =>
  if i = 3 then
  some (1, h9)
  else
  if i = 2 then
  some (2, h9)
  else
  none) fun (t2, h1) =>
  nm (up2 h1 150 0 t2) fun h3 =>
  some (0, h3)
def L_wake (h : Hp) (p1 : Int32) : Option (Int32 × Hp) :=
  caB (C_wake h p1) (fun i h9 =>
  if i = 3 then
  some (1, h9)
  else
  if i = 2 then
  some (2, h9)
  else
  none) fun (t2, h1) =>
  nm (up2 h1 150 0 t2) fun h3 =>
  some (0, h3)
def L_cut (h : Hp) (p1 : Int32) (p2 : Int32) : Option (Int32 × Hp) :=
  caB (C_cut h p1 p2) (fun i h9 =>
  if i = 3 then
  some (1, h9)
  else
  if i = 1 then
  some (2, h9)
  else
  none) fun (t2, h1) =>
  nm (up2 h1 150 0 t2) fun h3 =>
  some (0, h3)
def L_air (h : Hp) (p1 : Int32) : Option (Int32 × Hp) :=
  caB (C_air h p1) (fun i h9 =>
  if i = 3 then
  some (1, h9)
  else
  none) fun (t2, h1) =>
  nm (up2 h1 150 0 t2) fun h3 =>
  some (0, h3)
def L_feed (h : Hp) (p1 : Int32) (p2 : Int32) : Option (Int32 × Hp) :=
  caB (C_feed h p1 p2) (fun i h9 =>
  if i = 3 then
  some (1, h9)
  else
  if i = 1 then
  some (2, h9)
  else
  if i = 2 then
  some (3, h9)
  else
  none) fun (t2, h1) =>
  nm (up2 h1 150 0 t2) fun h3 =>
  some (0, h3)
def L_addFood (h : Hp) (p1 : Int32) : Option (Int32 × Hp) :=
  caB (C_addFood h p1) (fun i h9 =>
  if i = 1 then
  some (1, h9)
  else
  if i = 2 then
  some (2, h9)
  else
  none) fun (t2, h1) =>
  nm (up2 h1 150 0 t2) fun h3 =>
  some (0, h3)
def L_paint (h : Hp) (p1 : Int32) (p2 : Int32) (p3 : Int32) : Option (Int32 × Hp) :=
  caB (C_paint h p1 p2 p3) (fun i h9 =>
  if i = 3 then
  some (1, h9)
  else
  if i = 1 then
  some (2, h9)
  else
  if i = 2 then
  some (3, h9)
  else
  none) fun (t2, h1) =>
  nm (up2 h1 150 0 t2) fun h3 =>
  some (0, h3)
def L_passWeeks (h : Hp) (p1 : Int32) : Option (Int32 × Hp) :=
  caB (C_passWeeks h p1) (fun i h9 =>
  if i = 1 then
  some (1, h9)
  else
  if i = 2 then
  some (2, h9)
  else
  none) fun (t2, h1) =>
  nm (up2 h1 150 0 t2) fun h3 =>
  some (0, h3)
def L_restoreSnapshot (h : Hp) : Option (Int32 × Hp) :=
  caB (C_restoreSnapshot h) (fun i h9 =>
  if i = 4 then
  some (1, h9)
  else
  none) fun (t2, h1) =>
  nm (up2 h1 150 0 t2) fun h3 =>
  some (0, h3)
def L_springs (h : Hp) (p1 : Int32) : Option (Int32 × Hp) :=
  caB (C_springs h p1) (fun i h9 =>
  if i = 3 then
  some (1, h9)
  else
  none) fun (t2, h1) =>
  nm (up2 h1 150 0 t2) fun h3 =>
  some (0, h3)
def L_state (h : Hp) (p1 : Int32) : Option (Int32 × Hp) :=
  caB (C_state h p1) (fun i h9 =>
  if i = 3 then
  some (1, h9)
  else
  none) fun (t2, h1) =>
  nm (up2 h1 150 0 t2) fun h3 =>
  some (0, h3)
def L_colours (h : Hp) (p1 : Int32) : Option (Int32 × Hp) :=
  caB (C_colours h p1) (fun i h9 =>
  if i = 3 then
  some (1, h9)
  else
  none) fun (t2, h1) =>
  nm (up2 h1 150 0 t2) fun h3 =>
  some (0, h3)
def L_length (h : Hp) (p1 : Int32) : Option (Int32 × Hp) :=
  caB (C_length h p1) (fun i h9 =>
  if i = 3 then
  some (1, h9)
  else
  none) fun (t2, h1) =>
  nm (up2 h1 150 0 t2) fun h3 =>
  some (0, h3)
def L_hash (h : Hp) (p1 : Int32) : Option (Int32 × Hp) :=
  caB (C_hash h p1) (fun i h9 =>
  if i = 3 then
  some (1, h9)
  else
  none) fun (t2, h1) =>
  nm (up2 h1 150 0 t2) fun h3 =>
  some (0, h3)
def L_fat (h : Hp) (p1 : Int32) : Option (Int32 × Hp) :=
  caB (C_fat h p1) (fun i h9 =>
  if i = 3 then
  some (1, h9)
  else
  none) fun (t2, h1) =>
  nm (up2 h1 150 0 t2) fun h3 =>
  some (0, h3)
def L_reelOf (h : Hp) (p1 : Int32) : Option (Int32 × Hp) :=
  caB (C_reelOf h p1) (fun i h9 =>
  if i = 3 then
  some (1, h9)
  else
  none) fun (t2, h1) =>
  nm (up2 h1 150 0 t2) fun h3 =>
  some (0, h3)
def L_bedOf (h : Hp) (p1 : Int32) : Option (Int32 × Hp) :=
  caB (C_bedOf h p1) (fun i h9 =>
  if i = 3 then
  some (1, h9)
  else
  none) fun (t2, h1) =>
  nm (up2 h1 150 0 t2) fun h3 =>
  some (0, h3)
def L_sceneOf (h : Hp) (p1 : Int32) : Option (Int32 × Hp) :=
  caB (C_sceneOf h p1) (fun i h9 =>
  if i = 3 then
  some (1, h9)
  else
  none) fun (t2, h1) =>
  nm (up2 h1 150 0 t2) fun h3 =>
  some (0, h3)
def L_commonRun (h : Hp) (p1 : Int32) (p2 : Int32) : Option (Int32 × Hp) :=
  caB (C_commonRun h p1 p2) (fun i h9 =>
  if i = 3 then
  some (1, h9)
  else
  none) fun (t2, h1) =>
  nm (up2 h1 150 0 t2) fun h3 =>
  some (0, h3)
def L_nearestClip (h : Hp) (p1 : Int32) : Option (Int32 × Hp) :=
  caB (C_nearestClip h p1) (fun i h9 =>
  if i = 3 then
  some (1, h9)
  else
  none) fun (t2, h1) =>
  nm (up2 h1 150 0 t2) fun h3 =>
  some (0, h3)
def L_twinsOf (h : Hp) (p1 : Int32) : Option (Int32 × Hp) :=
  caB (C_twinsOf h p1) (fun i h9 =>
  if i = 3 then
  some (1, h9)
  else
  none) fun (t2, h1) =>
  nm (up2 h1 150 0 t2) fun h3 =>
  some (0, h3)
def L_weeksToFade (h : Hp) (p1 : Int32) : Option (Int32 × Hp) :=
  caB (C_weeksToFade h p1) (fun i h9 =>
  if i = 3 then
  some (1, h9)
  else
  none) fun (t2, h1) =>
  nm (up2 h1 150 0 t2) fun h3 =>
  some (0, h3)
def L_bedCount (h : Hp) (p1 : Int32) : Option (Int32 × Hp) :=
  caB (C_bedCount h p1) (fun i h9 =>
  if i = 3 then
  some (1, h9)
  else
  none) fun (t2, h1) =>
  nm (up2 h1 150 0 t2) fun h3 =>
  some (0, h3)
def L_bed (h : Hp) (p1 : Int32) (p2 : Int32) : Option (Int32 × Hp) :=
  caB (C_bed h p1 p2) (fun i h9 =>
  if i = 3 then
  some (1, h9)
  else
  none) fun (t2, h1) =>
  nm (up2 h1 150 0 t2) fun h3 =>
  some (0, h3)
def L_sleepers (h : Hp) (p1 : Int32) : Option (Int32 × Hp) :=
  caB (C_sleepers h p1) (fun i h9 =>
  if i = 3 then
  some (1, h9)
  else
  none) fun (t2, h1) =>
  nm (up2 h1 150 0 t2) fun h3 =>
  some (0, h3)
def L_home (h : Hp) (p1 : Int32) (p2 : Int32) : Option (Int32 × Hp) :=
  caB (C_home h p1 p2) (fun i h9 =>
  if i = 3 then
  some (1, h9)
  else
  none) fun (t2, h1) =>
  nm (up2 h1 150 0 t2) fun h3 =>
  some (0, h3)
def L_whyNoSleep (h : Hp) (p1 : Int32) (p2 : Int32) : Option (Int32 × Hp) :=
  caB (C_whyNoSleep h p1 p2) (fun i h9 =>
  if i = 3 then
  some (1, h9)
  else
  none) fun (t2, h1) =>
  nm (up2 h1 150 0 t2) fun h3 =>
  some (0, h3)
def L_bedFor (h : Hp) (p1 : Int32) (p2 : Int32) : Option (Int32 × Hp) :=
  caB (C_bedFor h p1 p2) (fun i h9 =>
  if i = 3 then
  some (1, h9)
  else
  none) fun (t2, h1) =>
  nm (up2 h1 150 0 t2) fun h3 =>
  some (0, h3)
def L_looksFor (h : Hp) (p1 : Int32) (p2 : Int32) : Option (Int32 × Hp) :=
  caB (C_looksFor h p1 p2) (fun i h9 =>
  if i = 3 then
  some (1, h9)
  else
  none) fun (t2, h1) =>
  nm (up2 h1 150 0 t2) fun h3 =>
  some (0, h3)
def L_longestLook (h : Hp) (p1 : Int32) : Option (Int32 × Hp) :=
  caB (C_longestLook h p1) (fun i h9 =>
  if i = 3 then
  some (1, h9)
  else
  none) fun (t2, h1) =>
  nm (up2 h1 150 0 t2) fun h3 =>
  some (0, h3)
def L_looksIfAired (h : Hp) (p1 : Int32) : Option (Int32 × Hp) :=
  caB (C_looksIfAired h p1) (fun i h9 =>
  if i = 3 then
  some (1, h9)
  else
  none) fun (t2, h1) =>
  nm (up2 h1 150 0 t2) fun h3 =>
  some (0, h3)
def L_longestCluster (h : Hp) (p1 : Int32) : Option (Int32 × Hp) :=
  caB (C_longestCluster h p1) (fun i h9 =>
  if i = 3 then
  some (1, h9)
  else
  none) fun (t2, h1) =>
  nm (up2 h1 150 0 t2) fun h3 =>
  some (0, h3)
def L_bestReel (h : Hp) (p1 : Int32) : Option (Int32 × Hp) :=
  caB (C_bestReel h p1) (fun i h9 =>
  if i = 3 then
  some (1, h9)
  else
  none) fun (t2, h1) =>
  nm (up2 h1 150 0 t2) fun h3 =>
  some (0, h3)
def L_matches (h : Hp) (p1 : Int32) (p2 : Int32) : Option (Int32 × Hp) :=
  caB (C_matches h p1 p2) (fun i h9 =>
  if i = 3 then
  some (1, h9)
  else
  if i = 1 then
  some (2, h9)
  else
  none) fun (t2, h1) =>
  if (b2i t2) = 0 then
  nm (up2 h1 150 0 0) fun h3 =>
  some (0, h3)
  else
  nm (up2 h1 150 0 1) fun h4 =>
  some (0, h4)
def L_matchingSleepers (h : Hp) (p1 : Int32) : Option (Int32 × Hp) :=
  caB (C_matchingSleepers h p1) (fun i h9 =>
  if i = 1 then
  some (1, h9)
  else
  none) fun (t2, h1) =>
  nm (up2 h1 150 0 t2) fun h3 =>
  some (0, h3)
def L_wokenBy (h : Hp) (p1 : Int32) (p2 : Int32) : Option (Int32 × Hp) :=
  caB (C_wokenBy h p1 p2) (fun i h9 =>
  if i = 3 then
  some (1, h9)
  else
  if i = 1 then
  some (2, h9)
  else
  none) fun (t2, h1) =>
  nm (up2 h1 150 0 t2) fun h3 =>
  some (0, h3)
def L_firstMatch (h : Hp) (p1 : Int32) (p2 : Int32) : Option (Int32 × Hp) :=
  caB (C_firstMatch h p1 p2) (fun i h9 =>
  if i = 3 then
  some (1, h9)
  else
  if i = 1 then
  some (2, h9)
  else
  none) fun (t2, h1) =>
  nm (up2 h1 150 0 t2) fun h3 =>
  some (0, h3)
def L_bestPattern (h : Hp) (p1 : Int32) : Option (Int32 × Hp) :=
  caB (C_bestPattern h p1) (fun i h9 =>
  if i = 3 then
  some (1, h9)
  else
  none) fun (t2, h1) =>
  nm (up2 h1 150 0 t2) fun h3 =>
  some (0, h3)
def L_writeReel (h : Hp) (p1 : Int32) : Option (Int32 × Hp) :=
  caB (C_writeReel h p1) (fun i h9 =>
  if i = 3 then
  some (1, h9)
  else
  none) fun (t2, h1) =>
  nm (up2 h1 150 0 t2) fun h3 =>
  some (0, h3)
def K_0 (h : Hp) (a1 : Int32) (a2 : Int32) (a3 : Int32) (a4 : Int32) (a5 : Int32) : Option Hp :=
  (C_append h a1 a2 a3 a4 a5).bind fun (t1, h2) =>
  (M_append h2 a1 a2 a3 a4 a5).bind fun (t3, h4) =>
  some h4
def K_1 (h : Hp) (a1 : Int32) : Option Hp :=
  (L_truncateInput h a1).bind fun (t1, h2) =>
  (M_truncateInput h2 a1).bind fun (t3, h4) =>
  (M_thrown h4).bind fun t5 =>
  if t5 = t1 then
  if t1 = 0 then
  if (lg_cmp (((rd h4 150 0) : Int32)).toInt64 ((t3 : Int32)).toInt64) = 0 then
  some h4
  else
  none
  else
  some h4
  else
  none
def K_2 (h : Hp) : Option Hp :=
  (C_runScript h).bind fun (t1, h2) =>
  (M_runScript h2).bind fun (t3, h4) =>
  some h4
def K_3 (h : Hp) (a1 : Int32) : Option Hp :=
  (L_addClip h a1).bind fun (t1, h2) =>
  (M_addClip h2 a1).bind fun (t3, h4) =>
  some h4
def K_4 (h : Hp) (a1 : Int32) : Option Hp :=
  (L_addReel h a1).bind fun (t1, h2) =>
  (M_addReel h2 a1).bind fun (t3, h4) =>
  some h4
def K_5 (h : Hp) (a1 : Int32) : Option Hp :=
  (L_addScene h a1).bind fun (t1, h2) =>
  (M_addScene h2 a1).bind fun (t3, h4) =>
  some h4
def K_6 (h : Hp) (a1 : Int32) (a2 : Int32) : Option Hp :=
  (L_sleep h a1 a2).bind fun (t1, h2) =>
  (M_sleep h2 a1 a2).bind fun (t3, h4) =>
  some h4
def K_7 (h : Hp) (a1 : Int32) : Option Hp :=
  (L_wake h a1).bind fun (t1, h2) =>
  (M_wake h2 a1).bind fun (t3, h4) =>
  some h4
def K_8 (h : Hp) (a1 : Int32) (a2 : Int32) : Option Hp :=
  (L_cut h a1 a2).bind fun (t1, h2) =>
  (M_cut h2 a1 a2).bind fun (t3, h4) =>
  some h4
def K_9 (h : Hp) (a1 : Int32) : Option Hp :=
  (L_air h a1).bind fun (t1, h2) =>
  (M_air h2 a1).bind fun (t3, h4) =>
  some h4
def K_10 (h : Hp) (a1 : Int32) (a2 : Int32) : Option Hp :=
  (L_feed h a1 a2).bind fun (t1, h2) =>
  (M_feed h2 a1 a2).bind fun (t3, h4) =>
  some h4
def K_11 (h : Hp) (a1 : Int32) : Option Hp :=
  (L_addFood h a1).bind fun (t1, h2) =>
  (M_addFood h2 a1).bind fun (t3, h4) =>
  some h4
def K_12 (h : Hp) (a1 : Int32) (a2 : Int32) (a3 : Int32) : Option Hp :=
  (L_paint h a1 a2 a3).bind fun (t1, h2) =>
  (M_paint h2 a1 a2 a3).bind fun (t3, h4) =>
  some h4
def K_13 (h : Hp) (a1 : Int32) : Option Hp :=
  (L_passWeeks h a1).bind fun (t1, h2) =>
  (M_passWeeks h2 a1).bind fun (t3, h4) =>
  some h4
def K_14 (h : Hp) : Option Hp :=
  (C_undo h).bind fun (t1, h2) =>
  (M_undo h2).bind fun (t3, h4) =>
  some h4
def K_15 (h : Hp) : Option Hp :=
  (C_undoCount h).bind fun t1 =>
  (M_undoCount h).bind fun (t2, h3) =>
  some h3
def K_16 (h : Hp) : Option Hp :=
  (C_saveSnapshot h).bind fun (t1, h2) =>
  (M_saveSnapshot h2).bind fun (t3, h4) =>
  some h4
def K_17 (h : Hp) : Option Hp :=
  (L_restoreSnapshot h).bind fun (t1, h2) =>
  (M_restoreSnapshot h2).bind fun (t3, h4) =>
  some h4
def K_18 (h : Hp) : Option Hp :=
  (C_scriptErrorKind h).bind fun t1 =>
  (M_scriptErrorKind h).bind fun (t2, h3) =>
  some h3
def K_19 (h : Hp) : Option Hp :=
  (C_scriptErrorOffset h).bind fun t1 =>
  (M_scriptErrorOffset h).bind fun (t2, h3) =>
  some h3
def K_20 (h : Hp) : Option Hp :=
  (C_week h).bind fun t1 =>
  (M_week h).bind fun (t2, h3) =>
  some h3
def K_21 (h : Hp) : Option Hp :=
  (C_food h).bind fun t1 =>
  (M_food h).bind fun (t2, h3) =>
  some h3
def K_22 (h : Hp) : Option Hp :=
  (C_clipCount h).bind fun t1 =>
  (M_clipCount h).bind fun (t2, h3) =>
  some h3
def K_23 (h : Hp) : Option Hp :=
  (C_reelCount h).bind fun t1 =>
  (M_reelCount h).bind fun (t2, h3) =>
  some h3
def K_24 (h : Hp) : Option Hp :=
  (C_sceneCount h).bind fun t1 =>
  (M_sceneCount h).bind fun (t2, h3) =>
  some h3
def K_25 (h : Hp) (a1 : Int32) : Option Hp :=
  (L_springs h a1).bind fun (t1, h2) =>
  (M_springs h2 a1).bind fun (t3, h4) =>
  some h4
def K_26 (h : Hp) (a1 : Int32) : Option Hp :=
  (L_state h a1).bind fun (t1, h2) =>
  (M_state h2 a1).bind fun (t3, h4) =>
  some h4
def K_27 (h : Hp) (a1 : Int32) : Option Hp :=
  (L_colours h a1).bind fun (t1, h2) =>
  (M_colours h2 a1).bind fun (t3, h4) =>
  some h4
def K_28 (h : Hp) (a1 : Int32) : Option Hp :=
  (L_length h a1).bind fun (t1, h2) =>
  (M_length h2 a1).bind fun (t3, h4) =>
  some h4
def K_29 (h : Hp) (a1 : Int32) : Option Hp :=
  (L_hash h a1).bind fun (t1, h2) =>
  (M_hash h2 a1).bind fun (t3, h4) =>
  some h4
def K_30 (h : Hp) (a1 : Int32) : Option Hp :=
  (L_fat h a1).bind fun (t1, h2) =>
  (M_fat h2 a1).bind fun (t3, h4) =>
  some h4
def K_31 (h : Hp) (a1 : Int32) : Option Hp :=
  (L_reelOf h a1).bind fun (t1, h2) =>
  (M_reelOf h2 a1).bind fun (t3, h4) =>
  some h4
def K_32 (h : Hp) (a1 : Int32) : Option Hp :=
  (L_bedOf h a1).bind fun (t1, h2) =>
  (M_bedOf h2 a1).bind fun (t3, h4) =>
  some h4
def K_33 (h : Hp) (a1 : Int32) : Option Hp :=
  (L_sceneOf h a1).bind fun (t1, h2) =>
  (M_sceneOf h2 a1).bind fun (t3, h4) =>
  some h4
def K_34 (h : Hp) (a1 : Int32) (a2 : Int32) : Option Hp :=
  (L_commonRun h a1 a2).bind fun (t1, h2) =>
  (M_commonRun h2 a1 a2).bind fun (t3, h4) =>
  some h4
def K_35 (h : Hp) (a1 : Int32) : Option Hp :=
  (L_nearestClip h a1).bind fun (t1, h2) =>
  (M_nearestClip h2 a1).bind fun (t3, h4) =>
  some h4
def K_36 (h : Hp) (a1 : Int32) : Option Hp :=
  (L_twinsOf h a1).bind fun (t1, h2) =>
  (M_twinsOf h2 a1).bind fun (t3, h4) =>
  some h4
def K_37 (h : Hp) (a1 : Int32) : Option Hp :=
  (L_weeksToFade h a1).bind fun (t1, h2) =>
  (M_weeksToFade h2 a1).bind fun (t3, h4) =>
  some h4
def K_38 (h : Hp) (a1 : Int32) : Option Hp :=
  (L_bedCount h a1).bind fun (t1, h2) =>
  (M_bedCount h2 a1).bind fun (t3, h4) =>
  some h4
def K_39 (h : Hp) (a1 : Int32) (a2 : Int32) : Option Hp :=
  (L_bed h a1 a2).bind fun (t1, h2) =>
  (M_bed h2 a1 a2).bind fun (t3, h4) =>
  some h4
def K_40 (h : Hp) (a1 : Int32) : Option Hp :=
  (L_sleepers h a1).bind fun (t1, h2) =>
  (M_sleepers h2 a1).bind fun (t3, h4) =>
  some h4
def K_41 (h : Hp) (a1 : Int32) (a2 : Int32) : Option Hp :=
  (L_home h a1 a2).bind fun (t1, h2) =>
  (M_home h2 a1 a2).bind fun (t3, h4) =>
  some h4
def K_42 (h : Hp) (a1 : Int32) (a2 : Int32) : Option Hp :=
  (L_whyNoSleep h a1 a2).bind fun (t1, h2) =>
  (M_whyNoSleep h2 a1 a2).bind fun (t3, h4) =>
  some h4
def K_43 (h : Hp) (a1 : Int32) (a2 : Int32) : Option Hp :=
  (L_bedFor h a1 a2).bind fun (t1, h2) =>
  (M_bedFor h2 a1 a2).bind fun (t3, h4) =>
  some h4
def K_44 (h : Hp) (a1 : Int32) (a2 : Int32) : Option Hp :=
  (L_looksFor h a1 a2).bind fun (t1, h2) =>
  (M_looksFor h2 a1 a2).bind fun (t3, h4) =>
  some h4
def K_45 (h : Hp) (a1 : Int32) : Option Hp :=
  (L_longestLook h a1).bind fun (t1, h2) =>
  (M_longestLook h2 a1).bind fun (t3, h4) =>
  some h4
def K_46 (h : Hp) (a1 : Int32) : Option Hp :=
  (L_looksIfAired h a1).bind fun (t1, h2) =>
  (M_looksIfAired h2 a1).bind fun (t3, h4) =>
  some h4
def K_47 (h : Hp) (a1 : Int32) : Option Hp :=
  (L_longestCluster h a1).bind fun (t1, h2) =>
  (M_longestCluster h2 a1).bind fun (t3, h4) =>
  some h4
def K_48 (h : Hp) (a1 : Int32) : Option Hp :=
  (L_bestReel h a1).bind fun (t1, h2) =>
  (M_bestReel h2 a1).bind fun (t3, h4) =>
  some h4
def K_49 (h : Hp) (a1 : Int32) (a2 : Int32) : Option Hp :=
  (L_matches h a1 a2).bind fun (t1, h2) =>
  (M_matches h2 a1 a2).bind fun (t3, h4) =>
  some h4
def K_50 (h : Hp) (a1 : Int32) : Option Hp :=
  (L_matchingSleepers h a1).bind fun (t1, h2) =>
  (M_matchingSleepers h2 a1).bind fun (t3, h4) =>
  some h4
def K_51 (h : Hp) (a1 : Int32) (a2 : Int32) : Option Hp :=
  (L_wokenBy h a1 a2).bind fun (t1, h2) =>
  (M_wokenBy h2 a1 a2).bind fun (t3, h4) =>
  some h4
def K_52 (h : Hp) (a1 : Int32) (a2 : Int32) : Option Hp :=
  (L_firstMatch h a1 a2).bind fun (t1, h2) =>
  (M_firstMatch h2 a1 a2).bind fun (t3, h4) =>
  some h4
def K_53 (h : Hp) (a1 : Int32) : Option Hp :=
  (L_bestPattern h a1).bind fun (t1, h2) =>
  (M_bestPattern h2 a1).bind fun (t3, h4) =>
  some h4
def K_54 (h : Hp) : Option Hp :=
  (C_burnedFat h).bind fun t1 =>
  (M_burnedFat h).bind fun (t2, h3) =>
  some h3
def K_55 (h : Hp) : Option Hp :=
  (C_wakings h).bind fun t1 =>
  (M_wakings h).bind fun (t2, h3) =>
  some h3
def K_56 (h : Hp) : Option Hp :=
  (C_fadedClips h).bind fun t1 =>
  (M_fadedClips h).bind fun (t2, h3) =>
  some h3
def K_57 (h : Hp) : Option Hp :=
  (C_meanFat h).bind fun t1 =>
  (M_meanFat h).bind fun (t2, h3) =>
  some h3
def K_58 (h : Hp) : Option Hp :=
  (C_sleepShare h).bind fun t1 =>
  (f2dO t1).bind fun t2 =>
  (M_sleepShare h).bind fun (t3, h4) =>
  (f2dO t3).bind fun t5 =>
  some h4
def K_59 (h : Hp) : Option Hp :=
  (C_violations h).bind fun t1 =>
  (M_violations h).bind fun (t2, h3) =>
  some h3
def K_60 (h : Hp) (a1 : Int32) : Option Hp :=
  (L_writeReel h a1).bind fun (t1, h2) =>
  (M_writeReel h2 a1).bind fun (t3, h4) =>
  some h4
def K_61 (h : Hp) (a1 : Int32) : Option Hp :=
  (C_reportByte h a1).bind fun t1 =>
  (M_reportByte h a1).bind fun (t2, h3) =>
  some h3
def lawStep (c : Nat) (h : Hp) (a1 a2 a3 a4 a5 : Int32) : Option Hp := match c with
  | 0 => K_0 h a1 a2 a3 a4 a5
  | 1 => K_1 h a1
  | 2 => K_2 h
  | 3 => K_3 h a1
  | 4 => K_4 h a1
  | 5 => K_5 h a1
  | 6 => K_6 h a1 a2
  | 7 => K_7 h a1
  | 8 => K_8 h a1 a2
  | 9 => K_9 h a1
  | 10 => K_10 h a1 a2
  | 11 => K_11 h a1
  | 12 => K_12 h a1 a2 a3
  | 13 => K_13 h a1
  | 14 => K_14 h
  | 15 => K_15 h
  | 16 => K_16 h
  | 17 => K_17 h
  | 18 => K_18 h
  | 19 => K_19 h
  | 20 => K_20 h
  | 21 => K_21 h
  | 22 => K_22 h
  | 23 => K_23 h
  | 24 => K_24 h
  | 25 => K_25 h a1
  | 26 => K_26 h a1
  | 27 => K_27 h a1
  | 28 => K_28 h a1
  | 29 => K_29 h a1
  | 30 => K_30 h a1
  | 31 => K_31 h a1
  | 32 => K_32 h a1
  | 33 => K_33 h a1
  | 34 => K_34 h a1 a2
  | 35 => K_35 h a1
  | 36 => K_36 h a1
  | 37 => K_37 h a1
  | 38 => K_38 h a1
  | 39 => K_39 h a1 a2
  | 40 => K_40 h a1
  | 41 => K_41 h a1 a2
  | 42 => K_42 h a1 a2
  | 43 => K_43 h a1 a2
  | 44 => K_44 h a1 a2
  | 45 => K_45 h a1
  | 46 => K_46 h a1
  | 47 => K_47 h a1
  | 48 => K_48 h a1
  | 49 => K_49 h a1 a2
  | 50 => K_50 h a1
  | 51 => K_51 h a1 a2
  | 52 => K_52 h a1 a2
  | 53 => K_53 h a1
  | 54 => K_54 h
  | 55 => K_55 h
  | 56 => K_56 h
  | 57 => K_57 h
  | 58 => K_58 h
  | 59 => K_59 h
  | 60 => K_60 h a1
  | 61 => K_61 h a1
  | _ => some h
end FunL
