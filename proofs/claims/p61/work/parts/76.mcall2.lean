/-! ===== the model's changes and what is left ===== -/
set_option maxRecDepth 16384 in
theorem hashL_cg {h h' : Hp} {c : Int32} (e : rd h 141 = rd h' 141) : ∀ (n : Nat) (v w : Int32), M_hashOf_L4 h c n v w = M_hashOf_L4 h' c n v w
  | 0, _, _ => rfl
  | n + 1, v, w => by
    simp only [M_hashOf_L4, M_of, e, hashL_cg e n]
set_option maxRecDepth 16384 in
theorem passedL_cg {h h' : Hp} {c r : Int32} (e : rd h 141 = rd h' 141) : ∀ (n : Nat) (v : Int32), M_passedBy_L2 h c r n v = M_passedBy_L2 h' c r n v
  | 0, _ => rfl
  | n + 1, v => by
    simp only [M_passedBy_L2, M_onWay, M_homeOf, M_hashOf, M_beds, M_inBed, e, hashL_cg e, passedL_cg e n]
set_option maxRecDepth 16384 in
theorem passedBy_cg {h h' : Hp} (e : rd h 141 = rd h' 141) (c r : Int32) : M_passedBy h c r = M_passedBy h' c r := by
  unfold M_passedBy; rw [passedL_cg e]
set_option maxRecDepth 16384 in
theorem nm_eq {α β : Type} (x : α) (F : α → β) : nm x F = F x := rfl
set_option maxRecDepth 16384 in
theorem lt_eq {α β : Type} (x : α) (F : α → β) : lt x F = F x := rfl
theorem vlt {x : Int32} {n c : Nat} (hs : Sc n x) (hn : n < 2 ^ 31) (hc : c < 2 ^ 31) (h : nI c < x) : c < vn x := by
  obtain ⟨k, hk, rfl⟩ := hs
  rw [vn_nI (by omega)]
  exact (nI_ltI hc (by omega)).mp h
set_option maxRecDepth 16384 in
theorem mc_addClip {h : Hp} (I : IM h) (a1 : Int32) : ∃ v h', M_addClip h a1 = some (v, h') ∧ Ms h h' := by
  unfold M_addClip
  obtain ⟨b, -, eb, pb⟩ := areCol a1
  obtain ⟨n, hn, en⟩ := I.1.1.1
  unfold lt
  dsimp only
  rw [eb, Option.bind_some, m2, en]
  simp only [Option.bind_some]
  have fin : ∀ x y : Bool, (x = false → b = true) → (y = false → n < 12) → ∃ v h', (M_throwsOne2 h x y).bind (fun u => if b2i u.1 = 0 then (M_begins u.2).bind fun h6 => (M_adds h6 a1).bind fun x => (M_remember x.2 x.1).bind fun y => some (y.1, y.2) else some (0, u.2)) = some (v, h') ∧ Ms h h' := fun x y px py => by
    refine ask2 I (fun g => if_neg (show ¬ b2i true = 0 by decide)) (fun qx qy g mg wg => ?_)
    dsimp only
    rw [if_pos (show b2i false = 0 from rfl)]
    have wX : Wfx (rd g 141) := by rw [wg]; exact I.1
    have w : Wf (rd g 141) := wX.1
    obtain ⟨j, rfl, j1, j8⟩ := pb (px qx)
    exact mchange mg.1 (F := fun u => M_adds u (nI j)) (fun u eu => by
      obtain ⟨u', e, m⟩ := madds_x (h := u) (by rw [eu]; exact wX) (n := n) (by rw [eu, wg]; exact en) (py qy) (p := nI j) ⟨j, by omega, rfl⟩
      exact ⟨_, u', e, m⟩)
  have py : ¬ nI n = 12 → n < 12 := fun z => by
    by_cases c : n = 12
    · subst c; exact absurd rfl z
    · omega
  by_cases q : b2i b = 0
  · rw [if_pos q]
    by_cases q' : nI n = 12
    · rw [if_pos q']; exact fin true true (fun z => by cases z) (fun z => by cases z)
    · rw [if_neg q']; exact fin true false (fun z => by cases z) (fun _ => py q')
  · rw [if_neg q]
    by_cases q' : nI n = 12
    · rw [if_pos q']; exact fin false true (fun _ => by cases b; exact absurd rfl q; rfl) (fun z => by cases z)
    · rw [if_neg q']; exact fin false false (fun _ => by cases b; exact absurd rfl q; rfl) (fun _ => py q')
set_option maxRecDepth 16384 in
theorem mc_addReel {h : Hp} (I : IM h) (a1 : Int32) : ∃ v h', M_addReel h a1 = some (v, h') ∧ Ms h h' := by
  unfold M_addReel
  obtain ⟨b, eb, pb⟩ := in_cases a1 1 9
  obtain ⟨n, hn, en⟩ := I.1.1.2.1
  unfold lt
  dsimp only
  rw [eb, Option.bind_some, m3, en]
  simp only [Option.bind_some]
  have fin : ∀ x y : Bool, (x = false → b = true) → (y = false → n < 4) → ∃ v h', (M_throwsOne2 h x y).bind (fun u => if b2i u.1 = 0 then (M_begins u.2).bind fun h6 => (M_hangs h6 a1).bind fun x => (M_remember x.2 x.1).bind fun y => some (y.1, y.2) else some (0, u.2)) = some (v, h') ∧ Ms h h' := fun x y px py => by
    refine ask2 I (fun g => if_neg (show ¬ b2i true = 0 by decide)) (fun qx qy g mg wg => ?_)
    dsimp only
    rw [if_pos (show b2i false = 0 from rfl)]
    have wX : Wfx (rd g 141) := by rw [wg]; exact I.1
    have w : Wf (rd g 141) := wX.1
    obtain ⟨j, j1, j2, rfl⟩ := range_of (a := 1) (b := 9) rfl rfl (by decide) (by decide) (pb (px qx)).1 (pb (px qx)).2
    exact mchange mg.1 (F := fun u => M_hangs u (nI j)) (fun u eu => by
      obtain ⟨u', e, m⟩ := mhangs_x (h := u) (by rw [eu]; exact wX) (n := n) (by rw [eu, wg]; exact en) (py qy) j2 j1
      exact ⟨_, u', e, m⟩)
  have py : ¬ nI n = 4 → n < 4 := fun z => by
    by_cases c : n = 4
    · subst c; exact absurd rfl z
    · omega
  by_cases q : b2i b = 0
  · rw [if_pos q]
    by_cases q' : nI n = 4
    · rw [if_pos q']; exact fin true true (fun z => by cases z) (fun z => by cases z)
    · rw [if_neg q']; exact fin true false (fun z => by cases z) (fun _ => py q')
  · rw [if_neg q]
    by_cases q' : nI n = 4
    · rw [if_pos q']; exact fin false true (fun _ => by cases b; exact absurd rfl q; rfl) (fun z => by cases z)
    · rw [if_neg q']; exact fin false false (fun _ => by cases b; exact absurd rfl q; rfl) (fun _ => py q')
set_option maxRecDepth 16384 in
theorem mc_addScene {h : Hp} (I : IM h) (a1 : Int32) : ∃ v h', M_addScene h a1 = some (v, h') ∧ Ms h h' := by
  unfold M_addScene
  obtain ⟨b, eb, pb⟩ := in_cases a1 1 9
  obtain ⟨n, hn, en⟩ := I.1.1.2.2.1
  unfold lt
  dsimp only
  rw [eb, Option.bind_some, m4, en]
  simp only [Option.bind_some]
  have fin : ∀ x y : Bool, (x = false → b = true) → (y = false → n < 5) → ∃ v h', (M_throwsOne2 h x y).bind (fun u => if b2i u.1 = 0 then (M_begins u.2).bind fun h6 => (M_opens h6 a1).bind fun x => (M_remember x.2 x.1).bind fun y => some (y.1, y.2) else some (0, u.2)) = some (v, h') ∧ Ms h h' := fun x y px py => by
    refine ask2 I (fun g => if_neg (show ¬ b2i true = 0 by decide)) (fun qx qy g mg wg => ?_)
    dsimp only
    rw [if_pos (show b2i false = 0 from rfl)]
    have wX : Wfx (rd g 141) := by rw [wg]; exact I.1
    have w : Wf (rd g 141) := wX.1
    obtain ⟨j, j1, j2, rfl⟩ := range_of (a := 1) (b := 9) rfl rfl (by decide) (by decide) (pb (px qx)).1 (pb (px qx)).2
    exact mchange mg.1 (F := fun u => M_opens u (nI j)) (fun u eu => by
      obtain ⟨u', e, m⟩ := mopens_x (h := u) (by rw [eu]; exact wX) (n := n) (by rw [eu, wg]; exact en) (py qy) (nI j)
      exact ⟨_, u', e, m⟩)
  have py : ¬ nI n = 5 → n < 5 := fun z => by
    by_cases c : n = 5
    · subst c; exact absurd rfl z
    · omega
  by_cases q : b2i b = 0
  · rw [if_pos q]
    by_cases q' : nI n = 5
    · rw [if_pos q']; exact fin true true (fun z => by cases z) (fun z => by cases z)
    · rw [if_neg q']; exact fin true false (fun z => by cases z) (fun _ => py q')
  · rw [if_neg q]
    by_cases q' : nI n = 5
    · rw [if_pos q']; exact fin false true (fun _ => by cases b; exact absurd rfl q; rfl) (fun z => by cases z)
    · rw [if_neg q']; exact fin false false (fun _ => by cases b; exact absurd rfl q; rfl) (fun _ => py q')
set_option maxRecDepth 16384 in
theorem mc_sleep {h : Hp} (I : IM h) (a1 a2 : Int32) : ∃ v h', M_sleep h a1 a2 = some (v, h') ∧ Ms h h' := by
  unfold M_sleep
  obtain ⟨b, eb, pb⟩ := isClip_cases I.1.1 a1
  obtain ⟨b', eb', pb'⟩ := isReel_cases I.1.1 a2
  unfold lt
  dsimp only
  have fin : ∀ x y : Bool, (x = false → y = false → ∃ c r, c < 12 ∧ r < 4 ∧ a1 = nI c ∧ a2 = nI r ∧ (nI c < rd h 141 2 ∧ nI r < rd h 141 3 ∧ rd h 141 (8 + 4 * c + 1) = 0) ∧ ∃ u, M_passedBy h (nI c) (nI r) = some u ∧ u ≠ -1) → ∃ v h', (M_throwsOne2 h x y).bind (fun u => if b2i u.1 = 0 then (M_begins u.2).bind fun h6 => (M_liesDown h6 a1 a2).bind fun x => (M_remember x.2 x.1).bind fun y => some (y.1, y.2) else some (0, u.2)) = some (v, h') ∧ Ms h h' := fun x y pxy => by
    refine ask2 I (fun g => if_neg (show ¬ b2i true = 0 by decide)) (fun qx qy g mg wg => ?_)
    dsimp only
    rw [if_pos (show b2i false = 0 from rfl)]
    have wX : Wfx (rd g 141) := by rw [wg]; exact I.1
    have w : Wf (rd g 141) := wX.1
    obtain ⟨c, r, hc, hr, rfl, rfl, ⟨clt, rlt, st0⟩, u0, eu0, nu0⟩ := pxy qx qy
    exact mchange mg.1 (F := fun u => M_liesDown u (nI c) (nI r)) (fun u eu => by
      have ep : M_passedBy u (nI c) (nI r) = some u0 := by rw [← eu0]; exact passedBy_cg (eu.trans wg) _ _
      obtain ⟨vd, h8, e8, m8⟩ := mliesDown_x (h := u) (by rw [eu]; exact wX) (by rw [eu, wg]; exact vlt I.1.1.1 (by decide) (by omega) clt) (by rw [eu, wg]; exact vlt I.1.1.2.1 (by decide) (by omega) rlt) (by rw [eu, wg, st0]; decide) ⟨u0, ep, nu0⟩
      exact ⟨_, _, e8, m8⟩)
  rw [eb, Option.bind_some]
  by_cases q : b2i b = 0
  · simp only [q, if_true, bf]
    exact fin true false (fun z => by cases z)
  · rw [if_neg q, eb', Option.bind_some]
    have b1 : b = true := by cases b; exact absurd rfl q; rfl
    obtain ⟨c, hc, rfl, clt⟩ := pb b1
    by_cases q' : b2i b' = 0
    · simp only [q', if_true, bf]
      exact fin true false (fun z => by cases z)
    · have b1' : b' = true := by cases b'; exact absurd rfl q'; rfl
      obtain ⟨r, hr, rfl, rlt⟩ := pb' b1'
      obtain ⟨v, ev, pv⟩ := mwhy_ok I.1.1 hc hr
      rw [if_neg q', if_neg (show ¬ b2i true = 0 by decide), if_neg (show ¬ b2i true = 0 by decide), ev, Option.bind_some]
      by_cases z : v = 0
      · rw [if_pos z]
        obtain ⟨st0, u0, eu0, nu0⟩ := pv z
        exact fin false false (fun _ _ => ⟨c, r, hc, hr, rfl, rfl, ⟨clt, rlt, st0⟩, u0, eu0, nu0⟩)
      · rw [if_neg z]; exact fin false true (fun _ z => by cases z)
set_option maxRecDepth 16384 in
theorem mc_wake {h : Hp} (I : IM h) (a1 : Int32) : ∃ v h', M_wake h a1 = some (v, h') ∧ Ms h h' := by
  unfold M_wake
  obtain ⟨b, eb, pb⟩ := isClip_cases I.1.1 a1
  unfold lt
  dsimp only
  have fin : ∀ x y : Bool, (x = false → b = true) → ∃ v h', (M_throwsOne2 h x y).bind (fun u => if b2i u.1 = 0 then (M_begins u.2).bind fun h6 => (M_leaves h6 a1 0).bind fun x => (M_remember x.2 x.1).bind fun y => some (y.1, y.2) else some (0, u.2)) = some (v, h') ∧ Ms h h' := fun x y px => by
    refine ask2 I (fun g => if_neg (show ¬ b2i true = 0 by decide)) (fun qx qy g mg wg => ?_)
    dsimp only
    rw [if_pos (show b2i false = 0 from rfl)]
    have wX : Wfx (rd g 141) := by rw [wg]; exact I.1
    have w : Wf (rd g 141) := wX.1
    obtain ⟨c, hc, rfl, -⟩ := pb (px qx)
    exact mchange mg.1 (F := fun u => M_leaves u (nI c) 0) (fun u eu => mleaves_x (by rw [eu]; exact wX) hc (x := 0) (by decide))
  rw [eb, Option.bind_some]
  by_cases q : b2i b = 0
  · rw [if_pos q, if_pos q]; exact fin true false (fun z => by cases z)
  · have b1 : b = true := by cases b; exact absurd rfl q; rfl
    obtain ⟨c, hc, rfl, -⟩ := pb b1
    rw [if_neg q, if_neg q, mof1 hc, Option.bind_some]
    by_cases z : rd h 141 (8 + 4 * c + 1) = 1
    · rw [if_pos z]; exact fin false false (fun _ => b1)
    · rw [if_neg z]; exact fin false true (fun _ => b1)
set_option maxRecDepth 16384 in
theorem mc_air {h : Hp} (I : IM h) (a1 : Int32) : ∃ v h', M_air h a1 = some (v, h') ∧ Ms h h' := by
  unfold M_air
  obtain ⟨b, eb, pb⟩ := isReel_cases I.1.1 a1
  rw [eb, Option.bind_some]
  unfold lt
  dsimp only
  refine ask I (fun g => if_neg (show ¬ b2i true = 0 by decide)) (fun q g mg wg => ?_)
  dsimp only
  rw [if_pos (show b2i false = 0 from rfl)]
  obtain ⟨r, hr, rfl, rlt⟩ := pb q
  have wX : Wfx (rd g 141) := by rw [wg]; exact I.1
  have w : Wf (rd g 141) := wX.1
  exact mchange mg.1 (F := fun u => M_airs u (nI r)) (fun u eu => mairs_x (by rw [eu]; exact wX) (by rw [eu, wg]; exact vlt I.1.1.2.1 (by decide) (by omega) rlt))
set_option maxRecDepth 16384 in
theorem mc_feed {h : Hp} (I : IM h) (a1 a2 : Int32) : ∃ v h', M_feed h a1 a2 = some (v, h') ∧ Ms h h' := by
  unfold M_feed
  obtain ⟨b, eb, pb⟩ := isClip_cases I.1.1 a1
  obtain ⟨b', eb', pb'⟩ := in_cases a2 1 50
  unfold lt
  dsimp only
  rw [eb, Option.bind_some, eb', Option.bind_some]
  have fin : ∀ x y z : Bool, (x = false → y = false → z = false → ∃ c j, c < 12 ∧ j ≤ 50 ∧ a1 = nI c ∧ a2 = nI j ∧ nI c < rd h 141 2 ∧ ¬ 99 < rd h 141 (8 + 4 * c + 2) + nI j) → ∃ v h', (M_throwsOne3 h x y z).bind (fun u => if b2i u.1 = 0 then (M_begins u.2).bind fun h6 => (M_feeds h6 a1 a2).bind fun x => (M_remember x.2 x.1).bind fun y => some (y.1, y.2) else some (0, u.2)) = some (v, h') ∧ Ms h h' := fun x y z pxyz => by
    refine ask3 I (fun g => if_neg (show ¬ b2i true = 0 by decide)) (fun qx qy qz g mg wg => ?_)
    dsimp only
    rw [if_pos (show b2i false = 0 from rfl)]
    have wX : Wfx (rd g 141) := by rw [wg]; exact I.1
    have w : Wf (rd g 141) := wX.1
    obtain ⟨c, j, hc, hj, rfl, rfl, clt, hm⟩ := pxyz qx qy qz
    exact mchange mg.1 (F := fun u => M_feeds u (nI c) (nI j)) (fun u eu => mfeeds_x (by rw [eu]; exact wX) (by rw [eu, wg]; exact vlt I.1.1.1 (by decide) (by omega) clt) hj (by rw [eu, wg]; exact hm))
  by_cases q' : b2i b' = 0
  · rw [if_pos q']
    by_cases q : b2i b = 0
    · rw [if_pos q, if_pos q]; exact fin true true false (fun z => by cases z)
    · rw [if_neg q, if_neg q, if_neg (show ¬ b2i true = 0 by decide)]; exact fin false true false (fun _ z => by cases z)
  · rw [if_neg q']
    by_cases q : b2i b = 0
    · rw [if_pos q, if_pos q]; exact fin true false false (fun z => by cases z)
    · have b1 : b = true := by cases b; exact absurd rfl q; rfl
      have b1' : b' = true := by cases b'; exact absurd rfl q'; rfl
      obtain ⟨c, hc, rfl, clt⟩ := pb b1
      obtain ⟨j, j1, j2, rfl⟩ := range_of (a := 1) (b := 50) rfl rfl (by decide) (by decide) (pb' b1').1 (pb' b1').2
      obtain ⟨f, ef, pf⟩ := mcanFeed_ok (h := h) hc (nI j)
      rw [if_neg q, if_neg q, if_pos (show b2i false = 0 from rfl), ef, Option.bind_some]
      by_cases z : b2i f = 0
      · rw [if_pos z]; exact fin false false true (fun _ _ z => by cases z)
      · rw [if_neg z]
        exact fin false false false (fun _ _ _ => ⟨c, j, hc, j2, rfl, rfl, clt, (pf (by cases f; exact absurd rfl z; rfl)).2.2⟩)
set_option maxRecDepth 16384 in
theorem mc_addFood {h : Hp} (I : IM h) (a1 : Int32) : ∃ v h', M_addFood h a1 = some (v, h') ∧ Ms h h' := by
  unfold M_addFood
  obtain ⟨b, eb, pb⟩ := in_cases a1 1 999
  have y1 : ∀ g : Hp, rdO 106 (rd g 141) 1 = some (rd g 141 1) := fun g => r106 (i := 1) (by decide)
  have x1 : ∀ (g : Hp) (x : Int32), wrO g 141 106 1 x = some (up2 g 141 1 x) := fun g x => w106 (i := 1) (by decide) x
  unfold lt
  dsimp only
  rw [eb, Option.bind_some]
  have fin : ∀ x y : Bool, ∃ v h', (M_throwsOne2 h x y).bind (fun u => if b2i u.1 = 0 then (M_begins u.2).bind fun h5 => (rdO 106 (rd h5 141) 1).bind fun t6 => (wrO h5 141 106 1 (t6 + a1)).bind fun h7 => (rdO 106 (rd h7 141) 1).bind fun t8 => (M_remember h7 t8).bind fun y => some (y.1, y.2) else some (0, u.2)) = some (v, h') ∧ Ms h h' := fun x y => by
    refine ask2 I (fun g => if_neg (show ¬ b2i true = 0 by decide)) (fun qx qy g mg wg => ?_)
    dsimp only
    rw [if_pos (show b2i false = 0 from rfl)]
    have wX : Wfx (rd g 141) := by rw [wg]; exact I.1
    have w : Wf (rd g 141) := wX.1
    obtain ⟨v, h', e, m⟩ := mchange mg.1 (F := fun u => (rdO 106 (rd u 141) 1).bind fun t6 => (wrO u 141 106 1 (t6 + a1)).bind fun h7 => (rdO 106 (rd h7 141) 1).bind fun t8 => some (t8, h7)) (fun u eu => by
      have wu : Wfx (rd u 141) := by rw [eu]; exact wX
      refine ⟨_, _, by rw [y1, Option.bind_some, x1, Option.bind_some, y1, Option.bind_some], mz_up (Mz.rf wu) (wfx_free wu (by omega))⟩)
    refine ⟨v, h', ?_, m⟩
    rw [← e]
    obtain ⟨h6, e6, -⟩ := begins_w g
    simp only [e6, Option.bind_some, y1, x1]
  by_cases q : b2i b = 0
  · rw [if_pos q, if_neg (show ¬ b2i true = 0 by decide)]; exact fin _ _
  · rw [if_neg q, if_pos (show b2i false = 0 from rfl), y1, Option.bind_some]
    by_cases z : rd h 141 1 + a1 ≤ 9999
    · rw [if_pos z]; exact fin _ _
    · rw [if_neg z]; exact fin _ _
set_option maxRecDepth 16384 in
theorem mc_paint {h : Hp} (I : IM h) (a1 a2 a3 : Int32) : ∃ v h', M_paint h a1 a2 a3 = some (v, h') ∧ Ms h h' := by
  unfold M_paint
  obtain ⟨b, eb, pb⟩ := isClip_cases I.1.1 a1
  obtain ⟨b3, eb3, pb3⟩ := in_cases a3 1 9
  unfold lt
  dsimp only
  have fin : ∀ x y z : Bool, (x = false → y = false → z = false → ∃ c j, c < 12 ∧ j ≤ 9 ∧ a1 = nI c ∧ a3 = nI j ∧ rd h 141 (8 + 4 * c + 1) = 0) → ∃ v h', (M_throwsOne3 h x y z).bind (fun u => if b2i u.1 = 0 then (M_begins u.2).bind fun h6 => (M_paints h6 a1 a2 a3).bind fun x => (M_remember x.2 x.1).bind fun y => some (y.1, y.2) else some (0, u.2)) = some (v, h') ∧ Ms h h' := fun x y z pxyz => by
    refine ask3 I (fun g => if_neg (show ¬ b2i true = 0 by decide)) (fun qx qy qz g mg wg => ?_)
    dsimp only
    rw [if_pos (show b2i false = 0 from rfl)]
    have wX : Wfx (rd g 141) := by rw [wg]; exact I.1
    have w : Wf (rd g 141) := wX.1
    obtain ⟨c, j, hc, hj, rfl, rfl, st0⟩ := pxyz qx qy qz
    exact mchange mg.1 (F := fun u => M_paints u (nI c) a2 (nI j)) (fun u eu => mpaints_x (by rw [eu]; exact wX) hc (by rw [eu, wg, st0]; decide) hj a2)
  have bad : ∃ v h', ((M_in a3 1 9).bind fun t2 => if b2i t2 = 0 then (M_throwsOne3 h true true false).bind (fun u => if b2i u.1 = 0 then (M_begins u.2).bind fun h6 => (M_paints h6 a1 a2 a3).bind fun x => (M_remember x.2 x.1).bind fun y => some (y.1, y.2) else some (0, u.2)) else (M_throwsOne3 h true false false).bind (fun u => if b2i u.1 = 0 then (M_begins u.2).bind fun h6 => (M_paints h6 a1 a2 a3).bind fun x => (M_remember x.2 x.1).bind fun y => some (y.1, y.2) else some (0, u.2))) = some (v, h') ∧ Ms h h' := by
    rw [eb3, Option.bind_some]
    by_cases q : b2i b3 = 0
    · rw [if_pos q]; exact fin true true false (fun z => by cases z)
    · rw [if_neg q]; exact fin true false false (fun z => by cases z)
  rw [eb, Option.bind_some]
  by_cases q : b2i b = 0
  · simp only [q, if_true, bf]
    exact bad
  · have b1 : b = true := by cases b; exact absurd rfl q; rfl
    obtain ⟨c, hc, rfl, -⟩ := pb b1
    obtain ⟨d, hd, ed, -, -⟩ := mdigits_ok (I.1.1.2.2.2.1 c hc)
    obtain ⟨b2, eb2, -⟩ := in_cases a2 0 (nI d - 1)
    rw [if_neg q, mof0 hc, Option.bind_some, ed, Option.bind_some, eb2, Option.bind_some]
    by_cases q2 : b2i b2 = 0
    · simp only [q2, if_true, bf]
      exact bad
    · rw [if_neg q2, if_neg (show ¬ b2i true = 0 by decide), eb3, Option.bind_some]
      simp only [mof1 hc, Option.bind_some, bt, if_false]
      by_cases q3 : b2i b3 = 0
      · rw [if_pos q3]
        by_cases z : rd h 141 (8 + 4 * c + 1) = 0
        · rw [if_pos z]; exact fin false true false (fun _ z => by cases z)
        · rw [if_neg z]; exact fin false true true (fun _ z => by cases z)
      · have b13 : b3 = true := by cases b3; exact absurd rfl q3; rfl
        obtain ⟨j, j1, j2, ej⟩ := range_of (a := 1) (b := 9) rfl rfl (by decide) (by decide) (pb3 b13).1 (pb3 b13).2
        rw [if_neg q3]
        by_cases z : rd h 141 (8 + 4 * c + 1) = 0
        · rw [if_pos z]; exact fin false false false (fun _ _ _ => ⟨c, j, hc, j2, rfl, ej, z⟩)
        · rw [if_neg z]; exact fin false false true (fun _ _ z => by cases z)
set_option maxRecDepth 16384 in
theorem mc_passWeeks {h : Hp} (I : IM h) (a1 : Int32) : ∃ v h', M_passWeeks h a1 = some (v, h') ∧ Ms h h' := by
  unfold M_passWeeks
  obtain ⟨b, eb, pb⟩ := in_cases a1 1 50
  have y0 : ∀ g : Hp, rdO 106 (rd g 141) 0 = some (rd g 141 0) := fun g => r106 (i := 0) (by decide)
  unfold lt
  dsimp only
  rw [eb, Option.bind_some]
  have fin : ∀ x y : Bool, (x = false → b = true) → ∃ v h', (M_throwsOne2 h x y).bind (fun u => if b2i u.1 = 0 then (M_begins u.2).bind fun h6 => (M_passes h6 a1).bind fun x => (M_remember x.2 x.1).bind fun y => some (y.1, y.2) else some (0, u.2)) = some (v, h') ∧ Ms h h' := fun x y px => by
    refine ask2 I (fun g => if_neg (show ¬ b2i true = 0 by decide)) (fun qx qy g mg wg => ?_)
    dsimp only
    rw [if_pos (show b2i false = 0 from rfl)]
    have wX : Wfx (rd g 141) := by rw [wg]; exact I.1
    have w : Wf (rd g 141) := wX.1
    obtain ⟨j, j1, j2, rfl⟩ := range_of (a := 1) (b := 50) rfl rfl (by decide) (by decide) (pb (px qx)).1 (pb (px qx)).2
    exact mchange mg.1 (F := fun u => M_passes u (nI j)) (fun u eu => mpasses_x (by rw [eu]; exact wX) j2)
  by_cases q : b2i b = 0
  · rw [if_pos q, if_neg (show ¬ b2i true = 0 by decide)]; exact fin true false (fun z => by cases z)
  · have b1 : b = true := by cases b; exact absurd rfl q; rfl
    rw [if_neg q, if_pos (show b2i false = 0 from rfl), y0, Option.bind_some]
    by_cases z : rd h 141 0 + a1 ≤ 999
    · rw [if_pos z]; exact fin false false (fun _ => b1)
    · rw [if_neg z]; exact fin false true (fun _ => b1)
set_option maxRecDepth 16384 in
theorem mc_undo {h : Hp} (I : IM h) : ∃ v h', M_undo h = some (v, h') ∧ Ms h h' := by
  unfold M_undo
  obtain ⟨c, hc, ec⟩ := I.2.2.2.1
  unfold nm
  dsimp only
  have m1 : Ms h (up2 h 140 15 0) := Ms.fld I (by decide)
  obtain ⟨h1, e1⟩ : ∃ h1, h1 = up2 h 140 15 0 := ⟨_, rfl⟩
  rw [← e1] at m1 ⊢
  have r5 : rd h1 140 5 = nI c := by rw [e1, u140, if_neg (by decide)]; exact ec
  by_cases q : rd h1 140 5 = 0
  · rw [if_pos q]; exact ⟨_, h1, rfl, m1⟩
  have c0 : c ≠ 0 := fun w => q (by rw [r5, w]; rfl)
  rw [if_neg q, r5, show nI c - 1 = nI (c - 1) from pk_sub (b := 1) (by omega)]
  obtain ⟨h2, e2⟩ : ∃ h2, h2 = up2 h1 140 5 (nI (c - 1)) := ⟨_, rfl⟩
  have o2 : ∀ k, k ≠ 140 → rd h2 k = rd h1 k := fun k a => by rw [e2, rd_up2_ne a]
  obtain ⟨h', e', o', d'⟩ := undoW (h := h2) (c := c - 1) (by omega) (by rw [e2, u140, if_pos rfl])
  rw [← e2, e', Option.bind_some]
  refine ⟨_, h', rfl, m1.tr ⟨⟨?_, ?_, ?_, ?_, ?_, ?_⟩, fun k a => ?_, ?_⟩⟩
  · refine (m1.1.2.1 (c - 1) (by omega)).cg fun i hi => ?_
    rw [d' i hi, o2 144 (by decide)]
  · rw [o' 144 (by decide), o2 144 (by decide)]; exact m1.1.2.1
  · rw [o' 145 (by decide), o2 145 (by decide)]; exact m1.1.2.2.1
  · rw [o' 140 (by decide), e2, u140, if_pos rfl]; exact ⟨c - 1, by omega, rfl⟩
  · rw [o' 140 (by decide), e2, u140, if_neg (by decide)]; exact m1.1.2.2.2.2.1
  · rw [o' 140 (by decide), e2, u140, if_neg (by decide)]; exact m1.1.2.2.2.2.2
  · rw [o' k (by omega), o2 k (by omega)]
  · rw [o' 140 (by decide), e2, u140, if_neg (by decide)]
set_option maxRecDepth 16384 in
theorem mc_saveSnapshot {h : Hp} (I : IM h) : ∃ v h', M_saveSnapshot h = some (v, h') ∧ Ms h h' := by
  unfold M_saveSnapshot
  unfold nm
  dsimp only
  obtain ⟨h2, e2⟩ : ∃ h2, h2 = up2 (up2 h 140 15 0) 140 6 1 := ⟨_, rfl⟩
  have m2' : Ms h h2 := by
    have a : Ms h (up2 h 140 15 0) := Ms.fld I (by decide)
    rw [e2]
    exact a.tr (Ms.fld a.1 (by decide))
  obtain ⟨h', e', o', d'⟩ := saveW h2
  have y0 : ∀ g : Hp, rdO 106 (rd g 141) 0 = some (rd g 141 0) := fun g => r106 (i := 0) (by decide)
  rw [← e2, e', Option.bind_some, y0, Option.bind_some]
  refine ⟨_, h', rfl, m2'.tr ⟨⟨?_, ?_, ?_, ?_, ?_, ?_⟩, fun k a => o' k (by omega), by rw [o' 140 (by decide)]⟩⟩
  · rw [o' 141 (by decide)]; exact m2'.1.1
  · rw [o' 144 (by decide)]; exact m2'.1.2.1
  · exact m2'.1.1.cg d'
  · rw [o' 140 (by decide)]; exact m2'.1.2.2.2.1
  · rw [o' 140 (by decide)]; exact m2'.1.2.2.2.2.1
  · rw [o' 140 (by decide)]; exact m2'.1.2.2.2.2.2
set_option maxRecDepth 16384 in
theorem mc_restoreSnapshot {h : Hp} (I : IM h) : ∃ v h', M_restoreSnapshot h = some (v, h') ∧ Ms h h' := by
  unfold M_restoreSnapshot
  have y0 : ∀ g : Hp, rdO 106 (rd g 141) 0 = some (rd g 141 0) := fun g => r106 (i := 0) (by decide)
  have fin : ∀ x : Bool, ∃ v h', ((M_throwsOne h x).bind fun u => if b2i u.1 = 0 then (M_restoreSnapshot_L23 FU 0 u.2).bind fun r5 => (rdO 106 (rd (up2 r5 140 5 0) 141) 0).bind fun t7 => some (t7, up2 r5 140 5 0) else some (0, u.2)) = some (v, h') ∧ Ms h h' := fun x => by
    refine ask1 I (fun g => if_neg (show ¬ b2i true = 0 by decide)) (fun _ g mg wg => ?_)
    dsimp only
    obtain ⟨h', e', o', d'⟩ := snapW g
    rw [if_pos (show b2i false = 0 from rfl), e', Option.bind_some, y0, Option.bind_some]
    have J := mg.1
    refine ⟨_, _, rfl, ⟨?_, ?_, ?_, ?_, ?_, ?_⟩, fun k a => by rw [rd_up2_ne (by omega), o' k (by omega)], by rw [u140, if_neg (by decide), o' 140 (by decide)]⟩
    · rw [rd_up2_ne (by decide)]; exact J.2.2.1.cg d'
    · rw [rd_up2_ne (by decide), o' 144 (by decide)]; exact J.2.1
    · rw [rd_up2_ne (by decide), o' 145 (by decide)]; exact J.2.2.1
    · rw [u140, if_pos rfl]; exact ⟨0, by decide, rfl⟩
    · rw [u140, if_neg (by decide), o' 140 (by decide)]; exact J.2.2.2.2.1
    · rw [u140, if_neg (by decide), o' 140 (by decide)]; exact J.2.2.2.2.2
  unfold lt nm
  dsimp only
  by_cases q : rd h 140 6 = 0
  · rw [if_pos q]; exact fin true
  · rw [if_neg q]; exact fin false
set_option maxRecDepth 16384 in
theorem mc_runScript {h : Hp} (I : IM h) : ∃ v h', M_runScript h = some (v, h') ∧ IM h' ∧ (∀ k, (k < 140 ∨ 150 ≤ k) → rd h' k = rd h k) ∧ rd h' 140 9 = 0 := by
  obtain ⟨n, hn, en⟩ := I.2.2.2.2.1
  have m1 : Ms h (up2 h 140 15 0) := Ms.fld I (by decide)
  obtain ⟨h1, e1⟩ : ∃ h1, h1 = up2 h 140 15 0 := ⟨_, rfl⟩
  rw [← e1] at m1
  have r9 : rd h1 140 9 = nI n := by rw [m1.2.2]; exact en
  obtain ⟨h4, e4, o4⟩ := loop0 (fun k (g : Hp) v => M_runScript_L7 k (nI v) g) 600 (fun g v => ∀ k, k ≠ 147 → rd g k = rd h1 k) (fun g => ∀ k, k ≠ 147 → rd g k = rd h1 k) (by decide) (fun k g v hv o => by
    rw [M_runScript_L7, o 140 (by decide), r9]
    by_cases q : n ≤ v
    · exact Or.inl ⟨_, if_pos (nI_le q (by omega)), o⟩
    · rw [if_neg (nI_ge (by omega) (by omega)), rdO_in (by omega) (by decide), Option.bind_some, wrO_in (by omega) (by decide), Option.bind_some, nI_1]
      exact Or.inr ⟨by omega, _, fun j a => by rw [rd_up2_ne a]; exact o j a, rfl⟩) h1 (fun _ _ => rfl)
  have e4 : M_runScript_L7 FU 0 h1 = some h4 := e4
  obtain ⟨h6, e6⟩ : ∃ h6, h6 = up2 (up2 h4 140 10 (nI n)) 140 9 0 := ⟨_, rfl⟩
  have o6 : ∀ k, k ≠ 140 → k ≠ 147 → rd h6 k = rd h k := fun k a b => by rw [e6, rd_up2_ne a, rd_up2_ne a, o4 k b, e1, rd_up2_ne a]
  have f6 : ∀ i, i ≠ 9 → i ≠ 10 → rd h6 140 i = rd h1 140 i := fun i a b => by rw [e6, u140, if_neg a, u140, if_neg b, o4 140 (by decide)]
  have g1 : ∀ i, i ≠ 15 → rd h1 140 i = rd h 140 i := fun i a => by rw [e1, u140, if_neg a]
  have I6 : IM h6 := by
    refine ⟨?_, ?_, ?_, ?_, ?_, ?_⟩
    · rw [o6 141 (by decide) (by decide)]; exact I.1
    · rw [o6 144 (by decide) (by decide)]; exact I.2.1
    · rw [o6 145 (by decide) (by decide)]; exact I.2.2.1
    · rw [f6 5 (by decide) (by decide), g1 5 (by decide)]; exact I.2.2.2.1
    · rw [e6, u140, if_pos rfl]; exact ⟨0, by decide, rfl⟩
    · rw [f6 14 (by decide) (by decide), g1 14 (by decide)]; exact I.2.2.2.2.2
  have z6 : rd h6 140 9 = 0 := by rw [e6, u140, if_pos rfl]
  obtain ⟨h8, e8, o8, d8⟩ := begins_w h6
  have r10 : rd h8 140 10 = nI n := by rw [o8 140 (by decide), e6, u140, if_neg (by decide), u140, if_pos rfl]
  obtain ⟨b, h10, e10, w10, f10⟩ := parses_ok hn r10
  have o10 : ∀ k, k ≠ 140 → k ≠ 141 → k ≠ 142 → k ≠ 147 → k ≠ 149 → rd h10 k = rd h k := fun k a b c d e => by rw [f10.1 k a b e, o8 k c, o6 k a d]
  have I10 : IM h10 := by
    refine ⟨w10, ?_, ?_, ?_, ?_, ?_⟩
    · rw [o10 144 (by decide) (by decide) (by decide) (by decide) (by decide)]; exact I.2.1
    · rw [o10 145 (by decide) (by decide) (by decide) (by decide) (by decide)]; exact I.2.2.1
    · rw [f10.2 5 (by omega), o8 140 (by decide)]; exact I6.2.2.2.1
    · rw [f10.2 9 (by omega), o8 140 (by decide)]; exact I6.2.2.2.2.1
    · rw [f10.2 14 (by omega), o8 140 (by decide)]; exact I6.2.2.2.2.2
  have z10 : rd h10 140 9 = 0 := by rw [f10.2 9 (by omega), o8 140 (by decide), z6]
  have w142 : Wfx (rd h10 142) := by
    rw [f10.1 142 (by decide) (by decide) (by decide)]
    exact I6.1.cg d8
  have out : ∀ k, (k < 140 ∨ 150 ≤ k) → rd h10 k = rd h k := fun k a => o10 k (by omega) (by omega) (by omega) (by omega) (by omega)
  unfold M_runScript nm
  dsimp only
  rw [← e1, e4, Option.bind_some, o4 140 (by decide), r9, ← e6, e8, Option.bind_some, e10, Option.bind_some]
  dsimp only
  by_cases q : b2i b = 0
  · obtain ⟨r, er, o', d'⟩ := restoreW h10
    rw [if_pos q, er, Option.bind_some]
    refine ⟨_, r, rfl, ⟨w142.cg d', ?_, ?_, ?_, ?_, ?_⟩, fun k a => by rw [o' k (by omega)]; exact out k a, by rw [o' 140 (by decide)]; exact z10⟩
    · rw [o' 144 (by decide)]; exact I10.2.1
    · rw [o' 145 (by decide)]; exact I10.2.2.1
    · rw [o' 140 (by decide)]; exact I10.2.2.2.1
    · rw [o' 140 (by decide)]; exact I10.2.2.2.2.1
    · rw [o' 140 (by decide)]; exact I10.2.2.2.2.2
  · rw [if_neg q, m2, Option.bind_some]
    obtain ⟨h', e', m'⟩ := remember_w I10 w142 (rd h10 141 2)
    rw [e', Option.bind_some]
    exact ⟨_, h', rfl, m'.1, fun k a => by rw [m'.2.1 k a]; exact out k a, by rw [m'.2.2]; exact z10⟩
set_option maxRecDepth 16384 in
theorem mc_append {h : Hp} (I : IM h) (a1 a2 a3 a4 a5 : Int32) {s : Nat} (hs : s ≤ 600) (es : rd h 140 9 = nI s) : ∃ h', M_append h a1 a2 a3 a4 a5 = some (if s + 20 ≤ 600 then nI (s + 20) else -1, h') ∧ IM h' ∧ (∀ k, (k < 140 ∨ 150 ≤ k) → rd h' k = rd h k) ∧ rd h' 140 9 = nI (if s + 20 ≤ 600 then s + 20 else s) := by
  by_cases q : s + 20 ≤ 600
  · obtain ⟨g, eg, zg, fg, kg⟩ := mappend_ok es q a1 a2 a3 a4 a5
    rw [if_pos q, if_pos q]
    refine ⟨g, eg, ⟨?_, ?_, ?_, ?_, ?_, ?_⟩, fun k a => fg k (by omega) (by omega), zg⟩
    · rw [fg 141 (by decide) (by decide)]; exact I.1
    · rw [fg 144 (by decide) (by decide)]; exact I.2.1
    · rw [fg 145 (by decide) (by decide)]; exact I.2.2.1
    · rw [kg 5 (by decide) (by decide)]; exact I.2.2.2.1
    · exact ⟨s + 20, q, zg⟩
    · rw [kg 14 (by decide) (by decide)]; exact I.2.2.2.2.2
  · rw [if_neg q, if_neg q]
    have m : Ms h (up2 h 140 15 0) := Ms.fld I (by decide)
    exact ⟨_, mappend_no es (by omega) hs a1 a2 a3 a4 a5, m.1, m.2.1, by rw [m.2.2, es]⟩
set_option maxRecDepth 16384 in
theorem mc_truncateInput {h : Hp} (I : IM h) (a1 : Int32) {s : Nat} (hs : s ≤ 600) (es : rd h 140 9 = nI s) : (∃ x h', (a1 < 0 ∨ nI s < a1) ∧ M_truncateInput h a1 = some (x, h') ∧ Ms h h') ∨ ∃ j h', j ≤ s ∧ a1 = nI j ∧ M_truncateInput h a1 = some (nI j, h') ∧ IM h' ∧ (∀ k, (k < 140 ∨ 150 ≤ k) → rd h' k = rd h k) ∧ rd h' 140 9 = nI j := by
  unfold M_truncateInput lt nm
  dsimp only
  rw [es]
  rcases range_or a1 0 s (by omega) (Nat.zero_le _) with z | ⟨j, hj, ej⟩
  · have e : M_in a1 0 (nI s) = some false := in_out z
    have t : M_throwsOne h true = some (true, up2 h 140 15 1) := by
      unfold M_throwsOne nm; rw [if_neg (show ¬ b2i true = 0 by decide)]
    rw [e, Option.bind_some, if_pos (show b2i false = 0 from rfl), t, Option.bind_some]
    exact Or.inl ⟨_, _, z, rfl, Ms.fld I (by decide)⟩
  · rw [Nat.zero_add] at ej
    subst ej
    have e : M_in (nI j) 0 (nI s) = some true := in_in (nI_pos (by omega)) (nI_nlt (by omega) (by omega))
    have t : M_throwsOne h false = some (false, up2 h 140 15 0) := by
      unfold M_throwsOne nm; rw [if_pos (show b2i false = 0 from rfl)]
    rw [e, Option.bind_some, if_neg (show ¬ b2i true = 0 by decide), t, Option.bind_some]
    have m : Ms h (up2 h 140 15 0) := Ms.fld I (by decide)
    refine Or.inr ⟨j, _, by omega, rfl, rfl, ⟨?_, ?_, ?_, ?_, ?_, ?_⟩, fun k a => by rw [rd_up2_ne (by omega), rd_up2_ne (by omega)], by rw [u140, if_pos rfl]⟩
    · rw [rd_up2_ne (by decide)]; exact m.1.1
    · rw [rd_up2_ne (by decide)]; exact m.1.2.1
    · rw [rd_up2_ne (by decide)]; exact m.1.2.2.1
    · rw [u140, if_neg (by decide)]; exact m.1.2.2.2.1
    · rw [u140, if_pos rfl]; exact ⟨j, by omega, rfl⟩
    · rw [u140, if_neg (by decide)]; exact m.1.2.2.2.2.2
set_option maxRecDepth 16384 in
theorem msetOf_ok {h : Hp} (w : Wf (rd h 141)) (x : Int32) : ∃ v, M_setOf h x = some v := by
  obtain ⟨t, ht, et⟩ := w.1
  obtain ⟨y, e, -⟩ := loop0 (fun n s v => M_setOf_L4 h x n s (nI v)) 12 (fun _ _ => True) (fun _ => True) (by decide) (fun n s v hv _ => by
    rw [M_setOf_L4, m2, Option.bind_some, et]
    by_cases z : t ≤ v
    · exact Or.inl ⟨_, if_pos (nI_le z (by omega)), trivial⟩
    · rw [if_neg (nI_ge (by omega) (by omega)), mof1 (by omega), Option.bind_some, nI_1]
      refine Or.inr ⟨by omega, ?_⟩
      by_cases z1 : rd h 141 (8 + 4 * v + 1) = x
      · rw [if_pos z1]; exact ⟨_, trivial, rfl⟩
      · rw [if_neg z1]; exact ⟨_, trivial, rfl⟩) 0 trivial
  exact ⟨y, by unfold M_setOf; exact bO e _⟩
set_option maxRecDepth 16384 in
theorem mmanyOf_ok {h : Hp} (w : Wf (rd h 141)) (x : Int32) {t : Nat} (ht : t ≤ 12) (et : rd h 141 2 = nI t) : ∃ k, k ≤ t ∧ M_manyOf h x = some (nI k) := by
  obtain ⟨y, e, k, hk, rfl⟩ := loop0 (fun n s v => M_manyOf_L4 h x n s (nI v)) 12 (fun s v => v ≤ t ∧ ∃ k, k ≤ v ∧ s = nI k) (fun y => ∃ k, k ≤ t ∧ y = nI k) (by decide) (fun n s v hv hs => by
    obtain ⟨hvt, k, hk, rfl⟩ := hs
    rw [M_manyOf_L4, m2, Option.bind_some, et]
    by_cases z : t ≤ v
    · exact Or.inl ⟨_, if_pos (nI_le z (by omega)), k, by omega, rfl⟩
    · rw [if_neg (nI_ge (by omega) (by omega)), mof1 (by omega), Option.bind_some, nI_1]
      refine Or.inr ⟨by omega, ?_⟩
      by_cases z1 : rd h 141 (8 + 4 * v + 1) = x
      · rw [if_pos z1, nI_1]; exact ⟨_, ⟨by omega, k + 1, by omega, rfl⟩, rfl⟩
      · rw [if_neg z1, show (0 : Int32) = nI 0 from rfl, nI_add, nI_1]; exact ⟨_, ⟨by omega, k + 0, by omega, rfl⟩, rfl⟩) 0 ⟨Nat.zero_le _, 0, Nat.le_refl _, rfl⟩
  exact ⟨k, hk, by unfold M_manyOf; exact bO e _⟩
/-- the sum of the first n fats of the model's row -/
def msum (f : Nat → Int32) : Nat → Nat
  | 0 => 0
  | n + 1 => msum f n + (f (8 + 4 * n + 2)).toNatClampNeg
set_option maxRecDepth 16384 in
theorem msum_le {f : Nat → Int32} (w : Wf f) : ∀ n, n ≤ 12 → msum f n ≤ 99 * n
  | 0, _ => Nat.le_refl _
  | n + 1, hn => by
    obtain ⟨k, hk, ek⟩ := w.2.2.2.2.1 n (by omega)
    have := msum_le w n (by omega)
    rw [msum, ek, nI_clamp (by omega)]
    omega
set_option maxRecDepth 16384 in
theorem mallFat_ok {h : Hp} (w : Wf (rd h 141)) {t : Nat} (ht : t ≤ 12) (et : rd h 141 2 = nI t) : M_allFat h = some (nI (msum (rd h 141) t)) := by
  obtain ⟨y, e, p⟩ := loop0 (fun n s v => M_allFat_L4 h n s (nI v)) 12 (fun s v => v ≤ t ∧ s = nI (msum (rd h 141) v)) (fun y => y = nI (msum (rd h 141) t)) (by decide) (fun n s v hv hs => by
    rw [M_allFat_L4, m2, Option.bind_some, et]
    by_cases z : t ≤ v
    · obtain rfl : v = t := by omega
      exact Or.inl ⟨_, if_pos (nI_le z (by omega)), hs.2⟩
    · obtain ⟨k, hk, ek⟩ := w.2.2.2.2.1 v (by omega)
      rw [if_neg (nI_ge (by omega) (by omega)), mof2 (by omega), Option.bind_some, nI_1, hs.2, ek, nI_add]
      exact Or.inr ⟨by omega, _, ⟨by omega, by rw [msum, ek, nI_clamp (by omega)]⟩, rfl⟩) 0 ⟨Nat.zero_le _, rfl⟩
  unfold M_allFat
  rw [← p]
  exact bO e _
set_option maxRecDepth 16384 in
theorem mc_fadedClips {h : Hp} (I : IM h) : ∃ v h', M_fadedClips h = some (v, h') ∧ Ms h h' := by
  unfold M_fadedClips
  rw [nm_eq]
  have m : Ms h (up2 h 140 15 0) := Ms.fld I (by decide)
  obtain ⟨g, eg⟩ : ∃ g, g = up2 h 140 15 0 := ⟨_, rfl⟩
  rw [← eg] at m ⊢
  have w := m.1.1.1
  obtain ⟨v, ev⟩ := msetOf_ok w 2
  rw [ev, Option.bind_some]
  exact ⟨v, g, rfl, m⟩
set_option maxRecDepth 16384 in
theorem mc_meanFat {h : Hp} (I : IM h) : ∃ v h', M_meanFat h = some (v, h') ∧ Ms h h' := by
  unfold M_meanFat
  rw [nm_eq]
  have m : Ms h (up2 h 140 15 0) := Ms.fld I (by decide)
  obtain ⟨g, eg⟩ : ∃ g, g = up2 h 140 15 0 := ⟨_, rfl⟩
  rw [← eg] at m ⊢
  have w := m.1.1.1
  obtain ⟨t, ht, et⟩ := w.1
  obtain ⟨k, hk, ek⟩ := mmanyOf_ok w 2 ht et
  rw [m2, Option.bind_some, ek, Option.bind_some, et, pk_sub hk]
  by_cases z : nI (t - k) = 0
  · rw [if_pos z]; exact ⟨_, g, rfl, m⟩
  · have k1 : 1 ≤ t - k := by
      by_cases c : t - k = 0
      · rw [c] at z; exact absurd rfl z
      · omega
    have s := msum_le w t ht
    have d := dd_all (t - k - 1) (by omega) (msum (rd g 141) t) (by omega)
    rw [show 1 + (t - k - 1) = t - k by omega] at d
    obtain ⟨x, ex⟩ := Option.isSome_iff_exists.mp d
    rw [if_neg z, mallFat_ok w ht et, Option.bind_some, ex, Option.bind_some]
    exact ⟨x, g, rfl, m⟩
set_option maxRecDepth 16384 in
theorem mc_sleepShare {h : Hp} (I : IM h) : ∃ v h', M_sleepShare h = some (v, h') ∧ (∃ y, f2dO v = some y) ∧ Ms h h' := by
  unfold M_sleepShare
  rw [nm_eq]
  have m : Ms h (up2 h 140 15 0) := Ms.fld I (by decide)
  obtain ⟨g, eg⟩ : ∃ g, g = up2 h 140 15 0 := ⟨_, rfl⟩
  rw [← eg] at m ⊢
  have w := m.1.1.1
  obtain ⟨t, ht, et⟩ := w.1
  obtain ⟨k, hk, ek⟩ := mmanyOf_ok w 1 ht et
  rw [m2, Option.bind_some, et]
  by_cases z : nI t = 0
  · rw [if_pos z]
    exact ⟨_, g, rfl, Option.isSome_iff_exists.mp (by decide +kernel), m⟩
  · have k1 : 1 ≤ t := by
      by_cases c : t = 0
      · rw [c] at z; exact absurd rfl z
      · omega
    have d := ff_all (t - 1) (by omega) k (by omega)
    rw [show 1 + (t - 1) = t by omega] at d
    obtain ⟨y, ey⟩ := Option.isSome_iff_exists.mp d
    obtain ⟨x, ex, ey⟩ := Option.bind_eq_some_iff.mp ey
    rw [if_neg z, ek, Option.bind_some, Option.bind_some, ex, Option.bind_some]
    exact ⟨x, g, rfl, ⟨y, ey⟩, m⟩
set_option maxRecDepth 16384 in
theorem mbedsWith_ok {h : Hp} (w : Wf (rd h 141)) (x : Int32) : ∃ v, M_bedsWith h x = some v ∧ (v = 1 → ∃ r b, Em (rd h 141) r b ∧ rd h 141 (60 + (9 * r + b)) = x) := by
  obtain ⟨t, ht, et⟩ := w.2.1
  have inner : ∀ r, r < t → ∀ s : Int32, ∃ y, M_bedsWith_L17 h x (nI r) FU s 0 = some y ∧ (y = s ∨ ∃ r b, Em (rd h 141) r b ∧ rd h 141 (60 + (9 * r + b)) = x) := fun r hr s => by
    obtain ⟨m, hm, em⟩ := w.2.2.2.2.2.1 r (by omega)
    obtain ⟨y, e, p⟩ := loop0 (fun n u v => M_bedsWith_L17 h x (nI r) n u (nI v)) 9 (fun u _ => u = s ∨ ∃ r b, Em (rd h 141) r b ∧ rd h 141 (60 + (9 * r + b)) = x) (fun y => y = s ∨ ∃ r b, Em (rd h 141) r b ∧ rd h 141 (60 + (9 * r + b)) = x) (by decide) (fun n u v hv hu => by
      rw [M_bedsWith_L17, mbeds_ok (by omega), Option.bind_some, em]
      by_cases z : m ≤ v
      · exact Or.inl ⟨_, if_pos (nI_le z (by omega)), hu⟩
      · rw [if_neg (nI_ge (by omega) (by omega)), minBed_ok (by omega) (by omega), Option.bind_some, nI_1]
        refine Or.inr ⟨by omega, ?_⟩
        by_cases z1 : rd h 141 (60 + (9 * r + v)) = x
        · rw [if_pos z1]
          exact ⟨_, Or.inr ⟨r, v, ⟨by omega, by omega, by rw [et]; exact nI_lt hr (by omega), by rw [em]; exact nI_lt (by omega) (by omega)⟩, z1⟩, rfl⟩
        · rw [if_neg z1]
          have e0 : u + 0 = u := Int32.add_zero u
          exact ⟨_, by rw [e0]; exact hu, rfl⟩) s (Or.inl rfl)
    exact ⟨y, e, p⟩
  obtain ⟨y, e, p⟩ := loop0 (fun n u v => M_bedsWith_L4 h x n u (nI v)) 4 (fun u _ => u = 0 ∨ ∃ r b, Em (rd h 141) r b ∧ rd h 141 (60 + (9 * r + b)) = x) (fun y => y = 0 ∨ ∃ r b, Em (rd h 141) r b ∧ rd h 141 (60 + (9 * r + b)) = x) (by decide) (fun n u v hv hu => by
    rw [M_bedsWith_L4, m3, Option.bind_some, et]
    by_cases z : t ≤ v
    · exact Or.inl ⟨_, if_pos (nI_le z (by omega)), hu⟩
    · obtain ⟨y, ey, py⟩ := inner v (by omega) u
      rw [if_neg (nI_ge (by omega) (by omega)), ey, Option.bind_some, nI_1]
      refine Or.inr ⟨by omega, _, ?_, rfl⟩
      rcases py with rfl | py
      · exact hu
      · exact Or.inr py) 0 (Or.inl rfl)
  refine ⟨y, ?_, fun q => ?_⟩
  · unfold M_bedsWith; exact bO e _
  · rcases p with rfl | p
    · exact absurd q (by decide)
    · exact p
set_option maxRecDepth 16384 in
theorem misLost_ok {h : Hp} (w : Wf (rd h 141)) {c : Nat} (hc : c < 12) : ∃ b, M_isLost h (nI c) = some b := by
  obtain ⟨v, ev, pv⟩ := mbedsWith_ok w (nI c)
  unfold M_isLost
  rw [ev, Option.bind_some]
  by_cases q : v = 1
  · rw [if_pos q]
    obtain ⟨u, eu, pu⟩ := mreelWith_ok w (nI c)
    rcases pu with ⟨rfl, pu⟩ | ⟨r, b, hb, rfl, -, -⟩
    · obtain ⟨r, b, hb, eb⟩ := pv q
      exact absurd eb (pu r b hb)
    · have h1 := hb.1
      obtain ⟨q', m, k, hq, hm, eq, em, hk, hk1, ek, -⟩ := mlooks_ok w hc h1
      have m1 : 1 ≤ m := by
        have := hb.2.2.2
        rw [em] at this
        have := (nI_ltI (by have := hb.2.1; omega) (by omega)).mp this
        omega
      have hk2 := hk1 m1
      have hb2 := Nat.mod_lt (q' + (k - 1)) (show 0 < m by omega)
      rw [eu, Option.bind_some, ek, Option.bind_some, show nI k - 1 = nI (k - 1) from pk_sub (b := 1) hk2, monWay_eq h1 eq hq em hm m1 (by omega), Option.bind_some, minBed_ok h1 (by omega), Option.bind_some]
      by_cases z : rd h 141 (60 + (9 * r + (q' + (k - 1)) % m)) = nI c
      · exact ⟨_, if_pos z⟩
      · exact ⟨_, if_neg z⟩
  · exact ⟨_, if_neg q⟩
set_option maxRecDepth 16384 in
theorem mviolL_ok {g : Hp} (w : Wf (rd g 141)) (x : Int32) : ∃ y, M_violations_L48 g FU x 0 = some y := by
  obtain ⟨t, ht, et⟩ := w.1
  obtain ⟨y, e, -⟩ := loop0 (fun n s v => M_violations_L48 g n s (nI v)) 12 (fun _ _ => True) (fun _ => True) (by decide) (fun n s v hv _ => by
    rw [M_violations_L48, m2, Option.bind_some, et]
    by_cases z : t ≤ v
    · exact Or.inl ⟨_, if_pos (nI_le z (by omega)), trivial⟩
    · obtain ⟨b, eb⟩ := misLost_ok w (by omega : v < 12)
      obtain ⟨u, eu, -⟩ := mbedsWith_ok w (nI v)
      rw [if_neg (nI_ge (by omega) (by omega)), mof1 (by omega), Option.bind_some, eb, Option.bind_some, eu, Option.bind_some, nI_1]
      refine Or.inr ⟨by omega, ?_⟩
      by_cases z1 : rd g 141 (8 + 4 * v + 1) = 1
      · rw [if_pos z1]
        by_cases z2 : b2i b = 0
        · rw [if_pos z2]; exact ⟨_, trivial, rfl⟩
        · rw [if_neg z2]; exact ⟨_, trivial, rfl⟩
      · rw [if_neg z1]; exact ⟨_, trivial, rfl⟩) x trivial
  exact ⟨y, e⟩
set_option maxRecDepth 16384 in
theorem mc_violations {h : Hp} (I : IM h) : ∃ v h', M_violations h = some (v, h') ∧ Ms h h' := by
  unfold M_violations
  rw [nm_eq]
  have m : Ms h (up2 h 140 15 0) := Ms.fld I (by decide)
  obtain ⟨g, eg⟩ : ∃ g, g = up2 h 140 15 0 := ⟨_, rfl⟩
  rw [← eg] at m ⊢
  have w := m.1.1.1
  obtain ⟨t, ht, et⟩ := w.1
  have y6 : rdO 106 (rd g 141) 6 = some (rd g 141 6) := r106 (i := 6) (by decide)
  have y5 : rdO 106 (rd g 141) 5 = some (rd g 141 5) := r106 (i := 5) (by decide)
  rw [m2, Option.bind_some, y6, Option.bind_some, mallFat_ok w ht et, Option.bind_some, y5, Option.bind_some, lt_eq]
  by_cases q : 0 ≤ ((((40 * rd g 141 2) + rd g 141 6) - nI (msum (rd g 141) t)) - rd g 141 5)
  · rw [if_pos q]
    dsimp only
    obtain ⟨y, ey⟩ := mviolL_ok w ((((40 * rd g 141 2) + rd g 141 6) - nI (msum (rd g 141) t)) - rd g 141 5)
    rw [ey, Option.bind_some]; exact ⟨y, g, rfl, m⟩
  · rw [if_neg q]
    dsimp only
    obtain ⟨y, ey⟩ := mviolL_ok w (-((((40 * rd g 141 2) + rd g 141 6) - nI (msum (rd g 141) t)) - rd g 141 5))
    rw [ey, Option.bind_some]; exact ⟨y, g, rfl, m⟩
/-- only the report and its length change; its length is n -/
def Rm (h h' : Hp) (n : Nat) : Prop := rd h' 140 14 = nI n ∧ (∀ k, k ≠ 140 → k ≠ 148 → rd h' k = rd h k) ∧ ∀ i, i ≠ 14 → rd h' 140 i = rd h 140 i
set_option maxRecDepth 16384 in
theorem mwrite_ok {h0 h : Hp} {n : Nat} (R : Rm h0 h n) (hn : n < 90) (x : Int32) : ∃ h', M_write h x = some h' ∧ Rm h0 h' (n + 1) := by
  unfold M_write nm
  rw [R.1, wrO_in hn (by decide), Option.bind_some]
  dsimp only
  refine ⟨_, rfl, ?_, fun k a b => ?_, fun i a => ?_⟩
  · rw [u140, if_pos rfl, rd_up2_ne (by decide), R.1, nI_1]
  · rw [rd_up2_ne a, rd_up2_ne b]; exact R.2.1 k a b
  · rw [u140, if_neg a, rd_up2_ne (by decide)]; exact R.2.2 i a
set_option maxRecDepth 16384 in
theorem mnum0 {h0 h : Hp} {n j : Nat} (R : Rm h0 h n) (hn : n + 1 ≤ 90) (hj : j < 10) : ∃ h' n', M_writeNumber_0 h (nI j) = some h' ∧ n' ≤ n + 1 ∧ Rm h0 h' n' := by
  unfold M_writeNumber_0
  rw [if_pos (show nI j ≤ 9 from nI_le (b := 9) (by omega) (by decide))]
  obtain ⟨h', e, R'⟩ := mwrite_ok R (by omega) (48 + (nI j - nI j / 10 * 10))
  exact ⟨h', n + 1, by rw [e, Option.bind_some], Nat.le_refl _, R'⟩
set_option maxRecDepth 16384 in
theorem mnum1 {h0 h : Hp} {n j : Nat} (R : Rm h0 h n) (hn : n + 2 ≤ 90) (hj : j < 100) : ∃ h' n', M_writeNumber_1 h (nI j) = some h' ∧ n' ≤ n + 2 ∧ Rm h0 h' n' := by
  unfold M_writeNumber_1 lt
  dsimp only
  by_cases q : nI j ≤ 9
  · obtain ⟨h', e, R'⟩ := mwrite_ok R (by omega) (48 + (nI j - nI j / 10 * 10))
    rw [if_pos q]
    exact ⟨h', n + 1, by rw [e, Option.bind_some], by omega, R'⟩
  · rw [if_neg q, nI_div10 (by omega)]
    obtain ⟨g, n1, e1, l1, R1⟩ := mnum0 (j := j / 10) R (by omega) (by omega)
    obtain ⟨h', e, R'⟩ := mwrite_ok R1 (by omega) (48 + (nI j - nI (j / 10) * 10))
    rw [e1, Option.bind_some]
    exact ⟨h', n1 + 1, by rw [e, Option.bind_some], by omega, R'⟩
set_option maxRecDepth 16384 in
theorem mnum2 {h0 h : Hp} {n j : Nat} (R : Rm h0 h n) (hn : n + 3 ≤ 90) (hj : j < 1000) : ∃ h' n', M_writeNumber_2 h (nI j) = some h' ∧ n' ≤ n + 3 ∧ Rm h0 h' n' := by
  unfold M_writeNumber_2 lt
  dsimp only
  by_cases q : nI j ≤ 9
  · obtain ⟨h', e, R'⟩ := mwrite_ok R (by omega) (48 + (nI j - nI j / 10 * 10))
    rw [if_pos q]
    exact ⟨h', n + 1, by rw [e, Option.bind_some], by omega, R'⟩
  · rw [if_neg q, nI_div10 (by omega)]
    obtain ⟨g, n1, e1, l1, R1⟩ := mnum1 (j := j / 10) R (by omega) (by omega)
    obtain ⟨h', e, R'⟩ := mwrite_ok R1 (by omega) (48 + (nI j - nI (j / 10) * 10))
    rw [e1, Option.bind_some]
    exact ⟨h', n1 + 1, by rw [e, Option.bind_some], by omega, R'⟩
set_option maxRecDepth 16384 in
theorem mnum3 {h0 h : Hp} {n j : Nat} (R : Rm h0 h n) (hn : n + 4 ≤ 90) (hj : j < 10000) : ∃ h' n', M_writeNumber_3 h (nI j) = some h' ∧ n' ≤ n + 4 ∧ Rm h0 h' n' := by
  unfold M_writeNumber_3 lt
  dsimp only
  by_cases q : nI j ≤ 9
  · obtain ⟨h', e, R'⟩ := mwrite_ok R (by omega) (48 + (nI j - nI j / 10 * 10))
    rw [if_pos q]
    exact ⟨h', n + 1, by rw [e, Option.bind_some], by omega, R'⟩
  · rw [if_neg q, nI_div10 (by omega)]
    obtain ⟨g, n1, e1, l1, R1⟩ := mnum2 (j := j / 10) R (by omega) (by omega)
    obtain ⟨h', e, R'⟩ := mwrite_ok R1 (by omega) (48 + (nI j - nI (j / 10) * 10))
    rw [e1, Option.bind_some]
    exact ⟨h', n1 + 1, by rw [e, Option.bind_some], by omega, R'⟩
set_option maxRecDepth 16384 in
theorem mnum4 {h0 h : Hp} {n j : Nat} (R : Rm h0 h n) (hn : n + 5 ≤ 90) (hj : j < 100000) : ∃ h' n', M_writeNumber_4 h (nI j) = some h' ∧ n' ≤ n + 5 ∧ Rm h0 h' n' := by
  unfold M_writeNumber_4 lt
  dsimp only
  by_cases q : nI j ≤ 9
  · obtain ⟨h', e, R'⟩ := mwrite_ok R (by omega) (48 + (nI j - nI j / 10 * 10))
    rw [if_pos q]
    exact ⟨h', n + 1, by rw [e, Option.bind_some], by omega, R'⟩
  · rw [if_neg q, nI_div10 (by omega)]
    obtain ⟨g, n1, e1, l1, R1⟩ := mnum3 (j := j / 10) R (by omega) (by omega)
    obtain ⟨h', e, R'⟩ := mwrite_ok R1 (by omega) (48 + (nI j - nI (j / 10) * 10))
    rw [e1, Option.bind_some]
    exact ⟨h', n1 + 1, by rw [e, Option.bind_some], by omega, R'⟩
set_option maxRecDepth 16384 in
theorem mnum5 {h0 h : Hp} {n j : Nat} (R : Rm h0 h n) (hn : n + 6 ≤ 90) (hj : j < 1000000) : ∃ h' n', M_writeNumber_5 h (nI j) = some h' ∧ n' ≤ n + 6 ∧ Rm h0 h' n' := by
  unfold M_writeNumber_5 lt
  dsimp only
  by_cases q : nI j ≤ 9
  · obtain ⟨h', e, R'⟩ := mwrite_ok R (by omega) (48 + (nI j - nI j / 10 * 10))
    rw [if_pos q]
    exact ⟨h', n + 1, by rw [e, Option.bind_some], by omega, R'⟩
  · rw [if_neg q, nI_div10 (by omega)]
    obtain ⟨g, n1, e1, l1, R1⟩ := mnum4 (j := j / 10) R (by omega) (by omega)
    obtain ⟨h', e, R'⟩ := mwrite_ok R1 (by omega) (48 + (nI j - nI (j / 10) * 10))
    rw [e1, Option.bind_some]
    exact ⟨h', n1 + 1, by rw [e, Option.bind_some], by omega, R'⟩
set_option maxRecDepth 16384 in
theorem mnum6 {h0 h : Hp} {n j : Nat} (R : Rm h0 h n) (hn : n + 7 ≤ 90) (hj : j < 10000000) : ∃ h' n', M_writeNumber_6 h (nI j) = some h' ∧ n' ≤ n + 7 ∧ Rm h0 h' n' := by
  unfold M_writeNumber_6 lt
  dsimp only
  by_cases q : nI j ≤ 9
  · obtain ⟨h', e, R'⟩ := mwrite_ok R (by omega) (48 + (nI j - nI j / 10 * 10))
    rw [if_pos q]
    exact ⟨h', n + 1, by rw [e, Option.bind_some], by omega, R'⟩
  · rw [if_neg q, nI_div10 (by omega)]
    obtain ⟨g, n1, e1, l1, R1⟩ := mnum5 (j := j / 10) R (by omega) (by omega)
    obtain ⟨h', e, R'⟩ := mwrite_ok R1 (by omega) (48 + (nI j - nI (j / 10) * 10))
    rw [e1, Option.bind_some]
    exact ⟨h', n1 + 1, by rw [e, Option.bind_some], by omega, R'⟩
set_option maxRecDepth 16384 in
theorem mnum7 {h0 h : Hp} {n j : Nat} (R : Rm h0 h n) (hn : n + 8 ≤ 90) (hj : j < 100000000) : ∃ h' n', M_writeNumber_7 h (nI j) = some h' ∧ n' ≤ n + 8 ∧ Rm h0 h' n' := by
  unfold M_writeNumber_7 lt
  dsimp only
  by_cases q : nI j ≤ 9
  · obtain ⟨h', e, R'⟩ := mwrite_ok R (by omega) (48 + (nI j - nI j / 10 * 10))
    rw [if_pos q]
    exact ⟨h', n + 1, by rw [e, Option.bind_some], by omega, R'⟩
  · rw [if_neg q, nI_div10 (by omega)]
    obtain ⟨g, n1, e1, l1, R1⟩ := mnum6 (j := j / 10) R (by omega) (by omega)
    obtain ⟨h', e, R'⟩ := mwrite_ok R1 (by omega) (48 + (nI j - nI (j / 10) * 10))
    rw [e1, Option.bind_some]
    exact ⟨h', n1 + 1, by rw [e, Option.bind_some], by omega, R'⟩
set_option maxRecDepth 16384 in
theorem wq0 (h : Hp) (p : Int32) : M_writeNumber_0 h p = if p ≤ 9 then (M_write h (48 + (p - p / 10 * 10))).bind fun h2 => some h2 else none := rfl
set_option maxRecDepth 16384 in
theorem wq1 (h : Hp) (p : Int32) : M_writeNumber_1 h p = if p ≤ 9 then (M_write h (48 + (p - p / 10 * 10))).bind fun h2 => some h2 else (M_writeNumber_0 h (p / 10)).bind fun h4 => (M_write h4 (48 + (p - p / 10 * 10))).bind fun h2 => some h2 := rfl
set_option maxRecDepth 16384 in
theorem wq2 (h : Hp) (p : Int32) : M_writeNumber_2 h p = if p ≤ 9 then (M_write h (48 + (p - p / 10 * 10))).bind fun h2 => some h2 else (M_writeNumber_1 h (p / 10)).bind fun h4 => (M_write h4 (48 + (p - p / 10 * 10))).bind fun h2 => some h2 := rfl
set_option maxRecDepth 16384 in
theorem wq3 (h : Hp) (p : Int32) : M_writeNumber_3 h p = if p ≤ 9 then (M_write h (48 + (p - p / 10 * 10))).bind fun h2 => some h2 else (M_writeNumber_2 h (p / 10)).bind fun h4 => (M_write h4 (48 + (p - p / 10 * 10))).bind fun h2 => some h2 := rfl
set_option maxRecDepth 16384 in
theorem wq4 (h : Hp) (p : Int32) : M_writeNumber_4 h p = if p ≤ 9 then (M_write h (48 + (p - p / 10 * 10))).bind fun h2 => some h2 else (M_writeNumber_3 h (p / 10)).bind fun h4 => (M_write h4 (48 + (p - p / 10 * 10))).bind fun h2 => some h2 := rfl
set_option maxRecDepth 16384 in
theorem wq5 (h : Hp) (p : Int32) : M_writeNumber_5 h p = if p ≤ 9 then (M_write h (48 + (p - p / 10 * 10))).bind fun h2 => some h2 else (M_writeNumber_4 h (p / 10)).bind fun h4 => (M_write h4 (48 + (p - p / 10 * 10))).bind fun h2 => some h2 := rfl
set_option maxRecDepth 16384 in
theorem wq6 (h : Hp) (p : Int32) : M_writeNumber_6 h p = if p ≤ 9 then (M_write h (48 + (p - p / 10 * 10))).bind fun h2 => some h2 else (M_writeNumber_5 h (p / 10)).bind fun h4 => (M_write h4 (48 + (p - p / 10 * 10))).bind fun h2 => some h2 := rfl
set_option maxRecDepth 16384 in
theorem wq7 (h : Hp) (p : Int32) : M_writeNumber_7 h p = if p ≤ 9 then (M_write h (48 + (p - p / 10 * 10))).bind fun h2 => some h2 else (M_writeNumber_6 h (p / 10)).bind fun h4 => (M_write h4 (48 + (p - p / 10 * 10))).bind fun h2 => some h2 := rfl
set_option maxRecDepth 16384 in
theorem wn1 {j : Nat} (hj : j < 10) (h : Hp) : M_writeNumber_1 h (nI j) = M_writeNumber_0 h (nI j) := by
  rw [wq1, wq0 h (nI j)]
  by_cases q : nI j ≤ 9
  · rw [if_pos q, if_pos q]
  · exact absurd (nI_le (b := 9) (by omega) (by decide)) q
set_option maxRecDepth 16384 in
theorem wn2 {j : Nat} (hj : j < 100) (h : Hp) : M_writeNumber_2 h (nI j) = M_writeNumber_1 h (nI j) := by
  rw [wq2, wq1 h (nI j)]
  by_cases q : nI j ≤ 9
  · rw [if_pos q, if_pos q]
  · rw [if_neg q, if_neg q, nI_div10 (by omega), wn1 (by omega)]
set_option maxRecDepth 16384 in
theorem wn3 {j : Nat} (hj : j < 1000) (h : Hp) : M_writeNumber_3 h (nI j) = M_writeNumber_2 h (nI j) := by
  rw [wq3, wq2 h (nI j)]
  by_cases q : nI j ≤ 9
  · rw [if_pos q, if_pos q]
  · rw [if_neg q, if_neg q, nI_div10 (by omega), wn2 (by omega)]
set_option maxRecDepth 16384 in
theorem wn4 {j : Nat} (hj : j < 10000) (h : Hp) : M_writeNumber_4 h (nI j) = M_writeNumber_3 h (nI j) := by
  rw [wq4, wq3 h (nI j)]
  by_cases q : nI j ≤ 9
  · rw [if_pos q, if_pos q]
  · rw [if_neg q, if_neg q, nI_div10 (by omega), wn3 (by omega)]
set_option maxRecDepth 16384 in
theorem wn5 {j : Nat} (hj : j < 100000) (h : Hp) : M_writeNumber_5 h (nI j) = M_writeNumber_4 h (nI j) := by
  rw [wq5, wq4 h (nI j)]
  by_cases q : nI j ≤ 9
  · rw [if_pos q, if_pos q]
  · rw [if_neg q, if_neg q, nI_div10 (by omega), wn4 (by omega)]
set_option maxRecDepth 16384 in
theorem wn6 {j : Nat} (hj : j < 1000000) (h : Hp) : M_writeNumber_6 h (nI j) = M_writeNumber_5 h (nI j) := by
  rw [wq6, wq5 h (nI j)]
  by_cases q : nI j ≤ 9
  · rw [if_pos q, if_pos q]
  · rw [if_neg q, if_neg q, nI_div10 (by omega), wn5 (by omega)]
set_option maxRecDepth 16384 in
theorem wn7 {j : Nat} (hj : j < 10000000) (h : Hp) : M_writeNumber_7 h (nI j) = M_writeNumber_6 h (nI j) := by
  rw [wq7, wq6 h (nI j)]
  by_cases q : nI j ≤ 9
  · rw [if_pos q, if_pos q]
  · rw [if_neg q, if_neg q, nI_div10 (by omega), wn6 (by omega)]
set_option maxRecDepth 16384 in
theorem mnumber8 {h0 h : Hp} {n j : Nat} (R : Rm h0 h n) (hn : n + 8 ≤ 90) (hj : j < 100000000) : ∃ h' n', M_writeNumber_8 h (nI j) = some h' ∧ n' ≤ n + 8 ∧ Rm h0 h' n' := by
  unfold M_writeNumber_8 lt
  dsimp only
  by_cases q : nI j ≤ 9
  · obtain ⟨h', e, R'⟩ := mwrite_ok R (by omega) (48 + (nI j - nI j / 10 * 10))
    rw [if_pos q]
    exact ⟨h', n + 1, by rw [e, Option.bind_some], by omega, R'⟩
  · rw [if_neg q, nI_div10 (by omega)]
    obtain ⟨g, n1, e1, l1, R1⟩ := mnum6 (j := j / 10) R (by omega) (by omega)
    have e7 : M_writeNumber_7 h (nI (j / 10)) = some g := by rw [← e1]; exact wn7 (by omega) h
    obtain ⟨h', e, R'⟩ := mwrite_ok R1 (by omega) (48 + (nI j - nI (j / 10) * 10))
    rw [e7, Option.bind_some]
    exact ⟨h', n1 + 1, by rw [e, Option.bind_some], by omega, R'⟩
set_option maxRecDepth 16384 in
theorem mc_writeReel {h : Hp} (I : IM h) (a1 : Int32) : ∃ v h', M_writeReel h a1 = some (v, h') ∧ Ms h h' := by
  unfold M_writeReel
  obtain ⟨b, eb, pb⟩ := isReel_cases I.1.1 a1
  rw [eb, Option.bind_some]
  unfold lt
  dsimp only
  refine ask I (fun g => if_neg (show ¬ b2i true = 0 by decide)) (fun q g mg wg => ?_)
  dsimp only
  rw [if_pos (show b2i false = 0 from rfl)]
  obtain ⟨r, hr, rfl, -⟩ := pb q
  have wX : Wfx (rd g 141) := by rw [wg]; exact I.1
  have w : Wf (rd g 141) := wX.1
  obtain ⟨m, hm, em⟩ := w.2.2.2.2.2.1 r hr
  unfold nm
  dsimp only
  obtain ⟨h4, e4⟩ : ∃ h4, h4 = up2 g 140 14 0 := ⟨_, rfl⟩
  have R4 : Rm g h4 0 := by
    rw [e4]
    exact ⟨by rw [u140, if_pos rfl]; rfl, fun k a b => rd_up2_ne a, fun i a => by rw [u140, if_neg a]⟩
  obtain ⟨h', e, n', hn', R'⟩ := loop0 (fun n (s : Hp) v => M_writeReel_L29 (nI r) n (nI v) s) 9 (fun s v => ∃ n, n ≤ 9 * v ∧ Rm g s n) (fun s => ∃ n, n ≤ 81 ∧ Rm g s n) (by decide) (fun n s v hv hs => by
    obtain ⟨k, hk, R⟩ := hs
    have ws : rd s 141 = rd g 141 := R.2.1 141 (by decide) (by decide)
    rw [M_writeReel_L29, mbeds_ok hr, Option.bind_some, ws, em]
    by_cases z : m ≤ v
    · exact Or.inl ⟨_, if_pos (nI_le z (by omega)), k, by omega, R⟩
    · rw [if_neg (nI_ge (by omega) (by omega))]
      unfold lt
      dsimp only
      have go : ∀ (u : Hp) (l : Nat), l ≤ 9 * v + 1 → Rm g u l → ∃ u', ((M_inBed u (nI r) (nI v)).bind fun t6 => (M_writeBed u t6).bind fun h8 => M_writeReel_L29 (nI r) n (nI v + 1) h8) = M_writeReel_L29 (nI r) n (nI (v + 1)) u' ∧ ∃ l', l' ≤ 9 * (v + 1) ∧ Rm g u' l' := fun u l hl Ru => by
        have wu : rd u 141 = rd g 141 := Ru.2.1 141 (by decide) (by decide)
        have wfu : Wf (rd u 141) := by rw [wu]; exact w
        rw [minBed_ok hr (by omega), Option.bind_some, nI_1]
        unfold M_writeBed
        rcases wfu.2.2.2.2.2.2.2 (9 * r + v) (by omega) with a | a | ⟨d, hd, a⟩
        · obtain ⟨u', eu, Ru'⟩ := mwrite_ok Ru (by omega) 45
          rw [a, if_pos rfl, eu, Option.bind_some, Option.bind_some]
          exact ⟨u', rfl, l + 1, by omega, Ru'⟩
        · obtain ⟨u', eu, Ru'⟩ := mwrite_ok Ru (by omega) 126
          rw [a, if_neg (by decide), if_pos rfl, eu, Option.bind_some, Option.bind_some]
          exact ⟨u', rfl, l + 1, by omega, Ru'⟩
        · obtain ⟨j, hj, ej⟩ := wfu.2.2.2.1 d hd
          obtain ⟨u', l', eu, hl', Ru'⟩ := mnumber8 (j := j) Ru (by omega) (by omega)
          have n2 : ¬ nI d = -2 := fun z => by
            have h1 := nI_toInt (show d < 2 ^ 31 by omega)
            rw [z] at h1
            have : (-2 : Int32).toInt = -2 := by decide
            omega
          rw [a, if_neg (nI_nm1 (by omega)), if_neg n2, mof0 hd, Option.bind_some, ej, eu, Option.bind_some, Option.bind_some]
          exact ⟨u', rfl, l', by omega, Ru'⟩
      refine Or.inr ⟨by omega, ?_⟩
      by_cases z2 : nI v ≤ 0
      · rw [if_pos z2]
        obtain ⟨u', a, b⟩ := go s k (by omega) R
        exact ⟨u', b, a⟩
      · obtain ⟨u, eu, Ru⟩ := mwrite_ok R (by omega) 32
        rw [if_neg z2, eu, Option.bind_some]
        obtain ⟨u', a, b⟩ := go u (k + 1) (by omega) Ru
        exact ⟨u', b, a⟩) h4 ⟨0, by omega, R4⟩
  have e : M_writeReel_L29 (nI r) FU 0 h4 = some h' := e
  rw [← e4, e, Option.bind_some]
  have J := mg.1
  refine ⟨_, h', rfl, ⟨?_, ?_, ?_, ?_, ?_, ?_⟩, fun k a => R'.2.1 k (by omega) (by omega), R'.2.2 9 (by decide)⟩
  · rw [R'.2.1 141 (by decide) (by decide)]; exact J.1
  · rw [R'.2.1 144 (by decide) (by decide)]; exact J.2.1
  · rw [R'.2.1 145 (by decide) (by decide)]; exact J.2.2.1
  · rw [R'.2.2 5 (by decide)]; exact J.2.2.2.1
  · rw [R'.2.2 9 (by decide)]; exact J.2.2.2.2.1
  · exact ⟨n', by omega, R'.1⟩
set_option maxRecDepth 16384 in
theorem mc_reportByte {h : Hp} (I : IM h) (a1 : Int32) : ∃ v h', M_reportByte h a1 = some (v, h') ∧ Ms h h' := by
  unfold M_reportByte
  rw [nm_eq]
  have m : Ms h (up2 h 140 15 0) := Ms.fld I (by decide)
  obtain ⟨g, eg⟩ : ∃ g, g = up2 h 140 15 0 := ⟨_, rfl⟩
  rw [← eg] at m ⊢
  have w := m.1.1.1
  obtain ⟨n, hn, en⟩ := m.1.2.2.2.2.2
  obtain ⟨b, eb, pb⟩ := in_cases a1 0 (rd g 140 14 - 1)
  rw [eb, Option.bind_some]
  by_cases z : b2i b = 0
  · rw [if_pos z]; exact ⟨_, g, rfl, m⟩
  · have b1 : b = true := by cases b; exact absurd rfl z; rfl
    rw [en] at pb
    obtain ⟨j, hj, rfl⟩ := range_pred (by omega) (pb b1).1 (pb b1).2
    rw [if_neg z, rdO_in (by omega) (by decide), Option.bind_some]
    exact ⟨_, g, rfl, m⟩
set_option maxRecDepth 16384 in
theorem cc_meanFat {h : Hp} (I : IC h) : ∃ v, C_meanFat h = some v := by
  obtain ⟨t, ht, et⟩ := I.1.1.clips
  obtain ⟨S, -, eS, -⟩ := inState_ok I.1.1 2 et ht
  obtain ⟨k, hk, ek⟩ := bitCount_ok (nI S)
  unfold C_meanFat
  rw [eS, Option.bind_some, ek, Option.bind_some, et]
  by_cases z : 1 ≤ nI t - nI k
  · have l : k < t := by
      have a := pk_sub_toInt (a := t) (b := k) (by omega) (by omega)
      rw [Int32.le_iff_toInt_le, a] at z
      have : (1 : Int32).toInt = 1 := by decide
      omega
    have s := fsum_le I.1.1.fats t ht
    have d := dd_all (t - k - 1) (by omega) (fsum (rd h (1 + 5)) t) (by omega)
    rw [show 1 + (t - k - 1) = t - k by omega] at d
    obtain ⟨x, ex⟩ := Option.isSome_iff_exists.mp d
    rw [if_pos z, allFat_ok I.1.1 et ht, Option.bind_some, pk_sub (by omega), ex, Option.bind_some]
    exact ⟨x, rfl⟩
  · rw [if_neg z]; exact ⟨_, rfl⟩
set_option maxRecDepth 16384 in
theorem cc_sleepShare {h : Hp} (I : IC h) : ∃ v y, C_sleepShare h = some v ∧ f2dO v = some y := by
  obtain ⟨t, ht, et⟩ := I.1.1.clips
  obtain ⟨S, -, eS, -⟩ := inState_ok I.1.1 1 et ht
  obtain ⟨k, hk, ek⟩ := bitCount_ok (nI S)
  unfold C_sleepShare
  rw [eS, Option.bind_some, ek, Option.bind_some, et]
  by_cases z : 1 ≤ nI t
  · have l : 1 ≤ t := by
      by_cases c : t = 0
      · subst c; exact absurd z (by decide)
      · omega
    have d := ff_all (t - 1) (by omega) k (by omega)
    rw [show 1 + (t - 1) = t by omega] at d
    obtain ⟨y, ey⟩ := Option.isSome_iff_exists.mp d
    obtain ⟨x, ex, ey⟩ := Option.bind_eq_some_iff.mp ey
    rw [if_pos z, ex, Option.bind_some]
    exact ⟨x, y, rfl, ey⟩
  · rw [if_neg z]
    obtain ⟨y, ey⟩ := Option.isSome_iff_exists.mp (show (f2dO 0).isSome = true by decide +kernel)
    exact ⟨0, y, rfl, ey⟩
