/-! ===== the model's calls, one by one ===== -/
set_option maxRecDepth 16384 in
theorem told_ok {h : Hp} (I : IM h) {i : Nat} (hi : i < 106) : ∃ v h', M_told h (nI i) = some (v, h') ∧ Ms h h' := by
  unfold M_told nm
  dsimp only
  rw [r106 hi, Option.bind_some]
  exact ⟨_, _, rfl, Ms.fld I (by decide)⟩
set_option maxRecDepth 16384 in
theorem mc_week {h : Hp} (I : IM h) : ∃ v h', M_week h = some (v, h') ∧ Ms h h' := by
  unfold M_week
  obtain ⟨v, h', e, m⟩ := told_ok I (i := 0) (by decide)
  have e : M_told h 0 = some (v, h') := e
  rw [e, Option.bind_some]
  exact ⟨v, h', rfl, m⟩
set_option maxRecDepth 16384 in
theorem mc_food {h : Hp} (I : IM h) : ∃ v h', M_food h = some (v, h') ∧ Ms h h' := by
  unfold M_food
  obtain ⟨v, h', e, m⟩ := told_ok I (i := 1) (by decide)
  have e : M_told h 1 = some (v, h') := e
  rw [e, Option.bind_some]
  exact ⟨v, h', rfl, m⟩
set_option maxRecDepth 16384 in
theorem mc_clipCount {h : Hp} (I : IM h) : ∃ v h', M_clipCount h = some (v, h') ∧ Ms h h' := by
  unfold M_clipCount
  obtain ⟨v, h', e, m⟩ := told_ok I (i := 2) (by decide)
  have e : M_told h 2 = some (v, h') := e
  rw [e, Option.bind_some]
  exact ⟨v, h', rfl, m⟩
set_option maxRecDepth 16384 in
theorem mc_reelCount {h : Hp} (I : IM h) : ∃ v h', M_reelCount h = some (v, h') ∧ Ms h h' := by
  unfold M_reelCount
  obtain ⟨v, h', e, m⟩ := told_ok I (i := 3) (by decide)
  have e : M_told h 3 = some (v, h') := e
  rw [e, Option.bind_some]
  exact ⟨v, h', rfl, m⟩
set_option maxRecDepth 16384 in
theorem mc_sceneCount {h : Hp} (I : IM h) : ∃ v h', M_sceneCount h = some (v, h') ∧ Ms h h' := by
  unfold M_sceneCount
  obtain ⟨v, h', e, m⟩ := told_ok I (i := 4) (by decide)
  have e : M_told h 4 = some (v, h') := e
  rw [e, Option.bind_some]
  exact ⟨v, h', rfl, m⟩
set_option maxRecDepth 16384 in
theorem mc_burnedFat {h : Hp} (I : IM h) : ∃ v h', M_burnedFat h = some (v, h') ∧ Ms h h' := by
  unfold M_burnedFat
  obtain ⟨v, h', e, m⟩ := told_ok I (i := 5) (by decide)
  have e : M_told h 5 = some (v, h') := e
  rw [e, Option.bind_some]
  exact ⟨v, h', rfl, m⟩
set_option maxRecDepth 16384 in
theorem mc_wakings {h : Hp} (I : IM h) : ∃ v h', M_wakings h = some (v, h') ∧ Ms h h' := by
  unfold M_wakings
  obtain ⟨v, h', e, m⟩ := told_ok I (i := 7) (by decide)
  have e : M_told h 7 = some (v, h') := e
  rw [e, Option.bind_some]
  exact ⟨v, h', rfl, m⟩
set_option maxRecDepth 16384 in
theorem mc_scriptErrorKind {h : Hp} (I : IM h) : ∃ v h', M_scriptErrorKind h = some (v, h') ∧ Ms h h' := by
  unfold M_scriptErrorKind
  unfold nm
  exact ⟨_, _, rfl, Ms.fld I (by decide)⟩
set_option maxRecDepth 16384 in
theorem mc_scriptErrorOffset {h : Hp} (I : IM h) : ∃ v h', M_scriptErrorOffset h = some (v, h') ∧ Ms h h' := by
  unfold M_scriptErrorOffset
  unfold nm
  exact ⟨_, _, rfl, Ms.fld I (by decide)⟩
set_option maxRecDepth 16384 in
theorem mc_undoCount {h : Hp} (I : IM h) : ∃ v h', M_undoCount h = some (v, h') ∧ Ms h h' := by
  unfold M_undoCount
  unfold nm
  exact ⟨_, _, rfl, Ms.fld I (by decide)⟩
set_option maxRecDepth 16384 in
theorem mc_springs {h : Hp} (I : IM h) (a1 : Int32) : ∃ v h', M_springs h a1 = some (v, h') ∧ Ms h h' := by
  unfold M_springs
  obtain ⟨b, eb, pb⟩ := isScene_cases I.1.1 a1
  rw [eb, Option.bind_some]
  unfold lt
  dsimp only
  refine ask I (fun g => if_neg (show ¬ b2i true = 0 by decide)) (fun q g mg wg => ?_)
  dsimp only
  rw [if_pos (show b2i false = 0 from rfl)]
  obtain ⟨s, hs, rfl, -⟩ := pb q
  have e : M_scene g (nI s) 1 = some (rd g 141 (96 + 2 * s + 1)) := mscene_ok (f := 1) hs (by decide)
  rw [e, Option.bind_some]
  exact ⟨_, g, rfl, Ms.rf mg.1⟩
set_option maxRecDepth 16384 in
theorem clipTold_ok {h : Hp} (I : IM h) (a1 : Int32) {f : Nat} (hf : f < 4) : ∃ v h', M_clipTold h a1 (nI f) = some (v, h') ∧ Ms h h' := by
  unfold M_clipTold
  obtain ⟨b, eb, pb⟩ := isClip_cases I.1.1 a1
  rw [eb, Option.bind_some]
  unfold lt
  dsimp only
  refine ask I (fun g => if_neg (show ¬ b2i true = 0 by decide)) (fun q g mg wg => ?_)
  dsimp only
  rw [if_pos (show b2i false = 0 from rfl)]
  obtain ⟨c, hc, rfl, -⟩ := pb q
  rw [mof_ok hc hf, Option.bind_some]
  exact ⟨_, g, rfl, Ms.rf mg.1⟩
set_option maxRecDepth 16384 in
theorem mc_state {h : Hp} (I : IM h) (a1 : Int32) : ∃ v h', M_state h a1 = some (v, h') ∧ Ms h h' := by
  unfold M_state
  obtain ⟨v, h', e, m⟩ := clipTold_ok I a1 (f := 1) (by decide)
  have e : M_clipTold h a1 1 = some (v, h') := e
  rw [e, Option.bind_some]
  exact ⟨v, h', rfl, m⟩
set_option maxRecDepth 16384 in
theorem mc_colours {h : Hp} (I : IM h) (a1 : Int32) : ∃ v h', M_colours h a1 = some (v, h') ∧ Ms h h' := by
  unfold M_colours
  obtain ⟨v, h', e, m⟩ := clipTold_ok I a1 (f := 0) (by decide)
  have e : M_clipTold h a1 0 = some (v, h') := e
  rw [e, Option.bind_some]
  exact ⟨v, h', rfl, m⟩
set_option maxRecDepth 16384 in
theorem mc_fat {h : Hp} (I : IM h) (a1 : Int32) : ∃ v h', M_fat h a1 = some (v, h') ∧ Ms h h' := by
  unfold M_fat
  obtain ⟨v, h', e, m⟩ := clipTold_ok I a1 (f := 2) (by decide)
  have e : M_clipTold h a1 2 = some (v, h') := e
  rw [e, Option.bind_some]
  exact ⟨v, h', rfl, m⟩
set_option maxRecDepth 16384 in
theorem mc_sceneOf {h : Hp} (I : IM h) (a1 : Int32) : ∃ v h', M_sceneOf h a1 = some (v, h') ∧ Ms h h' := by
  unfold M_sceneOf
  obtain ⟨v, h', e, m⟩ := clipTold_ok I a1 (f := 3) (by decide)
  have e : M_clipTold h a1 3 = some (v, h') := e
  rw [e, Option.bind_some]
  exact ⟨v, h', rfl, m⟩
set_option maxRecDepth 16384 in
theorem mc_length {h : Hp} (I : IM h) (a1 : Int32) : ∃ v h', M_length h a1 = some (v, h') ∧ Ms h h' := by
  unfold M_length
  obtain ⟨b, eb, pb⟩ := isClip_cases I.1.1 a1
  rw [eb, Option.bind_some]
  unfold lt
  dsimp only
  refine ask I (fun g => if_neg (show ¬ b2i true = 0 by decide)) (fun q g mg wg => ?_)
  dsimp only
  rw [if_pos (show b2i false = 0 from rfl)]
  obtain ⟨c, hc, rfl, -⟩ := pb q
  have wX : Wfx (rd g 141) := by rw [wg]; exact I.1
  have w : Wf (rd g 141) := wX.1
  obtain ⟨d, hd, ed, -, -⟩ := mdigits_ok (w.2.2.2.1 c hc)
  rw [mof0 hc, Option.bind_some, ed, Option.bind_some]
  exact ⟨_, g, rfl, Ms.rf mg.1⟩
set_option maxRecDepth 16384 in
theorem mc_hash {h : Hp} (I : IM h) (a1 : Int32) : ∃ v h', M_hash h a1 = some (v, h') ∧ Ms h h' := by
  unfold M_hash
  obtain ⟨b, eb, pb⟩ := isClip_cases I.1.1 a1
  rw [eb, Option.bind_some]
  unfold lt
  dsimp only
  refine ask I (fun g => if_neg (show ¬ b2i true = 0 by decide)) (fun q g mg wg => ?_)
  dsimp only
  rw [if_pos (show b2i false = 0 from rfl)]
  obtain ⟨c, hc, rfl, -⟩ := pb q
  have wX : Wfx (rd g 141) := by rw [wg]; exact I.1
  have w : Wf (rd g 141) := wX.1
  obtain ⟨v, -, ev⟩ := mhashOf_ok w hc
  rw [ev, Option.bind_some]
  exact ⟨_, g, rfl, Ms.rf mg.1⟩
set_option maxRecDepth 16384 in
theorem mc_reelOf {h : Hp} (I : IM h) (a1 : Int32) : ∃ v h', M_reelOf h a1 = some (v, h') ∧ Ms h h' := by
  unfold M_reelOf
  obtain ⟨b, eb, pb⟩ := isClip_cases I.1.1 a1
  rw [eb, Option.bind_some]
  unfold lt
  dsimp only
  refine ask I (fun g => if_neg (show ¬ b2i true = 0 by decide)) (fun q g mg wg => ?_)
  dsimp only
  rw [if_pos (show b2i false = 0 from rfl)]
  obtain ⟨c, hc, rfl, -⟩ := pb q
  have wX : Wfx (rd g 141) := by rw [wg]; exact I.1
  have w : Wf (rd g 141) := wX.1
  obtain ⟨v, ev, -⟩ := mreelWith_ok w (nI c)
  rw [ev, Option.bind_some]
  exact ⟨_, g, rfl, Ms.rf mg.1⟩
set_option maxRecDepth 16384 in
theorem mc_bedOf {h : Hp} (I : IM h) (a1 : Int32) : ∃ v h', M_bedOf h a1 = some (v, h') ∧ Ms h h' := by
  unfold M_bedOf
  obtain ⟨b, eb, pb⟩ := isClip_cases I.1.1 a1
  rw [eb, Option.bind_some]
  unfold lt
  dsimp only
  refine ask I (fun g => if_neg (show ¬ b2i true = 0 by decide)) (fun q g mg wg => ?_)
  dsimp only
  rw [if_pos (show b2i false = 0 from rfl)]
  obtain ⟨c, hc, rfl, -⟩ := pb q
  have wX : Wfx (rd g 141) := by rw [wg]; exact I.1
  have w : Wf (rd g 141) := wX.1
  obtain ⟨v, ev, pv⟩ := mreelWith_ok w (nI c)
  rw [ev, Option.bind_some]
  rcases pv with ⟨rfl, -⟩ | ⟨r, b, hb, rfl, -, e2⟩
  · rw [if_pos rfl]; exact ⟨_, g, rfl, Ms.rf mg.1⟩
  · have h1 := hb.1
    rw [if_neg (nI_nm1 (by omega)), e2, Option.bind_some]; exact ⟨_, g, rfl, Ms.rf mg.1⟩
set_option maxRecDepth 16384 in
theorem mc_commonRun {h : Hp} (I : IM h) (a1 a2 : Int32) : ∃ v h', M_commonRun h a1 a2 = some (v, h') ∧ Ms h h' := by
  unfold M_commonRun
  unfold lt
  dsimp only
  obtain ⟨b, eb, pb⟩ := isClip_cases I.1.1 a1
  rw [eb, Option.bind_some]
  have bad : ∃ v h', ((M_throwsOne h true).bind fun x => if b2i x.1 = 0 then (M_run x.2 a1 a2).bind fun t4 => some (t4, x.2) else some (0, x.2)) = some (v, h') ∧ Ms h h' := ask1 I (fun g => if_neg (show ¬ b2i true = 0 by decide)) (fun q => by cases q)
  by_cases q : b2i b = 0
  · rw [if_pos q]; exact bad
  · rw [if_neg q]
    have b1 : b = true := by cases b; exact absurd rfl q; rfl
    obtain ⟨c, hc, rfl, -⟩ := pb b1
    obtain ⟨b', eb', pb'⟩ := isClip_cases I.1.1 a2
    rw [eb', Option.bind_some]
    by_cases q' : b2i b' = 0
    · rw [if_pos q']; exact bad
    · rw [if_neg q']
      have b1' : b' = true := by cases b'; exact absurd rfl q'; rfl
      obtain ⟨d, hd, rfl, -⟩ := pb' b1'
      refine ask1 I (fun g => if_neg (show ¬ b2i true = 0 by decide)) (fun _ g mg wg => ?_)
      have wX : Wfx (rd g 141) := by rw [wg]; exact I.1
      have w : Wf (rd g 141) := wX.1
      obtain ⟨v, ev⟩ := mrun_ok w hc hd
      dsimp only
      rw [if_pos (show b2i false = 0 from rfl), ev, Option.bind_some]
      exact ⟨_, g, rfl, Ms.rf mg.1⟩
set_option maxRecDepth 16384 in
theorem mc_nearestClip {h : Hp} (I : IM h) (a1 : Int32) : ∃ v h', M_nearestClip h a1 = some (v, h') ∧ Ms h h' := by
  unfold M_nearestClip
  obtain ⟨b, eb, pb⟩ := isClip_cases I.1.1 a1
  rw [eb, Option.bind_some]
  unfold lt
  dsimp only
  refine ask I (fun g => if_neg (show ¬ b2i true = 0 by decide)) (fun q g mg wg => ?_)
  dsimp only
  rw [if_pos (show b2i false = 0 from rfl)]
  obtain ⟨c, hc, rfl, -⟩ := pb q
  have wX : Wfx (rd g 141) := by rw [wg]; exact I.1
  have w : Wf (rd g 141) := wX.1
  obtain ⟨t, ht, et⟩ := w.1
  obtain ⟨x, e, -⟩ := loop0 (fun n s v => M_nearestClip_L26 g (nI c) n s (nI v)) 12 (fun s v => s = -1 ∨ ∃ d, d < 12 ∧ s = nI d) (fun _ => True) (by decide) (fun n s v hv hs => by
    rw [M_nearestClip_L26, m2, Option.bind_some, et]
    by_cases z : t ≤ v
    · exact Or.inl ⟨_, if_pos (nI_le z (by omega)), trivial⟩
    · rw [if_neg (nI_ge (by omega) (by omega)), nI_1]
      refine Or.inr ⟨by omega, ?_⟩
      by_cases z1 : nI v = nI c
      · rw [if_pos z1]; exact ⟨s, hs, rfl⟩
      rw [if_neg z1]
      by_cases z2 : s = -1
      · rw [if_pos z2]; exact ⟨_, Or.inr ⟨v, by omega, rfl⟩, rfl⟩
      obtain ⟨d, hd, rfl⟩ := hs.resolve_left z2
      obtain ⟨x, ex⟩ := mrun_ok w hc (by omega : v < 12)
      obtain ⟨y, ey⟩ := mrun_ok w hc hd
      rw [if_neg z2, ex, Option.bind_some, ey, Option.bind_some]
      by_cases z3 : x ≤ y
      · rw [if_pos z3]; exact ⟨_, Or.inr ⟨d, hd, rfl⟩, rfl⟩
      · rw [if_neg z3]; exact ⟨_, Or.inr ⟨v, by omega, rfl⟩, rfl⟩) (-1) (Or.inl rfl)
  have e : M_nearestClip_L26 g (nI c) FU (-1) 0 = some x := e
  rw [e, Option.bind_some]
  exact ⟨_, g, rfl, Ms.rf mg.1⟩
set_option maxRecDepth 16384 in
theorem mc_twinsOf {h : Hp} (I : IM h) (a1 : Int32) : ∃ v h', M_twinsOf h a1 = some (v, h') ∧ Ms h h' := by
  unfold M_twinsOf
  obtain ⟨b, eb, pb⟩ := isClip_cases I.1.1 a1
  rw [eb, Option.bind_some]
  unfold lt
  dsimp only
  refine ask I (fun g => if_neg (show ¬ b2i true = 0 by decide)) (fun q g mg wg => ?_)
  dsimp only
  rw [if_pos (show b2i false = 0 from rfl)]
  obtain ⟨c, hc, rfl, -⟩ := pb q
  have wX : Wfx (rd g 141) := by rw [wg]; exact I.1
  have w : Wf (rd g 141) := wX.1
  obtain ⟨t, ht, et⟩ := w.1
  obtain ⟨k, -, ek⟩ := mhashOf_ok w hc
  obtain ⟨x, e, -⟩ := loop0 (fun n s v => M_twinsOf_L26 g (nI c) n s (nI v)) 12 (fun _ _ => True) (fun _ => True) (by decide) (fun n s v hv _ => by
    rw [M_twinsOf_L26, m2, Option.bind_some, et]
    by_cases z : t ≤ v
    · exact Or.inl ⟨_, if_pos (nI_le z (by omega)), trivial⟩
    · obtain ⟨k', -, ek'⟩ := mhashOf_ok w (by omega : v < 12)
      rw [if_neg (nI_ge (by omega) (by omega)), ek', Option.bind_some, ek, Option.bind_some, nI_1]
      refine Or.inr ⟨by omega, ?_⟩
      by_cases z1 : nI v = nI c
      · rw [if_pos z1]; exact ⟨_, trivial, rfl⟩
      rw [if_neg z1]
      by_cases z2 : nI k' = nI k
      · rw [if_pos z2]; exact ⟨_, trivial, rfl⟩
      · rw [if_neg z2]; exact ⟨_, trivial, rfl⟩) 0 trivial
  have e : M_twinsOf_L26 g (nI c) FU 0 0 = some x := e
  rw [e, Option.bind_some]
  exact ⟨_, g, rfl, Ms.rf mg.1⟩
set_option maxRecDepth 16384 in
theorem mc_weeksToFade {h : Hp} (I : IM h) (a1 : Int32) : ∃ v h', M_weeksToFade h a1 = some (v, h') ∧ Ms h h' := by
  unfold M_weeksToFade
  obtain ⟨b, eb, pb⟩ := isClip_cases I.1.1 a1
  rw [eb, Option.bind_some]
  unfold lt
  dsimp only
  refine ask I (fun g => if_neg (show ¬ b2i true = 0 by decide)) (fun q g mg wg => ?_)
  dsimp only
  rw [if_pos (show b2i false = 0 from rfl)]
  obtain ⟨c, hc, rfl, -⟩ := pb q
  have wX : Wfx (rd g 141) := by rw [wg]; exact I.1
  have w : Wf (rd g 141) := wX.1
  rw [mof1 hc, Option.bind_some, Option.bind_some, mof2 hc, Option.bind_some, Option.bind_some]
  by_cases z1 : rd g 141 (8 + 4 * c + 1) = 2
  · rw [if_pos z1]; exact ⟨_, g, rfl, Ms.rf mg.1⟩
  rw [if_neg z1]
  by_cases z2 : rd g 141 (8 + 4 * c + 1) = 1
  · rw [if_pos z2]; exact ⟨_, g, rfl, Ms.rf mg.1⟩
  · rw [if_neg z2]; exact ⟨_, g, rfl, Ms.rf mg.1⟩
set_option maxRecDepth 16384 in
theorem mc_bedCount {h : Hp} (I : IM h) (a1 : Int32) : ∃ v h', M_bedCount h a1 = some (v, h') ∧ Ms h h' := by
  unfold M_bedCount
  obtain ⟨b, eb, pb⟩ := isReel_cases I.1.1 a1
  rw [eb, Option.bind_some]
  unfold lt
  dsimp only
  refine ask I (fun g => if_neg (show ¬ b2i true = 0 by decide)) (fun q g mg wg => ?_)
  dsimp only
  rw [if_pos (show b2i false = 0 from rfl)]
  obtain ⟨r, hr, rfl, rlt⟩ := pb q
  have wX : Wfx (rd g 141) := by rw [wg]; exact I.1
  have w : Wf (rd g 141) := wX.1
  rw [mbeds_ok hr, Option.bind_some]
  exact ⟨_, g, rfl, Ms.rf mg.1⟩
set_option maxRecDepth 16384 in
theorem mc_bed {h : Hp} (I : IM h) (a1 a2 : Int32) : ∃ v h', M_bed h a1 a2 = some (v, h') ∧ Ms h h' := by
  unfold M_bed
  unfold lt
  dsimp only
  obtain ⟨b, eb, pb⟩ := isReel_cases I.1.1 a1
  rw [eb, Option.bind_some]
  have bad : ∃ v h', ((M_throwsOne h true).bind fun x => if b2i x.1 = 0 then (M_inBed x.2 a1 a2).bind fun t4 => some (t4, x.2) else some (0, x.2)) = some (v, h') ∧ Ms h h' := ask1 I (fun g => if_neg (show ¬ b2i true = 0 by decide)) (fun q => by cases q)
  by_cases q : b2i b = 0
  · rw [if_pos q]; exact bad
  · rw [if_neg q]
    have b1 : b = true := by cases b; exact absurd rfl q; rfl
    obtain ⟨r, hr, rfl, -⟩ := pb b1
    obtain ⟨m, hm, em⟩ := I.1.1.2.2.2.2.2.1 r hr
    obtain ⟨b', eb', pb'⟩ := in_cases a2 0 (nI m - 1)
    rw [mbeds_ok hr, Option.bind_some, em, eb', Option.bind_some]
    by_cases q' : b2i b' = 0
    · rw [if_pos q']; exact bad
    · rw [if_neg q']
      have b1' : b' = true := by cases b'; exact absurd rfl q'; rfl
      obtain ⟨j, hj, rfl⟩ := range_pred (by omega) (pb' b1').1 (pb' b1').2
      refine ask1 I (fun g => if_neg (show ¬ b2i true = 0 by decide)) (fun _ g mg wg => ?_)
      dsimp only
      rw [if_pos (show b2i false = 0 from rfl), minBed_ok hr (by omega), Option.bind_some]
      exact ⟨_, g, rfl, Ms.rf mg.1⟩
set_option maxRecDepth 16384 in
theorem mc_sleepers {h : Hp} (I : IM h) (a1 : Int32) : ∃ v h', M_sleepers h a1 = some (v, h') ∧ Ms h h' := by
  unfold M_sleepers
  obtain ⟨b, eb, pb⟩ := isReel_cases I.1.1 a1
  rw [eb, Option.bind_some]
  unfold lt
  dsimp only
  refine ask I (fun g => if_neg (show ¬ b2i true = 0 by decide)) (fun q g mg wg => ?_)
  dsimp only
  rw [if_pos (show b2i false = 0 from rfl)]
  obtain ⟨r, hr, rfl, rlt⟩ := pb q
  have wX : Wfx (rd g 141) := by rw [wg]; exact I.1
  have w : Wf (rd g 141) := wX.1
  obtain ⟨m, hm, em⟩ := w.2.2.2.2.2.1 r hr
  obtain ⟨S, -, eS, -, -⟩ := msleepersIn_ok w hr hm em
  rw [eS, Option.bind_some]
  exact ⟨_, g, rfl, Ms.rf mg.1⟩
set_option maxRecDepth 16384 in
theorem throwsPair_ok {h : Hp} (I : IM h) (a1 a2 : Int32) : ∃ b h', M_throwsPair h a1 a2 = some (b, h') ∧ Ms h h' ∧ rd h' 141 = rd h 141 ∧ (b = false → ∃ c r, c < 12 ∧ r < 4 ∧ a1 = nI c ∧ a2 = nI r ∧ nI r < rd h 141 3) := by
  unfold M_throwsPair
  obtain ⟨b, eb, pb⟩ := isClip_cases I.1.1 a1
  rw [eb, Option.bind_some]
  obtain ⟨x, ex⟩ := thr1 h true
  obtain ⟨y, ey⟩ := thr1 h false
  have m : ∀ z, Ms h (up2 h 140 15 z) := fun z => Ms.fld I (by decide)
  have bad : ∃ b h', ((M_throwsOne h true).bind fun u => some (u.1, u.2)) = some (b, h') ∧ Ms h h' ∧ rd h' 141 = rd h 141 ∧ (b = false → ∃ c r, c < 12 ∧ r < 4 ∧ a1 = nI c ∧ a2 = nI r ∧ nI r < rd h 141 3) := by
    rw [ex, Option.bind_some]
    exact ⟨true, _, rfl, m x, rd_up2_ne (show (141 : Nat) ≠ 140 by decide), fun q => by cases q⟩
  by_cases q : b2i b = 0
  · rw [if_pos q]; exact bad
  · rw [if_neg q]
    have b1 : b = true := by cases b; exact absurd rfl q; rfl
    obtain ⟨c, hc, rfl, -⟩ := pb b1
    obtain ⟨b', eb', pb'⟩ := isReel_cases I.1.1 a2
    rw [eb', Option.bind_some]
    by_cases q' : b2i b' = 0
    · rw [if_pos q']; exact bad
    · have b1' : b' = true := by cases b'; exact absurd rfl q'; rfl
      obtain ⟨r, hr, rfl, rlt⟩ := pb' b1'
      rw [if_neg q', ey, Option.bind_some]
      exact ⟨false, _, rfl, m y, rd_up2_ne (show (141 : Nat) ≠ 140 by decide), fun _ => ⟨c, r, hc, hr, rfl, rfl, rlt⟩⟩
set_option maxRecDepth 16384 in
theorem mc_home {h : Hp} (I : IM h) (a1 a2 : Int32) : ∃ v h', M_home h a1 a2 = some (v, h') ∧ Ms h h' := by
  unfold M_home
  obtain ⟨b, g, eb, mg, wg, pb⟩ := throwsPair_ok I a1 a2
  rw [eb, Option.bind_some]
  dsimp only
  by_cases q : b2i b = 0
  case neg => rw [if_neg q]; exact ⟨_, g, rfl, mg⟩
  rw [if_pos q]
  have b0 : b = false := by cases b; rfl; exact absurd q (by decide)
  obtain ⟨c, r, hc, hr, rfl, rfl, rlt⟩ := pb b0
  have wX : Wfx (rd g 141) := by rw [wg]; exact I.1
  have w : Wf (rd g 141) := wX.1
  obtain ⟨k, hk, ek⟩ := mhashOf_ok w hc
  obtain ⟨m, hm, em⟩ := w.2.2.2.2.2.1 r hr
  have m0 := w.2.2.2.2.2.2.1 r hr (by rw [wg]; exact rlt)
  have m1 : 1 ≤ m := by
    by_cases z : m = 0
    · subst z; exact absurd em m0
    · omega
  rw [mhomeOf_eq hr ek hk em hm m1, Option.bind_some]
  exact ⟨_, g, rfl, mg⟩
set_option maxRecDepth 16384 in
theorem mc_whyNoSleep {h : Hp} (I : IM h) (a1 a2 : Int32) : ∃ v h', M_whyNoSleep h a1 a2 = some (v, h') ∧ Ms h h' := by
  unfold M_whyNoSleep
  obtain ⟨b, g, eb, mg, wg, pb⟩ := throwsPair_ok I a1 a2
  rw [eb, Option.bind_some]
  dsimp only
  by_cases q : b2i b = 0
  case neg => rw [if_neg q]; exact ⟨_, g, rfl, mg⟩
  rw [if_pos q]
  have b0 : b = false := by cases b; rfl; exact absurd q (by decide)
  obtain ⟨c, r, hc, hr, rfl, rfl, rlt⟩ := pb b0
  have wX : Wfx (rd g 141) := by rw [wg]; exact I.1
  have w : Wf (rd g 141) := wX.1
  obtain ⟨v, ev, -⟩ := mwhy_ok w hc hr
  rw [ev, Option.bind_some]
  exact ⟨_, g, rfl, mg⟩
set_option maxRecDepth 16384 in
theorem mc_bedFor {h : Hp} (I : IM h) (a1 a2 : Int32) : ∃ v h', M_bedFor h a1 a2 = some (v, h') ∧ Ms h h' := by
  unfold M_bedFor
  obtain ⟨b, g, eb, mg, wg, pb⟩ := throwsPair_ok I a1 a2
  rw [eb, Option.bind_some]
  dsimp only
  by_cases q : b2i b = 0
  case neg => rw [if_neg q]; exact ⟨_, g, rfl, mg⟩
  rw [if_pos q]
  have b0 : b = false := by cases b; rfl; exact absurd q (by decide)
  obtain ⟨c, r, hc, hr, rfl, rfl, rlt⟩ := pb b0
  have wX : Wfx (rd g 141) := by rw [wg]; exact I.1
  have w : Wf (rd g 141) := wX.1
  obtain ⟨v, ev, pv⟩ := mwhy_ok w hc hr
  rw [ev, Option.bind_some]
  by_cases z : v = 0
  · obtain ⟨q', m, u, hq, hm, eq, em, eu, pu⟩ := mpassedBy_ok w hc hr
    obtain ⟨-, u', eu', nu⟩ := pv z
    rw [eu] at eu'
    obtain rfl := Option.some.inj eu'
    rcases pu with ⟨a, -⟩ | ⟨k, hk, rfl, -⟩
    · exact absurd a nu
    · rw [if_pos z, eu, Option.bind_some, monWay_eq hr eq hq em hm (by omega) (by omega), Option.bind_some]
      exact ⟨_, g, rfl, mg⟩
  · rw [if_neg z]; exact ⟨_, g, rfl, mg⟩
set_option maxRecDepth 16384 in
theorem mc_looksFor {h : Hp} (I : IM h) (a1 a2 : Int32) : ∃ v h', M_looksFor h a1 a2 = some (v, h') ∧ Ms h h' := by
  unfold M_looksFor
  obtain ⟨b, g, eb, mg, wg, pb⟩ := throwsPair_ok I a1 a2
  rw [eb, Option.bind_some]
  dsimp only
  by_cases q : b2i b = 0
  case neg => rw [if_neg q]; exact ⟨_, g, rfl, mg⟩
  rw [if_pos q]
  have b0 : b = false := by cases b; rfl; exact absurd q (by decide)
  obtain ⟨c, r, hc, hr, rfl, rfl, rlt⟩ := pb b0
  have wX : Wfx (rd g 141) := by rw [wg]; exact I.1
  have w : Wf (rd g 141) := wX.1
  obtain ⟨_, _, k, _, _, _, _, _, _, ev, _⟩ := mlooks_ok w hc hr
  rw [ev, Option.bind_some]
  exact ⟨_, g, rfl, mg⟩
set_option maxRecDepth 16384 in
theorem mc_longestLook {h : Hp} (I : IM h) (a1 : Int32) : ∃ v h', M_longestLook h a1 = some (v, h') ∧ Ms h h' := by
  unfold M_longestLook
  obtain ⟨b, eb, pb⟩ := isReel_cases I.1.1 a1
  rw [eb, Option.bind_some]
  unfold lt
  dsimp only
  refine ask I (fun g => if_neg (show ¬ b2i true = 0 by decide)) (fun q g mg wg => ?_)
  dsimp only
  rw [if_pos (show b2i false = 0 from rfl)]
  obtain ⟨r, hr, rfl, rlt⟩ := pb q
  have wX : Wfx (rd g 141) := by rw [wg]; exact I.1
  have w : Wf (rd g 141) := wX.1
  obtain ⟨m, hm, em⟩ := w.2.2.2.2.2.1 r hr
  obtain ⟨x, e, -⟩ := loop0 (fun n s v => M_longestLook_L26 g (nI r) n s (nI v)) 9 (fun _ _ => True) (fun _ => True) (by decide) (fun n s v hv _ => by
    rw [M_longestLook_L26, mbeds_ok hr, Option.bind_some, em]
    by_cases z : m ≤ v
    · exact Or.inl ⟨_, if_pos (nI_le z (by omega)), trivial⟩
    · rw [if_neg (nI_ge (by omega) (by omega)), minBed_ok hr (by omega), Option.bind_some, Option.bind_some, nI_1]
      refine Or.inr ⟨by omega, ?_⟩
      by_cases q0 : rd g 141 (60 + (9 * r + v)) < 0
      · rw [if_pos q0]; exact ⟨_, trivial, rfl⟩
      · rw [if_neg q0]
        rcases w.2.2.2.2.2.2.2 (9 * r + v) (by omega) with a | a | ⟨d, hd, ed⟩
        · rw [a] at q0; exact absurd (by decide) q0
        · rw [a] at q0; exact absurd (by decide) q0
        · obtain ⟨_, _, k, _, _, _, _, _, _, ek, _⟩ := mlooks_ok w hd hr
          rw [ed, ek, Option.bind_some]; exact ⟨_, trivial, rfl⟩) 0 trivial
  have e : M_longestLook_L26 g (nI r) FU 0 0 = some x := e
  rw [e, Option.bind_some]
  exact ⟨_, g, rfl, Ms.rf mg.1⟩
set_option maxRecDepth 16384 in
theorem trial_ok {h : Hp} (I : IM h) {h5 h7 h10 : Hp} (o5 : ∀ k, k ≠ 143 → rd h5 k = rd h k) (d5 : ∀ i, i < 106 → rd h5 143 i = rd h 141 i) (o7 : ∀ k, k ≠ 141 → rd h7 k = rd h5 k) (o10 : ∀ k, k ≠ 141 → rd h10 k = rd h7 k) (d10 : ∀ i, i < 106 → rd h10 141 i = rd h7 143 i) : Ms h h10 := by
  have o : ∀ k, k ≠ 141 → k ≠ 143 → rd h10 k = rd h k := fun k a b => by rw [o10 k a, o7 k a, o5 k b]
  refine ⟨I.cg (fun i hi => ?_) (o 144 (by decide) (by decide)) (o 145 (by decide) (by decide)) (fun i _ => by rw [o 140 (by decide) (by decide)]), fun k a => o k (by omega) (by omega), by rw [o 140 (by decide) (by decide)]⟩
  rw [d10 i hi, o7 143 (by decide), d5 i hi]
set_option maxRecDepth 16384 in
theorem mc_looksIfAired {h : Hp} (I : IM h) (a1 : Int32) : ∃ v h', M_looksIfAired h a1 = some (v, h') ∧ Ms h h' := by
  unfold M_looksIfAired
  obtain ⟨b, eb, pb⟩ := isReel_cases I.1.1 a1
  rw [eb, Option.bind_some]
  unfold lt
  dsimp only
  refine ask I (fun g => if_neg (show ¬ b2i true = 0 by decide)) (fun q g mg wg => ?_)
  dsimp only
  rw [if_pos (show b2i false = 0 from rfl)]
  obtain ⟨r, hr, rfl, rlt⟩ := pb q
  have wX : Wfx (rd g 141) := by rw [wg]; exact I.1
  have w : Wf (rd g 141) := wX.1
  obtain ⟨h5, e5, o5, d5⟩ := aside_w g
  obtain ⟨x, h7, e7, m7⟩ := mairs_ok (h := h5) (by rw [o5 141 (by decide)]; exact w) hr
  obtain ⟨y, e8⟩ := mlooksTogether_ok m7.1 hr
  obtain ⟨h10, e10, o10, d10⟩ := back_w h7
  rw [e5, Option.bind_some, e7, Option.bind_some]
  dsimp only
  rw [e8, Option.bind_some, e10, Option.bind_some]
  exact ⟨_, h10, rfl, trial_ok mg.1 o5 d5 m7.2 o10 d10⟩
set_option maxRecDepth 16384 in
theorem mc_longestCluster {h : Hp} (I : IM h) (a1 : Int32) : ∃ v h', M_longestCluster h a1 = some (v, h') ∧ Ms h h' := by
  unfold M_longestCluster
  obtain ⟨b, eb, pb⟩ := isReel_cases I.1.1 a1
  rw [eb, Option.bind_some]
  unfold lt
  dsimp only
  refine ask I (fun g => if_neg (show ¬ b2i true = 0 by decide)) (fun q g mg wg => ?_)
  dsimp only
  rw [if_pos (show b2i false = 0 from rfl)]
  obtain ⟨r, hr, rfl, rlt⟩ := pb q
  have wX : Wfx (rd g 141) := by rw [wg]; exact I.1
  have w : Wf (rd g 141) := wX.1
  obtain ⟨m, hm, em⟩ := w.2.2.2.2.2.1 r hr
  have m0 := w.2.2.2.2.2.2.1 r hr (by rw [wg]; exact rlt)
  have m1 : 1 ≤ m := by
    by_cases z : m = 0
    · subst z; exact absurd em m0
    · omega
  obtain ⟨x, e, -⟩ := loop0 (fun n (s : Int32 × Int32) v => M_longestCluster_L29 g (nI r) n s.1 s.2 (nI v)) 18 (fun _ _ => True) (fun _ => True) (by decide) (fun n s v hv _ => by
    rw [M_longestCluster_L29, mbeds_ok hr, Option.bind_some, em, show (2 : Int32) = nI 2 from rfl, pk_mul]
    by_cases z : 2 * m ≤ v
    · exact Or.inl ⟨_, if_pos (nI_le z (by omega)), trivial⟩
    · have hb := Nat.mod_lt v (show 0 < m by omega)
      have n0 : ¬ nI m = 0 := nI_ne0 m1 (by omega)
      have er : rmO (nI v) (nI m) = some (nI (v % m)) := by
        unfold rmO
        rw [if_neg n0, pk_rem (by omega) m1 (by omega)]
      rw [if_neg (nI_ge (by omega) (by omega)), Option.bind_some, er, Option.bind_some, minBed_ok hr (by omega), Option.bind_some]
      unfold lt
      dsimp only
      rw [nI_1]
      refine Or.inr ⟨by omega, ?_⟩
      by_cases z1 : rd g 141 (60 + (9 * r + v % m)) = -1
      · rw [if_pos z1]; exact ⟨(_, _), trivial, rfl⟩
      · rw [if_neg z1]; exact ⟨(_, _), trivial, rfl⟩) (0, 0) trivial
  have e : M_longestCluster_L29 g (nI r) FU 0 0 0 = some x := e
  rw [e, Option.bind_some, mbeds_ok hr, Option.bind_some]
  exact ⟨_, g, rfl, Ms.rf mg.1⟩
set_option maxRecDepth 16384 in
theorem mc_bestReel {h : Hp} (I : IM h) (a1 : Int32) : ∃ v h', M_bestReel h a1 = some (v, h') ∧ Ms h h' := by
  unfold M_bestReel
  obtain ⟨b, eb, pb⟩ := isClip_cases I.1.1 a1
  rw [eb, Option.bind_some]
  unfold lt
  dsimp only
  refine ask I (fun g => if_neg (show ¬ b2i true = 0 by decide)) (fun q g mg wg => ?_)
  dsimp only
  rw [if_pos (show b2i false = 0 from rfl)]
  obtain ⟨c, hc, rfl, -⟩ := pb q
  have wX : Wfx (rd g 141) := by rw [wg]; exact I.1
  have w : Wf (rd g 141) := wX.1
  obtain ⟨t, ht, et⟩ := w.2.1
  obtain ⟨x, e, -⟩ := loop0 (fun n s v => M_bestReel_L26 g (nI c) n s (nI v)) 4 (fun s v => s = -1 ∨ ∃ d, d < 4 ∧ s = nI d) (fun _ => True) (by decide) (fun n s v hv hs => by
    rw [M_bestReel_L26, m3, Option.bind_some, et]
    by_cases z : t ≤ v
    · exact Or.inl ⟨_, if_pos (nI_le z (by omega)), trivial⟩
    · obtain ⟨y, ey, -⟩ := mwhy_ok w hc (by omega : v < 4)
      rw [if_neg (nI_ge (by omega) (by omega)), ey, Option.bind_some, nI_1]
      refine Or.inr ⟨by omega, ?_⟩
      by_cases z1 : y = 0
      · rw [if_pos z1]
        by_cases z2 : s = -1
        · rw [if_pos z2]; exact ⟨_, Or.inr ⟨v, by omega, rfl⟩, rfl⟩
        · obtain ⟨d, hd, rfl⟩ := hs.resolve_left z2
          obtain ⟨_, _, a, _, _, _, _, ea, _⟩ := mpassedBy_ok w hc (by omega : v < 4)
          obtain ⟨_, _, b, _, _, _, _, eb, _⟩ := mpassedBy_ok w hc hd
          rw [if_neg z2, ea, Option.bind_some, eb, Option.bind_some]
          by_cases z3 : b ≤ a
          · rw [if_pos z3]; exact ⟨_, Or.inr ⟨d, hd, rfl⟩, rfl⟩
          · rw [if_neg z3]; exact ⟨_, Or.inr ⟨v, by omega, rfl⟩, rfl⟩
      · rw [if_neg z1]; exact ⟨_, hs, rfl⟩) (-1) (Or.inl rfl)
  have e : M_bestReel_L26 g (nI c) FU (-1) 0 = some x := e
  rw [e, Option.bind_some]
  exact ⟨_, g, rfl, Ms.rf mg.1⟩
set_option maxRecDepth 16384 in
theorem mc_firstMatch {h : Hp} (I : IM h) (a1 a2 : Int32) : ∃ v h', M_firstMatch h a1 a2 = some (v, h') ∧ Ms h h' := by
  unfold M_firstMatch
  unfold lt
  dsimp only
  obtain ⟨b, eb, pb⟩ := isClip_cases I.1.1 a1
  rw [eb, Option.bind_some]
  have ep : ∃ b', M_isPattern a2 = some b' ∧ (b' = true → ∃ j, 1 ≤ j ∧ j ≤ 9999 ∧ a2 = nI j) := by
    obtain ⟨b', eb', pb'⟩ := in_cases a2 1 9999
    exact ⟨b', by unfold M_isPattern; rw [eb', Option.bind_some], fun q => range_of (a := 1) (b := 9999) rfl rfl (by decide) (by decide) (pb' q).1 (pb' q).2⟩
  obtain ⟨b', eb', pb'⟩ := ep
  have fin : ∀ x y : Bool, (x = false → b = true) → (y = false → b' = true) → ∃ v h', (M_throwsOne2 h x y).bind (fun u => if b2i u.1 = 0 then (M_matchOf u.2 a1 a2).bind fun t5 => some (t5, u.2) else some (0, u.2)) = some (v, h') ∧ Ms h h' := fun x y px py => by
    refine ask2 I (fun g => if_neg (show ¬ b2i true = 0 by decide)) (fun qx qy g mg wg => ?_)
    dsimp only
    rw [if_pos (show b2i false = 0 from rfl)]
    obtain ⟨c, hc, rfl, -⟩ := pb (px qx)
    obtain ⟨j, j1, j2, rfl⟩ := pb' (py qy)
    have wX : Wfx (rd g 141) := by rw [wg]; exact I.1
    have w : Wf (rd g 141) := wX.1
    obtain ⟨v, ev⟩ := mmatchOf_ok w hc (y := nI j) ⟨j, by omega, rfl⟩
    rw [ev, Option.bind_some]
    exact ⟨_, g, rfl, Ms.rf mg.1⟩
  by_cases q : b2i b = 0
  · rw [if_pos q, eb', Option.bind_some]
    by_cases q' : b2i b' = 0
    · rw [if_pos q']; exact fin true true (fun z => by cases z) (fun z => by cases z)
    · rw [if_neg q']; exact fin true false (fun z => by cases z) (fun _ => by cases b'; exact absurd rfl q'; rfl)
  · rw [if_neg q, eb', Option.bind_some]
    by_cases q' : b2i b' = 0
    · rw [if_pos q']; exact fin false true (fun _ => by cases b; exact absurd rfl q; rfl) (fun z => by cases z)
    · rw [if_neg q']; exact fin false false (fun _ => by cases b; exact absurd rfl q; rfl) (fun _ => by cases b'; exact absurd rfl q'; rfl)
set_option maxRecDepth 16384 in
theorem mc_cut {h : Hp} (I : IM h) (a1 a2 : Int32) : ∃ v h', M_cut h a1 a2 = some (v, h') ∧ Ms h h' := by
  unfold M_cut
  unfold lt
  dsimp only
  obtain ⟨b, eb, pb⟩ := isScene_cases I.1.1 a1
  rw [eb, Option.bind_some]
  have ep : ∃ b', M_isPattern a2 = some b' ∧ (b' = true → ∃ j, 1 ≤ j ∧ j ≤ 9999 ∧ a2 = nI j) := by
    obtain ⟨b', eb', pb'⟩ := in_cases a2 1 9999
    exact ⟨b', by unfold M_isPattern; rw [eb', Option.bind_some], fun q => range_of (a := 1) (b := 9999) rfl rfl (by decide) (by decide) (pb' q).1 (pb' q).2⟩
  obtain ⟨b', eb', pb'⟩ := ep
  have fin : ∀ x y : Bool, (x = false → b = true) → (y = false → b' = true) → ∃ v h', (M_throwsOne2 h x y).bind (fun u => if b2i u.1 = 0 then (M_begins u.2).bind fun h6 => (M_cuts h6 a1 a2).bind fun x => (M_remember x.2 x.1).bind fun y => some (y.1, y.2) else some (0, u.2)) = some (v, h') ∧ Ms h h' := fun x y px py => by
    refine ask2 I (fun g => if_neg (show ¬ b2i true = 0 by decide)) (fun qx qy g mg wg => ?_)
    dsimp only
    rw [if_pos (show b2i false = 0 from rfl)]
    obtain ⟨c, hc, rfl, -⟩ := pb (px qx)
    obtain ⟨j, j1, j2, rfl⟩ := pb' (py qy)
    have wX : Wfx (rd g 141) := by rw [wg]; exact I.1
    have w : Wf (rd g 141) := wX.1
    exact mchange mg.1 (F := fun u => M_cuts u (nI c) (nI j)) (fun u eu => mcuts_x (by rw [eu]; exact wX) hc ⟨j, by omega, rfl⟩)
  by_cases q : b2i b = 0
  · rw [if_pos q, eb', Option.bind_some]
    by_cases q' : b2i b' = 0
    · rw [if_pos q']; exact fin true true (fun z => by cases z) (fun z => by cases z)
    · rw [if_neg q']; exact fin true false (fun z => by cases z) (fun _ => by cases b'; exact absurd rfl q'; rfl)
  · rw [if_neg q, eb', Option.bind_some]
    by_cases q' : b2i b' = 0
    · rw [if_pos q']; exact fin false true (fun _ => by cases b; exact absurd rfl q; rfl) (fun z => by cases z)
    · rw [if_neg q']; exact fin false false (fun _ => by cases b; exact absurd rfl q; rfl) (fun _ => by cases b'; exact absurd rfl q'; rfl)
set_option maxRecDepth 16384 in
theorem mc_wokenBy {h : Hp} (I : IM h) (a1 a2 : Int32) : ∃ v h', M_wokenBy h a1 a2 = some (v, h') ∧ Ms h h' := by
  unfold M_wokenBy
  unfold lt
  dsimp only
  obtain ⟨b, eb, pb⟩ := isScene_cases I.1.1 a1
  rw [eb, Option.bind_some]
  have ep : ∃ b', M_isPattern a2 = some b' ∧ (b' = true → ∃ j, 1 ≤ j ∧ j ≤ 9999 ∧ a2 = nI j) := by
    obtain ⟨b', eb', pb'⟩ := in_cases a2 1 9999
    exact ⟨b', by unfold M_isPattern; rw [eb', Option.bind_some], fun q => range_of (a := 1) (b := 9999) rfl rfl (by decide) (by decide) (pb' q).1 (pb' q).2⟩
  obtain ⟨b', eb', pb'⟩ := ep
  have fin : ∀ x y : Bool, (x = false → b = true) → (y = false → b' = true) → ∃ v h', (M_throwsOne2 h x y).bind (fun u => if b2i u.1 = 0 then (M_setAside u.2).bind fun h6 => (M_cuts h6 a1 a2).bind fun x => (M_bringBack x.2).bind fun h10 => some (x.1, h10) else some (0, u.2)) = some (v, h') ∧ Ms h h' := fun x y px py => by
    refine ask2 I (fun g => if_neg (show ¬ b2i true = 0 by decide)) (fun qx qy g mg wg => ?_)
    dsimp only
    rw [if_pos (show b2i false = 0 from rfl)]
    obtain ⟨c, hc, rfl, -⟩ := pb (px qx)
    obtain ⟨j, j1, j2, rfl⟩ := pb' (py qy)
    have wX : Wfx (rd g 141) := by rw [wg]; exact I.1
    have w : Wf (rd g 141) := wX.1
    obtain ⟨h5, e5, o5, d5⟩ := aside_w g
    obtain ⟨x, h7, e7, m7⟩ := mcuts_ok (h := h5) (by rw [o5 141 (by decide)]; exact w) hc (y := nI j) ⟨j, by omega, rfl⟩
    obtain ⟨h10, e10, o10, d10⟩ := back_w h7
    rw [e5, Option.bind_some, e7, Option.bind_some, e10, Option.bind_some]
    exact ⟨_, h10, rfl, trial_ok mg.1 o5 d5 m7.2 o10 d10⟩
  by_cases q : b2i b = 0
  · rw [if_pos q, eb', Option.bind_some]
    by_cases q' : b2i b' = 0
    · rw [if_pos q']; exact fin true true (fun z => by cases z) (fun z => by cases z)
    · rw [if_neg q']; exact fin true false (fun z => by cases z) (fun _ => by cases b'; exact absurd rfl q'; rfl)
  · rw [if_neg q, eb', Option.bind_some]
    by_cases q' : b2i b' = 0
    · rw [if_pos q']; exact fin false true (fun _ => by cases b; exact absurd rfl q; rfl) (fun z => by cases z)
    · rw [if_neg q']; exact fin false false (fun _ => by cases b; exact absurd rfl q; rfl) (fun _ => by cases b'; exact absurd rfl q'; rfl)
set_option maxRecDepth 16384 in
theorem mc_matches {h : Hp} (I : IM h) (a1 a2 : Int32) : ∃ v h', M_matches h a1 a2 = some (v, h') ∧ Ms h h' := by
  unfold M_matches lt
  dsimp only
  obtain ⟨b, eb, pb⟩ := isClip_cases I.1.1 a1
  rw [eb, Option.bind_some]
  have ep : ∃ b', M_isPattern a2 = some b' ∧ (b' = true → ∃ j, 1 ≤ j ∧ j ≤ 9999 ∧ a2 = nI j) := by
    obtain ⟨b', eb', pb'⟩ := in_cases a2 1 9999
    exact ⟨b', by unfold M_isPattern; rw [eb', Option.bind_some], fun q => range_of (a := 1) (b := 9999) rfl rfl (by decide) (by decide) (pb' q).1 (pb' q).2⟩
  obtain ⟨b', eb', pb'⟩ := ep
  have fin : ∀ x y : Bool, (x = false → b = true) → (y = false → b' = true) → ∃ v h', (M_throwsOne2 h x y).bind (fun u => if b2i u.1 = 0 then (M_matchOf u.2 a1 a2).bind fun t5 => if t5 = (-1) then some (false, u.2) else some (true, u.2) else some (false, u.2)) = some (v, h') ∧ Ms h h' := fun x y px py => by
    obtain ⟨z, ez⟩ := thr2 h x y
    have m : Ms h (up2 h 140 15 z) := Ms.fld I (by decide)
    rw [ez, Option.bind_some]
    dsimp only
    match x, y, px, py with
    | true, _, _, _ => rw [Bool.true_or, if_neg (by decide)]; exact ⟨_, _, rfl, m⟩
    | false, true, _, _ => rw [Bool.false_or, if_neg (by decide)]; exact ⟨_, _, rfl, m⟩
    | false, false, px, py =>
      obtain ⟨c, hc, rfl, -⟩ := pb (px rfl)
      obtain ⟨j, j1, j2, rfl⟩ := pb' (py rfl)
      obtain ⟨v, ev⟩ := mmatchOf_ok m.1.1.1 hc (y := nI j) ⟨j, by omega, rfl⟩
      rw [Bool.false_or, if_pos (show b2i false = 0 from rfl), ev, Option.bind_some]
      by_cases w : v = -1
      · rw [if_pos w]; exact ⟨_, _, rfl, m⟩
      · rw [if_neg w]; exact ⟨_, _, rfl, m⟩
  by_cases q : b2i b = 0
  · rw [if_pos q, eb', Option.bind_some]
    by_cases q' : b2i b' = 0
    · rw [if_pos q']; exact fin true true (fun z => by cases z) (fun z => by cases z)
    · rw [if_neg q']; exact fin true false (fun z => by cases z) (fun _ => by cases b'; exact absurd rfl q'; rfl)
  · rw [if_neg q, eb', Option.bind_some]
    by_cases q' : b2i b' = 0
    · rw [if_pos q']; exact fin false true (fun _ => by cases b; exact absurd rfl q; rfl) (fun z => by cases z)
    · rw [if_neg q']; exact fin false false (fun _ => by cases b; exact absurd rfl q; rfl) (fun _ => by cases b'; exact absurd rfl q'; rfl)
set_option maxRecDepth 16384 in
theorem mc_matchingSleepers {h : Hp} (I : IM h) (a1 : Int32) : ∃ v h', M_matchingSleepers h a1 = some (v, h') ∧ Ms h h' := by
  unfold M_matchingSleepers
  have ep : ∃ b', M_isPattern a1 = some b' ∧ (b' = true → ∃ j, 1 ≤ j ∧ j ≤ 9999 ∧ a1 = nI j) := by
    obtain ⟨b', eb', pb'⟩ := in_cases a1 1 9999
    exact ⟨b', by unfold M_isPattern; rw [eb', Option.bind_some], fun q => range_of (a := 1) (b := 9999) rfl rfl (by decide) (by decide) (pb' q).1 (pb' q).2⟩
  obtain ⟨b', eb', pb'⟩ := ep
  rw [eb', Option.bind_some]
  unfold lt
  dsimp only
  refine ask I (fun g => if_neg (show ¬ b2i true = 0 by decide)) (fun q g mg wg => ?_)
  dsimp only
  rw [if_pos (show b2i false = 0 from rfl)]
  obtain ⟨j, j1, j2, rfl⟩ := pb' q
  have wX : Wfx (rd g 141) := by rw [wg]; exact I.1
  have w : Wf (rd g 141) := wX.1
  obtain ⟨t, ht, et⟩ := w.1
  obtain ⟨x, e, -⟩ := loop0 (fun n s v => M_matchingSleepers_L25 g (nI j) n s (nI v)) 12 (fun _ _ => True) (fun _ => True) (by decide) (fun n s v hv _ => by
    rw [M_matchingSleepers_L25, m2, Option.bind_some, et]
    by_cases z : t ≤ v
    · exact Or.inl ⟨_, if_pos (nI_le z (by omega)), trivial⟩
    · obtain ⟨y, ey⟩ := mmatchOf_ok w (by omega : v < 12) (y := nI j) ⟨j, by omega, rfl⟩
      rw [if_neg (nI_ge (by omega) (by omega)), mof1 (by omega), Option.bind_some, ey, Option.bind_some, nI_1]
      refine Or.inr ⟨by omega, ?_⟩
      by_cases z1 : rd g 141 (8 + 4 * v + 1) = 1
      · rw [if_pos z1]
        by_cases z2 : y = -1
        · rw [if_pos z2]; exact ⟨_, trivial, rfl⟩
        · rw [if_neg z2]; exact ⟨_, trivial, rfl⟩
      · rw [if_neg z1]; exact ⟨_, trivial, rfl⟩) 0 trivial
  have e : M_matchingSleepers_L25 g (nI j) FU 0 0 = some x := e
  rw [e, Option.bind_some]
  exact ⟨_, g, rfl, Ms.rf mg.1⟩
set_option maxRecDepth 16384 in
theorem misAlone_ok {h : Hp} (w : Wf (rd h 141)) (c : Int32) {y : Int32} (hy : Sc 99999999 y) : ∃ b, M_isAlone h c y = some b := by
  obtain ⟨t, ht, et⟩ := w.1
  obtain ⟨r, e, -⟩ := loop0 (fun n (_ : Unit) v => M_isAlone_L2 h c y n (nI v)) 12 (fun _ _ => True) (fun _ => True) (by decide) (fun n s v hv _ => by
    rw [M_isAlone_L2, m2, Option.bind_some, et]
    by_cases z : t ≤ v
    · exact Or.inl ⟨_, if_pos (nI_le z (by omega)), trivial⟩
    · obtain ⟨x, ex⟩ := mmatchOf_ok w (by omega : v < 12) hy
      rw [if_neg (nI_ge (by omega) (by omega)), mof1 (by omega), Option.bind_some, ex, Option.bind_some, nI_1]
      by_cases z0 : nI v = c
      · rw [if_pos z0]; exact Or.inr ⟨by omega, (), trivial, rfl⟩
      rw [if_neg z0]
      by_cases z1 : rd h 141 (8 + 4 * v + 1) = 2
      · rw [if_pos z1]; exact Or.inr ⟨by omega, (), trivial, rfl⟩
      rw [if_neg z1]
      by_cases z2 : x = -1
      · rw [if_pos z2]; exact Or.inr ⟨by omega, (), trivial, rfl⟩
      · rw [if_neg z2]; exact Or.inl ⟨_, rfl, trivial⟩) () trivial
  have e : M_isAlone_L2 h c y FU 0 = some r := e
  unfold M_isAlone
  rw [e, Option.bind_some]
  match r with
  | .inl () => exact ⟨_, rfl⟩
  | .inr z => exact ⟨_, rfl⟩
set_option maxRecDepth 16384 in
theorem mpart_ok {h : Hp} (w : Wf (rd h 141)) {c i l : Nat} (hc : c < 12) (hi : i ≤ 8) (hl : l ≤ 4) : ∃ y, M_part h (nI c) (nI i) (nI l) = some y ∧ Sc 99999999 y := by
  have hcol := w.2.2.2.1 c hc
  obtain ⟨y, e, hy⟩ := loopI (fun n s v => M_part_L6 h (nI c) (nI i) (nI l) n s (nI v)) 12 (fun s v => i ≤ v ∧ v ≤ i + l ∧ ∃ k, k < 10 ^ (v - i) ∧ s = nI k) (fun y => Sc 99999999 y) (fun n s v hv hs => by
    obtain ⟨h1, h2, k, hk, rfl⟩ := hs
    have p4 : 10 ^ (v - i) ≤ 10 ^ 4 := Nat.pow_le_pow_right (by decide) (by omega)
    rw [M_part_L6, nI_add]
    by_cases z : i + l ≤ v
    · exact Or.inl ⟨_, if_pos (nI_le z (by omega)), ⟨k, by omega, rfl⟩⟩
    · obtain ⟨d, hd, ed⟩ := mdigit_ok hcol (i := v) (by omega)
      rw [if_neg (nI_ge (by omega) (by omega)), mof0 hc, Option.bind_some, ed, Option.bind_some, show (10 : Int32) = nI 10 from rfl, pk_mul, nI_add, nI_1]
      refine Or.inr ⟨by omega, _, ⟨by omega, by omega, 10 * k + d, ?_, rfl⟩, rfl⟩
      rw [show v + 1 - i = (v - i) + 1 by omega, Nat.pow_succ]; omega) FU 0 i (by omega) (by unfold FU; omega) ⟨Nat.le_refl _, by omega, 0, by rw [Nat.sub_self]; decide, rfl⟩
  refine ⟨y, ?_, hy⟩
  unfold M_part
  exact bO e _
set_option maxRecDepth 16384 in
theorem mc_bestPattern {h : Hp} (I : IM h) (a1 : Int32) : ∃ v h', M_bestPattern h a1 = some (v, h') ∧ Ms h h' := by
  unfold M_bestPattern
  obtain ⟨b, eb, pb⟩ := isClip_cases I.1.1 a1
  rw [eb, Option.bind_some]
  unfold lt
  dsimp only
  refine ask I (fun g => if_neg (show ¬ b2i true = 0 by decide)) (fun q g mg wg => ?_)
  dsimp only
  rw [if_pos (show b2i false = 0 from rfl)]
  obtain ⟨c, hc, rfl, -⟩ := pb q
  have wX : Wfx (rd g 141) := by rw [wg]; exact I.1
  have w : Wf (rd g 141) := wX.1
  obtain ⟨d, hd, ed, -, -⟩ := mdigits_ok (w.2.2.2.1 c hc)
  have inner : ∀ l, l ≤ 4 → ∀ s : Int32, ∃ x, M_bestPattern_L39 g (nI c) (nI l) FU s 0 = some x := fun l hl s => by
    obtain ⟨x, e, -⟩ := loop0 (fun n s v => M_bestPattern_L39 g (nI c) (nI l) n s (nI v)) 9 (fun _ _ => True) (fun _ => True) (by decide) (fun n s v hv _ => by
      rw [M_bestPattern_L39, mof0 hc, Option.bind_some, ed, Option.bind_some, nI_add]
      by_cases z : d < v + l
      · exact Or.inl ⟨_, if_pos (nI_lt z (by omega)), trivial⟩
      · by_cases v9 : v = 9
        · exact absurd hd (by omega)
        obtain ⟨y, ey, hy⟩ := mpart_ok w hc (by omega : v ≤ 8) hl
        obtain ⟨b, eb⟩ := misAlone_ok w (nI c) hy
        unfold lt
        rw [if_neg (nI_nlt (by omega) (by omega)), ey, Option.bind_some, nI_1]
        dsimp only
        rw [eb, Option.bind_some]
        refine Or.inr ⟨by omega, ?_⟩
        by_cases z1 : s = -1
        · rw [if_pos z1]
          by_cases z2 : b2i b = 0
          · rw [if_pos z2]; exact ⟨_, trivial, rfl⟩
          · rw [if_neg z2]; exact ⟨_, trivial, rfl⟩
        · rw [if_neg z1]
          by_cases z3 : s ≤ y
          · rw [if_pos z3]; exact ⟨_, trivial, rfl⟩
          · rw [if_neg z3]
            by_cases z2 : b2i b = 0
            · rw [if_pos z2]; exact ⟨_, trivial, rfl⟩
            · rw [if_neg z2]; exact ⟨_, trivial, rfl⟩) s trivial
    exact ⟨x, e⟩
  obtain ⟨x, e, -⟩ := loopI (fun n s v => M_bestPattern_L26 g (nI c) n s (nI v)) 5 (fun _ _ => True) (fun _ => True) (fun n s v hv _ => by
    rw [M_bestPattern_L26]
    by_cases z : 4 < v
    · exact Or.inl ⟨_, if_pos (show (4 : Int32) < nI v from nI_lt (a := 4) z (by omega)), trivial⟩
    · rw [if_neg (show ¬ (4 : Int32) < nI v from nI_nlt (a := 4) (by omega) (by decide))]
      by_cases z1 : s = -1
      · obtain ⟨x, ex⟩ := inner v (by omega) s
        rw [if_pos z1, ex, Option.bind_some, nI_1]
        exact Or.inr ⟨by omega, _, trivial, rfl⟩
      · exact Or.inl ⟨_, if_neg z1, trivial⟩) FU (-1) 1 (by decide) (by unfold FU; omega) trivial
  have e : M_bestPattern_L26 g (nI c) FU (-1) 1 = some x := e
  rw [e, Option.bind_some]
  exact ⟨_, g, rfl, Ms.rf mg.1⟩
