/-! ===== the class's calls, as the law makes them ===== -/
set_option maxRecDepth 16384 in
theorem lc_state {h : Hp} (I : IC h) (a1 : Int32) : ∃ t h2, L_state h a1 = some (t, h2) ∧ Cs h h2 := by
  unfold L_state
  refine L_of I ?_
  unfold C_state
  rcases needClip_cases I.1.1 a1 with e | ⟨c, hc, rfl, -, e⟩
  · exact Or.inl ⟨3, 1, by rw [e, thB_l], rfl⟩
  rw [e, thB_r]
  rw [rdO_in hc (by decide), Option.bind_some]
  exact Or.inr ⟨_, h, rfl, Cs.rf I⟩
set_option maxRecDepth 16384 in
theorem lc_length {h : Hp} (I : IC h) (a1 : Int32) : ∃ t h2, L_length h a1 = some (t, h2) ∧ Cs h h2 := by
  unfold L_length
  refine L_of I ?_
  unfold C_length
  rcases needClip_cases I.1.1 a1 with e | ⟨c, hc, rfl, -, e⟩
  · exact Or.inl ⟨3, 1, by rw [e, thB_l], rfl⟩
  rw [e, thB_r]
  rw [rdO_in hc (by decide), Option.bind_some]
  exact Or.inr ⟨_, h, rfl, Cs.rf I⟩
set_option maxRecDepth 16384 in
theorem lc_hash {h : Hp} (I : IC h) (a1 : Int32) : ∃ t h2, L_hash h a1 = some (t, h2) ∧ Cs h h2 := by
  unfold L_hash
  refine L_of I ?_
  unfold C_hash
  rcases needClip_cases I.1.1 a1 with e | ⟨c, hc, rfl, -, e⟩
  · exact Or.inl ⟨3, 1, by rw [e, thB_l], rfl⟩
  rw [e, thB_r]
  rw [rdO_in hc (by decide), Option.bind_some]
  exact Or.inr ⟨_, h, rfl, Cs.rf I⟩
set_option maxRecDepth 16384 in
theorem lc_fat {h : Hp} (I : IC h) (a1 : Int32) : ∃ t h2, L_fat h a1 = some (t, h2) ∧ Cs h h2 := by
  unfold L_fat
  refine L_of I ?_
  unfold C_fat
  rcases needClip_cases I.1.1 a1 with e | ⟨c, hc, rfl, -, e⟩
  · exact Or.inl ⟨3, 1, by rw [e, thB_l], rfl⟩
  rw [e, thB_r]
  rw [rdO_in hc (by decide), Option.bind_some]
  exact Or.inr ⟨_, h, rfl, Cs.rf I⟩
set_option maxRecDepth 16384 in
theorem lc_sceneOf {h : Hp} (I : IC h) (a1 : Int32) : ∃ t h2, L_sceneOf h a1 = some (t, h2) ∧ Cs h h2 := by
  unfold L_sceneOf
  refine L_of I ?_
  unfold C_sceneOf
  rcases needClip_cases I.1.1 a1 with e | ⟨c, hc, rfl, -, e⟩
  · exact Or.inl ⟨3, 1, by rw [e, thB_l], rfl⟩
  rw [e, thB_r]
  rw [rdO_in hc (by decide), Option.bind_some]
  exact Or.inr ⟨_, h, rfl, Cs.rf I⟩
set_option maxRecDepth 16384 in
theorem lc_springs {h : Hp} (I : IC h) (a1 : Int32) : ∃ t h2, L_springs h a1 = some (t, h2) ∧ Cs h h2 := by
  unfold L_springs
  refine L_of I ?_
  unfold C_springs
  rcases needScene_cases I.1.1 a1 with e | ⟨s, hs, rfl, -, e⟩
  · exact Or.inl ⟨3, 1, by rw [e, thB_l], rfl⟩
  rw [e, thB_r]
  rw [rdO_in hs (by decide), Option.bind_some]
  exact Or.inr ⟨_, h, rfl, Cs.rf I⟩
set_option maxRecDepth 16384 in
theorem lc_bedCount {h : Hp} (I : IC h) (a1 : Int32) : ∃ t h2, L_bedCount h a1 = some (t, h2) ∧ Cs h h2 := by
  unfold L_bedCount
  refine L_of I ?_
  unfold C_bedCount
  rcases needReel_cases I.1.1 a1 with e | ⟨r, hr, rfl, -, e⟩
  · exact Or.inl ⟨3, 1, by rw [e, thB_l], rfl⟩
  rw [e, thB_r]
  rw [rdO_in hr (by decide), Option.bind_some]
  exact Or.inr ⟨_, h, rfl, Cs.rf I⟩
set_option maxRecDepth 16384 in
theorem lc_colours {h : Hp} (I : IC h) (a1 : Int32) : ∃ t h2, L_colours h a1 = some (t, h2) ∧ Cs h h2 := by
  unfold L_colours
  refine L_of I ?_
  unfold C_colours
  rcases needClip_cases I.1.1 a1 with e | ⟨c, hc, rfl, -, e⟩
  · exact Or.inl ⟨3, 1, by rw [e, thB_l], rfl⟩
  rw [e, thB_r]
  obtain ⟨v, ev⟩ := coloursOf_ok I.1.1 hc
  rw [ev, Option.bind_some]
  exact Or.inr ⟨v, h, rfl, Cs.rf I⟩
set_option maxRecDepth 16384 in
theorem lc_nearestClip {h : Hp} (I : IC h) (a1 : Int32) : ∃ t h2, L_nearestClip h a1 = some (t, h2) ∧ Cs h h2 := by
  unfold L_nearestClip
  refine L_of I ?_
  unfold C_nearestClip
  rcases needClip_cases I.1.1 a1 with e | ⟨c, hc, rfl, -, e⟩
  · exact Or.inl ⟨3, 1, by rw [e, thB_l], rfl⟩
  rw [e, thB_r]
  obtain ⟨v, ev⟩ := nearestTo_ok I.1.1 hc
  rw [ev, Option.bind_some]
  exact Or.inr ⟨v, h, rfl, Cs.rf I⟩
set_option maxRecDepth 16384 in
theorem lc_twinsOf {h : Hp} (I : IC h) (a1 : Int32) : ∃ t h2, L_twinsOf h a1 = some (t, h2) ∧ Cs h h2 := by
  unfold L_twinsOf
  refine L_of I ?_
  unfold C_twinsOf
  rcases needClip_cases I.1.1 a1 with e | ⟨c, hc, rfl, -, e⟩
  · exact Or.inl ⟨3, 1, by rw [e, thB_l], rfl⟩
  rw [e, thB_r]
  obtain ⟨v, ev⟩ := sameHash_ok I.1.1 hc
  rw [ev, Option.bind_some]
  exact Or.inr ⟨v, h, rfl, Cs.rf I⟩
set_option maxRecDepth 16384 in
theorem lc_weeksToFade {h : Hp} (I : IC h) (a1 : Int32) : ∃ t h2, L_weeksToFade h a1 = some (t, h2) ∧ Cs h h2 := by
  unfold L_weeksToFade
  refine L_of I ?_
  unfold C_weeksToFade
  rcases needClip_cases I.1.1 a1 with e | ⟨c, hc, rfl, -, e⟩
  · exact Or.inl ⟨3, 1, by rw [e, thB_l], rfl⟩
  rw [e, thB_r]
  obtain ⟨v, ev⟩ := weeksLeft_ok (h := h) (a := 1) hc
  rw [ev, Option.bind_some]
  exact Or.inr ⟨v, h, rfl, Cs.rf I⟩
set_option maxRecDepth 16384 in
theorem lc_bestReel {h : Hp} (I : IC h) (a1 : Int32) : ∃ t h2, L_bestReel h a1 = some (t, h2) ∧ Cs h h2 := by
  unfold L_bestReel
  refine L_of I ?_
  unfold C_bestReel
  rcases needClip_cases I.1.1 a1 with e | ⟨c, hc, rfl, -, e⟩
  · exact Or.inl ⟨3, 1, by rw [e, thB_l], rfl⟩
  rw [e, thB_r]
  obtain ⟨v, ev⟩ := nearestReel_ok I.1.1 hc
  rw [ev, Option.bind_some]
  exact Or.inr ⟨v, h, rfl, Cs.rf I⟩
set_option maxRecDepth 16384 in
theorem lc_bestPattern {h : Hp} (I : IC h) (a1 : Int32) : ∃ t h2, L_bestPattern h a1 = some (t, h2) ∧ Cs h h2 := by
  unfold L_bestPattern
  refine L_of I ?_
  unfold C_bestPattern
  rcases needClip_cases I.1.1 a1 with e | ⟨c, hc, rfl, -, e⟩
  · exact Or.inl ⟨3, 1, by rw [e, thB_l], rfl⟩
  rw [e, thB_r]
  obtain ⟨v, ev⟩ := ownPattern_ok I.1.1 hc
  rw [ev, Option.bind_some]
  exact Or.inr ⟨v, h, rfl, Cs.rf I⟩
set_option maxRecDepth 16384 in
theorem lc_reelOf {h : Hp} (I : IC h) (a1 : Int32) : ∃ t h2, L_reelOf h a1 = some (t, h2) ∧ Cs h h2 := by
  unfold L_reelOf
  refine L_of I ?_
  unfold C_reelOf
  rcases needClip_cases I.1.1 a1 with e | ⟨c, hc, rfl, -, e⟩
  · exact Or.inl ⟨3, 1, by rw [e, thB_l], rfl⟩
  rw [e, thB_r]
  obtain ⟨v, ev, -⟩ := placeOf_ok I.1.1 (nI c)
  rw [ev, Option.bind_some]
  by_cases w : v = -1
  · rw [if_pos w]; exact Or.inr ⟨_, h, rfl, Cs.rf I⟩
  · rw [if_neg w]; exact Or.inr ⟨_, h, rfl, Cs.rf I⟩
set_option maxRecDepth 16384 in
theorem lc_bedOf {h : Hp} (I : IC h) (a1 : Int32) : ∃ t h2, L_bedOf h a1 = some (t, h2) ∧ Cs h h2 := by
  unfold L_bedOf
  refine L_of I ?_
  unfold C_bedOf
  rcases needClip_cases I.1.1 a1 with e | ⟨c, hc, rfl, -, e⟩
  · exact Or.inl ⟨3, 1, by rw [e, thB_l], rfl⟩
  rw [e, thB_r]
  obtain ⟨v, ev, -⟩ := placeOf_ok I.1.1 (nI c)
  rw [ev, Option.bind_some]
  by_cases w : v = -1
  · rw [if_pos w]; exact Or.inr ⟨_, h, rfl, Cs.rf I⟩
  · rw [if_neg w]; exact Or.inr ⟨_, h, rfl, Cs.rf I⟩
set_option maxRecDepth 16384 in
theorem lc_longestLook {h : Hp} (I : IC h) (a1 : Int32) : ∃ t h2, L_longestLook h a1 = some (t, h2) ∧ Cs h h2 := by
  unfold L_longestLook
  refine L_of I ?_
  unfold C_longestLook
  rcases needReel_cases I.1.1 a1 with e | ⟨r, hr, rfl, -, e⟩
  · exact Or.inl ⟨3, 1, by rw [e, thB_l], rfl⟩
  rw [e, thB_r]
  obtain ⟨v, ev⟩ := mostLooks_ok I.1.1 hr
  rw [ev, Option.bind_some]
  exact Or.inr ⟨v, h, rfl, Cs.rf I⟩
set_option maxRecDepth 16384 in
theorem lc_longestCluster {h : Hp} (I : IC h) (a1 : Int32) : ∃ t h2, L_longestCluster h a1 = some (t, h2) ∧ Cs h h2 := by
  unfold L_longestCluster
  refine L_of I ?_
  unfold C_longestCluster
  rcases needReel_cases I.1.1 a1 with e | ⟨r, hr, rfl, -, e⟩
  · exact Or.inl ⟨3, 1, by rw [e, thB_l], rfl⟩
  rw [e, thB_r]
  obtain ⟨v, ev⟩ := cluster_ok I.1.1 hr
  rw [ev, Option.bind_some]
  exact Or.inr ⟨v, h, rfl, Cs.rf I⟩
set_option maxRecDepth 16384 in
theorem lc_sleepers {h : Hp} (I : IC h) (a1 : Int32) : ∃ t h2, L_sleepers h a1 = some (t, h2) ∧ Cs h h2 := by
  unfold L_sleepers
  refine L_of I ?_
  unfold C_sleepers
  rcases needReel_cases I.1.1 a1 with e | ⟨r, hr, rfl, -, e⟩
  · exact Or.inl ⟨3, 1, by rw [e, thB_l], rfl⟩
  rw [e, thB_r]
  obtain ⟨S, -, ev, -⟩ := sleepersIn_ok I.1.1 hr
  rw [ev, Option.bind_some]
  exact Or.inr ⟨_, h, rfl, Cs.rf I⟩
set_option maxRecDepth 16384 in
theorem lc_looksIfAired {h : Hp} (I : IC h) (a1 : Int32) : ∃ t h2, L_looksIfAired h a1 = some (t, h2) ∧ Cs h h2 := by
  unfold L_looksIfAired
  refine L_of I ?_
  unfold C_looksIfAired
  rcases needReel_cases I.1.1 a1 with e | ⟨r, hr, rfl, -, e⟩
  · exact Or.inl ⟨3, 1, by rw [e, thB_l], rfl⟩
  rw [e, thB_r]
  obtain ⟨g, eg, sg, fg⟩ := copyFrom_same h (a := 12) (o := 1) (by omega)
  obtain ⟨x, g2, e2, w2⟩ := airReel_ok (I.1.1.same sg) hr
  obtain ⟨v, ev⟩ := allLooks_ok w2.1 hr
  rw [eg, Option.bind_some, e2, Option.bind_some]
  dsimp only
  rw [ev, Option.bind_some]
  exact Or.inr ⟨v, g2, rfl, Cs.trial I (fg.tr w2.2)⟩
set_option maxRecDepth 16384 in
theorem lc_commonRun {h : Hp} (I : IC h) (a1 a2 : Int32) : ∃ t h2, L_commonRun h a1 a2 = some (t, h2) ∧ Cs h h2 := by
  unfold L_commonRun
  refine L_of I ?_
  unfold C_commonRun
  rcases needClip_cases I.1.1 a1 with e | ⟨c, hc, rfl, -, e⟩
  · exact Or.inl ⟨3, 1, by rw [e, thB_l], rfl⟩
  rw [e, thB_r]
  rcases needClip_cases I.1.1 a2 with e | ⟨d, hd, rfl, -, e⟩
  · exact Or.inl ⟨3, 1, by rw [e, thB_l], rfl⟩
  rw [e, thB_r]
  obtain ⟨v, ev⟩ := sharedRun_ok I.1.1 hc hd
  rw [ev, Option.bind_some]
  exact Or.inr ⟨v, h, rfl, Cs.rf I⟩
set_option maxRecDepth 16384 in
theorem lc_bed {h : Hp} (I : IC h) (a1 a2 : Int32) : ∃ t h2, L_bed h a1 a2 = some (t, h2) ∧ Cs h h2 := by
  unfold L_bed
  refine L_of I ?_
  unfold C_bed
  rcases needReel_cases I.1.1 a1 with e | ⟨r, hr, rfl, -, e⟩
  · exact Or.inl ⟨3, 1, by rw [e, thB_l], rfl⟩
  rw [e, thB_r]
  by_cases w : a2 < 0
  · exact Or.inl ⟨3, 1, if_pos w, rfl⟩
  obtain ⟨m, hm, em⟩ := I.1.1.beds r hr
  rw [if_neg w, rdO_in hr (by decide), Option.bind_some, em]
  by_cases w2 : a2 < nI m
  · obtain ⟨j, hj, rfl⟩ := nI_of w
    have := (nI_ltI hj (by omega)).mp w2
    rw [if_pos w2, inBed_eq hr (by omega), Option.bind_some]
    exact Or.inr ⟨_, h, rfl, Cs.rf I⟩
  · exact Or.inl ⟨3, 1, if_neg w2, rfl⟩
set_option maxRecDepth 16384 in
theorem lc_home {h : Hp} (I : IC h) (a1 a2 : Int32) : ∃ t h2, L_home h a1 a2 = some (t, h2) ∧ Cs h h2 := by
  unfold L_home
  refine L_of I ?_
  unfold C_home
  rcases needClip_cases I.1.1 a1 with e | ⟨c, hc, rfl, -, e⟩
  · exact Or.inl ⟨3, 1, by rw [e, thB_l], rfl⟩
  rw [e, thB_r]
  rcases needReel_cases I.1.1 a2 with e | ⟨r, hr, rfl, -, e⟩
  · exact Or.inl ⟨3, 1, by rw [e, thB_l], rfl⟩
  rw [e, thB_r]
  obtain ⟨q, hq, eq⟩ := I.1.1.hash c hc
  obtain ⟨m, hm, em⟩ := I.1.1.beds r hr
  have ev : A_wayBed h 1 (nI c) (nI r) 0 = some (nI (wb q m 0)) := wayBed_eq (k := 0) hc hr eq hq em hm (by decide)
  unfold A_homeOf
  rw [ev, Option.bind_some, Option.bind_some]
  exact Or.inr ⟨_, h, rfl, Cs.rf I⟩
set_option maxRecDepth 16384 in
theorem lc_whyNoSleep {h : Hp} (I : IC h) (a1 a2 : Int32) : ∃ t h2, L_whyNoSleep h a1 a2 = some (t, h2) ∧ Cs h h2 := by
  unfold L_whyNoSleep
  refine L_of I ?_
  unfold C_whyNoSleep
  rcases needClip_cases I.1.1 a1 with e | ⟨c, hc, rfl, -, e⟩
  · exact Or.inl ⟨3, 1, by rw [e, thB_l], rfl⟩
  rw [e, thB_r]
  rcases needReel_cases I.1.1 a2 with e | ⟨r, hr, rfl, -, e⟩
  · exact Or.inl ⟨3, 1, by rw [e, thB_l], rfl⟩
  rw [e, thB_r]
  obtain ⟨v, ev, -⟩ := refusal_ok I.1.1 hc hr
  rw [ev, Option.bind_some]
  exact Or.inr ⟨v, h, rfl, Cs.rf I⟩
set_option maxRecDepth 16384 in
theorem lc_bedFor {h : Hp} (I : IC h) (a1 a2 : Int32) : ∃ t h2, L_bedFor h a1 a2 = some (t, h2) ∧ Cs h h2 := by
  unfold L_bedFor
  refine L_of I ?_
  unfold C_bedFor
  rcases needClip_cases I.1.1 a1 with e | ⟨c, hc, rfl, -, e⟩
  · exact Or.inl ⟨3, 1, by rw [e, thB_l], rfl⟩
  rw [e, thB_r]
  rcases needReel_cases I.1.1 a2 with e | ⟨r, hr, rfl, -, e⟩
  · exact Or.inl ⟨3, 1, by rw [e, thB_l], rfl⟩
  rw [e, thB_r]
  obtain ⟨v, ev, pv⟩ := refusal_ok I.1.1 hc hr
  rw [ev, Option.bind_some]
  by_cases w : v = 0
  · obtain ⟨q, m, u, hq, hm, eq, em, eu, pu⟩ := passedBeds_ok I.1.1 hc hr
    obtain ⟨-, u', eu', nu⟩ := pv w
    rw [eu] at eu'
    obtain rfl := Option.some.inj eu'
    rcases pu with ⟨a, -⟩ | ⟨k, hk, rfl, -⟩
    · exact absurd a nu
    · rw [if_pos w, eu, Option.bind_some, wayBed_eq hc hr eq hq em hm (by omega), Option.bind_some]
      exact Or.inr ⟨_, h, rfl, Cs.rf I⟩
  · rw [if_neg w]; exact Or.inr ⟨_, h, rfl, Cs.rf I⟩
set_option maxRecDepth 16384 in
theorem lc_looksFor {h : Hp} (I : IC h) (a1 a2 : Int32) : ∃ t h2, L_looksFor h a1 a2 = some (t, h2) ∧ Cs h h2 := by
  unfold L_looksFor
  refine L_of I ?_
  unfold C_looksFor
  rcases needClip_cases I.1.1 a1 with e | ⟨c, hc, rfl, -, e⟩
  · exact Or.inl ⟨3, 1, by rw [e, thB_l], rfl⟩
  rw [e, thB_r]
  rcases needReel_cases I.1.1 a2 with e | ⟨r, hr, rfl, -, e⟩
  · exact Or.inl ⟨3, 1, by rw [e, thB_l], rfl⟩
  rw [e, thB_r]
  obtain ⟨_, _, k, _, _, _, _, _, _, ev, _⟩ := looks_ok I.1.1 hc hr
  rw [ev, Option.bind_some]
  exact Or.inr ⟨_, h, rfl, Cs.rf I⟩
set_option maxRecDepth 16384 in
theorem lc_firstMatch {h : Hp} (I : IC h) (a1 a2 : Int32) : ∃ t h2, L_firstMatch h a1 a2 = some (t, h2) ∧ Cs h h2 := by
  unfold L_firstMatch
  refine L_of I ?_
  unfold C_firstMatch
  rcases needClip_cases I.1.1 a1 with e | ⟨c, hc, rfl, -, e⟩
  · exact Or.inl ⟨3, 1, by rw [e, thB_l], rfl⟩
  rw [e, thB_r]
  rcases needRange_cases h a2 1 9999 (by decide) (by decide) with e | ⟨j, hj, hj2, rfl, e⟩
  · have e : C_needRange h a2 1 9999 = some (.inl (1, h)) := e
    exact Or.inl ⟨1, 2, by unfold C_needPattern; rw [e, thB_l, thB_l], rfl⟩
  have e : C_needRange h (nI j) 1 9999 = some (.inr h) := e
  unfold C_needPattern
  rw [e, thB_r, thB_r]
  obtain ⟨v, ev⟩ := findPattern_ok I.1.1 hc (nI j)
  rw [ev, Option.bind_some]
  exact Or.inr ⟨v, h, rfl, Cs.rf I⟩
set_option maxRecDepth 16384 in
theorem lc_matchingSleepers {h : Hp} (I : IC h) (a1 : Int32) : ∃ t h2, L_matchingSleepers h a1 = some (t, h2) ∧ Cs h h2 := by
  unfold L_matchingSleepers
  refine L_of I ?_
  unfold C_matchingSleepers
  rcases needRange_cases h a1 1 9999 (by decide) (by decide) with e | ⟨j, hj, hj2, rfl, e⟩
  · have e : C_needRange h a1 1 9999 = some (.inl (1, h)) := e
    exact Or.inl ⟨1, 1, by unfold C_needPattern; rw [e, thB_l, thB_l], rfl⟩
  have e : C_needRange h (nI j) 1 9999 = some (.inr h) := e
  unfold C_needPattern
  rw [e, thB_r, thB_r]
  obtain ⟨v, ev⟩ := sleepersWith_ok I.1.1 (nI j)
  rw [ev, Option.bind_some]
  exact Or.inr ⟨v, h, rfl, Cs.rf I⟩
set_option maxRecDepth 16384 in
theorem lc_wokenBy {h : Hp} (I : IC h) (a1 a2 : Int32) : ∃ t h2, L_wokenBy h a1 a2 = some (t, h2) ∧ Cs h h2 := by
  unfold L_wokenBy
  refine L_of I ?_
  unfold C_wokenBy
  rcases needScene_cases I.1.1 a1 with e | ⟨s, hs, rfl, -, e⟩
  · exact Or.inl ⟨3, 1, by rw [e, thB_l], rfl⟩
  rw [e, thB_r]
  rcases needRange_cases h a2 1 9999 (by decide) (by decide) with e | ⟨j, hj, hj2, rfl, e⟩
  · have e : C_needRange h a2 1 9999 = some (.inl (1, h)) := e
    exact Or.inl ⟨1, 2, by unfold C_needPattern; rw [e, thB_l, thB_l], rfl⟩
  have e : C_needRange h (nI j) 1 9999 = some (.inr h) := e
  unfold C_needPattern
  rw [e, thB_r, thB_r]
  obtain ⟨g, eg, sg, fg⟩ := copyFrom_same h (a := 12) (o := 1) (by omega)
  obtain ⟨x, g2, e2, w2⟩ := cutScene_ok (I.1.1.same sg) hs (nI j)
  rw [eg, Option.bind_some, e2, Option.bind_some]
  exact Or.inr ⟨x, g2, rfl, Cs.trial I (fg.tr w2.2)⟩
set_option maxRecDepth 16384 in
theorem lc_matches {h : Hp} (I : IC h) (a1 a2 : Int32) : ∃ t h2, L_matches h a1 a2 = some (t, h2) ∧ Cs h h2 := by
  unfold L_matches C_matches
  rcases needClip_cases I.1.1 a1 with e | ⟨c, hc, rfl, -, e⟩
  · rw [e, thB_l, caB_l]; exact ⟨1, h, rfl, Cs.rf I⟩
  rw [e, thB_r]
  rcases needRange_cases h a2 1 9999 (by decide) (by decide) with e | ⟨j, hj, hj2, rfl, e⟩
  · have e : C_needRange h a2 1 9999 = some (.inl (1, h)) := e
    unfold C_needPattern; rw [e, thB_l, thB_l, caB_l]; exact ⟨2, h, rfl, Cs.rf I⟩
  have e : C_needRange h (nI j) 1 9999 = some (.inr h) := e
  unfold C_needPattern
  rw [e, thB_r, thB_r]
  obtain ⟨v, ev⟩ := findPattern_ok I.1.1 hc (nI j)
  rw [ev, Option.bind_some]
  by_cases w : v = -1
  · rw [if_pos w, caB_r]
    dsimp only
    rw [if_pos (show b2i false = 0 from rfl)]
    exact ⟨0, _, rfl, (Cs.rf I).out _⟩
  · rw [if_neg w, caB_r]
    dsimp only
    rw [if_neg (show ¬ b2i true = 0 by decide)]
    exact ⟨0, _, rfl, (Cs.rf I).out _⟩
set_option maxRecDepth 16384 in
theorem putSign_ok {h : Hp} (hr : Sc 81 (rd h 0 9)) (x : Int32) : ∃ h', C_putSign h x = some h' ∧ Sc 81 (rd h' 0 9) ∧ (∀ k, k ≠ 0 → k ≠ 51 → rd h' k = rd h k) ∧ ∀ i, i ≠ 9 → rd h' 0 i = rd h 0 i := by
  obtain ⟨n, hn, en⟩ := hr
  unfold C_putSign nm
  by_cases q : 81 ≤ rd h 0 9
  · exact ⟨h, if_pos q, ⟨n, hn, en⟩, fun _ _ _ => rfl, fun _ _ => rfl⟩
  · have hn2 : n < 81 := by
      by_cases c : 81 ≤ n
      · exact absurd (by rw [en]; exact nI_le (a := 81) c (by omega)) q
      · omega
    rw [if_neg q, en, wrO_in hn2 (by decide), Option.bind_some]
    dsimp only
    have r9 : ∀ x, rd (up2 h 51 n x) 0 9 = nI n := fun x => by rw [rd_up2_ne (by decide), en]
    rw [r9, nI_1]
    refine ⟨_, rfl, ?_, fun k a b => ?_, fun i a => ?_⟩
    · rw [rd_up2_self, upd_self]; exact ⟨n + 1, by omega, rfl⟩
    · rw [rd_up2_ne a, rd_up2_ne b]
    · rw [rd_up2_self, upd_ne a, rd_up2_ne (by decide)]
/-- only the report changes -/
def Rp (h h' : Hp) : Prop := Sc 81 (rd h' 0 9) ∧ (∀ k, k ≠ 0 → k ≠ 51 → rd h' k = rd h k) ∧ ∀ i, i ≠ 9 → rd h' 0 i = rd h 0 i
set_option maxRecDepth 16384 in
theorem Rp.tr {h0 h1 h2 : Hp} (x : Rp h0 h1) (y : Rp h1 h2) : Rp h0 h2 := ⟨y.1, fun k a b => (y.2.1 k a b).trans (x.2.1 k a b), fun i a => (y.2.2 i a).trans (x.2.2 i a)⟩
set_option maxRecDepth 16384 in
theorem reportBed_ok {h : Hp} (I : Arc h 1) (hr : Sc 81 (rd h 0 9)) {x : Int32} (hx : x = -1 ∨ x = -2 ∨ ∃ c, c < 12 ∧ x = nI c) : ∃ h', C_reportBed h x = some h' ∧ Rp h h' := by
  unfold C_reportBed
  by_cases q1 : x = -1
  · obtain ⟨g, e, p⟩ := putSign_ok hr 45
    rw [if_pos q1, e, Option.bind_some]; exact ⟨g, rfl, p⟩
  rw [if_neg q1]
  by_cases q2 : x = -2
  · obtain ⟨g, e, p⟩ := putSign_ok hr 126
    rw [if_pos q2, e, Option.bind_some]; exact ⟨g, rfl, p⟩
  rw [if_neg q2]
  obtain ⟨c, hc, rfl⟩ := (hx.resolve_left q1).resolve_left q2
  obtain ⟨g, e, p⟩ := loop0 (fun n (s : Hp) v => C_reportBed_L31 (nI c) n (nI v) s) 8 (fun s _ => Rp h s) (fun s => Rp h s) (by decide) (fun n s v hv w => by
    have Is : Arc s 1 := I.cg fun k a b => w.2.1 k (by omega) (by omega)
    obtain ⟨l, hl, el⟩ := Is.len c hc
    rw [C_reportBed_L31, rdO_in hc (by decide), Option.bind_some, el]
    by_cases q : l ≤ v
    · exact Or.inl ⟨_, if_pos (nI_le q (by omega)), w⟩
    · obtain ⟨k, hk, ek⟩ := colourAt_ok (a := 1) (c := c) (i := v) Is.cols (by omega)
      obtain ⟨g, e, p⟩ := putSign_ok w.1 (48 + nI k)
      rw [if_neg (nI_ge (by omega) (by omega)), ek, Option.bind_some, e, Option.bind_some, nI_1]
      exact Or.inr ⟨by omega, g, w.tr p, rfl⟩) h ⟨hr, fun _ _ _ => rfl, fun _ _ => rfl⟩
  have e : C_reportBed_L31 (nI c) FU 0 h = some g := e
  rw [e, Option.bind_some]
  exact ⟨g, rfl, p⟩
