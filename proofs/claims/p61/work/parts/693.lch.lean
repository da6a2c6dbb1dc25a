/-! ===== the class's changes and its other calls ===== -/
set_option maxRecDepth 16384 in
theorem lc_addClip {h : Hp} (I : IC h) (a1 : Int32) : ∃ t h2, L_addClip h a1 = some (t, h2) ∧ Cs h h2 := by
  unfold L_addClip
  refine L_of I ?_
  unfold C_addClip lt
  dsimp only
  obtain ⟨b, eb, -, pb⟩ := areCol a1
  rw [eb, Option.bind_some]
  match b, pb with
  | false, _ => exact Or.inl ⟨1, 1, if_pos rfl, rfl⟩
  | true, pb =>
    obtain ⟨j, rfl, j1, j8⟩ := pb rfl
    rw [if_neg (by decide)]
    unfold A_hasRoomForClip
    by_cases w : 12 ≤ rd h 1 5
    · rw [if_pos w, Option.bind_some]
      exact Or.inl ⟨2, 2, rfl, rfl⟩
    · obtain ⟨n, hn, en⟩ := room_ok (m := 12) (n := 12) (by decide) I.1.1.1 (by decide) w
      rw [if_neg w, Option.bind_some]
      obtain ⟨v, h1, e1, c1⟩ := change I (F := fun g => A_putClip g 1 (nI j)) (fun g Ig fg => by
        obtain ⟨g', eg, wg⟩ := putClip_x Ig (n := n) (by rw [fg 1 (by decide) (by decide)]; exact en) hn (j := j) (by omega)
        exact ⟨_, g', eg, wg⟩)
      exact Or.inr ⟨v, h1, e1, c1⟩
set_option maxRecDepth 16384 in
theorem lc_addReel {h : Hp} (I : IC h) (a1 : Int32) : ∃ t h2, L_addReel h a1 = some (t, h2) ∧ Cs h h2 := by
  unfold L_addReel
  refine L_of I ?_
  unfold C_addReel
  unfold lt
  dsimp only
  rcases needRange_cases h a1 1 9 (by decide) (by decide) with e | ⟨j, j1, j2, rfl, e⟩
  · have e : C_needRange h a1 1 9 = some (.inl (1, h)) := e
    exact Or.inl ⟨1, 1, by rw [e, thB_l], rfl⟩
  have e : C_needRange h (nI j) 1 9 = some (.inr h) := e
  rw [e, thB_r]
  unfold A_hasRoomForReel
  by_cases w : 4 ≤ rd h 1 12
  · rw [if_pos w, Option.bind_some]
    exact Or.inl ⟨2, 2, rfl, rfl⟩
  · obtain ⟨n, hn, en⟩ := room_ok (m := 4) (n := 4) (by decide) I.1.1.2.1 (by decide) w
    rw [if_neg w, Option.bind_some]
    obtain ⟨v, h1, e1, c1⟩ := change I (F := fun g => A_putReel g 1 (nI j)) (fun g Ig fg => by
      obtain ⟨g', eg, wg, -⟩ := putReel_x Ig (n := n) (by rw [fg 1 (by decide) (by decide)]; exact en) hn j2
      exact ⟨_, g', eg, wg⟩)
    exact Or.inr ⟨v, h1, e1, c1⟩
set_option maxRecDepth 16384 in
theorem lc_addScene {h : Hp} (I : IC h) (a1 : Int32) : ∃ t h2, L_addScene h a1 = some (t, h2) ∧ Cs h h2 := by
  unfold L_addScene
  refine L_of I ?_
  unfold C_addScene
  unfold lt
  dsimp only
  rcases needRange_cases h a1 1 9 (by decide) (by decide) with e | ⟨j, j1, j2, rfl, e⟩
  · have e : C_needRange h a1 1 9 = some (.inl (1, h)) := e
    exact Or.inl ⟨1, 1, by rw [e, thB_l], rfl⟩
  have e : C_needRange h (nI j) 1 9 = some (.inr h) := e
  rw [e, thB_r]
  unfold A_hasRoomForScene
  by_cases w : 5 ≤ rd h 1 15
  · rw [if_pos w, Option.bind_some]
    exact Or.inl ⟨2, 2, rfl, rfl⟩
  · obtain ⟨n, hn, en⟩ := room_ok (m := 5) (n := 5) (by decide) I.1.1.2.2.1 (by decide) w
    rw [if_neg w, Option.bind_some]
    obtain ⟨v, h1, e1, c1⟩ := change I (F := fun g => A_putScene g 1 (nI j)) (fun g Ig fg => by
      obtain ⟨g', eg, wg, -⟩ := putScene_x Ig (n := n) (by rw [fg 1 (by decide) (by decide)]; exact en) hn (nI j)
      exact ⟨_, g', eg, wg⟩)
    exact Or.inr ⟨v, h1, e1, c1⟩
set_option maxRecDepth 16384 in
theorem lc_sleep {h : Hp} (I : IC h) (a1 a2 : Int32) : ∃ t h2, L_sleep h a1 a2 = some (t, h2) ∧ Cs h h2 := by
  unfold L_sleep
  refine L_of I ?_
  unfold C_sleep
  unfold lt
  dsimp only
  rcases needClip_cases I.1.1 a1 with e | ⟨c, hc, rfl, clt, e⟩
  · exact Or.inl ⟨3, 1, by rw [e, thB_l], rfl⟩
  rw [e, thB_r]
  rcases needReel_cases I.1.1 a2 with e | ⟨r, hr, rfl, rlt, e⟩
  · exact Or.inl ⟨3, 1, by rw [e, thB_l], rfl⟩
  rw [e, thB_r]
  obtain ⟨v, ev, pv⟩ := refusal_ok I.1.1 hc hr
  rw [ev, Option.bind_some]
  by_cases w : v = 0
  · rw [if_pos w]
    obtain ⟨v, h1, e1, c1⟩ := change I (F := fun g => A_layDown g 1 (nI c) (nI r)) (fun g Ig fg => layDown_x Ig (by
      rw [fg 1 (by decide) (by decide)]
      obtain ⟨n, hn, en⟩ := I.1.1.clips
      rw [en] at clt ⊢
      rw [vn_nI (by omega)]
      exact (nI_ltI (by omega) (by omega)).mp clt) (by
      rw [fg 1 (by decide) (by decide)]
      obtain ⟨n, hn, en⟩ := I.1.1.reels
      rw [en] at rlt ⊢
      rw [vn_nI (by omega)]
      exact (nI_ltI (by omega) (by omega)).mp rlt) (by
      rw [fg (1 + 4) (by decide) (by decide), (pv w).1]
      decide))
    exact Or.inr ⟨v, h1, e1, c1⟩
  · rw [if_neg w]; exact Or.inl ⟨2, 2, rfl, rfl⟩
set_option maxRecDepth 16384 in
theorem lc_wake {h : Hp} (I : IC h) (a1 : Int32) : ∃ t h2, L_wake h a1 = some (t, h2) ∧ Cs h h2 := by
  unfold L_wake
  refine L_of I ?_
  unfold C_wake
  unfold lt
  dsimp only
  rcases needClip_cases I.1.1 a1 with e | ⟨c, hc, rfl, clt, e⟩
  · exact Or.inl ⟨3, 1, by rw [e, thB_l], rfl⟩
  rw [e, thB_r]
  rw [rdO_in hc (by decide), Option.bind_some]
  by_cases w : rd h (1 + 4) c = 1
  · rw [if_pos w]
    obtain ⟨v, h1, e1, c1⟩ := change I (F := fun g => A_rouse g 1 (nI c)) (fun g Ig _ => rouse_x Ig hc)
    exact Or.inr ⟨v, h1, e1, c1⟩
  · rw [if_neg w]; exact Or.inl ⟨2, 2, rfl, rfl⟩
set_option maxRecDepth 16384 in
theorem lc_cut {h : Hp} (I : IC h) (a1 a2 : Int32) : ∃ t h2, L_cut h a1 a2 = some (t, h2) ∧ Cs h h2 := by
  unfold L_cut
  refine L_of I ?_
  unfold C_cut
  rcases needScene_cases I.1.1 a1 with e | ⟨s, hs, rfl, slt, e⟩
  · exact Or.inl ⟨3, 1, by rw [e, thB_l], rfl⟩
  rw [e, thB_r]
  rcases needRange_cases h a2 1 9999 (by decide) (by decide) with e | ⟨j, hj, hj2, rfl, e⟩
  · have e : C_needRange h a2 1 9999 = some (.inl (1, h)) := e
    exact Or.inl ⟨1, 2, by unfold C_needPattern; rw [e, thB_l, thB_l], rfl⟩
  have e : C_needRange h (nI j) 1 9999 = some (.inr h) := e
  unfold C_needPattern
  rw [e, thB_r, thB_r]
  obtain ⟨v, h1, e1, c1⟩ := change I (F := fun g => A_cutScene g 1 (nI s) (nI j)) (fun g Ig _ => cutScene_x Ig hs (nI j))
  exact Or.inr ⟨v, h1, e1, c1⟩
set_option maxRecDepth 16384 in
theorem lc_air {h : Hp} (I : IC h) (a1 : Int32) : ∃ t h2, L_air h a1 = some (t, h2) ∧ Cs h h2 := by
  unfold L_air
  refine L_of I ?_
  unfold C_air
  rcases needReel_cases I.1.1 a1 with e | ⟨r, hr, rfl, rlt, e⟩
  · exact Or.inl ⟨3, 1, by rw [e, thB_l], rfl⟩
  rw [e, thB_r]
  obtain ⟨v, h1, e1, c1⟩ := change I (F := fun g => A_airReel g 1 (nI r)) (fun g Ig fg => airReel_x Ig (by
    rw [fg 1 (by decide) (by decide)]
    obtain ⟨n, hn, en⟩ := I.1.1.reels
    rw [en] at rlt ⊢
    rw [vn_nI (by omega)]
    exact (nI_ltI (by omega) (by omega)).mp rlt))
  exact Or.inr ⟨v, h1, e1, c1⟩
set_option maxRecDepth 16384 in
theorem lc_feed {h : Hp} (I : IC h) (a1 a2 : Int32) : ∃ t h2, L_feed h a1 a2 = some (t, h2) ∧ Cs h h2 := by
  unfold L_feed
  refine L_of I ?_
  unfold C_feed
  unfold lt
  dsimp only
  rcases needClip_cases I.1.1 a1 with e | ⟨c, hc, rfl, clt, e⟩
  · exact Or.inl ⟨3, 1, by rw [e, thB_l], rfl⟩
  rw [e, thB_r]
  rcases needRange_cases h a2 1 50 (by decide) (by decide) with e | ⟨j, j1, j2, rfl, e⟩
  · have e : C_needRange h a2 1 50 = some (.inl (1, h)) := e
    exact Or.inl ⟨1, 2, by rw [e, thB_l], rfl⟩
  have e : C_needRange h (nI j) 1 50 = some (.inr h) := e
  rw [e, thB_r]
  obtain ⟨b, eb, pb⟩ := mayFeed_ok (h := h) (a := 1) hc (nI j)
  rw [eb, Option.bind_some]
  match b, pb with
  | false, _ => exact Or.inl ⟨2, 3, rfl, rfl⟩
  | true, pb =>
    rw [if_neg (by decide)]
    obtain ⟨v, h1, e1, c1⟩ := change I (F := fun g => A_feedClip g 1 (nI c) (nI j)) (fun g Ig fg => feedClip_x Ig (by
      rw [fg 1 (by decide) (by decide)]
      obtain ⟨n, hn, en⟩ := I.1.1.clips
      rw [en] at clt ⊢
      rw [vn_nI (by omega)]
      exact (nI_ltI (by omega) (by omega)).mp clt) j2 (by rw [fg (1 + 5) (by decide) (by decide)]; exact (pb rfl).2.2))
    exact Or.inr ⟨v, h1, e1, c1⟩
set_option maxRecDepth 16384 in
theorem lc_addFood {h : Hp} (I : IC h) (a1 : Int32) : ∃ t h2, L_addFood h a1 = some (t, h2) ∧ Cs h h2 := by
  unfold L_addFood
  refine L_of I ?_
  unfold C_addFood
  unfold lt
  dsimp only
  rcases needRange_cases h a1 1 999 (by decide) (by decide) with e | ⟨j, j1, j2, rfl, e⟩
  · have e : C_needRange h a1 1 999 = some (.inl (1, h)) := e
    exact Or.inl ⟨1, 1, by rw [e, thB_l], rfl⟩
  have e : C_needRange h (nI j) 1 999 = some (.inr h) := e
  rw [e, thB_r]
  obtain ⟨b, eb⟩ := mayStore_ok (h := h) (a := 1) (nI j)
  rw [eb, Option.bind_some]
  match b with
  | false => exact Or.inl ⟨2, 2, rfl, rfl⟩
  | true =>
    rw [if_neg (by decide)]
    obtain ⟨v, h1, e1, c1⟩ := change I (F := fun g => A_store g 1 (nI j)) (fun g Ig fg => store_x Ig (nI j))
    exact Or.inr ⟨v, h1, e1, c1⟩
set_option maxRecDepth 16384 in
theorem lc_passWeeks {h : Hp} (I : IC h) (a1 : Int32) : ∃ t h2, L_passWeeks h a1 = some (t, h2) ∧ Cs h h2 := by
  unfold L_passWeeks
  refine L_of I ?_
  unfold C_passWeeks
  unfold lt
  dsimp only
  rcases needRange_cases h a1 1 50 (by decide) (by decide) with e | ⟨j, j1, j2, rfl, e⟩
  · have e : C_needRange h a1 1 50 = some (.inl (1, h)) := e
    exact Or.inl ⟨1, 1, by rw [e, thB_l], rfl⟩
  have e : C_needRange h (nI j) 1 50 = some (.inr h) := e
  rw [e, thB_r]
  obtain ⟨b, eb⟩ := mayPass_ok (h := h) (a := 1) (nI j)
  rw [eb, Option.bind_some]
  match b with
  | false => exact Or.inl ⟨2, 2, rfl, rfl⟩
  | true =>
    rw [if_neg (by decide)]
    obtain ⟨v, h1, e1, c1⟩ := change I (F := fun g => A_pass g 1 (nI j)) (fun g Ig fg => pass_x Ig j2)
    exact Or.inr ⟨v, h1, e1, c1⟩
set_option maxRecDepth 16384 in
theorem lc_paint {h : Hp} (I : IC h) (a1 a2 a3 : Int32) : ∃ t h2, L_paint h a1 a2 a3 = some (t, h2) ∧ Cs h h2 := by
  unfold L_paint
  refine L_of I ?_
  unfold C_paint
  unfold lt
  dsimp only
  rcases needClip_cases I.1.1 a1 with e | ⟨c, hc, rfl, clt, e⟩
  · exact Or.inl ⟨3, 1, by rw [e, thB_l], rfl⟩
  rw [e, thB_r]
  by_cases w : a2 < 0
  · exact Or.inl ⟨3, 1, if_pos w, rfl⟩
  obtain ⟨l, hl, el⟩ := I.1.1.len c hc
  rw [if_neg w, rdO_in hc (by decide), Option.bind_some, el]
  by_cases w2 : a2 < nI l
  · obtain ⟨i, hi, rfl⟩ := nI_of w
    have := (nI_ltI hi (by omega)).mp w2
    rw [if_pos w2]
    rcases needRange_cases h a3 1 9 (by decide) (by decide) with e | ⟨j, j1, j2, rfl, e⟩
    · have e : C_needRange h a3 1 9 = some (.inl (1, h)) := e
      exact Or.inl ⟨1, 2, by rw [e, thB_l], rfl⟩
    have e : C_needRange h (nI j) 1 9 = some (.inr h) := e
    rw [e, thB_r]
    rw [rdO_in hc (by decide), Option.bind_some]
    by_cases w3 : rd h (1 + 4) c = 0
    · rw [if_pos w3]
      obtain ⟨v, h1, e1, c1⟩ := change I (F := fun g => A_paintClip g 1 (nI c) (nI i) (nI j)) (fun g Ig fg => by
        obtain ⟨q, g', eg, wg⟩ := paintClip_x Ig hc (by rw [fg (1 + 4) (by decide) (by decide), w3]; decide) (i := i) (by omega) j2
        exact ⟨_, g', eg, wg⟩)
      exact Or.inr ⟨v, h1, e1, c1⟩
    · rw [if_neg w3]; exact Or.inl ⟨2, 3, rfl, rfl⟩
  · exact Or.inl ⟨3, 1, if_neg w2, rfl⟩
set_option maxRecDepth 16384 in
theorem lc_writeReel {h : Hp} (I : IC h) (a1 : Int32) : ∃ t h2, L_writeReel h a1 = some (t, h2) ∧ Cs h h2 := by
  unfold L_writeReel
  refine L_of I ?_
  unfold C_writeReel
  rcases needReel_cases I.1.1 a1 with e | ⟨r, hr, rfl, rlt, e⟩
  · exact Or.inl ⟨3, 1, by rw [e, thB_l], rfl⟩
  rw [e, thB_r]
  unfold nm
  dsimp only
  obtain ⟨h3, e3⟩ : ∃ h3, h3 = up2 h 0 9 0 := ⟨_, rfl⟩
  rw [← e3]
  have p3 : Rp h h3 := by
    rw [e3]
    exact ⟨by rw [rd_up2_self, upd_self]; exact ⟨0, by decide, rfl⟩, fun k a b => rd_up2_ne a, fun i a => by rw [rd_up2_self, upd_ne a]⟩
  obtain ⟨g, e, p⟩ := loop0 (fun n (s : Hp) v => C_writeReel_L12 (nI r) n (nI v) s) 9 (fun s _ => Rp h s) (fun s => Rp h s) (by decide) (fun n s v hv w => by
    have Is : Arc s 1 := I.1.1.cg fun k a b => w.2.1 k (by omega) (by omega)
    obtain ⟨m, hm, em⟩ := Is.beds r hr
    rw [C_writeReel_L12, rdO_in hr (by decide), Option.bind_some, em]
    by_cases q : m ≤ v
    · exact Or.inl ⟨_, if_pos (nI_le q (by omega)), w⟩
    · rw [if_neg (nI_ge (by omega) (by omega))]
      unfold lt
      dsimp only
      have go : ∀ t : Hp, Rp h t → ∃ t', ((A_inBed t 1 (nI r) (nI v)).bind fun t5 => (C_reportBed t t5).bind fun h7 => C_writeReel_L12 (nI r) n (nI v + 1) h7) = C_writeReel_L12 (nI r) n (nI (v + 1)) t' ∧ Rp h t' := fun t wt => by
        have It : Arc t 1 := I.1.1.cg fun k a b => wt.2.1 k (by omega) (by omega)
        obtain ⟨g, eg, pg⟩ := reportBed_ok It wt.1 (It.bed (r * 9 + v) (by omega))
        rw [inBed_eq hr (by omega), Option.bind_some, eg, Option.bind_some, nI_1]
        exact ⟨g, rfl, wt.tr pg⟩
      refine Or.inr ⟨by omega, ?_⟩
      by_cases q2 : nI v ≤ 0
      · rw [if_pos q2]
        obtain ⟨t', a, b⟩ := go s w
        exact ⟨t', b, a⟩
      · obtain ⟨g, eg, pg⟩ := putSign_ok w.1 32
        rw [if_neg q2, eg, Option.bind_some]
        obtain ⟨t', a, b⟩ := go g (w.tr pg)
        exact ⟨t', b, a⟩) h3 p3
  have e : C_writeReel_L12 (nI r) FU 0 h3 = some g := e
  rw [e, Option.bind_some]
  refine Or.inr ⟨_, g, rfl, ⟨I.1.cg fun k a b => p.2.1 k (by omega) (by omega), I.2.1.cg fun k a b => p.2.1 k (by omega) (by omega), fun i hi => (I.2.2.1 i hi).cg fun k a b => p.2.1 k (by omega) ?_, I.2.2.2.1.cg fun k a b => p.2.1 k (by omega) (by omega), ?_, ?_, p.1⟩, fun k a b => p.2.1 k (by omega) (by omega), by rw [p.2.1 47 (by decide) (by decide)]⟩
  · omega
  · rw [p.2.2 5 (by decide)]; exact I.2.2.2.2.1
  · rw [p.2.2 6 (by decide)]; exact I.2.2.2.2.2.1
set_option maxRecDepth 16384 in
theorem cc_copyNow {h h1 : Hp} (I : IC h) {o : Nat} (Io : Arx h o) (hd : 12 ≤ o) : ∃ h', A_copyFrom h 1 o = some h' ∧ Cs h h' := by
  obtain ⟨g, eg, sg, fg⟩ := copyFrom_same h (a := 1) (o := o) (by omega)
  exact ⟨g, eg, Cs.now I ⟨Io.same sg, fg⟩⟩
set_option maxRecDepth 16384 in
theorem IC.row0 {h : Hp} (I : IC h) {i : Nat} {x : Int32} (h5 : i = 5 → Sc 8 x) (h6 : i = 6 → Sc 7 x) (h9 : i = 9 → Sc 81 x) : Cs h (up2 h 0 i x) := by
  obtain ⟨i1, i2, i3, i4, i5, i6, i7⟩ := I
  refine ⟨⟨i1.out (by omega), i2.out (by omega), fun k hk => (i3 k hk).out (by omega), i4.cg fun k a b => rd_up2_ne (by omega), ?_, ?_, ?_⟩, fun k a b => rd_up2_ne (by omega), by rw [rd_up2_ne (by decide)]⟩
  · rw [rd_up2_self]
    by_cases e : 5 = i
    · subst e; rw [upd_self]; exact h5 rfl
    · rw [upd_ne e]; exact i5
  · rw [rd_up2_self]
    by_cases e : 6 = i
    · subst e; rw [upd_self]; exact h6 rfl
    · rw [upd_ne e]; exact i6
  · rw [rd_up2_self]
    by_cases e : 9 = i
    · subst e; rw [upd_self]; exact h9 rfl
    · rw [upd_ne e]; exact i7
set_option maxRecDepth 16384 in
theorem cc_undo {h : Hp} (I : IC h) : ∃ v h2, C_undo h = some (v, h2) ∧ Cs h h2 := by
  obtain ⟨p, hp, ep⟩ := I.2.2.2.2.1
  obtain ⟨e, he, ee⟩ := I.2.2.2.2.2.1
  unfold C_undo
  by_cases q : rd h 0 5 = 0
  · exact ⟨-1, h, if_pos q, Cs.rf I⟩
  have hp0 : p ≠ 0 := fun w => q (by rw [ep, w]; rfl)
  unfold nm
  rw [if_neg q]
  dsimp only
  have a1 : ((rd h 0 6 + 8) - 1) - ((rd h 0 6 + 8) - 1) / 8 * 8 = nI ((e + 7) % 8) := by
    rw [ee, show (8 : Int32) = nI 8 from rfl, nI_add, show nI (e + 8) - 1 = nI (e + 7) from pk_sub (b := 1) (by omega)]
    exact pk_rem (d := 8) (by omega) (by decide) (by decide)
  rw [a1]
  have c1 : Cs h (up2 h 0 6 (nI ((e + 7) % 8))) := I.row0 (fun w => by cases w) (fun _ => ⟨_, by omega, rfl⟩) (fun w => by cases w)
  obtain ⟨h1, e1⟩ : ∃ h1, h1 = up2 h 0 6 (nI ((e + 7) % 8)) := ⟨_, rfl⟩
  rw [← e1] at c1 ⊢
  have z5 : rd h1 0 5 - 1 = nI (p - 1) := by
    rw [e1, rd_up2_self, upd_ne (by decide), ep]; exact pk_sub (b := 1) (by omega)
  rw [z5]
  have c2 : Cs h1 (up2 h1 0 5 (nI (p - 1))) := c1.1.row0 (fun _ => ⟨_, by omega, rfl⟩) (fun w => by cases w) (fun w => by cases w)
  obtain ⟨h2, e2⟩ : ∃ h2, h2 = up2 h1 0 5 (nI (p - 1)) := ⟨_, rfl⟩
  rw [← e2] at c2 ⊢
  have z6 : rd h2 0 6 = nI ((e + 7) % 8) := by rw [e2, rd_up2_self, upd_ne (by decide), e1, rd_up2_self, upd_self]
  have pa : paO (nI ((e + 7) % 8)) = some (52 + 11 * ((e + 7) % 8)) := by
    unfold paO
    rw [nI_clamp (by omega), if_neg (by
      rintro (q | q)
      · exact nI_pos (by omega) q
      · omega)]
  rw [z6, pa, Option.bind_some]
  obtain ⟨h5, e5, c5⟩ := cc_copyNow (h1 := h2) c2.1 (c2.1.2.2.1 ((e + 7) % 8) (by omega)) (by omega)
  rw [e5, Option.bind_some]
  exact ⟨_, h5, rfl, (c1.tr c2).tr c5⟩
set_option maxRecDepth 16384 in
theorem cc_saveSnapshot {h : Hp} (I : IC h) : ∃ v h2, C_saveSnapshot h = some (v, h2) ∧ Cs h h2 := by
  obtain ⟨g, eg, sg, fg⟩ := copyFrom_same h (a := 23) (o := 1) (by omega)
  have c1 : Cs h g := by
    obtain ⟨i1, i2, i3, i4, i5, i6, i7⟩ := I
    refine ⟨⟨i1.cg fun k a b => fg k (by omega), i1.same sg, fun k hk => (i3 k hk).cg fun q a b => fg q (by omega), i4.cg fun k a b => fg k (by omega), ?_, ?_, ?_⟩, fun k a b => fg k (by omega), by rw [fg 47 (by decide)]⟩
    · rw [fg 0 (by decide)]; exact i5
    · rw [fg 0 (by decide)]; exact i6
    · rw [fg 0 (by decide)]; exact i7
  have c2 : Cs g (up2 g 0 3 1) := c1.1.row0 (fun w => by cases w) (fun w => by cases w) (fun w => by cases w)
  unfold C_saveSnapshot nm
  rw [eg, Option.bind_some]
  exact ⟨_, _, rfl, c1.tr c2⟩
set_option maxRecDepth 16384 in
theorem lc_restoreSnapshot {h : Hp} (I : IC h) : ∃ t h2, L_restoreSnapshot h = some (t, h2) ∧ Cs h h2 := by
  unfold L_restoreSnapshot
  refine L_of I ?_
  unfold C_restoreSnapshot
  by_cases q : rd h 0 3 = 0
  · exact Or.inl ⟨4, 1, if_pos q, rfl⟩
  · obtain ⟨g, eg, cg⟩ := cc_copyNow (h1 := h) I I.2.1 (by decide)
    have c2 : Cs g (up2 g 0 5 0) := cg.1.row0 (fun _ => ⟨0, by decide, rfl⟩) (fun w => by cases w) (fun w => by cases w)
    unfold nm
    rw [if_neg q, eg, Option.bind_some]
    exact Or.inr ⟨_, _, rfl, cg.tr c2⟩
set_option maxRecDepth 16384 in
theorem cc_runScript {h : Hp} (I : IC h) : ∃ v h2, C_runScript h = some (v, h2) ∧ IC h2 ∧ (∀ k, 140 ≤ k → k ≠ 150 → rd h2 k = rd h k) ∧ rd h2 47 1 = 0 := by
  obtain ⟨g, eg, sg, fg, zg⟩ := run_ok I.2.2.2.1
  have Ig : IC g := by
    obtain ⟨i1, i2, i3, i4, i5, i6, i7⟩ := I
    refine ⟨i1.cg fun k a b => fg k (by omega), i2.cg fun k a b => fg k (by omega), fun k hk => (i3 k hk).cg fun q a b => fg q (by omega), sg, ?_, ?_, ?_⟩
    · rw [fg 0 (by decide)]; exact i5
    · rw [fg 0 (by decide)]; exact i6
    · rw [fg 0 (by decide)]; exact i7
  unfold C_runScript
  rw [eg, Option.bind_some]
  by_cases q : rd g 35 2 = 0
  · obtain ⟨h4, e4, c4, f4⟩ := remember_ic Ig
    obtain ⟨h6, e6, c6⟩ := cc_copyNow (h1 := h4) c4.1 c4.1.2.2.2.1.1 (by decide)
    rw [if_pos q, e4, Option.bind_some, e6, Option.bind_some]
    refine ⟨_, h6, rfl, c6.1, fun k a b => ?_, ?_⟩
    · rw [c6.2.1 k a b, c4.2.1 k a b, fg k (by omega)]
    · rw [c6.2.2, c4.2.2, zg]
  · rw [if_neg q]
    exact ⟨_, g, rfl, Ig, fun k a b => fg k (by omega), zg⟩
set_option maxRecDepth 16384 in
theorem cc_append {h : Hp} (I : IC h) (a1 a2 a3 a4 a5 : Int32) {s : Nat} (hs : s ≤ 600) (es : rd h 47 1 = nI s) : ∃ h2, C_append h a1 a2 a3 a4 a5 = some (if s + 20 ≤ 600 then nI (s + 20) else -1, h2) ∧ IC h2 ∧ (∀ k, 140 ≤ k → k ≠ 150 → rd h2 k = rd h k) ∧ rd h2 47 1 = nI (if s + 20 ≤ 600 then s + 20 else s) := by
  by_cases q : s + 20 ≤ 600
  · obtain ⟨g, eg, zg, fg, kg⟩ := append_ok es q a1 a2 a3 a4 a5
    rw [if_pos q, if_pos q]
    refine ⟨g, eg, ?_, fun k a b => fg k (by omega) (by omega), zg⟩
    obtain ⟨i1, i2, i3, i4, i5, i6, i7⟩ := I
    refine ⟨i1.cg fun k a b => fg k (by omega) (by omega), i2.cg fun k a b => fg k (by omega) (by omega), fun k hk => (i3 k hk).cg fun q a b => fg q (by omega) (by omega), ⟨i4.1.cg fun k a b => fg k (by omega) (by omega), ?_, ?_, ?_⟩, ?_, ?_, ?_⟩
    · obtain ⟨t1, t2, t3, t4, t5⟩ := i4.2.1
      refine ⟨⟨s + 20, q, zg⟩, ?_, ?_, ?_, ?_⟩
      · rw [kg 2 (by decide)]; exact t2
      · rw [kg 3 (by decide)]; exact t3
      · rw [kg 4 (by decide)]; exact t4
      · rw [kg 3 (by decide), kg 5 (by decide)]; exact t5
    · rw [fg 35 (by decide) (by decide)]; exact i4.2.2.1
    · rw [fg 49 (by decide) (by decide)]; exact i4.2.2.2
    · rw [fg 0 (by decide) (by decide)]; exact i5
    · rw [fg 0 (by decide) (by decide)]; exact i6
    · rw [fg 0 (by decide) (by decide)]; exact i7
  · rw [if_neg q, if_neg q]
    exact ⟨h, append_no es (by omega) hs a1 a2 a3 a4 a5, I, fun _ _ _ => rfl, es⟩
set_option maxRecDepth 16384 in
theorem lc_truncateInput {h : Hp} (I : IC h) (a1 : Int32) {s : Nat} (hs : s ≤ 600) (es : rd h 47 1 = nI s) : (L_truncateInput h a1 = some (1, h) ∧ (a1 < 0 ∨ nI s < a1)) ∨ ∃ j h2, j ≤ s ∧ a1 = nI j ∧ L_truncateInput h a1 = some (0, h2) ∧ rd h2 150 0 = nI j ∧ IC h2 ∧ (∀ k, 140 ≤ k → k ≠ 150 → rd h2 k = rd h k) ∧ rd h2 47 1 = nI j := by
  unfold L_truncateInput C_truncateInput
  by_cases q0 : a1 < 0
  · rw [if_pos q0]; exact Or.inl ⟨rfl, Or.inl q0⟩
  rw [if_neg q0, es]
  by_cases q1 : a1 ≤ nI s
  · obtain ⟨j, hj, rfl⟩ := nI_of q0
    have hjs := (nI_leI hj (by omega)).mp q1
    rw [if_pos q1]
    refine Or.inr ⟨j, up2 (up2 h 47 1 (nI j)) 150 0 (nI j), hjs, rfl, rfl, by rw [rd_up2_self, upd_self], ?_, fun k a b => ?_, ?_⟩
    · obtain ⟨i1, i2, i3, i4, i5, i6, i7⟩ := I
      have r : ∀ k, k ≠ 47 → k ≠ 150 → rd (up2 (up2 h 47 1 (nI j)) 150 0 (nI j)) k = rd h k := fun k a b => by rw [rd_up2_ne b, rd_up2_ne a]
      have r47 : ∀ i, rd (up2 (up2 h 47 1 (nI j)) 150 0 (nI j)) 47 i = if i = 1 then nI j else rd h 47 i := fun i => by rw [rd_up2_ne (by decide), up47]
      refine ⟨i1.cg fun k a b => r k (by omega) (by omega), i2.cg fun k a b => r k (by omega) (by omega), fun k hk => (i3 k hk).cg fun q a b => r q (by omega) (by omega), ⟨i4.1.cg fun k a b => r k (by omega) (by omega), ?_, ?_, ?_⟩, ?_, ?_, ?_⟩
      · obtain ⟨t1, t2, t3, t4, t5⟩ := i4.2.1
        refine ⟨?_, ?_, ?_, ?_, ?_⟩
        · rw [r47, if_pos rfl]; exact ⟨j, by omega, rfl⟩
        · rw [r47, if_neg (by decide)]; exact t2
        · rw [r47, if_neg (by decide)]; exact t3
        · rw [r47, if_neg (by decide)]; exact t4
        · rw [r47, if_neg (by decide), r47, if_neg (by decide)]; exact t5
      · rw [r 35 (by decide) (by decide)]; exact i4.2.2.1
      · rw [r 49 (by decide) (by decide)]; exact i4.2.2.2
      · rw [r 0 (by decide) (by decide)]; exact i5
      · rw [r 0 (by decide) (by decide)]; exact i6
      · rw [r 0 (by decide) (by decide)]; exact i7
    · rw [rd_up2_ne b, rd_up2_ne (by omega)]
    · rw [rd_up2_ne (by decide), rd_up2_self, upd_self]
  · rw [if_neg q1]
    refine Or.inl ⟨rfl, Or.inr ?_⟩
    rw [Int32.le_iff_toInt_le] at q1; rw [Int32.lt_iff_toInt_lt]; omega
set_option maxRecDepth 16384 in
theorem cc_fadedClips {h : Hp} (I : IC h) : ∃ v, C_fadedClips h = some v := by
  obtain ⟨t, ht, et⟩ := I.1.1.clips
  obtain ⟨S, -, e, -⟩ := inState_ok I.1.1 2 et ht
  exact ⟨_, by unfold C_fadedClips; rw [e, Option.bind_some]⟩
set_option maxRecDepth 16384 in
theorem cc_violations {h : Hp} (I : IC h) : ∃ v, C_violations h = some v := by
  obtain ⟨v, e⟩ := faults_ok I.1.1
  exact ⟨v, by unfold C_violations; rw [e, Option.bind_some]⟩
set_option maxRecDepth 16384 in
theorem cc_reportByte {h : Hp} (I : IC h) (a1 : Int32) : ∃ v, C_reportByte h a1 = some v := by
  obtain ⟨n, hn, en⟩ := I.2.2.2.2.2.2
  unfold C_reportByte
  by_cases q0 : a1 < 0
  · exact ⟨_, if_pos q0⟩
  rw [if_neg q0, en]
  by_cases q1 : a1 < nI n
  · obtain ⟨j, hj, rfl⟩ := nI_of q0
    have := (nI_ltI hj (by omega)).mp q1
    rw [if_pos q1, rdO_in (by omega) (by decide), Option.bind_some]
    exact ⟨_, rfl⟩
  · exact ⟨_, if_neg q1⟩
set_option maxRecDepth 16384 in
theorem cc_zero {h : Hp} (I : IC h) : C_violations h = some 0 := by
  unfold C_violations
  rw [faults_x I.1, Option.bind_some]
