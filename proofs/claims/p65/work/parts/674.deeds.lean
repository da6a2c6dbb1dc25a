/-! ===== p65: changes: what is remembered, what is kept ===== -/
def Ring (h : Hp) (e c : Nat) : Prop := e < 8 ∧ c ≤ 8 ∧ rd h 0 6 = nI e ∧ rd h 0 5 = nI c
/-- a change: the archive as it was lies in the ring's place e; the rest stands -/
def Chg (h h' : Hp) (e c : Nat) : Prop := Ring h' ((e + 1) % 8) (min (c + 1) 8) ∧ Eqa (52 + 11 * e) 1 h' h ∧ (∀ k, 12 ≤ k → (k < 52 + 11 * e ∨ 63 + 11 * e ≤ k) → rd h' k = rd h k) ∧ rd h' 0 3 = rd h 0 3
section
variable {h : Hp}
theorem paO_eq {e : Nat} (he : e < 8) : paO (nI e) = some (52 + 11 * e) := by
  unfold paO
  rw [if_neg (nI_in he (by decide)), nI_clamp (by omega)]
theorem remember_y {e c : Nat} (ring : Ring h e c) : ∃ g, C_remember h = some g ∧ Chg h g e c ∧ ∀ k, 1 ≤ k → k < 12 → rd g k = rd h k := by
  obtain ⟨he, hc, r6, r5⟩ := ring
  obtain ⟨h3, e3, f3, q3⟩ := copy_eqa h (52 + 11 * e) 1 (Or.inr (by omega))
  obtain ⟨h4, e4⟩ : ∃ h4, h4 = up2 h3 0 6 (nI ((e + 1) % 8)) := ⟨_, rfl⟩
  obtain ⟨h5, e5⟩ : ∃ h5, h5 = up2 h4 0 5 (nI (min (c + 1) 8)) := ⟨_, rfl⟩
  have z3 : rd h3 0 = rd h 0 := f3 0 (by omega)
  have r4 : rd h4 0 = upd (rd h 0) 6 (nI ((e + 1) % 8)) := by rw [e4, rd_up2_self, z3]
  have r5' : rd h5 0 = upd (upd (rd h 0) 6 (nI ((e + 1) % 8))) 5 (nI (min (c + 1) 8)) := by rw [e5, rd_up2_self, r4]
  have R : ∀ k, k ≠ 0 → rd h5 k = rd h3 k := fun k hk => by rw [e5, rd_up2_ne hk, e4, rd_up2_ne hk]
  refine ⟨h5, ?_, ⟨⟨Nat.mod_lt _ (by decide), by omega, ?_, ?_⟩, ?_, fun k h12 hk => ?_, ?_⟩, fun k h1 hk => ?_⟩
  · unfold C_remember nm
    rw [r6, paO_eq he, Option.bind_some, e3, Option.bind_some]
    dsimp only
    have x1 : rd h3 0 6 + 1 - (rd h3 0 6 + 1) / 8 * 8 = nI ((e + 1) % 8) := by
      rw [z3, r6, nI_1]
      exact pk_rem (d := 8) (by omega) (by decide) (by decide)
    rw [x1, ← e4]
    have x2 : mnI (rd h4 0 5 + 1) 8 = nI (min (c + 1) 8) := by
      rw [r4, upd_ne (by decide), r5, nI_1]
      exact mn_nI (y := 8) (by omega) (by decide)
    rw [x2, ← e5]
  · rw [r5', upd_ne (by decide), upd_self]
  · rw [r5', upd_self]
  · exact q3.fr (fun k h1 h2 => R k (by omega))
  · rw [R k (by omega)]; exact f3 k (by omega)
  · rw [r5', upd_ne (by decide), upd_ne (by decide)]
  · rw [R k (by omega)]; exact f3 k (by omega)
theorem Chg.fr {g h' : Hp} {e c : Nat} (H : Chg h g e c) (f : Fr 1 11 g h') : Chg h h' e c := by
  obtain ⟨⟨a1, a2, a3, a4⟩, q, o, s⟩ := H
  have z : rd h' 0 = rd g 0 := f 0 (by omega)
  refine ⟨⟨a1, a2, by rw [z]; exact a3, by rw [z]; exact a4⟩, q.fr (fun k h1 h2 => f k (by omega)), fun k h1 hk => by rw [f k (by omega)]; exact o k h1 hk, by rw [z]; exact s⟩
theorem range_eq {p lo hi : Nat} (h1 : lo ≤ p) (h2 : p ≤ hi) (hh : hi < 2 ^ 31) : C_needRange (nI p) (nI lo) (nI hi) = some () := by
  unfold C_needRange
  rw [if_neg (nI_nlt h1 (by omega)), if_pos (nI_le h2 hh)]
theorem refuse_no : C_refuseIf false = some () := by
  unfold C_refuseIf
  rw [if_pos (by decide)]
/-- a change by an operation on the archive -/
theorem chg_op {e c : Nat} (I : Ary h 1) (ring : Ring h e c) (op : Hp → Option (Int32 × Hp)) (hop : ∀ g : Hp, Ary g 1 → (∀ k, 1 ≤ k → k < 12 → rd g k = rd h k) → ∃ v h', op g = some (v, h') ∧ Wy g 1 h') : ∃ v h', ((C_remember h).bind fun g => (op g).bind fun x => some (x.1, x.2)) = some (v, h') ∧ Chg h h' e c ∧ Ary h' 1 ∧ ∃ g, op g = some (v, h') ∧ (∀ k, 1 ≤ k → k < 12 → rd g k = rd h k) ∧ Fr 1 11 g h' := by
  obtain ⟨g, eg, H, f⟩ := remember_y ring
  obtain ⟨v, h', eo, w⟩ := hop g (I.cg (fun k h1 h2 => f k h1 (by omega))) f
  exact ⟨v, h', by rw [eg, Option.bind_some, eo, Option.bind_some], H.fr w.2, w.1, g, eo, f, w.2⟩
variable {e c0 n R S : Nat}
theorem sleep_y (I : Ary h 1) (ring : Ring h e c0) (en : rd h 1 5 = nI n) (hn : n ≤ 12) (eR : rd h 1 12 = nI R) (hR : R ≤ 4) {c r : Nat} (hc : c < n) (hr : r < R) (ref : A_refusal h 1 (nI c) (nI r) = some 0) : ∃ v h', C_sleep h (nI c) (nI r) = some (v, h') ∧ Chg h h' e c0 ∧ Ary h' 1 := by
  obtain ⟨v0, e0, p0⟩ := refusal_ok I.1.1 (show c < 12 by omega) (show r < 4 by omega)
  rw [ref] at e0
  have st := (p0 (Option.some.inj e0).symm).1
  obtain ⟨v, h', eo, H, A, -⟩ := chg_op I ring (fun g => A_layDown g 1 (nI c) (nI r)) (fun g Ig f => by
    have c5 : vn (rd g 1 5) = n := by rw [f 1 (by decide) (by decide), en, vn_nI (by omega)]
    have c12 : vn (rd g 1 12) = R := by rw [f 1 (by decide) (by decide), eR, vn_nI (by omega)]
    have st' : rd g (1 + 4) c = 0 := by rw [f (1 + 4) (by decide) (by decide)]; exact st
    obtain ⟨v, h', eo, w⟩ := layDown_x Ig.1 (c := c) (r := r) (by rw [c5]; exact hc) (by rw [c12]; exact hr) (by rw [st']; decide)
    exact ⟨v, h', eo, Wy.of w (layDown_y Ig.1.1 Ig.2 (by omega) (by omega) st' eo).1⟩)
  refine ⟨v, h', ?_, H, A⟩
  have z0 : (0 : Int32) = 0 := rfl
  unfold C_sleep lt
  dsimp only
  rw [needClip_eq en hn hc, Option.bind_some, needReel_eq eR hR hr, Option.bind_some, ref, Option.bind_some, if_pos z0, refuse_no, Option.bind_some]
  exact eo
theorem wake_y (I : Ary h 1) (ring : Ring h e c0) (en : rd h 1 5 = nI n) (hn : n ≤ 12) {c : Nat} (hc : c < n) (st : rd h (1 + 4) c = 1) : ∃ v h', C_wake h (nI c) = some (v, h') ∧ Chg h h' e c0 ∧ Ary h' 1 := by
  obtain ⟨v, h', eo, H, A, -⟩ := chg_op I ring (fun g => A_rouse g 1 (nI c)) (fun g Ig f => by
    have st' : rd g (1 + 4) c = 1 := by rw [f (1 + 4) (by decide) (by decide)]; exact st
    obtain ⟨v, h', eo, w⟩ := rouse_x Ig.1 (c := c) (by omega)
    exact ⟨v, h', eo, Wy.of w (rouse_y Ig.1.1 Ig.2 (by omega) st' eo).1⟩)
  refine ⟨v, h', ?_, H, A⟩
  have z1 : (1 : Int32) = 1 := rfl
  unfold C_wake lt
  dsimp only
  rw [needClip_eq en hn hc, Option.bind_some, r12 (by omega), Option.bind_some, st, if_pos z1, refuse_no, Option.bind_some]
  exact eo
theorem cut_y (I : Ary h 1) (ring : Ring h e c0) (eS : rd h 1 15 = nI S) (hS : S ≤ 5) {s p : Nat} (hs : s < S) (p1 : 1 ≤ p) (hp : p ≤ 9999) : ∃ v h', C_cut h (nI s) (nI p) = some (v, h') ∧ Chg h h' e c0 ∧ Ary h' 1 := by
  obtain ⟨v, h', eo, H, A, -⟩ := chg_op I ring (fun g => A_cutScene g 1 (nI s) (nI p)) (fun g Ig f => by
    have c15 : vn (rd g 1 15) = S := by rw [f 1 (by decide) (by decide), eS, vn_nI (by omega)]
    exact cutScene_y Ig (by rw [c15]; exact hs) (nI p))
  refine ⟨v, h', ?_, H, A⟩
  have rg : C_needRange (nI p) 1 9999 = some () := range_eq (lo := 1) (hi := 9999) p1 hp (by decide)
  unfold C_cut C_needPattern
  rw [needScene_eq eS hS hs, Option.bind_some, rg, Option.bind_some, Option.bind_some]
  exact eo
theorem air_y (I : Ary h 1) (ring : Ring h e c0) (eR : rd h 1 12 = nI R) (hR : R ≤ 4) {r : Nat} (hr : r < R) : ∃ v h', C_air h (nI r) = some (v, h') ∧ Chg h h' e c0 ∧ Ary h' 1 ∧ ∃ g, A_airReel g 1 (nI r) = some (v, h') ∧ (∀ k, 1 ≤ k → k < 12 → rd g k = rd h k) ∧ Fr 1 11 g h' := by
  obtain ⟨v, h', eo, H, A, G⟩ := chg_op I ring (fun g => A_airReel g 1 (nI r)) (fun g Ig f => by
    have c12 : vn (rd g 1 12) = R := by rw [f 1 (by decide) (by decide), eR, vn_nI (by omega)]
    obtain ⟨v, h', eo, w, -⟩ := airReel_y Ig (r := r) (by rw [c12]; exact hr)
    exact ⟨v, h', eo, w⟩)
  refine ⟨v, h', ?_, H, A, G⟩
  unfold C_air
  rw [needReel_eq eR hR hr, Option.bind_some]
  exact eo
theorem feed_y (I : Ary h 1) (ring : Ring h e c0) (en : rd h 1 5 = nI n) (hn : n ≤ 12) {c x : Nat} (hc : c < n) (x1 : 1 ≤ x) (hx : x ≤ 50) (st : rd h (1 + 4) c = 0) (fo : ¬ rd h 1 1 < nI x) (fa : ¬ 99 < rd h (1 + 5) c + nI x) : ∃ v h', C_feed h (nI c) (nI x) = some (v, h') ∧ Chg h h' e c0 ∧ Ary h' 1 := by
  obtain ⟨v, h', eo, H, A, -⟩ := chg_op I ring (fun g => A_feedClip g 1 (nI c) (nI x)) (fun g Ig f => by
    have c5 : vn (rd g 1 5) = n := by rw [f 1 (by decide) (by decide), en, vn_nI (by omega)]
    have st' : rd g (1 + 4) c = 0 := by rw [f (1 + 4) (by decide) (by decide)]; exact st
    have fo' : ¬ rd g 1 1 < nI x := by rw [f 1 (by decide) (by decide)]; exact fo
    have fa' : ¬ 99 < rd g (1 + 5) c + nI x := by rw [f (1 + 5) (by decide) (by decide)]; exact fa
    obtain ⟨v, h', eo, w⟩ := feedClip_x Ig.1 (c := c) (x := x) (by rw [c5]; exact hc) hx fa'
    exact ⟨v, h', eo, Wy.of w (feedClip_y Ig.1.1 Ig.2 (by rw [c5]; exact hc) hx st' fo' fa' eo)⟩)
  refine ⟨v, h', ?_, H, A⟩
  have rg : C_needRange (nI x) 1 50 = some () := range_eq (lo := 1) (hi := 50) x1 hx (by decide)
  have may : A_mayFeed h 1 (nI c) (nI x) = some true := by
    have z0 : (0 : Int32) = 0 := rfl
    unfold A_mayFeed
    rw [r12 (by omega), Option.bind_some, st, if_pos z0, if_neg fo, r12 (by omega), Option.bind_some, if_neg fa]
  unfold C_feed lt
  dsimp only
  rw [needClip_eq en hn hc, Option.bind_some, rg, Option.bind_some, may, Option.bind_some, if_neg (show ¬ b2i true = 0 by decide), refuse_no, Option.bind_some]
  exact eo
theorem addFood_y (I : Ary h 1) (ring : Ring h e c0) {x : Nat} (x1 : 1 ≤ x) (hx : x ≤ 999) (fo : ¬ 9999 < rd h 1 1 + nI x) : ∃ v h', C_addFood h (nI x) = some (v, h') ∧ Chg h h' e c0 ∧ Ary h' 1 := by
  obtain ⟨v, h', eo, H, A, -⟩ := chg_op I ring (fun g => A_store g 1 (nI x)) (fun g Ig f => by
    have fo' : ¬ 9999 < rd g 1 1 + nI x := by rw [f 1 (by decide) (by decide)]; exact fo
    obtain ⟨v, h', eo, w⟩ := store_x Ig.1 (nI x)
    exact ⟨v, h', eo, Wy.of w (store_y Ig.2 hx fo' eo)⟩)
  refine ⟨v, h', ?_, H, A⟩
  have rg : C_needRange (nI x) 1 999 = some () := range_eq (lo := 1) (hi := 999) x1 hx (by decide)
  have may : A_mayStore h 1 (nI x) = some true := by unfold A_mayStore; rw [if_neg fo]
  unfold C_addFood lt
  dsimp only
  rw [rg, Option.bind_some, may, Option.bind_some, if_neg (show ¬ b2i true = 0 by decide), refuse_no, Option.bind_some]
  exact eo
theorem paint_y (I : Ary h 1) (ring : Ring h e c0) (en : rd h 1 5 = nI n) (hn : n ≤ 12) {c i x l : Nat} (hc : c < n) (el : rd h (1 + 1) c = nI l) (hl : l ≤ 8) (hi : i < l) (x1 : 1 ≤ x) (hx : x ≤ 9) (st : rd h (1 + 4) c = 0) : ∃ v h', C_paint h (nI c) (nI i) (nI x) = some (v, h') ∧ Chg h h' e c0 ∧ Ary h' 1 := by
  obtain ⟨v, h', eo, H, A, -⟩ := chg_op I ring (fun g => A_paintClip g 1 (nI c) (nI i) (nI x)) (fun g Ig f => by
    have st' : rd g (1 + 4) c = 0 := by rw [f (1 + 4) (by decide) (by decide)]; exact st
    obtain ⟨q, h', eo, w⟩ := paintClip_x Ig.1 (c := c) (i := i) (x := x) (by omega) (by rw [st']; decide) (by omega) hx
    exact ⟨nI q, h', eo, Wy.of w (paintClip_y Ig.1.1 Ig.2 (by omega) (by omega) hx eo)⟩)
  refine ⟨v, h', ?_, H, A⟩
  have rg : C_needRange (nI x) 1 9 = some () := range_eq (lo := 1) (hi := 9) x1 hx (by decide)
  have z0 : (0 : Int32) = 0 := rfl
  unfold C_paint lt
  dsimp only
  rw [needClip_eq en hn hc, Option.bind_some, if_neg (nI_pos (by omega)), r12 (by omega), Option.bind_some, el, if_pos (nI_lt hi (by omega)), rg, Option.bind_some, r12 (by omega), Option.bind_some, st, if_pos z0, refuse_no, Option.bind_some]
  exact eo
theorem addReel_y (I : Ary h 1) (ring : Ring h e c0) (eR : rd h 1 12 = nI R) (hR : R < 4) {b : Nat} (b1 : 1 ≤ b) (hb : b ≤ 9) : ∃ v h', C_addReel h (nI b) = some (v, h') ∧ Chg h h' e c0 ∧ Ary h' 1 := by
  obtain ⟨v, h', eo, H, A, -⟩ := chg_op I ring (fun g => A_putReel g 1 (nI b)) (fun g Ig f => by
    have eg : rd g 1 12 = nI R := by rw [f 1 (by decide) (by decide)]; exact eR
    obtain ⟨h', eo, w, -⟩ := putReel_x Ig.1 eg hR hb
    exact ⟨_, h', eo, Wy.of w (putReel_y Ig.1.1 Ig.2 eg hR hb b1 eo)⟩)
  refine ⟨v, h', ?_, H, A⟩
  have rg : C_needRange (nI b) 1 9 = some () := range_eq (lo := 1) (hi := 9) b1 hb (by decide)
  have may : A_hasRoomForReel h 1 = some true := by unfold A_hasRoomForReel; rw [eR, if_neg (show ¬ (4 : Int32) ≤ nI R from nI_ge (b := 4) hR (by decide))]
  unfold C_addReel lt
  dsimp only
  rw [rg, Option.bind_some, may, Option.bind_some, if_neg (show ¬ b2i true = 0 by decide), refuse_no, Option.bind_some]
  exact eo
theorem addScene_y (I : Ary h 1) (ring : Ring h e c0) (eS : rd h 1 15 = nI S) (hS : S < 5) {b : Nat} (b1 : 1 ≤ b) (hb : b ≤ 9) : ∃ v h', C_addScene h (nI b) = some (v, h') ∧ Chg h h' e c0 ∧ Ary h' 1 := by
  obtain ⟨v, h', eo, H, A, -⟩ := chg_op I ring (fun g => A_putScene g 1 (nI b)) (fun g Ig f => by
    have eg : rd g 1 15 = nI S := by rw [f 1 (by decide) (by decide)]; exact eS
    obtain ⟨h', eo, w, -⟩ := putScene_x Ig.1 eg hS (nI b)
    exact ⟨_, h', eo, Wy.of w (putScene_y Ig.2 eg hS hb eo)⟩)
  refine ⟨v, h', ?_, H, A⟩
  have rg : C_needRange (nI b) 1 9 = some () := range_eq (lo := 1) (hi := 9) b1 hb (by decide)
  have may : A_hasRoomForScene h 1 = some true := by unfold A_hasRoomForScene; rw [eS, if_neg (show ¬ (5 : Int32) ≤ nI S from nI_ge (b := 5) hS (by decide))]
  unfold C_addScene lt
  dsimp only
  rw [rg, Option.bind_some, may, Option.bind_some, if_neg (show ¬ b2i true = 0 by decide), refuse_no, Option.bind_some]
  exact eo
theorem addClip_y (I : Ary h 1) (ring : Ring h e c0) (en : rd h 1 5 = nI n) (hn : n < 12) {j : Nat} (hj : j < 2 ^ 31) (ac : A_areColours (nI j) = some true) : ∃ v h', C_addClip h (nI j) = some (v, h') ∧ Chg h h' e c0 ∧ Ary h' 1 := by
  obtain ⟨v, h', eo, H, A, -⟩ := chg_op I ring (fun g => A_putClip g 1 (nI j)) (fun g Ig f => by
    have eg : rd g 1 5 = nI n := by rw [f 1 (by decide) (by decide)]; exact en
    obtain ⟨h', eo, w⟩ := putClip_x Ig.1 eg hn hj
    exact ⟨_, h', eo, Wy.of w (putClip_y Ig.1.1 Ig.2 eg hn hj eo)⟩)
  refine ⟨v, h', ?_, H, A⟩
  have may : A_hasRoomForClip h 1 = some true := by unfold A_hasRoomForClip; rw [en, if_neg (show ¬ (12 : Int32) ≤ nI n from nI_ge (b := 12) hn (by decide))]
  unfold C_addClip lt
  dsimp only
  rw [ac, Option.bind_some, if_neg (show ¬ b2i true = 0 by decide), may, Option.bind_some, if_neg (show ¬ b2i true = 0 by decide), refuse_no, Option.bind_some]
  exact eo
theorem passWeeks_y (I : Ary h 1) (ring : Ring h e c0) {w k : Nat} (w1 : 1 ≤ w) (hw : w ≤ 50) (ek : rd h 1 0 = nI k) (hk : k + w ≤ 999) : ∃ v h', C_passWeeks h (nI w) = some (v, h') ∧ Chg h h' e c0 ∧ Ary h' 1 ∧ rd h' 1 0 = nI (k + w) ∧ ∃ g, A_pass g 1 (nI w) = some (v, h') ∧ (∀ k, 1 ≤ k → k < 12 → rd g k = rd h k) ∧ Fr 1 11 g h' := by
  obtain ⟨g, eg, H, f⟩ := remember_y ring
  obtain ⟨v, h', eo, W, ew⟩ := pass_y (I.cg (fun k h1 h2 => f k h1 (by omega))) hw (by rw [f 1 (by decide) (by decide)]; exact ek) hk
  refine ⟨v, h', ?_, H.fr W.2, W.1, ew, g, eo, f, W.2⟩
  have rg : C_needRange (nI w) 1 50 = some () := range_eq (lo := 1) (hi := 50) w1 hw (by decide)
  have may : A_mayPass h 1 (nI w) = some true := by unfold A_mayPass; rw [ek, nI_add, if_neg (show ¬ (999 : Int32) < nI (k + w) from nI_nlt (a := 999) hk (by decide))]
  unfold C_passWeeks lt
  dsimp only
  rw [rg, Option.bind_some, may, Option.bind_some, if_neg (show ¬ b2i true = 0 by decide), refuse_no, Option.bind_some, eg, Option.bind_some, eo, Option.bind_some]
/-- the latest change undone -/
theorem undo_y {h' : Hp} {b : Hp} {e c : Nat} (he : e < 8) (hc : 1 ≤ c) (ring : Ring h' ((e + 1) % 8) c) (q : Eqa (52 + 11 * e) 1 h' b) : ∃ g, C_undo h' = some (nI (c - 1), g) ∧ Eqa 1 1 g b ∧ Ring g e (c - 1) ∧ (∀ k, 12 ≤ k → rd g k = rd h' k) ∧ rd g 0 3 = rd h' 0 3 := by
  obtain ⟨r1, r2, r6, r5⟩ := ring
  obtain ⟨h1, e1⟩ : ∃ h1, h1 = up2 h' 0 6 (nI e) := ⟨_, rfl⟩
  obtain ⟨h2, e2⟩ : ∃ h2, h2 = up2 h1 0 5 (nI (c - 1)) := ⟨_, rfl⟩
  obtain ⟨g, eg, fg, qg⟩ := copy_eqa h2 1 (52 + 11 * e) (Or.inl (by omega))
  have z1 : rd h1 0 = upd (rd h' 0) 6 (nI e) := by rw [e1, rd_up2_self]
  have z2 : rd h2 0 = upd (upd (rd h' 0) 6 (nI e)) 5 (nI (c - 1)) := by rw [e2, rd_up2_self, z1]
  have R : ∀ k, k ≠ 0 → rd h2 k = rd h' k := fun k hk => by rw [e2, rd_up2_ne hk, e1, rd_up2_ne hk]
  have zg : rd g 0 = rd h2 0 := fg 0 (by omega)
  refine ⟨g, ?_, (qg.tr (q.fr (fun k a1 a2 => R k (by omega)))), ⟨he, by omega, ?_, ?_⟩, fun k hk => ?_, ?_⟩
  · have x1 : rd h' 0 6 + 8 - 1 - (rd h' 0 6 + 8 - 1) / 8 * 8 = nI e := by
      have y1 : rd h' 0 6 + 8 - 1 = nI ((e + 1) % 8 + 7) := by
        rw [r6, show nI ((e + 1) % 8) + 8 = nI ((e + 1) % 8 + 7 + 1) from nI_add _ 8, nI_pred]
      rw [y1]
      have y2 : nI ((e + 1) % 8 + 7) - nI ((e + 1) % 8 + 7) / 8 * 8 = nI (((e + 1) % 8 + 7) % 8) := pk_rem (d := 8) (by omega) (by decide) (by decide)
      rw [y2]
      congr 1
      omega
    unfold C_undo nm
    rw [if_neg (by rw [r5]; exact nI_ne0 hc (by omega)), x1, ← e1]
    dsimp only
    have x2 : rd h1 0 5 - 1 = nI (c - 1) := by
      rw [z1, upd_ne (by decide), r5]
      obtain ⟨d, rfl⟩ : ∃ d, c = d + 1 := ⟨c - 1, by omega⟩
      rw [nI_pred]; rfl
    rw [x2, ← e2, z2, upd_ne (by decide), upd_self, paO_eq he, Option.bind_some, eg, Option.bind_some, zg, z2, upd_self]
  · rw [zg, z2, upd_ne (by decide), upd_self]
  · rw [zg, z2, upd_self]
  · rw [fg k (by omega), R k (by omega)]
  · rw [zg, z2, upd_ne (by decide), upd_ne (by decide)]
end
