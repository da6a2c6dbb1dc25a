/-! ===== the model: its calls keep it whole and never throw ===== -/
def slot (f : Nat → Int32) (j : Nat) : Nat → Int32 := fun i => f (106 * j + i)
def IM (h : Hp) : Prop := Wfx (rd h 141) ∧ (∀ j, j < 8 → Wfx (slot (rd h 144) j)) ∧ Wfx (rd h 145) ∧ Sc 8 (rd h 140 5) ∧ Sc 600 (rd h 140 9) ∧ Sc 90 (rd h 140 14)
/-- what a call of the model leaves -/
def Ms (h h' : Hp) : Prop := IM h' ∧ (∀ k, (k < 140 ∨ 150 ≤ k) → rd h' k = rd h k) ∧ rd h' 140 9 = rd h 140 9
set_option maxRecDepth 16384 in
theorem Ms.rf {h : Hp} (I : IM h) : Ms h h := ⟨I, fun _ _ => rfl, rfl⟩
set_option maxRecDepth 16384 in
theorem Ms.tr {h0 h1 h2 : Hp} (x : Ms h0 h1) (y : Ms h1 h2) : Ms h0 h2 := ⟨y.1, fun k a => (y.2.1 k a).trans (x.2.1 k a), y.2.2.trans x.2.2⟩
set_option maxRecDepth 16384 in
theorem IM.cg {h h' : Hp} (I : IM h) (e1 : ∀ i, i < 106 → rd h' 141 i = rd h 141 i) (e4 : rd h' 144 = rd h 144) (e5 : rd h' 145 = rd h 145) (e0 : ∀ i, (i = 5 ∨ i = 9 ∨ i = 14) → rd h' 140 i = rd h 140 i) : IM h' := by
  obtain ⟨i1, i2, i3, i4, i5, i6⟩ := I
  refine ⟨i1.cg e1, ?_, ?_, ?_, ?_, ?_⟩
  · rw [e4]; exact i2
  · rw [e5]; exact i3
  · rw [e0 5 (by omega)]; exact i4
  · rw [e0 9 (by omega)]; exact i5
  · rw [e0 14 (by omega)]; exact i6
set_option maxRecDepth 16384 in
theorem Ms.fld {h : Hp} (I : IM h) {i : Nat} {x : Int32} (hi : i ≠ 5 ∧ i ≠ 9 ∧ i ≠ 14) : Ms h (up2 h 140 i x) :=
  ⟨I.cg (fun j _ => by rw [rd_up2_ne (by decide)]) (rd_up2_ne (by decide)) (rd_up2_ne (by decide)) (fun j hj => by rw [u140, if_neg (by omega)]), fun k a => rd_up2_ne (by omega), by rw [u140, if_neg (by omega)]⟩
set_option maxRecDepth 16384 in
theorem Ms.mk {h h' : Hp} (I : IM h) (m : Mz h h') : Ms h h' := by
  obtain ⟨i1, i2, i3, i4, i5, i6⟩ := I
  refine ⟨⟨m.1, ?_, ?_, ?_, ?_, ?_⟩, fun k a => m.2 k (by omega), by rw [m.2 140 (by decide)]⟩
  · rw [m.2 144 (by decide)]; exact i2
  · rw [m.2 145 (by decide)]; exact i3
  · rw [m.2 140 (by decide)]; exact i4
  · rw [m.2 140 (by decide)]; exact i5
  · rw [m.2 140 (by decide)]; exact i6
set_option maxRecDepth 16384 in
theorem thr1 (h : Hp) (b : Bool) : ∃ x, M_throwsOne h b = some (b, up2 h 140 15 x) := by
  unfold M_throwsOne nm
  cases b
  · exact ⟨0, rfl⟩
  · exact ⟨1, rfl⟩
set_option maxRecDepth 16384 in
theorem thr2 (h : Hp) (a b : Bool) : ∃ x, M_throwsOne2 h a b = some (a || b, up2 h 140 15 x) := by
  unfold M_throwsOne2 lt nm
  cases a <;> cases b
  · exact ⟨0, rfl⟩
  · exact ⟨2, rfl⟩
  · exact ⟨1, rfl⟩
  · exact ⟨1, rfl⟩
set_option maxRecDepth 16384 in
theorem thr3 (h : Hp) (a b c : Bool) : ∃ x, M_throwsOne3 h a b c = some (a || b || c, up2 h 140 15 x) := by
  unfold M_throwsOne3 lt nm
  cases a <;> cases b <;> cases c
  · exact ⟨0, rfl⟩
  · exact ⟨3, rfl⟩
  · exact ⟨2, rfl⟩
  · exact ⟨2, rfl⟩
  · exact ⟨1, rfl⟩
  · exact ⟨1, rfl⟩
  · exact ⟨1, rfl⟩
  · exact ⟨1, rfl⟩
set_option maxRecDepth 16384 in
theorem in_cases (x lo hi : Int32) : ∃ b, M_in x lo hi = some b ∧ (b = true → ¬ x < lo ∧ ¬ hi < x) := by
  unfold M_in
  by_cases h1 : x < lo
  · exact ⟨false, if_pos h1, fun q => by cases q⟩
  · rw [if_neg h1]
    by_cases h2 : hi < x
    · exact ⟨false, if_pos h2, fun q => by cases q⟩
    · exact ⟨true, if_neg h2, fun _ => ⟨h1, h2⟩⟩
set_option maxRecDepth 16384 in
theorem isClip_cases {h : Hp} (w : Wf (rd h 141)) (p : Int32) : ∃ b, M_isClip h p = some b ∧ (b = true → ∃ c, c < 12 ∧ p = nI c ∧ nI c < rd h 141 2) := by
  obtain ⟨k, hk, ek⟩ := w.1
  obtain ⟨b, eb, pb⟩ := in_cases p 0 (nI k - 1)
  refine ⟨b, ?_, fun q => ?_⟩
  · unfold M_isClip
    rw [m2, Option.bind_some, ek, eb, Option.bind_some]
  · obtain ⟨j, hj, rfl⟩ := range_pred (by omega) (pb q).1 (pb q).2
    exact ⟨j, by omega, rfl, by rw [ek]; exact nI_lt hj (by omega)⟩
set_option maxRecDepth 16384 in
theorem isReel_cases {h : Hp} (w : Wf (rd h 141)) (p : Int32) : ∃ b, M_isReel h p = some b ∧ (b = true → ∃ c, c < 4 ∧ p = nI c ∧ nI c < rd h 141 3) := by
  obtain ⟨k, hk, ek⟩ := w.2.1
  obtain ⟨b, eb, pb⟩ := in_cases p 0 (nI k - 1)
  refine ⟨b, ?_, fun q => ?_⟩
  · unfold M_isReel
    rw [m3, Option.bind_some, ek, eb, Option.bind_some]
  · obtain ⟨j, hj, rfl⟩ := range_pred (by omega) (pb q).1 (pb q).2
    exact ⟨j, by omega, rfl, by rw [ek]; exact nI_lt hj (by omega)⟩
set_option maxRecDepth 16384 in
theorem isScene_cases {h : Hp} (w : Wf (rd h 141)) (p : Int32) : ∃ b, M_isScene h p = some b ∧ (b = true → ∃ c, c < 5 ∧ p = nI c ∧ nI c < rd h 141 4) := by
  obtain ⟨k, hk, ek⟩ := w.2.2.1
  obtain ⟨b, eb, pb⟩ := in_cases p 0 (nI k - 1)
  refine ⟨b, ?_, fun q => ?_⟩
  · unfold M_isScene
    rw [m4, Option.bind_some, ek, eb, Option.bind_some]
  · obtain ⟨j, hj, rfl⟩ := range_pred (by omega) (pb q).1 (pb q).2
    exact ⟨j, by omega, rfl, by rw [ek]; exact nI_lt hj (by omega)⟩

set_option maxRecDepth 16384 in
theorem ask {h : Hp} (I : IM h) {b : Bool} {K : Bool × Hp → Option (Int32 × Hp)} (hT : ∀ g, K (true, g) = some (0, g)) (hK : b = true → ∀ g, Ms h g → rd g 141 = rd h 141 → ∃ v g', K (false, g) = some (v, g') ∧ Ms g g') : ∃ v h', (if b2i b = 0 then (M_throwsOne h true).bind K else (M_throwsOne h false).bind K) = some (v, h') ∧ Ms h h' := by
  match b, hK with
  | false, _ =>
    obtain ⟨x, ex⟩ := thr1 h true
    rw [if_pos (show b2i false = 0 from rfl), ex, Option.bind_some, hT]
    exact ⟨_, _, rfl, Ms.fld I (by decide)⟩
  | true, hK =>
    obtain ⟨x, ex⟩ := thr1 h false
    have m : Ms h (up2 h 140 15 x) := Ms.fld I (by decide)
    obtain ⟨v, g', e, m'⟩ := hK rfl _ m (rd_up2_ne (by decide))
    rw [if_neg (by decide), ex, Option.bind_some, e]
    exact ⟨v, g', rfl, m.tr m'⟩
set_option maxRecDepth 16384 in
theorem ask1 {h : Hp} (I : IM h) {b : Bool} {K : Bool × Hp → Option (Int32 × Hp)} (hT : ∀ g, K (true, g) = some (0, g)) (hK : b = false → ∀ g, Ms h g → rd g 141 = rd h 141 → ∃ v g', K (false, g) = some (v, g') ∧ Ms g g') : ∃ v h', (M_throwsOne h b).bind K = some (v, h') ∧ Ms h h' := by
  obtain ⟨x, ex⟩ := thr1 h b
  have m : Ms h (up2 h 140 15 x) := Ms.fld I (by decide)
  rw [ex, Option.bind_some]
  match b, hK with
  | true, _ => rw [hT]; exact ⟨_, _, rfl, m⟩
  | false, hK =>
    obtain ⟨v, g', e, m'⟩ := hK rfl _ m (rd_up2_ne (by decide))
    exact ⟨v, g', e, m.tr m'⟩
set_option maxRecDepth 16384 in
theorem ask2 {h : Hp} (I : IM h) {a b : Bool} {K : Bool × Hp → Option (Int32 × Hp)} (hT : ∀ g, K (true, g) = some (0, g)) (hK : a = false → b = false → ∀ g, Ms h g → rd g 141 = rd h 141 → ∃ v g', K (false, g) = some (v, g') ∧ Ms g g') : ∃ v h', (M_throwsOne2 h a b).bind K = some (v, h') ∧ Ms h h' := by
  obtain ⟨x, ex⟩ := thr2 h a b
  have m : Ms h (up2 h 140 15 x) := Ms.fld I (by decide)
  rw [ex, Option.bind_some]
  match a, b, hK with
  | true, _, _ => rw [Bool.true_or, hT]; exact ⟨_, _, rfl, m⟩
  | false, true, _ => rw [Bool.false_or, hT]; exact ⟨_, _, rfl, m⟩
  | false, false, hK =>
    obtain ⟨v, g', e, m'⟩ := hK rfl rfl _ m (rd_up2_ne (by decide))
    exact ⟨v, g', e, m.tr m'⟩
set_option maxRecDepth 16384 in
theorem ask3 {h : Hp} (I : IM h) {a b c : Bool} {K : Bool × Hp → Option (Int32 × Hp)} (hT : ∀ g, K (true, g) = some (0, g)) (hK : a = false → b = false → c = false → ∀ g, Ms h g → rd g 141 = rd h 141 → ∃ v g', K (false, g) = some (v, g') ∧ Ms g g') : ∃ v h', (M_throwsOne3 h a b c).bind K = some (v, h') ∧ Ms h h' := by
  obtain ⟨x, ex⟩ := thr3 h a b c
  have m : Ms h (up2 h 140 15 x) := Ms.fld I (by decide)
  rw [ex, Option.bind_some]
  match a, b, c, hK with
  | true, _, _, _ => rw [Bool.true_or, Bool.true_or, hT]; exact ⟨_, _, rfl, m⟩
  | false, true, _, _ => rw [Bool.false_or, Bool.true_or, hT]; exact ⟨_, _, rfl, m⟩
  | false, false, true, _ => rw [Bool.false_or, Bool.false_or, hT]; exact ⟨_, _, rfl, m⟩
  | false, false, false, hK =>
    obtain ⟨v, g', e, m'⟩ := hK rfl rfl rfl _ m (rd_up2_ne (by decide))
    exact ⟨v, g', e, m.tr m'⟩
set_option maxRecDepth 16384 in
theorem copy106 {F : Nat → Int32 → Hp → Option Hp} {dst src a b : Nat} (hd : dst ≠ src) (hs : ∀ n v g, v < 106 → F (n + 1) (nI v) g = F n (nI (v + 1)) (up2 g dst (b + v) (rd g src (a + v)))) (hx : ∀ n g, F (n + 1) (nI 106) g = some g) (h : Hp) : ∃ h', F FU 0 h = some h' ∧ (∀ k, k ≠ dst → rd h' k = rd h k) ∧ ∀ i, rd h' dst i = if b ≤ i ∧ i < b + 106 then rd h src (a + (i - b)) else rd h dst i := by
  obtain ⟨h', e, o, d⟩ := loop0 (fun n (g : Hp) v => F n (nI v) g) 106 (fun g v => (∀ k, k ≠ dst → rd g k = rd h k) ∧ ∀ i, rd g dst i = if b ≤ i ∧ i < b + v then rd h src (a + (i - b)) else rd h dst i) (fun g => (∀ k, k ≠ dst → rd g k = rd h k) ∧ ∀ i, rd g dst i = if b ≤ i ∧ i < b + 106 then rd h src (a + (i - b)) else rd h dst i) (by decide) (fun n g v hv hj => by
    obtain ⟨o, d⟩ := hj
    by_cases q : v = 106
    · subst q; exact Or.inl ⟨g, hx n g, o, d⟩
    · refine Or.inr ⟨by omega, _, ⟨fun k hk => by rw [rd_up2_ne hk]; exact o k hk, fun i => ?_⟩, hs n v g (by omega)⟩
      rw [rd_up2_self]
      by_cases c : i = b + v
      · subst c
        rw [upd_self, if_pos (by omega), o src (Ne.symm hd)]
        congr 1; omega
      · rw [upd_ne c, d]
        by_cases w : b ≤ i ∧ i < b + v
        · rw [if_pos w, if_pos (by omega)]
        · rw [if_neg w, if_neg (by omega)]) h ⟨fun _ _ => rfl, fun i => by rw [if_neg (by omega)]⟩
  exact ⟨h', e, o, d⟩
set_option maxRecDepth 16384 in
theorem begins_w (h : Hp) : ∃ h', M_begins h = some h' ∧ (∀ k, k ≠ 142 → rd h' k = rd h k) ∧ ∀ i, i < 106 → rd h' 142 i = rd h 141 i := by
  obtain ⟨h', e, f, d⟩ := copy106 (F := M_begins_L2) (dst := 142) (src := 141) (a := 0) (b := 0) (by decide) (fun n v g hv => by
    rw [M_begins_L2, if_neg (show ¬ (106 : Int32) ≤ nI v from nI_ge (b := 106) hv (by decide)), rdO_in hv (by decide), Option.bind_some, wrO_in hv (by decide), Option.bind_some, nI_1, Nat.zero_add]) (fun n g => by rw [M_begins_L2, if_pos (by decide)]) h
  refine ⟨h', ?_, f, fun i hi => by rw [d, if_pos (by omega), Nat.zero_add, Nat.sub_zero]⟩
  unfold M_begins
  exact bO e _
set_option maxRecDepth 16384 in
theorem aside_w (h : Hp) : ∃ h', M_setAside h = some h' ∧ (∀ k, k ≠ 143 → rd h' k = rd h k) ∧ ∀ i, i < 106 → rd h' 143 i = rd h 141 i := by
  obtain ⟨h', e, f, d⟩ := copy106 (F := M_setAside_L2) (dst := 143) (src := 141) (a := 0) (b := 0) (by decide) (fun n v g hv => by
    rw [M_setAside_L2, if_neg (show ¬ (106 : Int32) ≤ nI v from nI_ge (b := 106) hv (by decide)), rdO_in hv (by decide), Option.bind_some, wrO_in hv (by decide), Option.bind_some, nI_1, Nat.zero_add]) (fun n g => by rw [M_setAside_L2, if_pos (by decide)]) h
  refine ⟨h', ?_, f, fun i hi => by rw [d, if_pos (by omega), Nat.zero_add, Nat.sub_zero]⟩
  unfold M_setAside
  exact bO e _
set_option maxRecDepth 16384 in
theorem back_w (h : Hp) : ∃ h', M_bringBack h = some h' ∧ (∀ k, k ≠ 141 → rd h' k = rd h k) ∧ ∀ i, i < 106 → rd h' 141 i = rd h 143 i := by
  obtain ⟨h', e, f, d⟩ := copy106 (F := M_bringBack_L2) (dst := 141) (src := 143) (a := 0) (b := 0) (by decide) (fun n v g hv => by
    rw [M_bringBack_L2, if_neg (show ¬ (106 : Int32) ≤ nI v from nI_ge (b := 106) hv (by decide)), rdO_in hv (by decide), Option.bind_some, wrO_in hv (by decide), Option.bind_some, nI_1, Nat.zero_add]) (fun n g => by rw [M_bringBack_L2, if_pos (by decide)]) h
  refine ⟨h', ?_, f, fun i hi => by rw [d, if_pos (by omega), Nat.zero_add, Nat.sub_zero]⟩
  unfold M_bringBack
  exact bO e _
set_option maxRecDepth 16384 in
theorem restoreW (h : Hp) : ∃ h', M_runScript_L59 FU 0 h = some h' ∧ (∀ k, k ≠ 141 → rd h' k = rd h k) ∧ ∀ i, i < 106 → rd h' 141 i = rd h 142 i := by
  obtain ⟨h', e, f, d⟩ := copy106 (F := M_runScript_L59) (dst := 141) (src := 142) (a := 0) (b := 0) (by decide) (fun n v g hv => by
    rw [M_runScript_L59, if_neg (show ¬ (106 : Int32) ≤ nI v from nI_ge (b := 106) hv (by decide)), rdO_in hv (by decide), Option.bind_some, wrO_in hv (by decide), Option.bind_some, nI_1, Nat.zero_add]) (fun n g => by rw [M_runScript_L59, if_pos (by decide)]) h
  refine ⟨h', ?_, f, fun i hi => by rw [d, if_pos (by omega), Nat.zero_add, Nat.sub_zero]⟩
  exact e
set_option maxRecDepth 16384 in
theorem saveW (h : Hp) : ∃ h', M_saveSnapshot_L12 FU 0 h = some h' ∧ (∀ k, k ≠ 145 → rd h' k = rd h k) ∧ ∀ i, i < 106 → rd h' 145 i = rd h 141 i := by
  obtain ⟨h', e, f, d⟩ := copy106 (F := M_saveSnapshot_L12) (dst := 145) (src := 141) (a := 0) (b := 0) (by decide) (fun n v g hv => by
    rw [M_saveSnapshot_L12, if_neg (show ¬ (106 : Int32) ≤ nI v from nI_ge (b := 106) hv (by decide)), rdO_in hv (by decide), Option.bind_some, wrO_in hv (by decide), Option.bind_some, nI_1, Nat.zero_add]) (fun n g => by rw [M_saveSnapshot_L12, if_pos (by decide)]) h
  refine ⟨h', ?_, f, fun i hi => by rw [d, if_pos (by omega), Nat.zero_add, Nat.sub_zero]⟩
  exact e
set_option maxRecDepth 16384 in
theorem snapW (h : Hp) : ∃ h', M_restoreSnapshot_L23 FU 0 h = some h' ∧ (∀ k, k ≠ 141 → rd h' k = rd h k) ∧ ∀ i, i < 106 → rd h' 141 i = rd h 145 i := by
  obtain ⟨h', e, f, d⟩ := copy106 (F := M_restoreSnapshot_L23) (dst := 141) (src := 145) (a := 0) (b := 0) (by decide) (fun n v g hv => by
    rw [M_restoreSnapshot_L23, if_neg (show ¬ (106 : Int32) ≤ nI v from nI_ge (b := 106) hv (by decide)), rdO_in hv (by decide), Option.bind_some, wrO_in hv (by decide), Option.bind_some, nI_1, Nat.zero_add]) (fun n g => by rw [M_restoreSnapshot_L23, if_pos (by decide)]) h
  refine ⟨h', ?_, f, fun i hi => by rw [d, if_pos (by omega), Nat.zero_add, Nat.sub_zero]⟩
  exact e
set_option maxRecDepth 16384 in
theorem undoW {h : Hp} {c : Nat} (hc : c < 8) (ec : rd h 140 5 = nI c) : ∃ h', M_undo_L26 FU 0 h = some h' ∧ (∀ k, k ≠ 141 → rd h' k = rd h k) ∧ ∀ i, i < 106 → rd h' 141 i = slot (rd h 144) c i := by
  obtain ⟨h', e, o, d⟩ := loop0 (fun n (g : Hp) v => M_undo_L26 n (nI v) g) 106 (fun g v => (∀ k, k ≠ 141 → rd g k = rd h k) ∧ ∀ i, i < v → rd g 141 i = slot (rd h 144) c i) (fun g => (∀ k, k ≠ 141 → rd g k = rd h k) ∧ ∀ i, i < 106 → rd g 141 i = slot (rd h 144) c i) (by decide) (fun n g v hv hj => by
    obtain ⟨o, d⟩ := hj
    rw [M_undo_L26]
    by_cases q : v = 106
    · subst q; exact Or.inl ⟨g, if_pos (by decide), o, d⟩
    · rw [if_neg (show ¬ (106 : Int32) ≤ nI v from nI_ge (b := 106) (by omega) (by decide)), o 140 (by decide), ec, show (106 : Int32) = nI 106 from rfl, pk_mul, nI_add, rdO_in (by omega) (by decide), Option.bind_some, wrO_in (by omega) (by decide), Option.bind_some, nI_1]
      refine Or.inr ⟨by omega, _, ⟨fun k hk => by rw [rd_up2_ne hk]; exact o k hk, fun i hi => ?_⟩, rfl⟩
      rw [rd_up2_self]
      by_cases w : i = v
      · subst w; rw [upd_self, o 144 (by decide)]; rfl
      · rw [upd_ne w]; exact d i (by omega)) h ⟨fun _ _ => rfl, fun i hi => absurd hi (Nat.not_lt_zero _)⟩
  exact ⟨h', e, o, d⟩
set_option maxRecDepth 16384 in
theorem putPast {h : Hp} {c : Nat} (hc : c < 8) (ec : rd h 140 5 = nI c) : ∃ h', M_remember_L52 FU 0 h = some h' ∧ (∀ k, k ≠ 144 → rd h' k = rd h k) ∧ ∀ i, rd h' 144 i = if 106 * c ≤ i ∧ i < 106 * c + 106 then rd h 142 (i - 106 * c) else rd h 144 i := by
  obtain ⟨h', e, o, d⟩ := loop0 (fun n (g : Hp) v => M_remember_L52 n (nI v) g) 106 (fun g v => (∀ k, k ≠ 144 → rd g k = rd h k) ∧ ∀ i, rd g 144 i = if 106 * c ≤ i ∧ i < 106 * c + v then rd h 142 (i - 106 * c) else rd h 144 i) (fun g => (∀ k, k ≠ 144 → rd g k = rd h k) ∧ ∀ i, rd g 144 i = if 106 * c ≤ i ∧ i < 106 * c + 106 then rd h 142 (i - 106 * c) else rd h 144 i) (by decide) (fun n g v hv hj => by
    obtain ⟨o, d⟩ := hj
    rw [M_remember_L52]
    by_cases q : v = 106
    · subst q; exact Or.inl ⟨g, if_pos (by decide), o, d⟩
    · rw [if_neg (show ¬ (106 : Int32) ≤ nI v from nI_ge (b := 106) (by omega) (by decide)), rdO_in (by omega) (by decide), Option.bind_some, o 140 (by decide), ec, show (106 : Int32) = nI 106 from rfl, pk_mul, nI_add, wrO_in (by omega) (by decide), Option.bind_some, nI_1]
      refine Or.inr ⟨by omega, _, ⟨fun k hk => by rw [rd_up2_ne hk]; exact o k hk, fun i => ?_⟩, rfl⟩
      rw [rd_up2_self]
      by_cases w : i = 106 * c + v
      · subst w
        rw [upd_self, if_pos (by omega), o 142 (by decide)]
        congr 1; omega
      · rw [upd_ne w, d]
        by_cases w2 : 106 * c ≤ i ∧ i < 106 * c + v
        · rw [if_pos w2, if_pos (by omega)]
        · rw [if_neg w2, if_neg (by omega)]) h ⟨fun _ _ => rfl, fun i => by rw [if_neg (by omega)]⟩
  exact ⟨h', e, o, d⟩
set_option maxRecDepth 16384 in
theorem shiftPast (h : Hp) : ∃ h', M_remember_L12 FU 106 h = some h' ∧ (∀ k, k ≠ 144 → rd h' k = rd h k) ∧ ∀ i, rd h' 144 i = if i < 742 then rd h 144 (i + 106) else rd h 144 i := by
  obtain ⟨h', e, o, d⟩ := loopI (fun n (g : Hp) v => M_remember_L12 n (nI v) g) 848 (fun g v => 106 ≤ v ∧ (∀ k, k ≠ 144 → rd g k = rd h k) ∧ ∀ i, rd g 144 i = if i + 106 < v then rd h 144 (i + 106) else rd h 144 i) (fun g => (∀ k, k ≠ 144 → rd g k = rd h k) ∧ ∀ i, rd g 144 i = if i < 742 then rd h 144 (i + 106) else rd h 144 i) (fun n g v hv hj => by
    obtain ⟨hv1, o, d⟩ := hj
    rw [M_remember_L12]
    by_cases q : v = 848
    · subst q
      refine Or.inl ⟨g, if_pos (by decide), o, fun i => ?_⟩
      rw [d]
      by_cases w : i < 742
      · rw [if_pos (show i + 106 < 848 by omega), if_pos w]
      · rw [if_neg (show ¬ i + 106 < 848 by omega), if_neg w]
    · rw [if_neg (show ¬ (848 : Int32) ≤ nI v from nI_ge (b := 848) (by omega) (by decide)), rdO_in (by omega) (by decide), Option.bind_some, show nI v - 106 = nI (v - 106) from pk_sub (b := 106) hv1, wrO_in (by omega) (by decide), Option.bind_some, nI_1]
      refine Or.inr ⟨by omega, _, ⟨by omega, fun k hk => by rw [rd_up2_ne hk]; exact o k hk, fun i => ?_⟩, rfl⟩
      rw [rd_up2_self]
      by_cases w : i = v - 106
      · subst w
        rw [upd_self, if_pos (by omega), d, if_neg (by omega)]
        congr 1; omega
      · rw [upd_ne w, d]
        by_cases w2 : i + 106 < v
        · rw [if_pos w2, if_pos (by omega)]
        · rw [if_neg w2, if_neg (by omega)]) FU h 106 (by decide) (by unfold FU; omega) ⟨Nat.le_refl _, fun _ _ => rfl, fun i => by rw [if_neg (by omega)]⟩
  exact ⟨h', e, o, d⟩
set_option maxRecDepth 16384 in
theorem remember_w {h : Hp} (I : IM h) (wb : Wfx (rd h 142)) (t : Int32) : ∃ h', M_remember h t = some (t, h') ∧ Ms h h' := by
  obtain ⟨i1, i2, i3, ⟨c, hc, ec⟩, i5, i6⟩ := I
  have go : ∀ (g : Hp) (d : Nat), d < 8 → rd g 140 5 = nI d → (∀ j, j < 8 → Wfx (slot (rd g 144) j)) → Wfx (rd g 142) → (∀ k, k ≠ 140 → k ≠ 144 → rd g k = rd h k) → (∀ i, i ≠ 5 → rd g 140 i = rd h 140 i) → ∃ h', ((M_remember_L52 FU 0 g).bind fun r3 => some (t, up2 r3 140 5 (rd r3 140 5 + 1))) = some (t, h') ∧ Ms h h' := fun g d hd ed ws wb og o0 => by
    obtain ⟨r, er, o, v⟩ := putPast hd ed
    rw [er, Option.bind_some, o 140 (by decide), ed, nI_1]
    refine ⟨_, rfl, ⟨?_, ?_, ?_, ?_, ?_, ?_⟩, fun k a => ?_, ?_⟩
    · rw [rd_up2_ne (by decide), o 141 (by decide), og 141 (by decide) (by decide)]; exact i1
    · intro j hj
      rw [rd_up2_ne (by decide)]
      by_cases q : j = d
      · subst q
        refine wb.cg fun i hi => ?_
        show rd r 144 (106 * j + i) = _
        rw [v, if_pos (by omega)]
        congr 1; omega
      · refine (ws j hj).cg fun i hi => ?_
        show rd r 144 (106 * j + i) = rd g 144 (106 * j + i)
        rw [v, if_neg (by omega)]
    · rw [rd_up2_ne (by decide), o 145 (by decide), og 145 (by decide) (by decide)]; exact i3
    · rw [u140, if_pos rfl]; exact ⟨d + 1, by omega, rfl⟩
    · rw [u140, if_neg (by decide), o 140 (by decide), o0 9 (by decide)]; exact i5
    · rw [u140, if_neg (by decide), o 140 (by decide), o0 14 (by decide)]; exact i6
    · rw [rd_up2_ne (by omega), o k (by omega), og k (by omega) (by omega)]
    · rw [u140, if_neg (by decide), o 140 (by decide), o0 9 (by decide)]
  unfold M_remember lt nm
  dsimp only
  by_cases q : rd h 140 5 = 8
  · rw [if_pos q]
    obtain ⟨r, er, o, v⟩ := shiftPast h
    have e8 : rd r 140 5 - 1 = nI 7 := by rw [o 140 (by decide), q]; rfl
    rw [er, Option.bind_some, e8]
    refine go _ 7 (by decide) (by rw [u140, if_pos rfl]) (fun j hj => ?_) (by rw [rd_up2_ne (by decide), o 142 (by decide)]; exact wb) (fun k a b => by rw [rd_up2_ne a, o k b]) (fun i hi => by rw [u140, if_neg hi, o 140 (by decide)])
    rw [rd_up2_ne (by decide)]
    by_cases j7 : j = 7
    · subst j7
      refine (i2 7 (by decide)).cg fun i hi => ?_
      show rd r 144 (106 * 7 + i) = rd h 144 (106 * 7 + i)
      rw [v, if_neg (by omega)]
    · refine (i2 (j + 1) (by omega)).cg fun i hi => ?_
      show rd r 144 (106 * j + i) = rd h 144 (106 * (j + 1) + i)
      rw [v, if_pos (by omega)]
      congr 1; omega
  · rw [if_neg q]
    have hc8 : c ≠ 8 := fun w => q (by rw [ec, w]; rfl)
    exact go h c (by omega) ec i2 wb (fun _ _ _ => rfl) (fun _ _ => rfl)
set_option maxRecDepth 16384 in
theorem mchange {h : Hp} (I : IM h) {F : Hp → Option (Int32 × Hp)} (hF : ∀ u, rd u 141 = rd h 141 → ∃ v u', F u = some (v, u') ∧ Mz u u') : ∃ v h', ((M_begins h).bind fun h6 => (F h6).bind fun x => (M_remember x.2 x.1).bind fun y => some (y.1, y.2)) = some (v, h') ∧ Ms h h' := by
  have w := I.1
  obtain ⟨h6, e6, o6, d6⟩ := begins_w h
  have m6 : Ms h h6 := ⟨I.cg (fun i _ => by rw [o6 141 (by decide)]) (o6 144 (by decide)) (o6 145 (by decide)) (fun i _ => by rw [o6 140 (by decide)]), fun k a => o6 k (by omega), by rw [o6 140 (by decide)]⟩
  obtain ⟨v, u, eu, mu⟩ := hF h6 (o6 141 (by decide))
  have m8 := Ms.mk m6.1 mu
  obtain ⟨h10, e10, m10⟩ := remember_w m8.1 (by rw [mu.2 142 (by decide)]; exact w.cg d6) v
  rw [e6, Option.bind_some, eu, Option.bind_some, e10, Option.bind_some]
  exact ⟨v, h10, rfl, (m6.tr m8).tr m10⟩
