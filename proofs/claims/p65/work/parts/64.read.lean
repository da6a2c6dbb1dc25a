/-! ===== the class's reads of an archive come to an end ===== -/
set_option maxRecDepth 16384 in
theorem mn_nI {x y : Nat} (hx : x < 2 ^ 31) (hy : y < 2 ^ 31) : mnI (nI x) (nI y) = nI (min x y) := by
  unfold mnI
  by_cases q : y < x
  · rw [if_pos (nI_lt q hx), Nat.min_eq_right (by omega)]
  · rw [if_neg (nI_nlt (by omega) hy), Nat.min_eq_left (by omega)]
set_option maxRecDepth 16384 in
theorem sub_nI {x y : Nat} (h : y ≤ x) : nI x - nI y = nI (x - y) := pk_sub h
section
variable {h : Hp} {a : Nat}
set_option maxRecDepth 16384 in
theorem matchesL_ok (I : Arc h a) {c : Nat} (hc : c < 12) : ∀ (n e : Nat) (x : Int32), e ≤ 8 → e < n → ∃ r, A_matchesAt_L8 h a (nI c) n x (nI e - 1) = some r
  | 0, e, x, _, hn => absurd hn (Nat.not_lt_zero _)
  | n + 1, 0, x, _, _ => ⟨.inl (), by rw [A_matchesAt_L8, if_pos (by decide)]⟩
  | n + 1, e + 1, x, he, hn => by
    rw [A_matchesAt_L8, nI_pred, if_neg (nI_pos (by omega)), i_m1]
    by_cases q : x ≤ 0
    · exact ⟨_, if_pos q⟩
    · obtain ⟨k, hk, ek⟩ := colourAt_ok (a := a) (c := c) (i := e) I.cols (by omega)
      obtain ⟨r, er⟩ := matchesL_ok I hc n e (x / 10) (by omega) (by omega)
      rw [if_neg q]
      by_cases w : x - x / 10 * 10 = 0
      · rw [if_pos w]; exact ⟨r, er⟩
      · rw [if_neg w, ek, Option.bind_some]
        by_cases w2 : x - x / 10 * 10 = nI k
        · rw [if_pos w2]; exact ⟨r, er⟩
        · rw [if_neg w2]; exact ⟨_, rfl⟩
set_option maxRecDepth 16384 in
theorem matchesAt_ok (I : Arc h a) {c e : Nat} (hc : c < 12) (he : e ≤ 8) (x : Int32) : ∃ b, A_matchesAt h a (nI c) (nI e) x = some b := by
  obtain ⟨r, er⟩ := matchesL_ok I hc FU e x he (by unfold FU; omega)
  unfold A_matchesAt
  rw [er, Option.bind_some]
  match r with
  | .inl () => exact ⟨_, rfl⟩
  | .inr y => exact ⟨_, rfl⟩
set_option maxRecDepth 16384 in
theorem findPattern_ok (I : Arc h a) {c : Nat} (hc : c < 12) (x : Int32) : ∃ v, A_findPattern h a (nI c) x = some v := by
  obtain ⟨d, d1, d8, ed⟩ := digits_ok x
  obtain ⟨l, hl, el⟩ := I.len c hc
  obtain ⟨r, e, -⟩ := loop0 (fun n (_ : Unit) v => A_findPattern_L8 h a (nI c) x (nI d) n (nI v)) 8 (fun _ _ => True) (fun _ => True) (by decide) (fun n s v hv _ => by
    rw [A_findPattern_L8, r12 hc, Option.bind_some, el, nI_add]
    by_cases q : l < v + d
    · exact Or.inl ⟨_, if_pos (nI_lt q (by omega)), trivial⟩
    · obtain ⟨b, eb⟩ := matchesAt_ok I hc (e := v + d) (by omega) x
      rw [if_neg (nI_nlt (by omega) (by omega)), eb, Option.bind_some, nI_1]
      by_cases w : b2i b = 0
      · rw [if_pos w]
        exact Or.inr ⟨by omega, (), trivial, rfl⟩
      · rw [if_neg w]
        exact Or.inl ⟨_, rfl, trivial⟩) () trivial
  unfold A_findPattern
  rw [ed, Option.bind_some]
  have e : A_findPattern_L8 h a (nI c) x (nI d) FU 0 = some r := e
  rw [e, Option.bind_some]
  match r with
  | .inl () => exact ⟨_, rfl⟩
  | .inr y => exact ⟨_, rfl⟩
/-! beds -/
set_option maxRecDepth 16384 in
theorem inBed_eq {r b : Nat} (hr : r < 4) (hb : b < 9) : A_inBed h a (nI r) (nI b) = some (rd h (a + 8) (r * 9 + b)) := by
  unfold A_inBed
  rw [nI_ix9, rdO_in (by omega) (by decide), Option.bind_some]
set_option maxRecDepth 16384 in
theorem setBed_eq {r b : Nat} (hr : r < 4) (hb : b < 9) (x : Int32) : A_setBed h a (nI r) (nI b) x = some (up2 h (a + 8) (r * 9 + b) x) := by
  unfold A_setBed
  rw [nI_ix9, wrO_in (by omega) (by decide), Option.bind_some]
/-- the bed at k of the way of a clip with the hash q in a reel of m beds -/
def wb (q m k : Nat) : Nat := if 1 ≤ m then (q + k) % m else 0
set_option maxRecDepth 16384 in
theorem wb_lt {q m k : Nat} (hm : m ≤ 9) : wb q m k < 9 := by
  unfold wb
  by_cases e : 1 ≤ m
  · rw [if_pos e]; exact Nat.lt_of_lt_of_le (Nat.mod_lt _ e) hm
  · rw [if_neg e]; decide
set_option maxRecDepth 16384 in
theorem wayBed_eq {c r q m k : Nat} (hc : c < 12) (hr : r < 4) (eq : rd h (a + 3) c = nI q) (hq : q ≤ 996) (em : rd h (a + 7) r = nI m) (hm : m ≤ 9) (hk : k ≤ 1000) : A_wayBed h a (nI c) (nI r) (nI k) = some (nI (wb q m k)) := by
  unfold A_wayBed wb
  rw [r4 hr, Option.bind_some, em]
  by_cases e : 1 ≤ m
  · have n0 : ¬ nI m = 0 := nI_ne0 e (by omega)
    rw [if_pos (show (1 : Int32) ≤ nI m from nI_le (a := 1) e (by omega)), r12 hc, Option.bind_some, eq, nI_add, if_pos e]
    unfold rmO
    rw [if_neg n0, Option.bind_some, pk_rem (by omega) e (by omega)]
  · rw [if_neg (show ¬ (1 : Int32) ≤ nI m from nI_ge (b := 1) (by omega) (by decide)), if_neg e]
    rfl
set_option maxRecDepth 16384 in
theorem passedBeds_ok (I : Arc h a) {c r : Nat} (hc : c < 12) (hr : r < 4) : ∃ q m v, q ≤ 996 ∧ m ≤ 9 ∧ rd h (a + 3) c = nI q ∧ rd h (a + 7) r = nI m ∧ A_passedBeds h a (nI c) (nI r) = some v ∧ ((v = -1 ∧ ∀ k, k < m → 0 ≤ rd h (a + 8) (r * 9 + wb q m k)) ∨ ∃ k, k < m ∧ v = nI k ∧ ¬ 0 ≤ rd h (a + 8) (r * 9 + wb q m k) ∧ ∀ j, j < k → 0 ≤ rd h (a + 8) (r * 9 + wb q m j)) := by
  obtain ⟨q, hq, eq⟩ := I.hash c hc
  obtain ⟨m, hm, em⟩ := I.beds r hr
  obtain ⟨x, e, px⟩ := loop0 (fun n (_ : Unit) v => A_passedBeds_L2 h a (nI c) (nI r) n (nI v)) 9 (fun _ v => ∀ j, j < v → 0 ≤ rd h (a + 8) (r * 9 + wb q m j)) (fun x => (x = .inl () ∧ ∀ k, k < m → 0 ≤ rd h (a + 8) (r * 9 + wb q m k)) ∨ ∃ k, k < m ∧ x = .inr (nI k) ∧ ¬ 0 ≤ rd h (a + 8) (r * 9 + wb q m k) ∧ ∀ j, j < k → 0 ≤ rd h (a + 8) (r * 9 + wb q m j)) (by decide) (fun n s v hv hj => by
    rw [A_passedBeds_L2, r4 hr, Option.bind_some, em]
    by_cases w : m ≤ v
    · exact Or.inl ⟨_, if_pos (nI_le w (by omega)), Or.inl ⟨rfl, fun k hk => hj k (by omega)⟩⟩
    · rw [if_neg (nI_ge (by omega) (by omega)), wayBed_eq hc hr eq hq em hm (by omega), Option.bind_some, inBed_eq hr (wb_lt hm), Option.bind_some, nI_1]
      by_cases w2 : 0 ≤ rd h (a + 8) (r * 9 + wb q m v)
      · rw [if_pos w2]
        refine Or.inr ⟨by omega, (), fun j hl => ?_, rfl⟩
        by_cases e : j = v
        · subst e; exact w2
        · exact hj j (by omega)
      · rw [if_neg w2]
        exact Or.inl ⟨_, rfl, Or.inr ⟨v, by omega, rfl, w2, hj⟩⟩) () (fun j hl => absurd hl (Nat.not_lt_zero _))
  have e : A_passedBeds_L2 h a (nI c) (nI r) FU 0 = some x := e
  unfold A_passedBeds
  rw [e, Option.bind_some]
  rcases px with ⟨rfl, p⟩ | ⟨k, hk, rfl, p⟩
  · exact ⟨q, m, -1, hq, hm, eq, em, rfl, Or.inl ⟨rfl, p⟩⟩
  · exact ⟨q, m, nI k, hq, hm, eq, em, rfl, Or.inr ⟨k, hk, rfl, p⟩⟩
set_option maxRecDepth 16384 in
theorem nI_nm1 {k : Nat} (h : k < 2 ^ 31) : ¬ nI k = -1 := fun q => by
  have h1 := nI_toInt h
  rw [q] at h1
  have : (-1 : Int32).toInt = -1 := by decide
  omega
set_option maxRecDepth 16384 in
theorem refusal_ok (I : Arc h a) {c r : Nat} (hc : c < 12) (hr : r < 4) : ∃ v, A_refusal h a (nI c) (nI r) = some v ∧ (v = 0 → rd h (a + 4) c = 0 ∧ ∃ w, A_passedBeds h a (nI c) (nI r) = some w ∧ w ≠ -1) := by
  unfold A_refusal
  rw [r12 hc, Option.bind_some, r12 hc, Option.bind_some]
  by_cases e1 : rd h (a + 4) c = 0
  · rw [if_pos e1]
    by_cases e2 : 10 ≤ rd h (a + 5) c
    · obtain ⟨q, m, v, -, -, -, -, ev, -⟩ := passedBeds_ok I hc hr
      rw [if_pos e2, ev, Option.bind_some]
      by_cases e3 : v = -1
      · rw [if_pos e3]; exact ⟨3, rfl, fun w => absurd w (by decide)⟩
      · rw [if_neg e3]; exact ⟨0, rfl, fun _ => ⟨e1, v, rfl, e3⟩⟩
    · rw [if_neg e2]; exact ⟨2, rfl, fun w => absurd w (by decide)⟩
  · rw [if_neg e1]; exact ⟨1, rfl, fun w => absurd w (by decide)⟩
set_option maxRecDepth 16384 in
theorem looks_ok (I : Arc h a) {c r : Nat} (hc : c < 12) (hr : r < 4) : ∃ q m k, q ≤ 996 ∧ m ≤ 9 ∧ rd h (a + 3) c = nI q ∧ rd h (a + 7) r = nI m ∧ k ≤ m ∧ (1 ≤ m → 1 ≤ k) ∧ A_looks h a (nI c) (nI r) = some (nI k) ∧ (∀ j, j + 1 < k → rd h (a + 8) (r * 9 + wb q m j) ≠ nI c ∧ rd h (a + 8) (r * 9 + wb q m j) ≠ -1) ∧ (k < m → rd h (a + 8) (r * 9 + wb q m (k - 1)) = nI c ∨ rd h (a + 8) (r * 9 + wb q m (k - 1)) = -1) := by
  obtain ⟨q, hq, eq⟩ := I.hash c hc
  obtain ⟨m, hm, em⟩ := I.beds r hr
  obtain ⟨x, e, px⟩ := loop0 (fun n (_ : Unit) v => A_looks_L2 h a (nI c) (nI r) n (nI v)) 9 (fun _ v => v ≤ m ∧ ∀ j, j < v → rd h (a + 8) (r * 9 + wb q m j) ≠ nI c ∧ rd h (a + 8) (r * 9 + wb q m j) ≠ -1) (fun x => (x = .inl () ∧ ∀ j, j < m → rd h (a + 8) (r * 9 + wb q m j) ≠ nI c ∧ rd h (a + 8) (r * 9 + wb q m j) ≠ -1) ∨ ∃ k, k < m ∧ x = .inr (nI (k + 1)) ∧ (rd h (a + 8) (r * 9 + wb q m k) = nI c ∨ rd h (a + 8) (r * 9 + wb q m k) = -1) ∧ ∀ j, j < k → rd h (a + 8) (r * 9 + wb q m j) ≠ nI c ∧ rd h (a + 8) (r * 9 + wb q m j) ≠ -1) (by decide) (fun n s v hv hj => by
    rw [A_looks_L2, r4 hr, Option.bind_some, em]
    by_cases w : m ≤ v
    · exact Or.inl ⟨_, if_pos (nI_le w (by omega)), Or.inl ⟨rfl, fun k hk => hj.2 k (by omega)⟩⟩
    · rw [if_neg (nI_ge (by omega) (by omega)), wayBed_eq hc hr eq hq em hm (by omega), Option.bind_some, inBed_eq hr (wb_lt hm), Option.bind_some, nI_1]
      by_cases w2 : rd h (a + 8) (r * 9 + wb q m v) = nI c
      · rw [if_pos w2]
        exact Or.inl ⟨_, rfl, Or.inr ⟨v, by omega, rfl, Or.inl w2, hj.2⟩⟩
      rw [if_neg w2]
      by_cases w3 : rd h (a + 8) (r * 9 + wb q m v) = -1
      · rw [if_pos w3]
        exact Or.inl ⟨_, rfl, Or.inr ⟨v, by omega, rfl, Or.inr w3, hj.2⟩⟩
      rw [if_neg w3]
      refine Or.inr ⟨by omega, (), ⟨by omega, fun j hl => ?_⟩, rfl⟩
      by_cases e : j = v
      · subst e; exact ⟨w2, w3⟩
      · exact hj.2 j (by omega)) () ⟨Nat.zero_le _, fun j hl => absurd hl (Nat.not_lt_zero _)⟩
  have e : A_looks_L2 h a (nI c) (nI r) FU 0 = some x := e
  rcases px with ⟨rfl, p⟩ | ⟨k, hk, rfl, p1, p2⟩
  · refine ⟨q, m, m, hq, hm, eq, em, Nat.le_refl _, fun x => x, ?_, fun j hj => p j (by omega), fun x => absurd x (Nat.lt_irrefl _)⟩
    unfold A_looks
    rw [e, Option.bind_some]
    show ((rdO 4 (rd h (a + 7)) (nI r)).bind fun t5 => some t5) = _
    rw [r4 hr, Option.bind_some, em]
  · refine ⟨q, m, k + 1, hq, hm, eq, em, by omega, fun _ => by omega, ?_, fun j hj => p2 j (by omega), fun _ => by rw [Nat.add_sub_cancel]; exact p1⟩
    unfold A_looks
    rw [e, Option.bind_some]
set_option maxRecDepth 16384 in
theorem bed_cases (I : Arc h a) {i : Nat} (hi : i < 36) : rd h (a + 8) i < 0 ∨ ∃ k, k < 12 ∧ rd h (a + 8) i = nI k := by
  rcases I.bed i hi with e | e | e
  · exact Or.inl (by rw [e]; decide)
  · exact Or.inl (by rw [e]; decide)
  · exact Or.inr e
set_option maxRecDepth 16384 in
theorem mostLooks_ok (I : Arc h a) {r : Nat} (hr : r < 4) : ∃ v, A_mostLooks h a (nI r) = some v := by
  obtain ⟨m, hm, em⟩ := I.beds r hr
  obtain ⟨x, e, -⟩ := loop0 (fun n s v => A_mostLooks_L4 h a (nI r) n s (nI v)) 9 (fun _ _ => True) (fun _ => True) (by decide) (fun n s v hv _ => by
    rw [A_mostLooks_L4, r4 hr, Option.bind_some, em]
    by_cases w : m ≤ v
    · exact Or.inl ⟨_, if_pos (nI_le w (by omega)), trivial⟩
    · rw [if_neg (nI_ge (by omega) (by omega)), inBed_eq hr (by omega), Option.bind_some, nI_1]
      refine Or.inr ⟨by omega, ?_⟩
      rcases bed_cases I (i := r * 9 + v) (by omega) with q | ⟨c, hc, ec⟩
      · rw [if_pos q]; exact ⟨_, trivial, rfl⟩
      · obtain ⟨_, _, k, _, _, _, _, _, _, ek, _⟩ := looks_ok I hc hr
        rw [ec, if_neg (nI_pos (by omega)), ek, Option.bind_some]; exact ⟨_, trivial, rfl⟩) 0 trivial
  exact ⟨x, by unfold A_mostLooks; exact bO e _⟩
set_option maxRecDepth 16384 in
theorem allLooks_ok (I : Arc h a) {r : Nat} (hr : r < 4) : ∃ v, A_allLooks h a (nI r) = some v := by
  obtain ⟨m, hm, em⟩ := I.beds r hr
  obtain ⟨x, e, -⟩ := loop0 (fun n s v => A_allLooks_L4 h a (nI r) n s (nI v)) 9 (fun _ _ => True) (fun _ => True) (by decide) (fun n s v hv _ => by
    rw [A_allLooks_L4, r4 hr, Option.bind_some, em]
    by_cases w : m ≤ v
    · exact Or.inl ⟨_, if_pos (nI_le w (by omega)), trivial⟩
    · rw [if_neg (nI_ge (by omega) (by omega)), inBed_eq hr (by omega), Option.bind_some, nI_1]
      refine Or.inr ⟨by omega, ?_⟩
      rcases bed_cases I (i := r * 9 + v) (by omega) with q | ⟨c, hc, ec⟩
      · rw [if_pos q]; exact ⟨_, trivial, rfl⟩
      · obtain ⟨_, _, k, _, _, _, _, _, _, ek, _⟩ := looks_ok I hc hr
        rw [ec, if_neg (nI_pos (by omega)), ek, Option.bind_some]; exact ⟨_, trivial, rfl⟩) 0 trivial
  exact ⟨x, by unfold A_allLooks; exact bO e _⟩
set_option maxRecDepth 16384 in
theorem nearestReel_ok (I : Arc h a) {c : Nat} (hc : c < 12) : ∃ v, A_nearestReel h a (nI c) = some v := by
  obtain ⟨t, ht, et⟩ := I.reels
  obtain ⟨x, e, -⟩ := loop0 (fun n (s : Int32 × Int32) v => A_nearestReel_L8 h a (nI c) n s.1 s.2 (nI v)) 4 (fun _ _ => True) (fun _ => True) (by decide) (fun n s v hv _ => by
    rw [A_nearestReel_L8, et]
    by_cases w : t ≤ v
    · exact Or.inl ⟨_, if_pos (nI_le w (by omega)), trivial⟩
    · obtain ⟨y, ey, -⟩ := refusal_ok I hc (by omega : v < 4)
      obtain ⟨_, _, z, _, _, _, _, ez, _⟩ := passedBeds_ok I hc (by omega : v < 4)
      rw [if_neg (nI_ge (by omega) (by omega)), ey, Option.bind_some, ez, Option.bind_some, Option.bind_some, nI_1]
      refine Or.inr ⟨by omega, ?_⟩
      by_cases q : y = 0
      · rw [if_pos q]
        by_cases q2 : s.2 ≤ z
        · rw [if_pos q2]; exact ⟨(_, _), trivial, rfl⟩
        · rw [if_neg q2]; exact ⟨(_, _), trivial, rfl⟩
      · rw [if_neg q]; exact ⟨(_, _), trivial, rfl⟩) (-1, 9) trivial
  exact ⟨x, by unfold A_nearestReel; exact bO e _⟩
end
