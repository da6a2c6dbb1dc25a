/-! ===== the model: what holds of its row; reads ===== -/
def Wf (f : Nat → Int32) : Prop := Sc 12 (f 2) ∧ Sc 4 (f 3) ∧ Sc 5 (f 4) ∧ (∀ c, c < 12 → Sc 99999999 (f (8 + 4 * c))) ∧ (∀ c, c < 12 → Sc 99 (f (8 + 4 * c + 2))) ∧ (∀ r, r < 4 → Sc 9 (f (56 + r))) ∧ (∀ r, r < 4 → nI r < f 3 → ¬ f (56 + r) = 0) ∧ ∀ i, i < 36 → Bv (f (60 + i))
set_option maxRecDepth 16384 in
theorem Wf.cg {f g : Nat → Int32} (w : Wf f) (e : ∀ i, i < 106 → g i = f i) : Wf g := by
  obtain ⟨w1, w2, w3, w4, w5, w6, w7, w8⟩ := w
  refine ⟨?_, ?_, ?_, fun c hc => ?_, fun c hc => ?_, fun r hr => ?_, fun r hr q => ?_, fun i hi => ?_⟩
  · rw [e 2 (by decide)]; exact w1
  · rw [e 3 (by decide)]; exact w2
  · rw [e 4 (by decide)]; exact w3
  · rw [e _ (by omega)]; exact w4 c hc
  · rw [e _ (by omega)]; exact w5 c hc
  · rw [e _ (by omega)]; exact w6 r hr
  · rw [e _ (by omega)]; rw [e 3 (by decide)] at q; exact w7 r hr q
  · rw [e _ (by omega)]; exact w8 i hi
section
variable {h : Hp}
set_option maxRecDepth 16384 in
theorem r106 {i : Nat} (hi : i < 106) : rdO 106 (rd h 141) (nI i) = some (rd h 141 i) := rdO_in hi (by decide)
set_option maxRecDepth 16384 in
theorem m2 : rdO 106 (rd h 141) 2 = some (rd h 141 2) := r106 (i := 2) (by decide)
set_option maxRecDepth 16384 in
theorem m3 : rdO 106 (rd h 141) 3 = some (rd h 141 3) := r106 (i := 3) (by decide)
set_option maxRecDepth 16384 in
theorem m4 : rdO 106 (rd h 141) 4 = some (rd h 141 4) := r106 (i := 4) (by decide)
set_option maxRecDepth 16384 in
theorem mof0 {c : Nat} (hc : c < 12) : M_of h (nI c) 0 = some (rd h 141 (8 + 4 * c)) := mof_ok (f := 0) hc (by decide)
set_option maxRecDepth 16384 in
theorem mof1 {c : Nat} (hc : c < 12) : M_of h (nI c) 1 = some (rd h 141 (8 + 4 * c + 1)) := mof_ok (f := 1) hc (by decide)
set_option maxRecDepth 16384 in
theorem mof2 {c : Nat} (hc : c < 12) : M_of h (nI c) 2 = some (rd h 141 (8 + 4 * c + 2)) := mof_ok (f := 2) hc (by decide)
set_option maxRecDepth 16384 in
theorem mof3 {c : Nat} (hc : c < 12) : M_of h (nI c) 3 = some (rd h 141 (8 + 4 * c + 3)) := mof_ok (f := 3) hc (by decide)
set_option maxRecDepth 16384 in
theorem mbeds_ok {r : Nat} (hr : r < 4) : M_beds h (nI r) = some (rd h 141 (56 + r)) := by
  unfold M_beds
  rw [show (56 : Int32) = nI 56 from rfl, nI_add, r106 (by omega), Option.bind_some]
set_option maxRecDepth 16384 in
theorem nI_i60 (r b : Nat) : (60 : Int32) + 9 * nI r + nI b = nI (60 + (9 * r + b)) := by
  rw [show (60 : Int32) = nI 60 from rfl, show (9 : Int32) = nI 9 from rfl, pk_mul, nI_add, nI_add, Nat.add_assoc]
set_option maxRecDepth 16384 in
theorem minBed_ok {r b : Nat} (hr : r < 4) (hb : b < 9) : M_inBed h (nI r) (nI b) = some (rd h 141 (60 + (9 * r + b))) := by
  unfold M_inBed
  rw [nI_i60, r106 (by omega), Option.bind_some]
set_option maxRecDepth 16384 in
theorem msetBed_eq {r b : Nat} (hr : r < 4) (hb : b < 9) (x : Int32) : M_setBed h (nI r) (nI b) x = some (up2 h 141 (60 + (9 * r + b)) x) := by
  unfold M_setBed
  rw [nI_i60, wrO_in (by omega) (by decide), Option.bind_some]
set_option maxRecDepth 16384 in
theorem mscene_ok {s f : Nat} (hs : s < 5) (hf : f < 2) : M_scene h (nI s) (nI f) = some (rd h 141 (96 + 2 * s + f)) := by
  unfold M_scene
  rw [show (96 : Int32) = nI 96 from rfl, show (2 : Int32) = nI 2 from rfl, pk_mul, nI_add, nI_add, r106 (by omega), Option.bind_some]
/-! digits -/
set_option maxRecDepth 16384 in
theorem mdigitsL_ok : ∀ (k n v x : Nat), x < 10 ^ k → k < n → x < 2 ^ 31 → ∃ d, d ≤ k ∧ M_digits_L4 n (nI v) (nI x) = some (nI (v + d)) ∧ (x = 0 → d = 0) ∧ (x ≠ 0 → 1 ≤ d)
  | 0, n, v, x, hx, hn, _ => by
    obtain rfl : x = 0 := by simpa using hx
    obtain ⟨m, rfl⟩ : ∃ m, n = m + 1 := ⟨n - 1, by omega⟩
    exact ⟨0, Nat.le_refl _, by rw [M_digits_L4, if_pos (by decide)]; rfl, fun _ => rfl, fun q => absurd rfl q⟩
  | k + 1, n, v, x, hx, hn, hl => by
    obtain ⟨m, rfl⟩ : ∃ m, n = m + 1 := ⟨n - 1, by omega⟩
    rw [M_digits_L4]
    by_cases q : x = 0
    · subst q
      exact ⟨0, by omega, by rw [if_pos (by decide)]; rfl, fun _ => rfl, fun q => absurd rfl q⟩
    · rw [if_neg (nI_nle (by omega) hl), nI_1, nI_div10 hl]
      have hp : 10 ^ (k + 1) = 10 * 10 ^ k := by rw [Nat.pow_succ, Nat.mul_comm]
      obtain ⟨d, hd, e, -, -⟩ := mdigitsL_ok k m (v + 1) (x / 10) (by rw [hp] at hx; omega) (by omega) (by omega)
      exact ⟨d + 1, by omega, by rw [e]; congr 2; omega, fun w => absurd w q, fun _ => by omega⟩
set_option maxRecDepth 16384 in
theorem mdigits_ok {x : Int32} (hx : Sc 99999999 x) : ∃ d, d ≤ 8 ∧ M_digits x = some (nI d) ∧ (x = 0 → d = 0) ∧ (x ≠ 0 → 1 ≤ d) := by
  obtain ⟨j, hj, rfl⟩ := hx
  obtain ⟨d, hd, e, e0, e1⟩ := mdigitsL_ok 8 FU 0 j (by omega) (by unfold FU; omega) (by omega)
  refine ⟨d, hd, ?_, fun w => e0 ((nI_eq (b := 0) (by omega) (by decide)).mp w), fun w => e1 (fun q => w (by rw [q]; rfl))⟩
  unfold M_digits
  rw [show (0 : Int32) = nI 0 from rfl, e, Option.bind_some, Nat.zero_add]
set_option maxRecDepth 16384 in
theorem mdigitL_ok {i : Nat} (hi : i < 2 ^ 30) : ∀ (n e x : Nat), e ≤ 8 → e < n → x < 2 ^ 31 → ∃ y, y < 2 ^ 31 ∧ M_digit_L9 (nI i) n (nI x) (nI e - 1) = some (nI y)
  | 0, e, x, _, hn, _ => absurd hn (Nat.not_lt_zero _)
  | n + 1, 0, x, _, _, hl => ⟨x, hl, by
    rw [M_digit_L9, if_pos]
    rw [Int32.le_iff_toInt_le, nI_toInt (by omega)]
    have : (nI 0 - 1).toInt = -1 := by decide
    omega⟩
  | n + 1, e + 1, x, he, hn, hl => by
    rw [M_digit_L9, nI_pred]
    by_cases q : nI e ≤ nI i
    · exact ⟨x, hl, if_pos q⟩
    · rw [if_neg q, i_m1, nI_div10 hl]
      exact mdigitL_ok hi n e (x / 10) (by omega) (by omega) (by omega)
set_option maxRecDepth 16384 in
theorem mdigit_ok {x : Int32} (hx : Sc 99999999 x) {i : Nat} (hi : i < 2 ^ 30) : ∃ k, k ≤ 9 ∧ M_digit x (nI i) = some (nI k) := by
  obtain ⟨d, hd, ed, -, -⟩ := mdigits_ok hx
  obtain ⟨j, hj, rfl⟩ := hx
  obtain ⟨y, hy, ey⟩ := mdigitL_ok hi FU d j hd (by unfold FU; omega) (by omega)
  refine ⟨y % 10, by omega, ?_⟩
  unfold M_digit
  rw [ed, Option.bind_some, ey, Option.bind_some, nI_rem10 hy]
set_option maxRecDepth 16384 in
theorem mhashOf_ok (w : Wf (rd h 141)) {c : Nat} (hc : c < 12) : ∃ q, q ≤ 996 ∧ M_hashOf h (nI c) = some (nI q) := by
  have hx := w.2.2.2.1 c hc
  obtain ⟨d, hd, ed, -, -⟩ := mdigits_ok hx
  obtain ⟨r, e, q, hq, rfl⟩ := loop0 (fun n s v => M_hashOf_L4 h (nI c) n s (nI v)) 8 (fun s _ => Sc 996 s) (fun r => Sc 996 r) (by decide) (fun n s v hv hs => by
    rw [M_hashOf_L4, mof0 hc, Option.bind_some, ed, Option.bind_some]
    by_cases q : d ≤ v
    · exact Or.inl ⟨_, if_pos (nI_le q (by omega)), hs⟩
    · obtain ⟨k, hk, ek⟩ := mdigit_ok hx (i := v) (by omega)
      obtain ⟨u, hu, rfl⟩ := hs
      rw [if_neg (nI_ge (by omega) (by omega)), Option.bind_some, ek, Option.bind_some, show (31 : Int32) = nI 31 from rfl, pk_mul, nI_add, show (997 : Int32) = nI 997 from rfl, pk_rem (by omega) (by decide) (by decide), nI_1]
      have := Nat.mod_lt (31 * u + k) (show 0 < 997 by decide)
      exact Or.inr ⟨by omega, _, ⟨(31 * u + k) % 997, by omega, rfl⟩, rfl⟩) 0 ⟨0, by decide, rfl⟩
  exact ⟨q, hq, by unfold M_hashOf; exact bO e _⟩
set_option maxRecDepth 16384 in
theorem mfitsAt_ok {x y : Int32} (hx : Sc 99999999 x) (hy : Sc 99999999 y) {v : Nat} (hv : v ≤ 1000) : ∃ b, M_fitsAt x y (nI v) = some b := by
  obtain ⟨d, hd, ed, -, -⟩ := mdigits_ok hy
  obtain ⟨r, e, -⟩ := loop0 (fun n (_ : Unit) u => M_fitsAt_L2 x y (nI v) n (nI u)) 8 (fun _ _ => True) (fun _ => True) (by decide) (fun n s u hu _ => by
    rw [M_fitsAt_L2, ed, Option.bind_some]
    by_cases q : d ≤ u
    · exact Or.inl ⟨_, if_pos (nI_le q (by omega)), trivial⟩
    · obtain ⟨k, hk, ek⟩ := mdigit_ok hy (i := u) (by omega)
      obtain ⟨k', hk', ek'⟩ := mdigit_ok hx (i := v + u) (by omega)
      rw [if_neg (nI_ge (by omega) (by omega)), ek, Option.bind_some, nI_add, ek', Option.bind_some, nI_1]
      by_cases q1 : nI k = 0
      · rw [if_pos q1]; exact Or.inr ⟨by omega, (), trivial, rfl⟩
      · rw [if_neg q1]
        by_cases q2 : nI k = nI k'
        · rw [if_pos q2]; exact Or.inr ⟨by omega, (), trivial, rfl⟩
        · rw [if_neg q2]; exact Or.inl ⟨_, rfl, trivial⟩) () trivial
  have e : M_fitsAt_L2 x y (nI v) FU 0 = some r := e
  unfold M_fitsAt
  rw [e, Option.bind_some]
  match r with
  | .inl () => exact ⟨_, rfl⟩
  | .inr z => exact ⟨_, rfl⟩
set_option maxRecDepth 16384 in
theorem mmatchOf_ok (w : Wf (rd h 141)) {c : Nat} (hc : c < 12) {y : Int32} (hy : Sc 99999999 y) : ∃ v, M_matchOf h (nI c) y = some v := by
  have hx := w.2.2.2.1 c hc
  obtain ⟨d, hd, ed, -, -⟩ := mdigits_ok hx
  obtain ⟨p, hp, ep, -, -⟩ := mdigits_ok hy
  obtain ⟨r, e, -⟩ := loop0 (fun n (_ : Unit) v => M_matchOf_L10 y (rd h 141 (8 + 4 * c)) n (nI v)) 9 (fun _ _ => True) (fun _ => True) (by decide) (fun n s v hv _ => by
    rw [M_matchOf_L10, ep, Option.bind_some, ed, Option.bind_some, nI_add]
    by_cases q : d < v + p
    · exact Or.inl ⟨_, if_pos (nI_lt q (by omega)), trivial⟩
    · obtain ⟨b, eb⟩ := mfitsAt_ok hx hy (v := v) (by omega)
      rw [if_neg (nI_nlt (by omega) (by omega)), eb, Option.bind_some, nI_1]
      by_cases q1 : b2i b = 0
      · rw [if_pos q1]; exact Or.inr ⟨by omega, (), trivial, rfl⟩
      · rw [if_neg q1]; exact Or.inl ⟨_, rfl, trivial⟩) () trivial
  have e : M_matchOf_L10 y (rd h 141 (8 + 4 * c)) FU 0 = some r := e
  unfold M_matchOf
  rw [mof0 hc, Option.bind_some, e, Option.bind_some]
  match r with
  | .inl () => exact ⟨_, rfl⟩
  | .inr z => exact ⟨_, rfl⟩
set_option maxRecDepth 16384 in
theorem mrunFrom_ok (w : Wf (rd h 141)) {c d i j : Nat} (hc : c < 12) (hd : d < 12) (hi : i ≤ 8) (hj : j ≤ 8) : ∃ v, M_runFrom h (nI c) (nI d) (nI i) (nI j) = some v := by
  have hx := w.2.2.2.1 c hc
  have hy := w.2.2.2.1 d hd
  obtain ⟨l, hl, el, -, -⟩ := mdigits_ok hx
  obtain ⟨m, hm, em, -, -⟩ := mdigits_ok hy
  obtain ⟨r, e, -⟩ := loop0 (fun n (_ : Unit) v => M_runFrom_L19 (nI i) (nI j) (rd h 141 (8 + 4 * c)) (rd h 141 (8 + 4 * d)) n (nI v)) 8 (fun _ _ => True) (fun _ => True) (by decide) (fun n s v hv _ => by
    rw [M_runFrom_L19, el, Option.bind_some, em, Option.bind_some, nI_add, nI_add]
    by_cases q : l ≤ i + v
    · exact Or.inl ⟨_, if_pos (nI_le q (by omega)), trivial⟩
    rw [if_neg (nI_ge (by omega) (by omega))]
    by_cases q2 : m ≤ j + v
    · exact Or.inl ⟨_, if_pos (nI_le q2 (by omega)), trivial⟩
    obtain ⟨k, hk, ek⟩ := mdigit_ok hx (i := i + v) (by omega)
    obtain ⟨k', hk', ek'⟩ := mdigit_ok hy (i := j + v) (by omega)
    rw [if_neg (nI_ge (by omega) (by omega)), ek, Option.bind_some, ek', Option.bind_some, nI_1]
    by_cases q3 : nI k = nI k'
    · rw [if_pos q3]; exact Or.inr ⟨by omega, (), trivial, rfl⟩
    · rw [if_neg q3]; exact Or.inl ⟨_, rfl, trivial⟩) () trivial
  refine ⟨r, ?_⟩
  unfold M_runFrom
  rw [mof0 hc, Option.bind_some, mof0 hd, Option.bind_some]
  exact bO e _
set_option maxRecDepth 16384 in
theorem mrun_ok (w : Wf (rd h 141)) {c d : Nat} (hc : c < 12) (hd : d < 12) : ∃ v, M_run h (nI c) (nI d) = some v := by
  obtain ⟨l, hl, el, -, -⟩ := mdigits_ok (w.2.2.2.1 c hc)
  obtain ⟨m, hm, em, -, -⟩ := mdigits_ok (w.2.2.2.1 d hd)
  have inner : ∀ i, i ≤ 8 → ∀ s : Int32, ∃ r, M_run_L22 h (nI c) (nI d) (nI i) FU s 0 = some r := fun i hi s => by
    obtain ⟨r, e, -⟩ := loop0 (fun n s v => M_run_L22 h (nI c) (nI d) (nI i) n s (nI v)) 8 (fun _ _ => True) (fun _ => True) (by decide) (fun n s v hv _ => by
      rw [M_run_L22, mof0 hd, Option.bind_some, em, Option.bind_some]
      by_cases q : m ≤ v
      · exact Or.inl ⟨_, if_pos (nI_le q (by omega)), trivial⟩
      · obtain ⟨x, ex⟩ := mrunFrom_ok w hc hd hi (by omega : v ≤ 8)
        rw [if_neg (nI_ge (by omega) (by omega)), ex, Option.bind_some, nI_1]
        exact Or.inr ⟨by omega, _, trivial, rfl⟩) s trivial
    exact ⟨r, e⟩
  obtain ⟨r, e, -⟩ := loop0 (fun n s v => M_run_L5 h (nI c) (nI d) n s (nI v)) 8 (fun _ _ => True) (fun _ => True) (by decide) (fun n s v hv _ => by
    rw [M_run_L5, mof0 hc, Option.bind_some, el, Option.bind_some]
    by_cases q : l ≤ v
    · exact Or.inl ⟨_, if_pos (nI_le q (by omega)), trivial⟩
    · obtain ⟨x, ex⟩ := inner v (by omega) s
      rw [if_neg (nI_ge (by omega) (by omega)), ex, Option.bind_some, nI_1]
      exact Or.inr ⟨by omega, _, trivial, rfl⟩) 0 trivial
  exact ⟨r, by unfold M_run; exact bO e _⟩
/-! beds -/
set_option maxRecDepth 16384 in
theorem mhomeOf_eq {c r q m : Nat} (hr : r < 4) (eq : M_hashOf h (nI c) = some (nI q)) (hq : q ≤ 996) (em : rd h 141 (56 + r) = nI m) (hm : m ≤ 9) (m1 : 1 ≤ m) : M_homeOf h (nI c) (nI r) = some (nI (q % m)) := by
  unfold M_homeOf
  have n0 : ¬ nI m = 0 := nI_ne0 m1 (by omega)
  rw [eq, Option.bind_some, mbeds_ok hr, Option.bind_some, em]
  unfold rmO
  rw [if_neg n0, Option.bind_some, pk_rem (by omega) m1 (by omega)]
set_option maxRecDepth 16384 in
theorem monWay_eq {c r q m k : Nat} (hr : r < 4) (eq : M_hashOf h (nI c) = some (nI q)) (hq : q ≤ 996) (em : rd h 141 (56 + r) = nI m) (hm : m ≤ 9) (m1 : 1 ≤ m) (hk : k ≤ 1000) : M_onWay h (nI c) (nI r) (nI k) = some (nI ((q + k) % m)) := by
  unfold M_onWay
  have n0 : ¬ nI m = 0 := nI_ne0 m1 (by omega)
  rw [mhomeOf_eq hr eq hq em hm m1, Option.bind_some, mbeds_ok hr, Option.bind_some, em, nI_add]
  unfold rmO
  have := Nat.mod_lt q (show 0 < m by omega)
  rw [if_neg n0, Option.bind_some, pk_rem (by omega) m1 (by omega), Nat.mod_add_mod]
set_option maxRecDepth 16384 in
theorem mpassedBy_ok (w : Wf (rd h 141)) {c r : Nat} (hc : c < 12) (hr : r < 4) : ∃ q m v, q ≤ 996 ∧ m ≤ 9 ∧ M_hashOf h (nI c) = some (nI q) ∧ rd h 141 (56 + r) = nI m ∧ M_passedBy h (nI c) (nI r) = some v ∧ ((v = -1 ∧ ∀ k, k < m → 0 ≤ rd h 141 (60 + (9 * r + (q + k) % m))) ∨ ∃ k, k < m ∧ v = nI k ∧ ¬ 0 ≤ rd h 141 (60 + (9 * r + (q + k) % m)) ∧ ∀ j, j < k → 0 ≤ rd h 141 (60 + (9 * r + (q + j) % m))) := by
  obtain ⟨q, hq, eq⟩ := mhashOf_ok w hc
  obtain ⟨m, hm, em⟩ := w.2.2.2.2.2.1 r hr
  obtain ⟨x, e, px⟩ := loop0 (fun n (_ : Unit) v => M_passedBy_L2 h (nI c) (nI r) n (nI v)) 9 (fun _ v => ∀ j, j < v → 0 ≤ rd h 141 (60 + (9 * r + (q + j) % m))) (fun x => (x = .inl () ∧ ∀ k, k < m → 0 ≤ rd h 141 (60 + (9 * r + (q + k) % m))) ∨ ∃ k, k < m ∧ x = .inr (nI k) ∧ ¬ 0 ≤ rd h 141 (60 + (9 * r + (q + k) % m)) ∧ ∀ j, j < k → 0 ≤ rd h 141 (60 + (9 * r + (q + j) % m))) (by decide) (fun n s v hv hj => by
    rw [M_passedBy_L2, mbeds_ok hr, Option.bind_some, em]
    by_cases z : m ≤ v
    · exact Or.inl ⟨_, if_pos (nI_le z (by omega)), Or.inl ⟨rfl, fun k hk => hj k (by omega)⟩⟩
    · have hb := Nat.mod_lt (q + v) (show 0 < m by omega)
      rw [if_neg (nI_ge (by omega) (by omega)), monWay_eq hr eq hq em hm (by omega) (by omega), Option.bind_some, minBed_ok hr (by omega), Option.bind_some, nI_1]
      by_cases w2 : 0 ≤ rd h 141 (60 + (9 * r + (q + v) % m))
      · rw [if_pos w2]
        refine Or.inr ⟨by omega, (), fun j hl => ?_, rfl⟩
        by_cases e : j = v
        · subst e; exact w2
        · exact hj j (by omega)
      · rw [if_neg w2]
        exact Or.inl ⟨_, rfl, Or.inr ⟨v, by omega, rfl, w2, hj⟩⟩) () (fun j hl => absurd hl (Nat.not_lt_zero _))
  have e : M_passedBy_L2 h (nI c) (nI r) FU 0 = some x := e
  unfold M_passedBy
  rw [e, Option.bind_some]
  rcases px with ⟨rfl, p⟩ | ⟨k, hk, rfl, p⟩
  · exact ⟨q, m, -1, hq, hm, eq, em, rfl, Or.inl ⟨rfl, p⟩⟩
  · exact ⟨q, m, nI k, hq, hm, eq, em, rfl, Or.inr ⟨k, hk, rfl, p⟩⟩
set_option maxRecDepth 16384 in
theorem mlooks_ok (w : Wf (rd h 141)) {c r : Nat} (hc : c < 12) (hr : r < 4) : ∃ q m k, q ≤ 996 ∧ m ≤ 9 ∧ M_hashOf h (nI c) = some (nI q) ∧ rd h 141 (56 + r) = nI m ∧ k ≤ m ∧ (1 ≤ m → 1 ≤ k) ∧ M_looks h (nI c) (nI r) = some (nI k) ∧ (∀ j, j + 1 < k → rd h 141 (60 + (9 * r + (q + j) % m)) ≠ nI c ∧ rd h 141 (60 + (9 * r + (q + j) % m)) ≠ -1) ∧ (k < m → rd h 141 (60 + (9 * r + (q + (k - 1)) % m)) = nI c ∨ rd h 141 (60 + (9 * r + (q + (k - 1)) % m)) = -1) := by
  obtain ⟨q, hq, eq⟩ := mhashOf_ok w hc
  obtain ⟨m, hm, em⟩ := w.2.2.2.2.2.1 r hr
  obtain ⟨x, e, px⟩ := loop0 (fun n (_ : Unit) v => M_looks_L2 h (nI c) (nI r) n (nI v)) 9 (fun _ v => v ≤ m ∧ ∀ j, j < v → rd h 141 (60 + (9 * r + (q + j) % m)) ≠ nI c ∧ rd h 141 (60 + (9 * r + (q + j) % m)) ≠ -1) (fun x => (x = .inl () ∧ ∀ j, j < m → rd h 141 (60 + (9 * r + (q + j) % m)) ≠ nI c ∧ rd h 141 (60 + (9 * r + (q + j) % m)) ≠ -1) ∨ ∃ k, k < m ∧ x = .inr (nI (k + 1)) ∧ (rd h 141 (60 + (9 * r + (q + k) % m)) = nI c ∨ rd h 141 (60 + (9 * r + (q + k) % m)) = -1) ∧ ∀ j, j < k → rd h 141 (60 + (9 * r + (q + j) % m)) ≠ nI c ∧ rd h 141 (60 + (9 * r + (q + j) % m)) ≠ -1) (by decide) (fun n s v hv hj => by
    rw [M_looks_L2, mbeds_ok hr, Option.bind_some, em]
    by_cases z : m ≤ v
    · exact Or.inl ⟨_, if_pos (nI_le z (by omega)), Or.inl ⟨rfl, fun k hk => hj.2 k (by omega)⟩⟩
    · have hb := Nat.mod_lt (q + v) (show 0 < m by omega)
      rw [if_neg (nI_ge (by omega) (by omega)), monWay_eq hr eq hq em hm (by omega) (by omega), Option.bind_some, minBed_ok hr (by omega), Option.bind_some, nI_1]
      by_cases w2 : rd h 141 (60 + (9 * r + (q + v) % m)) = nI c
      · rw [if_pos w2]
        exact Or.inl ⟨_, rfl, Or.inr ⟨v, by omega, rfl, Or.inl w2, hj.2⟩⟩
      rw [if_neg w2]
      by_cases w3 : rd h 141 (60 + (9 * r + (q + v) % m)) = -1
      · rw [if_pos w3]
        exact Or.inl ⟨_, rfl, Or.inr ⟨v, by omega, rfl, Or.inr w3, hj.2⟩⟩
      rw [if_neg w3]
      refine Or.inr ⟨by omega, (), ⟨by omega, fun j hl => ?_⟩, rfl⟩
      by_cases e : j = v
      · subst e; exact ⟨w2, w3⟩
      · exact hj.2 j (by omega)) () ⟨Nat.zero_le _, fun j hl => absurd hl (Nat.not_lt_zero _)⟩
  have e : M_looks_L2 h (nI c) (nI r) FU 0 = some x := e
  rcases px with ⟨rfl, p⟩ | ⟨k, hk, rfl, p1, p2⟩
  · refine ⟨q, m, m, hq, hm, eq, em, Nat.le_refl _, fun x => x, ?_, fun j hj => p j (by omega), fun x => absurd x (Nat.lt_irrefl _)⟩
    unfold M_looks
    rw [e, Option.bind_some]
    show ((M_beds h (nI r)).bind fun t5 => some t5) = _
    rw [mbeds_ok hr, Option.bind_some, em]
  · refine ⟨q, m, k + 1, hq, hm, eq, em, by omega, fun _ => by omega, ?_, fun j hj => p2 j (by omega), fun _ => by rw [Nat.add_sub_cancel]; exact p1⟩
    unfold M_looks
    rw [e, Option.bind_some]
set_option maxRecDepth 16384 in
theorem mbedWith_ok (w : Wf (rd h 141)) (x : Int32) {r : Nat} (hr : r < 4) : ∃ v, M_bedWith h x (nI r) = some v ∧ ((v = -1 ∧ ∀ b, b < 9 → nI b < rd h 141 (56 + r) → rd h 141 (60 + (9 * r + b)) ≠ x) ∨ ∃ b, b < 9 ∧ nI b < rd h 141 (56 + r) ∧ v = nI b ∧ rd h 141 (60 + (9 * r + b)) = x) := by
  obtain ⟨m, hm, em⟩ := w.2.2.2.2.2.1 r hr
  obtain ⟨y, e, p⟩ := loop0 (fun n (_ : Unit) v => M_bedWith_L2 h x (nI r) n (nI v)) 9 (fun _ v => ∀ b, b < v → rd h 141 (60 + (9 * r + b)) ≠ x) (fun y => (y = .inl () ∧ ∀ b, b < 9 → nI b < rd h 141 (56 + r) → rd h 141 (60 + (9 * r + b)) ≠ x) ∨ ∃ b, b < 9 ∧ nI b < rd h 141 (56 + r) ∧ y = .inr (nI b) ∧ rd h 141 (60 + (9 * r + b)) = x) (by decide) (fun n s v hv hj => by
    rw [M_bedWith_L2, mbeds_ok hr, Option.bind_some, em]
    by_cases z : m ≤ v
    · refine Or.inl ⟨_, if_pos (nI_le z (by omega)), Or.inl ⟨rfl, fun b hb hb2 => hj b ?_⟩⟩
      have := (nI_ltI (by omega) (by omega)).mp hb2
      omega
    · rw [if_neg (nI_ge (by omega) (by omega)), minBed_ok hr (by omega), Option.bind_some, nI_1]
      by_cases w2 : rd h 141 (60 + (9 * r + v)) = x
      · rw [if_pos w2]
        exact Or.inl ⟨_, rfl, Or.inr ⟨v, by omega, nI_lt (by omega) (by omega), rfl, w2⟩⟩
      · rw [if_neg w2]
        refine Or.inr ⟨by omega, (), fun b hb => ?_, rfl⟩
        by_cases e : b = v
        · subst e; exact w2
        · exact hj b (by omega)) () (fun b hb => absurd hb (Nat.not_lt_zero _))
  have e : M_bedWith_L2 h x (nI r) FU 0 = some y := e
  unfold M_bedWith
  rw [e, Option.bind_some]
  rcases p with ⟨rfl, p⟩ | ⟨b, hb, hb2, rfl, eb⟩
  · exact ⟨-1, rfl, Or.inl ⟨rfl, p⟩⟩
  · exact ⟨_, rfl, Or.inr ⟨b, hb, hb2, rfl, eb⟩⟩
/-- the bed exists in the model -/
def Em (f : Nat → Int32) (r b : Nat) : Prop := r < 4 ∧ b < 9 ∧ nI r < f 3 ∧ nI b < f (56 + r)
set_option maxRecDepth 16384 in
theorem mreelWith_ok (w : Wf (rd h 141)) (x : Int32) : ∃ v, M_reelWith h x = some v ∧ ((v = -1 ∧ ∀ r b, Em (rd h 141) r b → rd h 141 (60 + (9 * r + b)) ≠ x) ∨ ∃ r b, Em (rd h 141) r b ∧ v = nI r ∧ rd h 141 (60 + (9 * r + b)) = x ∧ M_bedWith h x (nI r) = some (nI b)) := by
  obtain ⟨t, ht, et⟩ := w.2.1
  obtain ⟨y, e, p⟩ := loop0 (fun n (_ : Unit) v => M_reelWith_L2 h x n (nI v)) 4 (fun _ v => ∀ r, r < v → ∀ b, Em (rd h 141) r b → rd h 141 (60 + (9 * r + b)) ≠ x) (fun y => (y = .inl () ∧ ∀ r b, Em (rd h 141) r b → rd h 141 (60 + (9 * r + b)) ≠ x) ∨ ∃ r b, Em (rd h 141) r b ∧ y = .inr (nI r) ∧ rd h 141 (60 + (9 * r + b)) = x ∧ M_bedWith h x (nI r) = some (nI b)) (by decide) (fun n s v hv hj => by
    rw [M_reelWith_L2, m3, Option.bind_some, et]
    by_cases z : t ≤ v
    · refine Or.inl ⟨_, if_pos (nI_le z (by omega)), Or.inl ⟨rfl, fun r b hb => hj r ?_ b hb⟩⟩
      have := hb.2.2.1
      rw [et] at this
      have := (nI_ltI (by have := hb.1; omega) (by omega)).mp this
      omega
    · obtain ⟨u, eu, pu⟩ := mbedWith_ok w x (by omega : v < 4)
      rw [if_neg (nI_ge (by omega) (by omega)), eu, Option.bind_some, nI_1]
      rcases pu with ⟨rfl, pu⟩ | ⟨b, hb, hb2, rfl, eb⟩
      · rw [if_pos rfl]
        refine Or.inr ⟨by omega, (), fun r hr b hb => ?_, rfl⟩
        by_cases e : r = v
        · subst e; exact pu b hb.2.1 hb.2.2.2
        · exact hj r (by omega) b hb
      · rw [if_neg (nI_nm1 (by omega))]
        exact Or.inl ⟨_, rfl, Or.inr ⟨v, b, ⟨by omega, hb, by rw [et]; exact nI_lt (by omega) (by omega), hb2⟩, rfl, eb, eu⟩⟩) () (fun r hr => absurd hr (Nat.not_lt_zero _))
  have e : M_reelWith_L2 h x FU 0 = some y := e
  unfold M_reelWith
  rw [e, Option.bind_some]
  rcases p with ⟨rfl, p⟩ | ⟨r, b, hb, rfl, eb⟩
  · exact ⟨-1, rfl, Or.inl ⟨rfl, p⟩⟩
  · exact ⟨_, rfl, Or.inr ⟨r, b, hb, rfl, eb⟩⟩
set_option maxRecDepth 16384 in
theorem mwhy_ok (w : Wf (rd h 141)) {c r : Nat} (hc : c < 12) (hr : r < 4) : ∃ v, M_whyStaysUp h (nI c) (nI r) = some v ∧ (v = 0 → rd h 141 (8 + 4 * c + 1) = 0 ∧ ∃ u, M_passedBy h (nI c) (nI r) = some u ∧ u ≠ -1) := by
  unfold M_whyStaysUp
  rw [mof1 hc, Option.bind_some, mof2 hc, Option.bind_some]
  by_cases e1 : rd h 141 (8 + 4 * c + 1) = 0
  · rw [if_pos e1]
    by_cases e2 : 10 ≤ rd h 141 (8 + 4 * c + 2)
    · obtain ⟨q, m, v, -, -, -, -, ev, -⟩ := mpassedBy_ok w hc hr
      rw [if_pos e2, ev, Option.bind_some]
      by_cases e3 : v = -1
      · rw [if_pos e3]; exact ⟨3, rfl, fun w => absurd w (by decide)⟩
      · rw [if_neg e3]; exact ⟨0, rfl, fun _ => ⟨e1, v, rfl, e3⟩⟩
    · rw [if_neg e2]; exact ⟨2, rfl, fun w => absurd w (by decide)⟩
  · rw [if_neg e1]; exact ⟨1, rfl, fun w => absurd w (by decide)⟩
/-- how many of the first k bits are set -/
def cntS (S : Nat) : Nat → Nat
  | 0 => 0
  | k + 1 => cntS S k + if S.testBit k = true then 1 else 0
set_option maxRecDepth 16384 in
theorem cntS_or (S d : Nat) : ∀ k, cntS (S ||| 2 ^ d) k ≤ cntS S k + if d < k then 1 else 0
  | 0 => Nat.zero_le _
  | k + 1 => by
    have ih := cntS_or S d k
    rw [cntS, cntS, Nat.testBit_or, Nat.testBit_two_pow]
    by_cases e : d = k
    · subst e
      rw [if_neg (Nat.lt_irrefl _)] at ih
      simp only [Nat.lt_irrefl, decide_true, Bool.or_true, if_true, Nat.lt_succ_self]
      omega
    · rw [decide_eq_false e, Bool.or_false]
      by_cases l : d < k
      · rw [if_pos l] at ih; rw [if_pos (show d < k + 1 by omega)]; omega
      · rw [if_neg l] at ih; rw [if_neg (show ¬ d < k + 1 by omega)]; omega
set_option maxRecDepth 16384 in
theorem cntS_0 : ∀ k, cntS 0 k = 0
  | 0 => rfl
  | k + 1 => by rw [cntS, cntS_0 k]; simp
set_option maxRecDepth 16384 in
theorem cntS_mono (S : Nat) {k m : Nat} (hk : k ≤ m) : cntS S k ≤ cntS S m := by
  induction m with
  | zero => obtain rfl : k = 0 := by omega
            exact Nat.le_refl _
  | succ m ih =>
    by_cases e : k = m + 1
    · subst e; exact Nat.le_refl _
    · exact Nat.le_trans (ih (by omega)) (by rw [cntS]; omega)
set_option maxRecDepth 16384 in
theorem msleepersIn_ok (w : Wf (rd h 141)) {r m : Nat} (hr : r < 4) (hm : m ≤ 9) (em : rd h 141 (56 + r) = nI m) : ∃ S, S < 4096 ∧ M_sleepersIn h (nI r) = some (nI S) ∧ cntS S 12 ≤ m ∧ ∀ c, c < 12 → (S.testBit c = true ↔ ∃ b, b < m ∧ rd h 141 (60 + (9 * r + b)) = nI c) := by
  obtain ⟨x, e, S, hS, rfl, p, p2⟩ := loop0 (fun n s v => M_sleepersIn_L4 h (nI r) n s (nI v)) 9 (fun s v => v ≤ m ∧ ∃ S, S < 4096 ∧ s = nI S ∧ cntS S 12 ≤ v ∧ ∀ c, c < 12 → (S.testBit c = true ↔ ∃ b, b < v ∧ rd h 141 (60 + (9 * r + b)) = nI c)) (fun x => ∃ S, S < 4096 ∧ x = nI S ∧ cntS S 12 ≤ m ∧ ∀ c, c < 12 → (S.testBit c = true ↔ ∃ b, b < m ∧ rd h 141 (60 + (9 * r + b)) = nI c)) (by decide) (fun n s v hv hj => by
    obtain ⟨hvm, S, hS, rfl, hcnt, p⟩ := hj
    rw [M_sleepersIn_L4, mbeds_ok hr, Option.bind_some, em]
    by_cases z : m ≤ v
    · obtain rfl : v = m := by omega
      exact Or.inl ⟨_, if_pos (nI_le z (by omega)), S, hS, rfl, hcnt, p⟩
    · rw [if_neg (nI_ge (by omega) (by omega)), minBed_ok hr (by omega), Option.bind_some, Option.bind_some, nI_1]
      refine Or.inr ⟨by omega, ?_⟩
      have neg : rd h 141 (60 + (9 * r + v)) < 0 → (∀ d, d < 12 → rd h 141 (60 + (9 * r + v)) ≠ nI d) := fun q d hd e => by rw [e] at q; exact absurd q (nI_pos (by omega))
      have or0 : ∀ a : Int32, a ||| 0 = a := fun a => Int32.or_zero
      have stay : (∀ d, d < 12 → rd h 141 (60 + (9 * r + v)) ≠ nI d) → ∃ S', S' < 4096 ∧ nI S = nI S' ∧ cntS S' 12 ≤ v + 1 ∧ ∀ c, c < 12 → (S'.testBit c = true ↔ ∃ b, b < v + 1 ∧ rd h 141 (60 + (9 * r + b)) = nI c) := fun q => by
        refine ⟨S, hS, rfl, by omega, fun c hc => (p c hc).trans ⟨?_, ?_⟩⟩
        · rintro ⟨b, hb, eb⟩; exact ⟨b, by omega, eb⟩
        · rintro ⟨b, hb, eb⟩
          by_cases e : b = v
          · subst e; exact absurd eb (q c hc)
          · exact ⟨b, by omega, eb⟩
      rcases w.2.2.2.2.2.2.2 (9 * r + v) (by omega) with q | q | ⟨d, hd, ed⟩
      · have q' : rd h 141 (60 + (9 * r + v)) < 0 := by rw [q]; decide
        rw [if_pos q', or0]
        exact ⟨_, ⟨by omega, stay (neg q')⟩, rfl⟩
      · have q' : rd h 141 (60 + (9 * r + v)) < 0 := by rw [q]; decide
        rw [if_pos q', or0]
        exact ⟨_, ⟨by omega, stay (neg q')⟩, rfl⟩
      · rw [ed, if_neg (nI_pos (by omega)), or_c hd]
        refine ⟨_, ⟨by omega, S ||| 2 ^ d, or_lt hS hd, rfl, ?_, fun c hc => ?_⟩, rfl⟩
        · have := cntS_or S d 12
          rw [if_pos hd] at this
          omega
        · rw [Nat.testBit_or, Nat.testBit_two_pow, Bool.or_eq_true, p c hc, decide_eq_true_iff]
          constructor
          · rintro (⟨b, hb, eb⟩ | rfl)
            · exact ⟨b, by omega, eb⟩
            · exact ⟨v, by omega, ed⟩
          · rintro ⟨b, hb, eb⟩
            by_cases e : b = v
            · subst e
              rw [ed] at eb
              exact Or.inr ((nI_eq (by omega) (by omega)).mp eb)
            · exact Or.inl ⟨b, by omega, eb⟩) 0 ⟨Nat.zero_le _, 0, by decide, rfl, by rw [cntS_0]; exact Nat.zero_le _, fun c _ => by simp⟩
  refine ⟨S, hS, ?_, p, p2⟩
  unfold M_sleepersIn
  exact bO e _
set_option maxRecDepth 16384 in
theorem mlooksTogether_ok (w : Wf (rd h 141)) {r : Nat} (hr : r < 4) : ∃ v, M_looksTogether h (nI r) = some v := by
  obtain ⟨m, hm, em⟩ := w.2.2.2.2.2.1 r hr
  obtain ⟨S, hS, eS, -, -⟩ := msleepersIn_ok w hr hm em
  obtain ⟨t, ht, et⟩ := w.1
  obtain ⟨x, e, -⟩ := loop0 (fun n s v => M_looksTogether_L11 h (nI r) (nI S) n s (nI v)) 12 (fun _ _ => True) (fun _ => True) (by decide) (fun n s v hv _ => by
    rw [M_looksTogether_L11, m2, Option.bind_some, et]
    by_cases z : t ≤ v
    · exact Or.inl ⟨_, if_pos (nI_le z (by omega)), trivial⟩
    · obtain ⟨_, _, k, _, _, _, _, _, _, ek, _⟩ := mlooks_ok w (by omega : v < 12) hr
      rw [if_neg (nI_ge (by omega) (by omega)), ek, Option.bind_some, nI_1]
      refine Or.inr ⟨by omega, ?_⟩
      by_cases q : (nI S >>> (nI v &&& 31)) &&& 1 = 1
      · rw [if_pos q]; exact ⟨_, trivial, rfl⟩
      · rw [if_neg q]; exact ⟨_, trivial, rfl⟩) 0 trivial
  refine ⟨x, ?_⟩
  unfold M_looksTogether
  rw [eS, Option.bind_some]
  exact bO e _
end
