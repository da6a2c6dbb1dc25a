/-! ===== the model's stronger keeping: who lies where, and the account ===== -/
theorem hashL_eq {h g : Hp} {c d : Nat} (hc : c < 12) (hd : d < 12) (e : rd h 141 (8 + 4 * c) = rd g 141 (8 + 4 * d)) : ∀ (n : Nat) (s v : Int32), M_hashOf_L4 h (nI c) n s v = M_hashOf_L4 g (nI d) n s v
  | 0, s, v => by rw [M_hashOf_L4, M_hashOf_L4]
  | n + 1, s, v => by
    rw [M_hashOf_L4, M_hashOf_L4, mof0 hc, mof0 hd, e]
    simp only [Option.bind_some, hashL_eq hc hd e n]
/-- the hash of a clip with these colours -/
noncomputable def hx (x : Int32) : Nat := match M_hashOf (up2 [] 141 (8 + 4 * 0) x) (nI 0) with
  | some q => vn q
  | none => 0
theorem hx_eq {h : Hp} {c q : Nat} (hc : c < 12) (hq : q ≤ 996) (e : M_hashOf h (nI c) = some (nI q)) : hx (rd h 141 (8 + 4 * c)) = q := by
  have e2 : M_hashOf (up2 [] 141 (8 + 4 * 0) (rd h 141 (8 + 4 * c))) (nI 0) = some (nI q) := by
    rw [← e]
    unfold M_hashOf
    rw [hashL_eq (h := h) (g := up2 [] 141 (8 + 4 * 0) (rd h 141 (8 + 4 * c))) (d := 0) hc (by decide) (by rw [rd_up2_self, upd_self])]
  unfold hx
  rw [e2]
  exact vn_nI (by omega)
def LieM (f : Nat → Int32) : Prop := Lie (vn (f 2)) (vn (f 3)) (fun r => vn (f (56 + r))) (fun c => hx (f (8 + 4 * c))) (fun c => f (8 + 4 * c + 1) = 1) (fun i => f (60 + i))
def AccM (f : Nat → Int32) : Prop := 40 * f 2 + f 6 = isum (fun c => f (8 + 4 * c + 2)) (vn (f 2)) + f 5
def Wfx (f : Nat → Int32) : Prop := Wf f ∧ LieM f ∧ AccM f
section
variable {f f' : Nat → Int32}
theorem Wf.n12 (w : Wf f) : vn (f 2) ≤ 12 := by
  obtain ⟨t, ht, et⟩ := w.1
  rw [et, vn_nI (by omega)]; exact ht
theorem Wf.R4 (w : Wf f) : vn (f 3) ≤ 4 := by
  obtain ⟨t, ht, et⟩ := w.2.1
  rw [et, vn_nI (by omega)]; exact ht
theorem Wf.m9 (w : Wf f) : ∀ r, r < vn (f 3) → vn (f (56 + r)) ≤ 9 := fun r hr => by
  have := w.R4
  obtain ⟨m, hm, em⟩ := w.2.2.2.2.2.1 r (by omega)
  rw [em, vn_nI (by omega)]; exact hm
theorem Em_vn (w : Wf f) {r b : Nat} : Em f r b ↔ r < vn (f 3) ∧ b < vn (f (56 + r)) := by
  have h4 := w.R4
  have h9 := w.m9
  obtain ⟨t, ht, et⟩ := w.2.1
  unfold Em
  constructor
  · rintro ⟨h1, h2, h3, h5⟩
    obtain ⟨m, hm, em⟩ := w.2.2.2.2.2.1 r h1
    rw [et] at h3 ⊢
    rw [em] at h5 ⊢
    rw [vn_nI (by omega), vn_nI (by omega)]
    exact ⟨(nI_ltI (by omega) (by omega)).mp h3, (nI_ltI (by omega) (by omega)).mp h5⟩
  · rintro ⟨h1, h2⟩
    have m9 := h9 r h1
    obtain ⟨m, hm, em⟩ := w.2.2.2.2.2.1 r (by omega)
    rw [et] at h1 ⊢
    rw [em] at h2 ⊢
    rw [vn_nI (by omega)] at h1 h2
    exact ⟨by omega, by omega, nI_lt h1 (by omega), nI_lt h2 (by omega)⟩
/-- beds, ways, states and counts are the same -/
theorem LieM.of (w : Wf f) (L : LieM f) (e2 : f' 2 = f 2) (e3 : f' 3 = f 3) (ec : ∀ r, r < 4 → f' (56 + r) = f (56 + r)) (e0 : ∀ c, c < 12 → f' (8 + 4 * c) = f (8 + 4 * c)) (e1 : ∀ c, c < 12 → f' (8 + 4 * c + 1) = f (8 + 4 * c + 1)) (eB : ∀ i, i < 36 → f' (60 + i) = f (60 + i)) : LieM f' := by
  have n12 := w.n12
  have R4 := w.R4
  have m9 := w.m9
  unfold LieM
  rw [e2, e3]
  refine Lie.cg L (fun r hr => by rw [ec r (by omega)]) (fun c hc _ => by rw [e0 c (by omega)]) (fun c hc => by rw [e1 c (by omega)]) (fun r b hr hb => ?_)
  have hb : b < vn (f (56 + r)) := hb
  have := m9 r hr
  exact eB _ (by omega)
theorem AccM.of (w : Wf f) (A : AccM f) (e2 : f' 2 = f 2) (e6 : f' 6 = f 6) (e5 : f' 5 = f 5) (ef : ∀ c, c < 12 → f' (8 + 4 * c + 2) = f (8 + 4 * c + 2)) : AccM f' := by
  have n12 := w.n12
  unfold AccM at A ⊢
  rw [e2, e6, e5, isum_cg (f := fun c => f' (8 + 4 * c + 2)) (g := fun c => f (8 + 4 * c + 2)) _ (fun c hc => ef c (by omega))]
  exact A
theorem Wfx.cg (w : Wfx f) (e : ∀ i, i < 106 → f' i = f i) : Wfx f' :=
  ⟨w.1.cg e, w.2.1.of w.1 (e 2 (by decide)) (e 3 (by decide)) (fun r _ => e _ (by omega)) (fun c _ => e _ (by omega)) (fun c _ => e _ (by omega)) (fun i _ => e _ (by omega)), w.2.2.of w.1 (e 2 (by decide)) (e 6 (by decide)) (e 5 (by decide)) (fun c _ => e _ (by omega))⟩
theorem wfx_free (w : Wfx f) {i : Nat} {x : Int32} (hi : i < 2 ∨ i = 7 ∨ (8 ≤ i ∧ i < 56 ∧ i % 4 = 3) ∨ 96 ≤ i) : Wfx (upd f i x) := by
  refine ⟨wf_free w.1 (by omega), w.2.1.of w.1 ?_ ?_ (fun r _ => ?_) (fun c _ => ?_) (fun c _ => ?_) (fun j _ => ?_), w.2.2.of w.1 ?_ ?_ ?_ (fun c _ => ?_)⟩ <;> rw [upd_ne (by omega)]
theorem LieM.gone (w : Wf f) (L : LieM f) {c : Nat} (hc : c < 12) {st : Int32} (hst : st ≠ 1) (e2 : f' 2 = f 2) (e3 : f' 3 = f 3) (ec : ∀ r, r < 4 → f' (56 + r) = f (56 + r)) (e0 : ∀ c, c < 12 → f' (8 + 4 * c) = f (8 + 4 * c)) (e1 : ∀ x, x < 12 → f' (8 + 4 * x + 1) = if x = c then st else f (8 + 4 * x + 1)) (eB : ((∀ i, i < 36 → f' (60 + i) = f (60 + i)) ∧ ∀ r b, Em f r b → f (60 + (9 * r + b)) ≠ nI c) ∨ ∃ r b, Em f r b ∧ f (60 + (9 * r + b)) = nI c ∧ ∀ i, i < 36 → f' (60 + i) = if i = 9 * r + b then -2 else f (60 + i)) : LieM f' := by
  have n12 := w.n12
  have R4 := w.R4
  have m9 := w.m9
  have ea : ∀ x, x < vn (f 2) → (f' (8 + 4 * x + 1) = 1 ↔ f (8 + 4 * x + 1) = 1 ∧ x ≠ c) := fun x hx => by
    rw [e1 x (by omega)]
    by_cases q : x = c
    · rw [if_pos q]
      exact ⟨fun z => absurd z hst, fun z => absurd q z.2⟩
    · rw [if_neg q]
      exact ⟨fun z => ⟨z, q⟩, fun z => z.1⟩
  unfold LieM
  rw [e2, e3]
  rcases eB with ⟨eB, no⟩ | ⟨r, b, hx, eb, eB⟩
  · refine (Lie.away L (c := c) fun r b hr hb => ?_).cg (fun r hr => by rw [ec r (by omega)]) (fun c hc _ => by rw [e0 c (by omega)]) ea (fun r b hr hb => ?_)
    · rw [show r * 9 + b = 9 * r + b by omega]
      exact no r b ((Em_vn w).mpr ⟨hr, hb⟩)
    · have hb : b < vn (f (56 + r)) := hb
      have := m9 r hr
      exact eB _ (by omega)
  · obtain ⟨hr, hb⟩ := (Em_vn w).mp hx
    refine (Lie.leave w.n12 w.m9 L hc hr hb (by rw [show r * 9 + b = 9 * r + b by omega]; exact eb)).cg (fun r hr => by rw [ec r (by omega)]) (fun c hc _ => by rw [e0 c (by omega)]) ea (fun r' b' hr' hb' => ?_)
    have hb' : b' < vn (f (56 + r')) := hb'
    have := m9 r' hr'
    show f' (60 + (r' * 9 + b')) = upd (fun i => f (60 + i)) (r * 9 + b) (-2) (r' * 9 + b')
    rw [eB _ (by omega)]
    by_cases z : r' * 9 + b' = 9 * r + b
    · rw [if_pos z, show r * 9 + b = r' * 9 + b' by omega, upd_self]
    · rw [if_neg z, upd_ne (by omega)]
end
section
variable {h : Hp}
def Mz (h h' : Hp) : Prop := Wfx (rd h' 141) ∧ ∀ k, k ≠ 141 → rd h' k = rd h k
theorem Mz.rf (w : Wfx (rd h 141)) : Mz h h := ⟨w, fun _ _ => rfl⟩
theorem Mz.tr {h0 h1 h2 : Hp} (x : Mz h0 h1) (y : Mz h1 h2) : Mz h0 h2 := ⟨y.1, fun k a => (y.2 k a).trans (x.2 k a)⟩
theorem Mz.mk {h0 h' : Hp} (x : Mz h0 h') : Mk h0 h' := ⟨x.1.1, x.2⟩
theorem mz_up {h0 : Hp} (m : Mz h0 h) {i : Nat} {x : Int32} (w : Wfx (upd (rd h 141) i x)) : Mz h0 (up2 h 141 i x) :=
  ⟨by rw [rd_up2_self]; exact w, fun k a => by rw [rd_up2_ne a]; exact m.2 k a⟩
theorem mleaves_x (w : Wfx (rd h 141)) {c : Nat} (hc : c < 12) {x : Int32} (hx : x ≠ 1) : ∃ v h', M_leaves h (nI c) x = some (v, h') ∧ Mz h h' := by
  rcases mleaves_eq w.1 hc x with ⟨no, e⟩ | ⟨r, b, hb, eb, e⟩
  · refine ⟨_, _, e, mz_up (Mz.rf w) ⟨wf_free w.1 (by omega), ?_, ?_⟩⟩
    · refine LieM.gone w.1 w.2.1 hc hx (by rw [upd_ne (by omega)]) (by rw [upd_ne (by omega)]) (fun r _ => by rw [upd_ne (by omega)]) (fun c _ => by rw [upd_ne (by omega)]) (fun y _ => ?_) (Or.inl ⟨fun i _ => by rw [upd_ne (by omega)], no⟩)
      by_cases q : y = c
      · subst q; rw [upd_self, if_pos rfl]
      · rw [upd_ne (by omega), if_neg q]
    · refine w.2.2.of w.1 ?_ ?_ ?_ (fun c _ => ?_) <;> rw [upd_ne (by omega)]
  · have h1 := hb.1
    have h2 := hb.2.1
    have W0 : Wf (upd (rd h 141) (60 + (9 * r + b)) (-2)) := wf_bed w.1 (by omega) (Or.inr (Or.inl rfl))
    refine ⟨_, _, e, ?_, fun k a => by rw [rd_up2_ne a, rd_up2_ne a]⟩
    rw [rd_up2_self, rd_up2_self]
    refine ⟨wf_free W0 (by omega), ?_, ?_⟩
    · refine LieM.gone w.1 w.2.1 hc hx ?_ ?_ (fun r _ => ?_) (fun c _ => ?_) (fun y _ => ?_) (Or.inr ⟨r, b, hb, eb, fun i _ => ?_⟩)
      · rw [upd_ne (by omega), upd_ne (by omega)]
      · rw [upd_ne (by omega), upd_ne (by omega)]
      · rw [upd_ne (by omega), upd_ne (by omega)]
      · rw [upd_ne (by omega), upd_ne (by omega)]
      · by_cases q : y = c
        · subst q; rw [upd_self, if_pos rfl]
        · rw [upd_ne (by omega), upd_ne (by omega), if_neg q]
      · by_cases q : i = 9 * r + b
        · subst q; rw [upd_ne (by omega), upd_self, if_pos rfl]
        · rw [upd_ne (by omega), upd_ne (by omega), if_neg q]
    · refine w.2.2.of w.1 ?_ ?_ ?_ (fun c _ => ?_) <;> rw [upd_ne (by omega), upd_ne (by omega)]
theorem mliesDown_x (w : Wfx (rd h 141)) {c r : Nat} (hc : c < vn (rd h 141 2)) (hr : r < vn (rd h 141 3)) (na : rd h 141 (8 + 4 * c + 1) ≠ 1) (hu : ∃ u, M_passedBy h (nI c) (nI r) = some u ∧ u ≠ -1) : ∃ v h', M_liesDown h (nI c) (nI r) = some (v, h') ∧ Mz h h' := by
  have n12 := w.1.n12
  have R4 := w.1.R4
  have m9 := w.1.m9
  have c12 : c < 12 := by omega
  obtain ⟨q, m, k, hq, hm, eq, em, hk, free, full, e, mk⟩ := mliesDown_eq w.1 c12 (show r < 4 by omega) hu
  have hb := Nat.mod_lt (q + k) (show 0 < m by omega)
  have wbe : ∀ j, wb q m j = (q + j) % m := fun j => by unfold wb; rw [if_pos (by omega)]
  refine ⟨_, _, e, ⟨mk.1, ?_, ?_⟩, mk.2⟩
  · have eh := hx_eq c12 hq eq
    have ec : vn (rd h 141 (56 + r)) = m := by rw [em, vn_nI (by omega)]
    have L := Lie.lay w.1.n12 w.1.m9 w.2.1 hc na hr (k := k) (by rw [ec]; exact hk) (by rw [eh, ec, wbe, show r * 9 + (q + k) % m = 9 * r + (q + k) % m by omega]; exact free) (fun j hj => by rw [eh, ec, wbe, show r * 9 + (q + j) % m = 9 * r + (q + j) % m by omega]; exact full j hj)
    rw [eh, ec, wbe] at L
    unfold LieM
    rw [rd_up2_self, rd_up2_self, upd_ne (show 2 ≠ 8 + 4 * c + 1 by omega), upd_ne (show 2 ≠ 60 + (9 * r + (q + k) % m) by omega), upd_ne (show 3 ≠ 8 + 4 * c + 1 by omega), upd_ne (show 3 ≠ 60 + (9 * r + (q + k) % m) by omega)]
    refine L.cg (fun r' _ => ?_) (fun c' _ _ => ?_) (fun x _ => ?_) (fun r' b' hr' hb' => ?_)
    · rw [upd_ne (by omega), upd_ne (by omega)]
    · rw [upd_ne (by omega), upd_ne (by omega)]
    · show upd (upd (rd h 141) (60 + (9 * r + (q + k) % m)) (nI c)) (8 + 4 * c + 1) 1 (8 + 4 * x + 1) = 1 ↔ rd h 141 (8 + 4 * x + 1) = 1 ∨ x = c
      by_cases z : x = c
      · subst z; rw [upd_self]; exact ⟨fun _ => Or.inr rfl, fun _ => rfl⟩
      · rw [upd_ne (by omega), upd_ne (by omega)]; exact ⟨Or.inl, fun y => y.resolve_right z⟩
    · have hb' : b' < vn (rd h 141 (56 + r')) := hb'
      have := m9 r' hr'
      show upd (upd (rd h 141) (60 + (9 * r + (q + k) % m)) (nI c)) (8 + 4 * c + 1) 1 (60 + (r' * 9 + b')) = upd (fun i => rd h 141 (60 + i)) (r * 9 + (q + k) % m) (nI c) (r' * 9 + b')
      rw [upd_ne (by omega)]
      by_cases z : r' * 9 + b' = r * 9 + (q + k) % m
      · rw [z, upd_self, show 60 + (r * 9 + (q + k) % m) = 60 + (9 * r + (q + k) % m) by omega, upd_self]
      · rw [upd_ne z, upd_ne (by omega)]
  · rw [rd_up2_self, rd_up2_self]
    refine w.2.2.of w.1 ?_ ?_ ?_ (fun c _ => ?_) <;> rw [upd_ne (by omega), upd_ne (by omega)]
end
