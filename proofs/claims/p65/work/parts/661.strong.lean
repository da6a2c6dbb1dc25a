/-! ===== the archive's stronger keeping: who lies where, and the account ===== -/
abbrev vn (x : Int32) : Nat := x.toNatClampNeg
theorem vn_nI {k : Nat} (h : k < 2 ^ 31) : vn (nI k) = k := Int32.toNatClampNeg_ofNat_of_lt h
def isum (f : Nat → Int32) : Nat → Int32
  | 0 => 0
  | k + 1 => isum f k + f k
theorem isum_cg {f g : Nat → Int32} : ∀ n, (∀ i, i < n → f i = g i) → isum f n = isum g n
  | 0, _ => rfl
  | n + 1, h => by
    show isum f n + f n = isum g n + g n
    rw [isum_cg n (fun i hi => h i (by omega)), h n (by omega)]
theorem isum_upd {f : Nat → Int32} {i : Nat} {x : Int32} : ∀ n, i < n → isum (upd f i x) n + f i = isum f n + x
  | 0, h => absurd h (Nat.not_lt_zero _)
  | n + 1, h => by
    show isum (upd f i x) n + upd f i x n + f i = isum f n + f n + x
    by_cases e : i = n
    · subst e
      rw [upd_self, isum_cg (f := upd f i x) (g := f) i (fun j hj => upd_ne (by omega))]
      ac_rfl
    · have ih := isum_upd (f := f) (x := x) n (show i < n by omega)
      rw [upd_ne (show n ≠ i by omega), show isum (upd f i x) n + f n + f i = (isum (upd f i x) n + f i) + f n by ac_rfl, ih]
      ac_rfl
def LieA (h : Hp) (a : Nat) : Prop := Lie (vn (rd h a 5)) (vn (rd h a 12)) (fun r => vn (rd h (a + 7) r)) (fun c => vn (rd h (a + 3) c)) (fun c => rd h (a + 4) c = 1) (rd h (a + 8))
def AccA (h : Hp) (a : Nat) : Prop := 40 * rd h a 5 + rd h a 2 = isum (rd h (a + 5)) (vn (rd h a 5)) + rd h a 3
def Arx (h : Hp) (a : Nat) : Prop := Arc h a ∧ LieA h a ∧ AccA h a
def Wx (h0 : Hp) (a : Nat) (h' : Hp) : Prop := Arx h' a ∧ Fr a 11 h0 h'
section
variable {h : Hp} {a : Nat}
theorem Arx.cg {h' : Hp} (I : Arx h a) (e : ∀ k, a ≤ k → k < a + 11 → rd h' k = rd h k) : Arx h' a := by
  refine ⟨I.1.cg e, ?_, ?_⟩
  · unfold LieA
    rw [e a (by omega) (by omega), e (a + 3) (by omega) (by omega), e (a + 4) (by omega) (by omega), e (a + 7) (by omega) (by omega), e (a + 8) (by omega) (by omega)]
    exact I.2.1
  · unfold AccA
    rw [e a (by omega) (by omega), e (a + 5) (by omega) (by omega)]
    exact I.2.2
theorem Wx.rf (I : Arx h a) : Wx h a h := ⟨I, Fr.rf _ _ _⟩
theorem Wx.tr {h0 h1 h2 : Hp} (x : Wx h0 a h1) (y : Wx h1 a h2) : Wx h0 a h2 := ⟨y.1, x.2.tr y.2⟩
theorem Wx.wk {h0 h' : Hp} (x : Wx h0 a h') : Wk h0 a h' := ⟨x.1.1, x.2⟩
/-- what neither the beds nor the account speak of -/
theorem Arx.of {h' : Hp} (I : Arx h a) (A : Arc h' a) (e2 : rd h' a 2 = rd h a 2) (e3 : rd h' a 3 = rd h a 3) (e5 : rd h' a 5 = rd h a 5) (e12 : rd h' a 12 = rd h a 12) (r : ∀ k, k = a + 3 ∨ k = a + 4 ∨ k = a + 5 ∨ k = a + 7 ∨ k = a + 8 → rd h' k = rd h k) : Arx h' a := by
  refine ⟨A, ?_, ?_⟩
  · unfold LieA
    rw [e5, e12, r (a + 3) (by omega), r (a + 4) (by omega), r (a + 7) (by omega), r (a + 8) (by omega)]
    exact I.2.1
  · unfold AccA
    rw [e5, e2, e3, r (a + 5) (by omega)]
    exact I.2.2
theorem Arc.n12 (I : Arc h a) : vn (rd h a 5) ≤ 12 := by
  obtain ⟨t, ht, et⟩ := I.clips
  rw [et, vn_nI (by omega)]; exact ht
theorem Arc.R4 (I : Arc h a) : vn (rd h a 12) ≤ 4 := by
  obtain ⟨t, ht, et⟩ := I.reels
  rw [et, vn_nI (by omega)]; exact ht
theorem Arc.m9 (I : Arc h a) : ∀ r, r < vn (rd h a 12) → vn (rd h (a + 7) r) ≤ 9 := fun r hr => by
  have := I.R4
  obtain ⟨m, hm, em⟩ := I.beds r (by omega)
  rw [em, vn_nI (by omega)]; exact hm
theorem Ex_vn (I : Arc h a) {r b : Nat} : Ex h a r b ↔ r < vn (rd h a 12) ∧ b < vn (rd h (a + 7) r) := by
  have h4 := I.R4
  have h9 := I.m9
  obtain ⟨t, ht, et⟩ := I.reels
  unfold Ex
  constructor
  · rintro ⟨h1, h2, h3, h5⟩
    obtain ⟨m, hm, em⟩ := I.beds r h1
    rw [et] at h3 ⊢
    rw [em] at h5 ⊢
    rw [vn_nI (by omega), vn_nI (by omega)]
    exact ⟨(nI_ltI (by omega) (by omega)).mp h3, (nI_ltI (by omega) (by omega)).mp h5⟩
  · rintro ⟨h1, h2⟩
    have m9 := h9 r h1
    obtain ⟨m, hm, em⟩ := I.beds r (by omega)
    rw [et] at h1 ⊢
    rw [em] at h2 ⊢
    rw [vn_nI (by omega)] at h1 h2
    exact ⟨by omega, by omega, nI_lt h1 (by omega), nI_lt h2 (by omega)⟩
/-- a clip that gets a state other than ASLEEP and leaves its bed, if it has one -/
theorem LieA.gone (I : Arc h a) (L : LieA h a) {c : Nat} (hc : c < 12) {h' : Hp} {st : Int32} (hst : st ≠ 1) (e4 : rd h' (a + 4) = upd (rd h (a + 4)) c st) (e8 : (rd h' (a + 8) = rd h (a + 8) ∧ ∀ r b, Ex h a r b → rd h (a + 8) (r * 9 + b) ≠ nI c) ∨ ∃ r b, Ex h a r b ∧ rd h (a + 8) (r * 9 + b) = nI c ∧ rd h' (a + 8) = upd (rd h (a + 8)) (r * 9 + b) (-2)) (e5 : rd h' a 5 = rd h a 5) (e12 : rd h' a 12 = rd h a 12) (e3 : rd h' (a + 3) = rd h (a + 3)) (e7 : rd h' (a + 7) = rd h (a + 7)) : LieA h' a := by
  unfold LieA
  rw [e5, e12, e3, e7, e4]
  have ea : ∀ x, x < vn (rd h a 5) → (upd (rd h (a + 4)) c st x = 1 ↔ rd h (a + 4) x = 1 ∧ x ≠ c) := fun x _ => by
    by_cases q : x = c
    · subst q
      rw [upd_self]
      exact ⟨fun z => absurd z hst, fun z => absurd rfl z.2⟩
    · rw [upd_ne q]
      exact ⟨fun z => ⟨z, q⟩, fun z => z.1⟩
  rcases e8 with ⟨e8, no⟩ | ⟨r, b, hx, eb, e8⟩
  · rw [e8]
    exact (Lie.away L fun r b hr hb => no r b ((Ex_vn I).mpr ⟨hr, hb⟩)).cg (fun _ _ => rfl) (fun _ _ _ => rfl) ea (fun _ _ _ _ => rfl)
  · rw [e8]
    obtain ⟨hr, hb⟩ := (Ex_vn I).mp hx
    exact (Lie.leave I.n12 I.m9 L hc hr hb eb).cg (fun _ _ => rfl) (fun _ _ _ => rfl) ea (fun _ _ _ _ => rfl)
theorem AccA.of {h' : Hp} (A : AccA h a) (e5 : rd h' a 5 = rd h a 5) (e2 : rd h' a 2 = rd h a 2) (e3 : rd h' a 3 = rd h a 3) (r5 : rd h' (a + 5) = rd h (a + 5)) : AccA h' a := by
  unfold AccA
  rw [e5, e2, e3, r5]; exact A
theorem rouse_x (I : Arx h a) {c : Nat} (hc : c < 12) : ∃ v h', A_rouse h a (nI c) = some (v, h') ∧ Wx h a h' := by
  obtain ⟨h1, e1⟩ : ∃ h1, h1 = up2 h (a + 4) c 0 := ⟨_, rfl⟩
  have I1 : Arc h1 a := by rw [e1]; exact I.1.any (by omega)
  have R : ∀ k, k ≠ a + 4 → rd h1 k = rd h k := fun k hk => by rw [e1, rd_up2_ne hk]
  have ex : ∀ r b, Ex h1 a r b ↔ Ex h a r b := fun r b => by unfold Ex; rw [R a (by omega), R (a + 7) (by omega)]
  have hA : A_rouse h a (nI c) = (A_leaveBed h1 a (nI c)).bind fun (t, h2) => some (t, h2) := by
    unfold A_rouse
    rw [wrO_in hc (by decide), Option.bind_some, ← e1]
  have r4 : rd h1 (a + 4) = upd (rd h (a + 4)) c 0 := by rw [e1, rd_up2_self]
  rcases leaveBed_eq I1 (nI c) with ⟨e, no⟩ | ⟨r, b, hx, eb, e⟩
  · refine ⟨-1, h1, by rw [hA, e]; rfl, ⟨I1, ?_, ?_⟩, by rw [e1]; exact (Fr.rf _ _ _).up (by omega)⟩
    · refine LieA.gone I.1 I.2.1 hc (st := 0) (by decide) r4 (Or.inl ⟨R _ (by omega), fun r b hx => ?_⟩) (by rw [R a (by omega)]) (by rw [R a (by omega)]) (R _ (by omega)) (R _ (by omega))
      rw [← R (a + 8) (by omega)]
      exact no r b ((ex r b).mpr hx)
    · exact I.2.2.of (by rw [R a (by omega)]) (by rw [R a (by omega)]) (by rw [R a (by omega)]) (R _ (by omega))
  · have h1x := hx.1
    have h2x := hx.2.1
    refine ⟨nI r, _, by rw [hA, e]; rfl, ⟨I1.wbed (Or.inr (Or.inl rfl)), ?_, ?_⟩, by rw [e1]; exact ((Fr.rf _ _ _).up (by omega)).up (by omega)⟩
    · refine LieA.gone I.1 I.2.1 hc (st := 0) (by decide) (by rw [rd_up2_ne (by omega), r4]) (Or.inr ⟨r, b, (ex r b).mp hx, by rw [← R (a + 8) (by omega)]; exact eb, by rw [rd_up2_self, R (a + 8) (by omega)]⟩) ?_ ?_ ?_ ?_
      · rw [rd_up2_ne (by omega), R a (by omega)]
      · rw [rd_up2_ne (by omega), R a (by omega)]
      · rw [rd_up2_ne (by omega), R _ (by omega)]
      · rw [rd_up2_ne (by omega), R _ (by omega)]
    · refine I.2.2.of ?_ ?_ ?_ ?_
      · rw [rd_up2_ne (by omega), R a (by omega)]
      · rw [rd_up2_ne (by omega), R a (by omega)]
      · rw [rd_up2_ne (by omega), R a (by omega)]
      · rw [rd_up2_ne (by omega), R _ (by omega)]
theorem layDown_x (I : Arx h a) {c r : Nat} (hc : c < vn (rd h a 5)) (hr : r < vn (rd h a 12)) (na : rd h (a + 4) c ≠ 1) : ∃ v h', A_layDown h a (nI c) (nI r) = some (v, h') ∧ Wx h a h' := by
  have n12 := I.1.n12
  have R4 := I.1.R4
  rcases layDown_eq I.1 (show c < 12 by omega) (show r < 4 by omega) with ⟨e, -⟩ | ⟨q, m, k, hq, hm, eq, em, hk, free, full, -, e⟩
  · exact ⟨_, _, e, Wx.rf I⟩
  · refine ⟨_, _, e, ⟨(I.1.wbed (Or.inr (Or.inr ⟨c, by omega, rfl⟩))).any (by omega), ?_, ?_⟩, ((Fr.rf _ _ _).up (by omega)).up (by omega)⟩
    · have eh : vn (rd h (a + 3) c) = q := by rw [eq, vn_nI (by omega)]
      have ec : vn (rd h (a + 7) r) = m := by rw [em, vn_nI (by omega)]
      have L := Lie.lay I.1.n12 I.1.m9 I.2.1 hc na hr (k := k) (by rw [ec]; exact hk) (by rw [eh, ec]; exact free) (fun j hj => by rw [eh, ec]; exact full j hj)
      rw [eh, ec] at L
      unfold LieA
      rw [rd_up2_ne (show a ≠ a + 4 by omega), rd_up2_ne (show a ≠ a + 8 by omega), rd_up2_ne (show a + 3 ≠ a + 4 by omega), rd_up2_ne (show a + 3 ≠ a + 8 by omega), rd_up2_ne (show a + 7 ≠ a + 4 by omega), rd_up2_ne (show a + 7 ≠ a + 8 by omega), rd_up2_ne (show a + 8 ≠ a + 4 by omega), rd_up2_self, rd_up2_self, rd_up2_ne (show a + 4 ≠ a + 8 by omega)]
      refine L.cg (fun _ _ => rfl) (fun _ _ _ => rfl) (fun x _ => ?_) (fun _ _ _ _ => rfl)
      by_cases z : x = c
      · subst z; rw [upd_self]; exact ⟨fun _ => Or.inr rfl, fun _ => rfl⟩
      · rw [upd_ne z]; exact ⟨Or.inl, fun y => y.resolve_right z⟩
    · refine I.2.2.of ?_ ?_ ?_ ?_ <;> rw [rd_up2_ne (by omega), rd_up2_ne (by omega)]
end
