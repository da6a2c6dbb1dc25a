/-! ===== the class: its calls keep it whole and never throw what is not caught ===== -/
def SameA (h' : Hp) (a : Nat) (h : Hp) (o : Nat) : Prop := (∀ i, (i < 6 ∨ i = 12 ∨ i = 15) → rd h' a i = rd h o i) ∧ (∀ i, i < 12 → rd h' (a + 1) i = rd h (o + 1) i) ∧ (∀ i, i < 96 → rd h' (a + 2) i = rd h (o + 2) i) ∧ (∀ i, i < 12 → rd h' (a + 3) i = rd h (o + 3) i) ∧ (∀ i, i < 12 → rd h' (a + 4) i = rd h (o + 4) i) ∧ (∀ i, i < 12 → rd h' (a + 5) i = rd h (o + 5) i) ∧ (∀ i, i < 12 → rd h' (a + 6) i = rd h (o + 6) i) ∧ (∀ i, i < 4 → rd h' (a + 7) i = rd h (o + 7) i) ∧ (∀ i, i < 36 → rd h' (a + 8) i = rd h (o + 8) i) ∧ (∀ i, i < 5 → rd h' (a + 9) i = rd h (o + 9) i) ∧ ∀ i, i < 5 → rd h' (a + 10) i = rd h (o + 10) i
set_option maxRecDepth 16384 in
theorem Arc.same {h h' : Hp} {a o : Nat} (I : Arc h o) (s : SameA h' a h o) : Arc h' a := by
  obtain ⟨s0, s1, s2, s3, s4, s5, s6, s7, s8, -⟩ := s
  refine ⟨?_, ?_, ?_, ?_, ?_, ?_, ?_, ?_, ?_⟩
  · rw [s0 5 (by decide)]; exact I.1
  · rw [s0 12 (by decide)]; exact I.2.1
  · rw [s0 15 (by decide)]; exact I.2.2.1
  · intro i hi; rw [s1 i hi]; exact I.len i hi
  · intro i hi; rw [s2 i hi]; exact I.cols i hi
  · intro i hi; rw [s3 i hi]; exact I.hash i hi
  · intro i hi; rw [s5 i hi]; exact I.fats i hi
  · intro i hi; rw [s7 i hi]; exact I.beds i hi
  · intro i hi; rw [s8 i hi]; exact I.bed i hi
set_option maxRecDepth 16384 in
set_option maxHeartbeats 4000000 in
theorem copyFrom_same (h : Hp) {a o : Nat} (hd : a + 11 ≤ o ∨ o + 11 ≤ a) : ∃ h', A_copyFrom h a o = some h' ∧ SameA h' a h o ∧ Fr a 11 h h' := by
  obtain ⟨h', e, f⟩ := copyFrom_ok h a o
  refine ⟨h', e, ?_, f⟩
  have e : some _ = some h' := e
  have e := (Option.some.inj e).symm
  subst e
  refine ⟨fun i hi => ?_, fun i hi => ?_, fun i hi => ?_, fun i hi => ?_, fun i hi => ?_, fun i hi => ?_, fun i hi => ?_, fun i hi => ?_, fun i hi => ?_, fun i hi => ?_, fun i hi => ?_⟩
  · simp (discharger := omega) only [rd_up2_ne, rd_acp_ne, rd_up2_self]
    rcases (show i = 0 ∨ i = 1 ∨ i = 2 ∨ i = 3 ∨ i = 4 ∨ i = 5 ∨ i = 12 ∨ i = 15 by omega) with rfl | rfl | rfl | rfl | rfl | rfl | rfl | rfl <;> simp [upd]
  all_goals simp (discharger := omega) only [rd_up2_ne, rd_acp_ne, rd_acp_self, if_pos hi]
set_option maxRecDepth 16384 in
theorem Arx.same {h h' : Hp} {a o : Nat} (I : Arx h o) (s : SameA h' a h o) : Arx h' a := by
  have A := I.1.same s
  obtain ⟨s0, s1, s2, s3, s4, s5, s6, s7, s8, -⟩ := s
  have n12 := I.1.n12
  have R4 := I.1.R4
  have m9 := I.1.m9
  refine ⟨A, ?_, ?_⟩
  · unfold LieA
    rw [s0 5 (by decide), s0 12 (by decide)]
    refine Lie.cg I.2.1 (fun r hr => by rw [s7 r (by omega)]) (fun c hc _ => by rw [s3 c (by omega)]) (fun c hc => by rw [s4 c (by omega)]) (fun r b hr hb => ?_)
    have hb : b < vn (rd h (o + 7) r) := hb
    have := m9 r hr
    exact s8 _ (by omega)
  · have B := I.2.2
    unfold AccA at B ⊢
    rw [s0 5 (by decide), s0 2 (by decide), s0 3 (by decide), isum_cg (f := rd h' (a + 5)) (g := rd h (o + 5)) _ (fun i hi => s5 i (by omega))]
    exact B
def IC (h : Hp) : Prop := Arx h 1 ∧ Arx h 23 ∧ (∀ i, i < 8 → Arx h (52 + 11 * i)) ∧ Sp h ∧ Sc 8 (rd h 0 5) ∧ Sc 7 (rd h 0 6) ∧ Sc 81 (rd h 0 9)
/-- what a call of the class leaves -/
def Cs (h h' : Hp) : Prop := IC h' ∧ (∀ k, 140 ≤ k → k ≠ 150 → rd h' k = rd h k) ∧ rd h' 47 1 = rd h 47 1
set_option maxRecDepth 16384 in
theorem Sp.cg {h h' : Hp} (s : Sp h) (e : ∀ k, 35 ≤ k → k < 51 → rd h' k = rd h k) : Sp h' :=
  ⟨s.1.cg fun k a b => e k (by omega) (by omega), s.2.1.cg (e 47 (by decide) (by decide)), by rw [e 35 (by decide) (by decide)]; exact s.2.2.1, by rw [e 49 (by decide) (by decide)]; exact s.2.2.2⟩
set_option maxRecDepth 16384 in
theorem IC.cg {h h' : Hp} (I : IC h) (e : ∀ k, k < 140 → (k < 12 ∨ 23 ≤ k) → rd h' k = rd h k) : IC h' := by
  obtain ⟨i1, i2, i3, i4, i5, i6, i7⟩ := I
  refine ⟨i1.cg fun k a b => e k (by omega) (by omega), i2.cg fun k a b => e k (by omega) (by omega), fun i hi => (i3 i hi).cg fun k a b => e k (by omega) (by omega), i4.cg fun k a b => e k (by omega) (by omega), ?_, ?_, ?_⟩
  · rw [e 0 (by decide) (by decide)]; exact i5
  · rw [e 0 (by decide) (by decide)]; exact i6
  · rw [e 0 (by decide) (by decide)]; exact i7
set_option maxRecDepth 16384 in
theorem IC.now {h h' : Hp} (I : IC h) (w : Wx h 1 h') : IC h' := by
  obtain ⟨i1, i2, i3, i4, i5, i6, i7⟩ := I
  refine ⟨w.1, i2.cg fun k a b => w.2 k (by omega), fun i hi => (i3 i hi).cg fun k a b => w.2 k (by omega), i4.cg fun k a b => w.2 k (by omega), ?_, ?_, ?_⟩
  · rw [w.2 0 (by decide)]; exact i5
  · rw [w.2 0 (by decide)]; exact i6
  · rw [w.2 0 (by decide)]; exact i7
set_option maxRecDepth 16384 in
theorem Cs.rf {h : Hp} (I : IC h) : Cs h h := ⟨I, fun _ _ _ => rfl, rfl⟩
set_option maxRecDepth 16384 in
theorem Cs.tr {h0 h1 h2 : Hp} (x : Cs h0 h1) (y : Cs h1 h2) : Cs h0 h2 := ⟨y.1, fun k a b => (y.2.1 k a b).trans (x.2.1 k a b), y.2.2.trans x.2.2⟩
set_option maxRecDepth 16384 in
theorem Cs.now {h h' : Hp} (I : IC h) (w : Wx h 1 h') : Cs h h' := ⟨I.now w, fun k a _ => w.2 k (by omega), by rw [w.2 47 (by decide)]⟩
set_option maxRecDepth 16384 in
theorem Cs.out {h h' : Hp} (x : Cs h h') (v : Int32) : Cs h (up2 h' 150 0 v) :=
  ⟨x.1.cg fun k a _ => rd_up2_ne (by omega), fun k a b => by rw [rd_up2_ne b]; exact x.2.1 k a b, by rw [rd_up2_ne (by decide)]; exact x.2.2⟩
set_option maxRecDepth 16384 in
theorem Cs.trial {h h' : Hp} (I : IC h) (f : Fr 12 11 h h') : Cs h h' := ⟨I.cg fun k a b => f k (by omega), fun k a _ => f k (by omega), by rw [f 47 (by decide)]⟩
set_option maxRecDepth 16384 in
theorem L_of {C : Option ((Nat × Hp) ⊕ (Int32 × Hp))} {E : Nat → Hp → Option (Int32 × Hp)} {h : Hp} (I : IC h) (hC : (∃ i t, C = some (.inl (i, h)) ∧ E i h = some (t, h)) ∨ ∃ v h1, C = some (.inr (v, h1)) ∧ Cs h h1) : ∃ t h2, caB C E (fun x => nm (up2 x.2 150 0 x.1) fun h3 => some ((0 : Int32), h3)) = some (t, h2) ∧ Cs h h2 := by
  rcases hC with ⟨i, t, e, e2⟩ | ⟨v, h1, e, c⟩
  · rw [e, caB_l]; exact ⟨t, h, e2, Cs.rf I⟩
  · rw [e, caB_r]; exact ⟨0, _, rfl, c.out v⟩
set_option maxRecDepth 16384 in
theorem needClip_cases {h : Hp} (I : Arc h 1) (p : Int32) : C_needClip h p = some (.inl (3, h)) ∨ ∃ c, c < 12 ∧ p = nI c ∧ nI c < rd h 1 5 ∧ C_needClip h p = some (.inr h) := by
  obtain ⟨n, hn, en⟩ := I.clips
  unfold C_needClip
  by_cases h0 : p < 0
  · exact Or.inl (if_pos h0)
  · rw [if_neg h0]
    by_cases h1 : p < rd h 1 5
    · obtain ⟨j, hj, rfl⟩ := nI_of h0
      have := h1
      rw [en] at this
      have := (nI_ltI hj (by omega)).mp this
      exact Or.inr ⟨j, by omega, rfl, h1, if_pos h1⟩
    · exact Or.inl (if_neg h1)
set_option maxRecDepth 16384 in
theorem needReel_cases {h : Hp} (I : Arc h 1) (p : Int32) : C_needReel h p = some (.inl (3, h)) ∨ ∃ c, c < 4 ∧ p = nI c ∧ nI c < rd h 1 12 ∧ C_needReel h p = some (.inr h) := by
  obtain ⟨n, hn, en⟩ := I.reels
  unfold C_needReel
  by_cases h0 : p < 0
  · exact Or.inl (if_pos h0)
  · rw [if_neg h0]
    by_cases h1 : p < rd h 1 12
    · obtain ⟨j, hj, rfl⟩ := nI_of h0
      have := h1
      rw [en] at this
      have := (nI_ltI hj (by omega)).mp this
      exact Or.inr ⟨j, by omega, rfl, h1, if_pos h1⟩
    · exact Or.inl (if_neg h1)
set_option maxRecDepth 16384 in
theorem needScene_cases {h : Hp} (I : Arc h 1) (p : Int32) : C_needScene h p = some (.inl (3, h)) ∨ ∃ c, c < 5 ∧ p = nI c ∧ nI c < rd h 1 15 ∧ C_needScene h p = some (.inr h) := by
  obtain ⟨n, hn, en⟩ := I.scenes
  unfold C_needScene
  by_cases h0 : p < 0
  · exact Or.inl (if_pos h0)
  · rw [if_neg h0]
    by_cases h1 : p < rd h 1 15
    · obtain ⟨j, hj, rfl⟩ := nI_of h0
      have := h1
      rw [en] at this
      have := (nI_ltI hj (by omega)).mp this
      exact Or.inr ⟨j, by omega, rfl, h1, if_pos h1⟩
    · exact Or.inl (if_neg h1)
set_option maxRecDepth 16384 in
theorem needRange_cases (h : Hp) (p : Int32) (lo hi : Nat) (hh : hi < 2 ^ 31) (hl : lo ≤ hi) : C_needRange h p (nI lo) (nI hi) = some (.inl (1, h)) ∨ ∃ j, lo ≤ j ∧ j ≤ hi ∧ p = nI j ∧ C_needRange h p (nI lo) (nI hi) = some (.inr h) := by
  rcases range_or p lo hi hh hl with w | ⟨j, hj, rfl⟩
  · exact Or.inl (range_out w)
  · exact Or.inr ⟨lo + j, by omega, by omega, rfl, range_in (nI_nlt (by omega) (by omega)) (nI_nlt (by omega) (by omega))⟩
set_option maxRecDepth 16384 in
theorem remember_ic {h : Hp} (I : IC h) : ∃ h', C_remember h = some h' ∧ Cs h h' ∧ (∀ k, 1 ≤ k → (k < 52 ∨ 140 ≤ k) → rd h' k = rd h k) := by
  obtain ⟨i1, i2, i3, i4, ⟨p, hp, ep⟩, ⟨e, he, ee⟩, i7⟩ := I
  obtain ⟨h3, e3, s3, f3⟩ := copyFrom_same h (a := 52 + 11 * e) (o := 1) (by omega)
  have pa : paO (nI e) = some (52 + 11 * e) := by
    unfold paO
    rw [nI_clamp (by omega), if_neg (by
      rintro (q | q)
      · exact nI_pos (by omega) q
      · omega)]
  have z6 : rd h3 0 6 = nI e := by rw [f3 0 (by omega), ee]
  have z5 : rd h3 0 5 = nI p := by rw [f3 0 (by omega), ep]
  obtain ⟨h4, e4⟩ : ∃ h4, h4 = up2 h3 0 6 (nI ((e + 1) % 8)) := ⟨_, rfl⟩
  have z54 : rd h4 0 5 = nI p := by rw [e4, rd_up2_self, upd_ne (by decide), z5]
  obtain ⟨h5, e5⟩ : ∃ h5, h5 = up2 h4 0 5 (nI (min (p + 1) 8)) := ⟨_, rfl⟩
  have k5 : ∀ k, 1 ≤ k → rd h5 k = rd h3 k := fun k a => by rw [e5, rd_up2_ne (by omega), e4, rd_up2_ne (by omega)]
  have fr : ∀ k, 1 ≤ k → (k < 52 ∨ 140 ≤ k) → rd h5 k = rd h k := fun k a b => by rw [k5 k a, f3 k (by omega)]
  refine ⟨h5, ?_, ⟨⟨i1.cg fun k a b => fr k (by omega) (by omega), i2.cg fun k a b => fr k (by omega) (by omega), fun i hi => ?_, i4.cg fun k a b => fr k (by omega) (by omega), ?_, ?_, ?_⟩, fun k a b => fr k (by omega) (by omega), by rw [fr 47 (by decide) (by decide)]⟩, fr⟩
  · unfold C_remember nm
    rw [ee, pa, Option.bind_some, e3, Option.bind_some]
    dsimp only
    rw [z6, nI_1, show nI (e + 1) - nI (e + 1) / 8 * 8 = nI ((e + 1) % 8) from pk_rem (d := 8) (by omega) (by decide) (by decide), ← e4, z54, nI_1, show mnI (nI (p + 1)) 8 = nI (min (p + 1) 8) from mn_nI (y := 8) (by omega) (by decide), ← e5]
  · by_cases c : i = e
    · subst c
      exact (i1.same s3).cg fun k a b => k5 k (by omega)
    · refine (i3 i hi).cg fun k a b => ?_
      rw [k5 k (by omega), f3 k (by omega)]
  · rw [e5, rd_up2_self, upd_self]; exact ⟨min (p + 1) 8, Nat.min_le_right _ _, rfl⟩
  · rw [e5, rd_up2_self, upd_ne (by decide), e4, rd_up2_self, upd_self]; exact ⟨(e + 1) % 8, by omega, rfl⟩
  · rw [e5, rd_up2_self, upd_ne (by decide), e4, rd_up2_self, upd_ne (by decide), f3 0 (by omega)]; exact i7

set_option maxRecDepth 16384 in
theorem change {h : Hp} (I : IC h) {F : Hp → Option (Int32 × Hp)} (hF : ∀ g, Arx g 1 → (∀ k, 1 ≤ k → (k < 52 ∨ 140 ≤ k) → rd g k = rd h k) → ∃ v g', F g = some (v, g') ∧ Wx g 1 g') : ∃ v h1, ((C_remember h).bind fun h6 => (F h6).bind fun x => some (Sum.inr (α := Nat × Hp) (x.1, x.2))) = some (.inr (v, h1)) ∧ Cs h h1 := by
  obtain ⟨h6, e6, c6, f6⟩ := remember_ic I
  obtain ⟨v, g, e, w⟩ := hF h6 c6.1.1 f6
  exact ⟨v, g, by rw [e6, Option.bind_some, e, Option.bind_some], c6.tr (Cs.now c6.1 w)⟩
