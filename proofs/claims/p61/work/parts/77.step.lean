/-! ===== the step: both sides stay whole, no call throws ===== -/
def scB (n : Nat) (x : Int32) : Bool := decide (x.toNatClampNeg ≤ n) && decide (x = nI x.toNatClampNeg)
theorem scB_ok {n : Nat} {x : Int32} (h : scB n x = true) : Sc n x := by
  unfold scB at h
  rw [Bool.and_eq_true, decide_eq_true_eq, decide_eq_true_eq] at h
  exact ⟨_, h.1, h.2⟩
def bvB (x : Int32) : Bool := decide (x = -1) || decide (x = -2) || (decide (x.toNatClampNeg < 12) && decide (x = nI x.toNatClampNeg))
theorem bvB_ok {x : Int32} (h : bvB x = true) : Bv x := by
  unfold bvB at h
  rw [Bool.or_eq_true, Bool.or_eq_true, Bool.and_eq_true, decide_eq_true_eq, decide_eq_true_eq, decide_eq_true_eq, decide_eq_true_eq] at h
  rcases h with (h | h) | h
  · exact Or.inl h
  · exact Or.inr (Or.inl h)
  · exact Or.inr (Or.inr ⟨_, h.1, h.2⟩)
noncomputable def arcB (h : Hp) (a : Nat) : Bool := scB 12 (rd h a 5) && scB 4 (rd h a 12) && scB 5 (rd h a 15) && (List.range 12).all (fun i => scB 8 (rd h (a + 1) i)) && (List.range 96).all (fun i => scB 9 (rd h (a + 2) i)) && (List.range 12).all (fun i => scB 996 (rd h (a + 3) i)) && (List.range 12).all (fun i => scB 99 (rd h (a + 5) i)) && (List.range 4).all (fun i => scB 9 (rd h (a + 7) i)) && (List.range 36).all (fun i => bvB (rd h (a + 8) i))
theorem allR {p : Nat → Bool} {n : Nat} (h : (List.range n).all p = true) : ∀ i, i < n → p i = true := fun i hi => List.all_eq_true.mp h i (List.mem_range.mpr hi)
theorem arcB_ok {h : Hp} {a : Nat} (e : arcB h a = true) : Arc h a := by
  unfold arcB at e
  simp only [Bool.and_eq_true] at e
  obtain ⟨⟨⟨⟨⟨⟨⟨⟨e1, e2⟩, e3⟩, e4⟩, e5⟩, e6⟩, e7⟩, e8⟩, e9⟩ := e
  exact ⟨scB_ok e1, scB_ok e2, scB_ok e3, fun i hi => scB_ok (allR e4 i hi), fun i hi => scB_ok (allR e5 i hi), fun i hi => scB_ok (allR e6 i hi), fun i hi => scB_ok (allR e7 i hi), fun i hi => scB_ok (allR e8 i hi), fun i hi => bvB_ok (allR e9 i hi)⟩
def lieB (n R : Nat) (cnt hs : Nat → Nat) (as : Nat → Bool) (B : Nat → Int32) : Bool :=
  ((List.range R).all fun r => (List.range (cnt r)).all fun b => (List.range 12).all fun c => decide (B (r * 9 + b) = nI c → c < n ∧ as c = true)) &&
  (List.range n).all fun c => !as c || (List.range R).any fun r => (List.range (cnt r)).any fun k => decide (B (r * 9 + wb (hs c) (cnt r) k) = nI c) && ((List.range k).all fun j => decide (B (r * 9 + wb (hs c) (cnt r) j) ≠ -1)) && (List.range R).all fun r' => (List.range (cnt r')).all fun b' => decide (B (r' * 9 + b') = nI c → r' = r ∧ b' = wb (hs c) (cnt r) k)
theorem anyR {p : Nat → Bool} {n : Nat} (h : (List.range n).any p = true) : ∃ i, i < n ∧ p i = true := by
  obtain ⟨i, hi, e⟩ := List.any_eq_true.mp h
  exact ⟨i, List.mem_range.mp hi, e⟩
theorem lieB_ok {n R : Nat} {cnt hs : Nat → Nat} {as : Nat → Bool} {B : Nat → Int32} (h : lieB n R cnt hs as B = true) : Lie n R cnt hs (fun c => as c = true) B := by
  unfold lieB at h
  rw [Bool.and_eq_true] at h
  obtain ⟨h1, h2⟩ := h
  refine ⟨fun r b c hr hb hc => of_decide_eq_true (allR (allR (allR h1 r hr) b hb) c hc), fun c hc ha => ?_⟩
  have h3 := allR h2 c hc
  rw [Bool.or_eq_true] at h3
  rcases h3 with h3 | h3
  · rw [ha] at h3; cases h3
  · obtain ⟨r, hr, h4⟩ := anyR h3
    obtain ⟨k, hk, h5⟩ := anyR h4
    rw [Bool.and_eq_true, Bool.and_eq_true] at h5
    obtain ⟨⟨a1, a2⟩, a3⟩ := h5
    exact ⟨r, k, hr, hk, of_decide_eq_true a1, fun j hj => of_decide_eq_true (allR a2 j hj), fun r' b' hr' hb' => of_decide_eq_true (allR (allR a3 r' hr') b' hb')⟩
noncomputable def arxB (h : Hp) (a : Nat) : Bool := arcB h a && lieB (vn (rd h a 5)) (vn (rd h a 12)) (fun r => vn (rd h (a + 7) r)) (fun c => vn (rd h (a + 3) c)) (fun c => decide (rd h (a + 4) c = 1)) (rd h (a + 8)) && decide (40 * rd h a 5 + rd h a 2 = isum (rd h (a + 5)) (vn (rd h a 5)) + rd h a 3)
theorem arxB_ok {h : Hp} {a : Nat} (e : arxB h a = true) : Arx h a := by
  unfold arxB at e
  rw [Bool.and_eq_true, Bool.and_eq_true] at e
  obtain ⟨⟨e1, e2⟩, e3⟩ := e
  exact ⟨arcB_ok e1, (lieB_ok e2).cg (fun _ _ => rfl) (fun _ _ _ => rfl) (fun c _ => (decide_eq_true_iff).symm) (fun _ _ _ _ => rfl), by unfold AccA; exact of_decide_eq_true e3⟩
set_option maxRecDepth 16384 in
theorem IC_HM : IC HM := by
  refine ⟨arxB_ok (by decide +kernel), arxB_ok (by decide +kernel), fun i hi => arxB_ok ?_, ⟨arxB_ok (by decide +kernel), ⟨scB_ok (by decide +kernel), scB_ok (by decide +kernel), scB_ok (by decide +kernel), scB_ok (by decide +kernel), fun q => absurd q (by decide +kernel)⟩, scB_ok (by decide +kernel), fun i hi => scB_ok ?_⟩, scB_ok (by decide +kernel), scB_ok (by decide +kernel), scB_ok (by decide +kernel)⟩
  · have : ∀ i, i < 8 → arxB HM (52 + 11 * i) = true := by decide +kernel
    exact this i hi
  · have : ∀ i, i < 2 → scB 600 (rd HM 49 i) = true := by decide +kernel
    exact this i hi
def wfB (f : Nat → Int32) : Bool := scB 12 (f 2) && scB 4 (f 3) && scB 5 (f 4) && (List.range 12).all (fun c => scB 99999999 (f (8 + 4 * c))) && (List.range 12).all (fun c => scB 99 (f (8 + 4 * c + 2))) && (List.range 4).all (fun r => scB 9 (f (56 + r))) && (List.range 4).all (fun r => decide (nI r < f 3 → ¬ f (56 + r) = 0)) && (List.range 36).all (fun i => bvB (f (60 + i)))
theorem wfB_ok {f : Nat → Int32} (e : wfB f = true) : Wf f := by
  unfold wfB at e
  simp only [Bool.and_eq_true] at e
  obtain ⟨⟨⟨⟨⟨⟨⟨e1, e2⟩, e3⟩, e4⟩, e5⟩, e6⟩, e7⟩, e8⟩ := e
  exact ⟨scB_ok e1, scB_ok e2, scB_ok e3, fun i hi => scB_ok (allR e4 i hi), fun i hi => scB_ok (allR e5 i hi), fun i hi => scB_ok (allR e6 i hi), fun i hi => of_decide_eq_true (allR e7 i hi), fun i hi => bvB_ok (allR e8 i hi)⟩
noncomputable def wfxB (f : Nat → Int32) : Bool := wfB f && lieB (vn (f 2)) (vn (f 3)) (fun r => vn (f (56 + r))) (fun c => hx (f (8 + 4 * c))) (fun c => decide (f (8 + 4 * c + 1) = 1)) (fun i => f (60 + i)) && decide (40 * f 2 + f 6 = isum (fun c => f (8 + 4 * c + 2)) (vn (f 2)) + f 5)
theorem wfxB_ok {f : Nat → Int32} (e : wfxB f = true) : Wfx f := by
  unfold wfxB at e
  rw [Bool.and_eq_true, Bool.and_eq_true] at e
  obtain ⟨⟨e1, e2⟩, e3⟩ := e
  exact ⟨wfB_ok e1, (lieB_ok e2).cg (fun _ _ => rfl) (fun _ _ _ => rfl) (fun c _ => (decide_eq_true_iff).symm) (fun _ _ _ _ => rfl), by unfold AccM; exact of_decide_eq_true e3⟩
set_option maxRecDepth 16384 in
theorem IM_HM : IM HM := by
  refine ⟨wfxB_ok (by decide +kernel), fun i hi => wfxB_ok ?_, wfxB_ok (by decide +kernel), scB_ok (by decide +kernel), scB_ok (by decide +kernel), scB_ok (by decide +kernel)⟩
  have : ∀ i, i < 8 → wfxB (slot (rd HM 144) i) = true := by decide +kernel
  exact this i hi
def Iv (h : Hp) : Prop := IC h ∧ IM h ∧ ∃ s, s ≤ 600 ∧ rd h 47 1 = nI s ∧ rd h 140 9 = nI s
set_option maxRecDepth 16384 in
theorem Iv_HM : Iv HM := ⟨IC_HM, IM_HM, 0, by decide, by decide +kernel, by decide +kernel⟩
set_option maxRecDepth 16384 in
theorem IM.keep {h h' : Hp} (I : IM h) (e : ∀ k, 140 ≤ k → k ≠ 150 → rd h' k = rd h k) : IM h' :=
  I.cg (fun i _ => by rw [e 141 (by decide) (by decide)]) (e 144 (by decide) (by decide)) (e 145 (by decide) (by decide)) (fun i _ => by rw [e 140 (by decide) (by decide)])
set_option maxRecDepth 16384 in
theorem IC.keep {h h' : Hp} (I : IC h) (e : ∀ k, (k < 140 ∨ 150 ≤ k) → rd h' k = rd h k) : IC h' := I.cg fun k a _ => e k (Or.inl a)
set_option maxRecDepth 16384 in
theorem Iv.cs {h h' : Hp} (I : Iv h) (c : Cs h h') : Iv h' := by
  obtain ⟨i1, i2, s, hs, e1, e2⟩ := I
  exact ⟨c.1, i2.keep c.2.1, s, hs, by rw [c.2.2, e1], by rw [c.2.1 140 (by decide) (by decide), e2]⟩
set_option maxRecDepth 16384 in
theorem Iv.ms {h h' : Hp} (I : Iv h) (c : Ms h h') : Iv h' := by
  obtain ⟨i1, i2, s, hs, e1, e2⟩ := I
  exact ⟨i1.keep c.2.1, c.1, s, hs, by rw [c.2.1 47 (by decide), e1], by rw [c.2.2, e2]⟩
set_option maxRecDepth 16384 in
theorem sk_0 {h : Hp} (I : Iv h) (a1 : Int32) (a2 : Int32) (a3 : Int32) (a4 : Int32) (a5 : Int32) : ∃ r, K_0 h a1 a2 a3 a4 a5 = some r ∧ Iv r := by
  obtain ⟨i1, i2, s, hs, e1, e2⟩ := I
  obtain ⟨h2, e, c1, c2, c3⟩ := cc_append i1 a1 a2 a3 a4 a5 hs e1
  obtain ⟨h4, f, d1, d2, d3⟩ := mc_append (i2.keep c2) a1 a2 a3 a4 a5 hs ((congrFun (c2 140 (by decide) (by decide)) 9).trans e2)
  refine ⟨h4, ?_, c1.keep d2, d1, (if s + 20 ≤ 600 then s + 20 else s), by split <;> omega, (congrFun (d2 47 (by decide)) 1).trans c3, d3⟩
  unfold K_0
  rw [e]
  dsimp only [Option.bind_some]
  rw [f]
  rfl
set_option maxRecDepth 16384 in
theorem sk_1 {h : Hp} (I : Iv h) (a1 : Int32) : ∃ r, K_1 h a1 = some r ∧ Iv r := by
  obtain ⟨i1, i2, s, hs, e1, e2⟩ := I
  rcases lc_truncateInput i1 a1 hs e1 with ⟨e, z⟩ | ⟨j, h2, hj, ej, e, -, c1, c2, c3⟩
  · rcases mc_truncateInput i2 a1 hs e2 with ⟨x, h4, -, f, d⟩ | ⟨j, h4, hj, ej, -⟩
    · refine ⟨h4, ?_, Iv.ms ⟨i1, i2, s, hs, e1, e2⟩ d⟩
      unfold K_1
      rw [e]
      dsimp only [Option.bind_some]
      rw [f]
      rfl
    · subst ej
      exact z.elim (fun z => absurd z (nI_pos (by omega))) (fun z => absurd z (nI_nlt (by omega) (by omega)))
  · rcases mc_truncateInput (i2.keep c2) a1 hs ((congrFun (c2 140 (by decide) (by decide)) 9).trans e2) with ⟨x, h4, z, -⟩ | ⟨i, h4, hi, ei, f, d1, d2, d3⟩
    · subst ej
      exact z.elim (fun z => absurd z (nI_pos (by omega))) (fun z => absurd z (nI_nlt (by omega) (by omega)))
    · refine ⟨h4, ?_, c1.keep d2, d1, i, by omega, ?_, d3⟩
      · unfold K_1
        rw [e]
        dsimp only [Option.bind_some]
        rw [f]
        rfl
      · rw [d2 47 (by decide), c3, ← ej, ei]
set_option maxRecDepth 16384 in
theorem sk_2 {h : Hp} (I : Iv h) : ∃ r, K_2 h = some r ∧ Iv r := by
  obtain ⟨i1, i2, s, hs, e1, e2⟩ := I
  obtain ⟨v, h2, e, c1, c2, c3⟩ := cc_runScript i1
  obtain ⟨w, h4, f, d1, d2, d3⟩ := mc_runScript (i2.keep c2)
  refine ⟨h4, ?_, c1.keep d2, d1, 0, by decide, (congrFun (d2 47 (by decide)) 1).trans c3, d3⟩
  unfold K_2
  rw [e]
  dsimp only [Option.bind_some]
  rw [f]
  rfl
set_option maxRecDepth 16384 in
theorem sk_3 {h : Hp} (I : Iv h) (a1 : Int32) : ∃ r, K_3 h a1 = some r ∧ Iv r := by
  obtain ⟨t, h2, e, c⟩ := lc_addClip I.1 a1
  obtain ⟨v, h4, f, m⟩ := mc_addClip (I.cs c).2.1 a1
  refine ⟨h4, ?_, (I.cs c).ms m⟩
  unfold K_3
  rw [e]
  dsimp only [Option.bind_some]
  rw [f]
  rfl
set_option maxRecDepth 16384 in
theorem sk_4 {h : Hp} (I : Iv h) (a1 : Int32) : ∃ r, K_4 h a1 = some r ∧ Iv r := by
  obtain ⟨t, h2, e, c⟩ := lc_addReel I.1 a1
  obtain ⟨v, h4, f, m⟩ := mc_addReel (I.cs c).2.1 a1
  refine ⟨h4, ?_, (I.cs c).ms m⟩
  unfold K_4
  rw [e]
  dsimp only [Option.bind_some]
  rw [f]
  rfl
set_option maxRecDepth 16384 in
theorem sk_5 {h : Hp} (I : Iv h) (a1 : Int32) : ∃ r, K_5 h a1 = some r ∧ Iv r := by
  obtain ⟨t, h2, e, c⟩ := lc_addScene I.1 a1
  obtain ⟨v, h4, f, m⟩ := mc_addScene (I.cs c).2.1 a1
  refine ⟨h4, ?_, (I.cs c).ms m⟩
  unfold K_5
  rw [e]
  dsimp only [Option.bind_some]
  rw [f]
  rfl
set_option maxRecDepth 16384 in
theorem sk_6 {h : Hp} (I : Iv h) (a1 : Int32) (a2 : Int32) : ∃ r, K_6 h a1 a2 = some r ∧ Iv r := by
  obtain ⟨t, h2, e, c⟩ := lc_sleep I.1 a1 a2
  obtain ⟨v, h4, f, m⟩ := mc_sleep (I.cs c).2.1 a1 a2
  refine ⟨h4, ?_, (I.cs c).ms m⟩
  unfold K_6
  rw [e]
  dsimp only [Option.bind_some]
  rw [f]
  rfl
set_option maxRecDepth 16384 in
theorem sk_7 {h : Hp} (I : Iv h) (a1 : Int32) : ∃ r, K_7 h a1 = some r ∧ Iv r := by
  obtain ⟨t, h2, e, c⟩ := lc_wake I.1 a1
  obtain ⟨v, h4, f, m⟩ := mc_wake (I.cs c).2.1 a1
  refine ⟨h4, ?_, (I.cs c).ms m⟩
  unfold K_7
  rw [e]
  dsimp only [Option.bind_some]
  rw [f]
  rfl
set_option maxRecDepth 16384 in
theorem sk_8 {h : Hp} (I : Iv h) (a1 : Int32) (a2 : Int32) : ∃ r, K_8 h a1 a2 = some r ∧ Iv r := by
  obtain ⟨t, h2, e, c⟩ := lc_cut I.1 a1 a2
  obtain ⟨v, h4, f, m⟩ := mc_cut (I.cs c).2.1 a1 a2
  refine ⟨h4, ?_, (I.cs c).ms m⟩
  unfold K_8
  rw [e]
  dsimp only [Option.bind_some]
  rw [f]
  rfl
set_option maxRecDepth 16384 in
theorem sk_9 {h : Hp} (I : Iv h) (a1 : Int32) : ∃ r, K_9 h a1 = some r ∧ Iv r := by
  obtain ⟨t, h2, e, c⟩ := lc_air I.1 a1
  obtain ⟨v, h4, f, m⟩ := mc_air (I.cs c).2.1 a1
  refine ⟨h4, ?_, (I.cs c).ms m⟩
  unfold K_9
  rw [e]
  dsimp only [Option.bind_some]
  rw [f]
  rfl
set_option maxRecDepth 16384 in
theorem sk_10 {h : Hp} (I : Iv h) (a1 : Int32) (a2 : Int32) : ∃ r, K_10 h a1 a2 = some r ∧ Iv r := by
  obtain ⟨t, h2, e, c⟩ := lc_feed I.1 a1 a2
  obtain ⟨v, h4, f, m⟩ := mc_feed (I.cs c).2.1 a1 a2
  refine ⟨h4, ?_, (I.cs c).ms m⟩
  unfold K_10
  rw [e]
  dsimp only [Option.bind_some]
  rw [f]
  rfl
set_option maxRecDepth 16384 in
theorem sk_11 {h : Hp} (I : Iv h) (a1 : Int32) : ∃ r, K_11 h a1 = some r ∧ Iv r := by
  obtain ⟨t, h2, e, c⟩ := lc_addFood I.1 a1
  obtain ⟨v, h4, f, m⟩ := mc_addFood (I.cs c).2.1 a1
  refine ⟨h4, ?_, (I.cs c).ms m⟩
  unfold K_11
  rw [e]
  dsimp only [Option.bind_some]
  rw [f]
  rfl
set_option maxRecDepth 16384 in
theorem sk_12 {h : Hp} (I : Iv h) (a1 : Int32) (a2 : Int32) (a3 : Int32) : ∃ r, K_12 h a1 a2 a3 = some r ∧ Iv r := by
  obtain ⟨t, h2, e, c⟩ := lc_paint I.1 a1 a2 a3
  obtain ⟨v, h4, f, m⟩ := mc_paint (I.cs c).2.1 a1 a2 a3
  refine ⟨h4, ?_, (I.cs c).ms m⟩
  unfold K_12
  rw [e]
  dsimp only [Option.bind_some]
  rw [f]
  rfl
set_option maxRecDepth 16384 in
theorem sk_13 {h : Hp} (I : Iv h) (a1 : Int32) : ∃ r, K_13 h a1 = some r ∧ Iv r := by
  obtain ⟨t, h2, e, c⟩ := lc_passWeeks I.1 a1
  obtain ⟨v, h4, f, m⟩ := mc_passWeeks (I.cs c).2.1 a1
  refine ⟨h4, ?_, (I.cs c).ms m⟩
  unfold K_13
  rw [e]
  dsimp only [Option.bind_some]
  rw [f]
  rfl
set_option maxRecDepth 16384 in
theorem sk_14 {h : Hp} (I : Iv h) : ∃ r, K_14 h = some r ∧ Iv r := by
  obtain ⟨t, h2, e, c⟩ := cc_undo I.1
  obtain ⟨v, h4, f, m⟩ := mc_undo (I.cs c).2.1
  refine ⟨h4, ?_, (I.cs c).ms m⟩
  unfold K_14
  rw [e]
  dsimp only [Option.bind_some]
  rw [f]
  rfl
set_option maxRecDepth 16384 in
theorem sk_15 {h : Hp} (I : Iv h) : ∃ r, K_15 h = some r ∧ Iv r := by
  obtain ⟨t, e⟩ : ∃ v, C_undoCount h = some v := ⟨_, rfl⟩
  obtain ⟨v, h4, f, m⟩ := mc_undoCount I.2.1
  refine ⟨h4, ?_, I.ms m⟩
  unfold K_15
  rw [e]
  dsimp only [Option.bind_some]
  rw [f]
  rfl
set_option maxRecDepth 16384 in
theorem sk_16 {h : Hp} (I : Iv h) : ∃ r, K_16 h = some r ∧ Iv r := by
  obtain ⟨t, h2, e, c⟩ := cc_saveSnapshot I.1
  obtain ⟨v, h4, f, m⟩ := mc_saveSnapshot (I.cs c).2.1
  refine ⟨h4, ?_, (I.cs c).ms m⟩
  unfold K_16
  rw [e]
  dsimp only [Option.bind_some]
  rw [f]
  rfl
set_option maxRecDepth 16384 in
theorem sk_17 {h : Hp} (I : Iv h) : ∃ r, K_17 h = some r ∧ Iv r := by
  obtain ⟨t, h2, e, c⟩ := lc_restoreSnapshot I.1
  obtain ⟨v, h4, f, m⟩ := mc_restoreSnapshot (I.cs c).2.1
  refine ⟨h4, ?_, (I.cs c).ms m⟩
  unfold K_17
  rw [e]
  dsimp only [Option.bind_some]
  rw [f]
  rfl
set_option maxRecDepth 16384 in
theorem sk_18 {h : Hp} (I : Iv h) : ∃ r, K_18 h = some r ∧ Iv r := by
  obtain ⟨t, e⟩ : ∃ v, C_scriptErrorKind h = some v := ⟨_, rfl⟩
  obtain ⟨v, h4, f, m⟩ := mc_scriptErrorKind I.2.1
  refine ⟨h4, ?_, I.ms m⟩
  unfold K_18
  rw [e]
  dsimp only [Option.bind_some]
  rw [f]
  rfl
set_option maxRecDepth 16384 in
theorem sk_19 {h : Hp} (I : Iv h) : ∃ r, K_19 h = some r ∧ Iv r := by
  obtain ⟨t, e⟩ : ∃ v, C_scriptErrorOffset h = some v := ⟨_, rfl⟩
  obtain ⟨v, h4, f, m⟩ := mc_scriptErrorOffset I.2.1
  refine ⟨h4, ?_, I.ms m⟩
  unfold K_19
  rw [e]
  dsimp only [Option.bind_some]
  rw [f]
  rfl
set_option maxRecDepth 16384 in
theorem sk_20 {h : Hp} (I : Iv h) : ∃ r, K_20 h = some r ∧ Iv r := by
  obtain ⟨t, e⟩ : ∃ v, C_week h = some v := ⟨_, rfl⟩
  obtain ⟨v, h4, f, m⟩ := mc_week I.2.1
  refine ⟨h4, ?_, I.ms m⟩
  unfold K_20
  rw [e]
  dsimp only [Option.bind_some]
  rw [f]
  rfl
set_option maxRecDepth 16384 in
theorem sk_21 {h : Hp} (I : Iv h) : ∃ r, K_21 h = some r ∧ Iv r := by
  obtain ⟨t, e⟩ : ∃ v, C_food h = some v := ⟨_, rfl⟩
  obtain ⟨v, h4, f, m⟩ := mc_food I.2.1
  refine ⟨h4, ?_, I.ms m⟩
  unfold K_21
  rw [e]
  dsimp only [Option.bind_some]
  rw [f]
  rfl
set_option maxRecDepth 16384 in
theorem sk_22 {h : Hp} (I : Iv h) : ∃ r, K_22 h = some r ∧ Iv r := by
  obtain ⟨t, e⟩ : ∃ v, C_clipCount h = some v := ⟨_, rfl⟩
  obtain ⟨v, h4, f, m⟩ := mc_clipCount I.2.1
  refine ⟨h4, ?_, I.ms m⟩
  unfold K_22
  rw [e]
  dsimp only [Option.bind_some]
  rw [f]
  rfl
set_option maxRecDepth 16384 in
theorem sk_23 {h : Hp} (I : Iv h) : ∃ r, K_23 h = some r ∧ Iv r := by
  obtain ⟨t, e⟩ : ∃ v, C_reelCount h = some v := ⟨_, rfl⟩
  obtain ⟨v, h4, f, m⟩ := mc_reelCount I.2.1
  refine ⟨h4, ?_, I.ms m⟩
  unfold K_23
  rw [e]
  dsimp only [Option.bind_some]
  rw [f]
  rfl
set_option maxRecDepth 16384 in
theorem sk_24 {h : Hp} (I : Iv h) : ∃ r, K_24 h = some r ∧ Iv r := by
  obtain ⟨t, e⟩ : ∃ v, C_sceneCount h = some v := ⟨_, rfl⟩
  obtain ⟨v, h4, f, m⟩ := mc_sceneCount I.2.1
  refine ⟨h4, ?_, I.ms m⟩
  unfold K_24
  rw [e]
  dsimp only [Option.bind_some]
  rw [f]
  rfl
set_option maxRecDepth 16384 in
theorem sk_25 {h : Hp} (I : Iv h) (a1 : Int32) : ∃ r, K_25 h a1 = some r ∧ Iv r := by
  obtain ⟨t, h2, e, c⟩ := lc_springs I.1 a1
  obtain ⟨v, h4, f, m⟩ := mc_springs (I.cs c).2.1 a1
  refine ⟨h4, ?_, (I.cs c).ms m⟩
  unfold K_25
  rw [e]
  dsimp only [Option.bind_some]
  rw [f]
  rfl
set_option maxRecDepth 16384 in
theorem sk_26 {h : Hp} (I : Iv h) (a1 : Int32) : ∃ r, K_26 h a1 = some r ∧ Iv r := by
  obtain ⟨t, h2, e, c⟩ := lc_state I.1 a1
  obtain ⟨v, h4, f, m⟩ := mc_state (I.cs c).2.1 a1
  refine ⟨h4, ?_, (I.cs c).ms m⟩
  unfold K_26
  rw [e]
  dsimp only [Option.bind_some]
  rw [f]
  rfl
set_option maxRecDepth 16384 in
theorem sk_27 {h : Hp} (I : Iv h) (a1 : Int32) : ∃ r, K_27 h a1 = some r ∧ Iv r := by
  obtain ⟨t, h2, e, c⟩ := lc_colours I.1 a1
  obtain ⟨v, h4, f, m⟩ := mc_colours (I.cs c).2.1 a1
  refine ⟨h4, ?_, (I.cs c).ms m⟩
  unfold K_27
  rw [e]
  dsimp only [Option.bind_some]
  rw [f]
  rfl
set_option maxRecDepth 16384 in
theorem sk_28 {h : Hp} (I : Iv h) (a1 : Int32) : ∃ r, K_28 h a1 = some r ∧ Iv r := by
  obtain ⟨t, h2, e, c⟩ := lc_length I.1 a1
  obtain ⟨v, h4, f, m⟩ := mc_length (I.cs c).2.1 a1
  refine ⟨h4, ?_, (I.cs c).ms m⟩
  unfold K_28
  rw [e]
  dsimp only [Option.bind_some]
  rw [f]
  rfl
set_option maxRecDepth 16384 in
theorem sk_29 {h : Hp} (I : Iv h) (a1 : Int32) : ∃ r, K_29 h a1 = some r ∧ Iv r := by
  obtain ⟨t, h2, e, c⟩ := lc_hash I.1 a1
  obtain ⟨v, h4, f, m⟩ := mc_hash (I.cs c).2.1 a1
  refine ⟨h4, ?_, (I.cs c).ms m⟩
  unfold K_29
  rw [e]
  dsimp only [Option.bind_some]
  rw [f]
  rfl
set_option maxRecDepth 16384 in
theorem sk_30 {h : Hp} (I : Iv h) (a1 : Int32) : ∃ r, K_30 h a1 = some r ∧ Iv r := by
  obtain ⟨t, h2, e, c⟩ := lc_fat I.1 a1
  obtain ⟨v, h4, f, m⟩ := mc_fat (I.cs c).2.1 a1
  refine ⟨h4, ?_, (I.cs c).ms m⟩
  unfold K_30
  rw [e]
  dsimp only [Option.bind_some]
  rw [f]
  rfl
set_option maxRecDepth 16384 in
theorem sk_31 {h : Hp} (I : Iv h) (a1 : Int32) : ∃ r, K_31 h a1 = some r ∧ Iv r := by
  obtain ⟨t, h2, e, c⟩ := lc_reelOf I.1 a1
  obtain ⟨v, h4, f, m⟩ := mc_reelOf (I.cs c).2.1 a1
  refine ⟨h4, ?_, (I.cs c).ms m⟩
  unfold K_31
  rw [e]
  dsimp only [Option.bind_some]
  rw [f]
  rfl
set_option maxRecDepth 16384 in
theorem sk_32 {h : Hp} (I : Iv h) (a1 : Int32) : ∃ r, K_32 h a1 = some r ∧ Iv r := by
  obtain ⟨t, h2, e, c⟩ := lc_bedOf I.1 a1
  obtain ⟨v, h4, f, m⟩ := mc_bedOf (I.cs c).2.1 a1
  refine ⟨h4, ?_, (I.cs c).ms m⟩
  unfold K_32
  rw [e]
  dsimp only [Option.bind_some]
  rw [f]
  rfl
set_option maxRecDepth 16384 in
theorem sk_33 {h : Hp} (I : Iv h) (a1 : Int32) : ∃ r, K_33 h a1 = some r ∧ Iv r := by
  obtain ⟨t, h2, e, c⟩ := lc_sceneOf I.1 a1
  obtain ⟨v, h4, f, m⟩ := mc_sceneOf (I.cs c).2.1 a1
  refine ⟨h4, ?_, (I.cs c).ms m⟩
  unfold K_33
  rw [e]
  dsimp only [Option.bind_some]
  rw [f]
  rfl
set_option maxRecDepth 16384 in
theorem sk_34 {h : Hp} (I : Iv h) (a1 : Int32) (a2 : Int32) : ∃ r, K_34 h a1 a2 = some r ∧ Iv r := by
  obtain ⟨t, h2, e, c⟩ := lc_commonRun I.1 a1 a2
  obtain ⟨v, h4, f, m⟩ := mc_commonRun (I.cs c).2.1 a1 a2
  refine ⟨h4, ?_, (I.cs c).ms m⟩
  unfold K_34
  rw [e]
  dsimp only [Option.bind_some]
  rw [f]
  rfl
set_option maxRecDepth 16384 in
theorem sk_35 {h : Hp} (I : Iv h) (a1 : Int32) : ∃ r, K_35 h a1 = some r ∧ Iv r := by
  obtain ⟨t, h2, e, c⟩ := lc_nearestClip I.1 a1
  obtain ⟨v, h4, f, m⟩ := mc_nearestClip (I.cs c).2.1 a1
  refine ⟨h4, ?_, (I.cs c).ms m⟩
  unfold K_35
  rw [e]
  dsimp only [Option.bind_some]
  rw [f]
  rfl
set_option maxRecDepth 16384 in
theorem sk_36 {h : Hp} (I : Iv h) (a1 : Int32) : ∃ r, K_36 h a1 = some r ∧ Iv r := by
  obtain ⟨t, h2, e, c⟩ := lc_twinsOf I.1 a1
  obtain ⟨v, h4, f, m⟩ := mc_twinsOf (I.cs c).2.1 a1
  refine ⟨h4, ?_, (I.cs c).ms m⟩
  unfold K_36
  rw [e]
  dsimp only [Option.bind_some]
  rw [f]
  rfl
set_option maxRecDepth 16384 in
theorem sk_37 {h : Hp} (I : Iv h) (a1 : Int32) : ∃ r, K_37 h a1 = some r ∧ Iv r := by
  obtain ⟨t, h2, e, c⟩ := lc_weeksToFade I.1 a1
  obtain ⟨v, h4, f, m⟩ := mc_weeksToFade (I.cs c).2.1 a1
  refine ⟨h4, ?_, (I.cs c).ms m⟩
  unfold K_37
  rw [e]
  dsimp only [Option.bind_some]
  rw [f]
  rfl
set_option maxRecDepth 16384 in
theorem sk_38 {h : Hp} (I : Iv h) (a1 : Int32) : ∃ r, K_38 h a1 = some r ∧ Iv r := by
  obtain ⟨t, h2, e, c⟩ := lc_bedCount I.1 a1
  obtain ⟨v, h4, f, m⟩ := mc_bedCount (I.cs c).2.1 a1
  refine ⟨h4, ?_, (I.cs c).ms m⟩
  unfold K_38
  rw [e]
  dsimp only [Option.bind_some]
  rw [f]
  rfl
set_option maxRecDepth 16384 in
theorem sk_39 {h : Hp} (I : Iv h) (a1 : Int32) (a2 : Int32) : ∃ r, K_39 h a1 a2 = some r ∧ Iv r := by
  obtain ⟨t, h2, e, c⟩ := lc_bed I.1 a1 a2
  obtain ⟨v, h4, f, m⟩ := mc_bed (I.cs c).2.1 a1 a2
  refine ⟨h4, ?_, (I.cs c).ms m⟩
  unfold K_39
  rw [e]
  dsimp only [Option.bind_some]
  rw [f]
  rfl
set_option maxRecDepth 16384 in
theorem sk_40 {h : Hp} (I : Iv h) (a1 : Int32) : ∃ r, K_40 h a1 = some r ∧ Iv r := by
  obtain ⟨t, h2, e, c⟩ := lc_sleepers I.1 a1
  obtain ⟨v, h4, f, m⟩ := mc_sleepers (I.cs c).2.1 a1
  refine ⟨h4, ?_, (I.cs c).ms m⟩
  unfold K_40
  rw [e]
  dsimp only [Option.bind_some]
  rw [f]
  rfl
set_option maxRecDepth 16384 in
theorem sk_41 {h : Hp} (I : Iv h) (a1 : Int32) (a2 : Int32) : ∃ r, K_41 h a1 a2 = some r ∧ Iv r := by
  obtain ⟨t, h2, e, c⟩ := lc_home I.1 a1 a2
  obtain ⟨v, h4, f, m⟩ := mc_home (I.cs c).2.1 a1 a2
  refine ⟨h4, ?_, (I.cs c).ms m⟩
  unfold K_41
  rw [e]
  dsimp only [Option.bind_some]
  rw [f]
  rfl
set_option maxRecDepth 16384 in
theorem sk_42 {h : Hp} (I : Iv h) (a1 : Int32) (a2 : Int32) : ∃ r, K_42 h a1 a2 = some r ∧ Iv r := by
  obtain ⟨t, h2, e, c⟩ := lc_whyNoSleep I.1 a1 a2
  obtain ⟨v, h4, f, m⟩ := mc_whyNoSleep (I.cs c).2.1 a1 a2
  refine ⟨h4, ?_, (I.cs c).ms m⟩
  unfold K_42
  rw [e]
  dsimp only [Option.bind_some]
  rw [f]
  rfl
set_option maxRecDepth 16384 in
theorem sk_43 {h : Hp} (I : Iv h) (a1 : Int32) (a2 : Int32) : ∃ r, K_43 h a1 a2 = some r ∧ Iv r := by
  obtain ⟨t, h2, e, c⟩ := lc_bedFor I.1 a1 a2
  obtain ⟨v, h4, f, m⟩ := mc_bedFor (I.cs c).2.1 a1 a2
  refine ⟨h4, ?_, (I.cs c).ms m⟩
  unfold K_43
  rw [e]
  dsimp only [Option.bind_some]
  rw [f]
  rfl
set_option maxRecDepth 16384 in
theorem sk_44 {h : Hp} (I : Iv h) (a1 : Int32) (a2 : Int32) : ∃ r, K_44 h a1 a2 = some r ∧ Iv r := by
  obtain ⟨t, h2, e, c⟩ := lc_looksFor I.1 a1 a2
  obtain ⟨v, h4, f, m⟩ := mc_looksFor (I.cs c).2.1 a1 a2
  refine ⟨h4, ?_, (I.cs c).ms m⟩
  unfold K_44
  rw [e]
  dsimp only [Option.bind_some]
  rw [f]
  rfl
set_option maxRecDepth 16384 in
theorem sk_45 {h : Hp} (I : Iv h) (a1 : Int32) : ∃ r, K_45 h a1 = some r ∧ Iv r := by
  obtain ⟨t, h2, e, c⟩ := lc_longestLook I.1 a1
  obtain ⟨v, h4, f, m⟩ := mc_longestLook (I.cs c).2.1 a1
  refine ⟨h4, ?_, (I.cs c).ms m⟩
  unfold K_45
  rw [e]
  dsimp only [Option.bind_some]
  rw [f]
  rfl
set_option maxRecDepth 16384 in
theorem sk_46 {h : Hp} (I : Iv h) (a1 : Int32) : ∃ r, K_46 h a1 = some r ∧ Iv r := by
  obtain ⟨t, h2, e, c⟩ := lc_looksIfAired I.1 a1
  obtain ⟨v, h4, f, m⟩ := mc_looksIfAired (I.cs c).2.1 a1
  refine ⟨h4, ?_, (I.cs c).ms m⟩
  unfold K_46
  rw [e]
  dsimp only [Option.bind_some]
  rw [f]
  rfl
set_option maxRecDepth 16384 in
theorem sk_47 {h : Hp} (I : Iv h) (a1 : Int32) : ∃ r, K_47 h a1 = some r ∧ Iv r := by
  obtain ⟨t, h2, e, c⟩ := lc_longestCluster I.1 a1
  obtain ⟨v, h4, f, m⟩ := mc_longestCluster (I.cs c).2.1 a1
  refine ⟨h4, ?_, (I.cs c).ms m⟩
  unfold K_47
  rw [e]
  dsimp only [Option.bind_some]
  rw [f]
  rfl
set_option maxRecDepth 16384 in
theorem sk_48 {h : Hp} (I : Iv h) (a1 : Int32) : ∃ r, K_48 h a1 = some r ∧ Iv r := by
  obtain ⟨t, h2, e, c⟩ := lc_bestReel I.1 a1
  obtain ⟨v, h4, f, m⟩ := mc_bestReel (I.cs c).2.1 a1
  refine ⟨h4, ?_, (I.cs c).ms m⟩
  unfold K_48
  rw [e]
  dsimp only [Option.bind_some]
  rw [f]
  rfl
set_option maxRecDepth 16384 in
theorem sk_49 {h : Hp} (I : Iv h) (a1 : Int32) (a2 : Int32) : ∃ r, K_49 h a1 a2 = some r ∧ Iv r := by
  obtain ⟨t, h2, e, c⟩ := lc_matches I.1 a1 a2
  obtain ⟨v, h4, f, m⟩ := mc_matches (I.cs c).2.1 a1 a2
  refine ⟨h4, ?_, (I.cs c).ms m⟩
  unfold K_49
  rw [e]
  dsimp only [Option.bind_some]
  rw [f]
  rfl
set_option maxRecDepth 16384 in
theorem sk_50 {h : Hp} (I : Iv h) (a1 : Int32) : ∃ r, K_50 h a1 = some r ∧ Iv r := by
  obtain ⟨t, h2, e, c⟩ := lc_matchingSleepers I.1 a1
  obtain ⟨v, h4, f, m⟩ := mc_matchingSleepers (I.cs c).2.1 a1
  refine ⟨h4, ?_, (I.cs c).ms m⟩
  unfold K_50
  rw [e]
  dsimp only [Option.bind_some]
  rw [f]
  rfl
set_option maxRecDepth 16384 in
theorem sk_51 {h : Hp} (I : Iv h) (a1 : Int32) (a2 : Int32) : ∃ r, K_51 h a1 a2 = some r ∧ Iv r := by
  obtain ⟨t, h2, e, c⟩ := lc_wokenBy I.1 a1 a2
  obtain ⟨v, h4, f, m⟩ := mc_wokenBy (I.cs c).2.1 a1 a2
  refine ⟨h4, ?_, (I.cs c).ms m⟩
  unfold K_51
  rw [e]
  dsimp only [Option.bind_some]
  rw [f]
  rfl
set_option maxRecDepth 16384 in
theorem sk_52 {h : Hp} (I : Iv h) (a1 : Int32) (a2 : Int32) : ∃ r, K_52 h a1 a2 = some r ∧ Iv r := by
  obtain ⟨t, h2, e, c⟩ := lc_firstMatch I.1 a1 a2
  obtain ⟨v, h4, f, m⟩ := mc_firstMatch (I.cs c).2.1 a1 a2
  refine ⟨h4, ?_, (I.cs c).ms m⟩
  unfold K_52
  rw [e]
  dsimp only [Option.bind_some]
  rw [f]
  rfl
set_option maxRecDepth 16384 in
theorem sk_53 {h : Hp} (I : Iv h) (a1 : Int32) : ∃ r, K_53 h a1 = some r ∧ Iv r := by
  obtain ⟨t, h2, e, c⟩ := lc_bestPattern I.1 a1
  obtain ⟨v, h4, f, m⟩ := mc_bestPattern (I.cs c).2.1 a1
  refine ⟨h4, ?_, (I.cs c).ms m⟩
  unfold K_53
  rw [e]
  dsimp only [Option.bind_some]
  rw [f]
  rfl
set_option maxRecDepth 16384 in
theorem sk_54 {h : Hp} (I : Iv h) : ∃ r, K_54 h = some r ∧ Iv r := by
  obtain ⟨t, e⟩ : ∃ v, C_burnedFat h = some v := ⟨_, rfl⟩
  obtain ⟨v, h4, f, m⟩ := mc_burnedFat I.2.1
  refine ⟨h4, ?_, I.ms m⟩
  unfold K_54
  rw [e]
  dsimp only [Option.bind_some]
  rw [f]
  rfl
set_option maxRecDepth 16384 in
theorem sk_55 {h : Hp} (I : Iv h) : ∃ r, K_55 h = some r ∧ Iv r := by
  obtain ⟨t, e⟩ : ∃ v, C_wakings h = some v := ⟨_, rfl⟩
  obtain ⟨v, h4, f, m⟩ := mc_wakings I.2.1
  refine ⟨h4, ?_, I.ms m⟩
  unfold K_55
  rw [e]
  dsimp only [Option.bind_some]
  rw [f]
  rfl
set_option maxRecDepth 16384 in
theorem sk_56 {h : Hp} (I : Iv h) : ∃ r, K_56 h = some r ∧ Iv r := by
  obtain ⟨t, e⟩ : ∃ v, C_fadedClips h = some v := cc_fadedClips I.1
  obtain ⟨v, h4, f, m⟩ := mc_fadedClips I.2.1
  refine ⟨h4, ?_, I.ms m⟩
  unfold K_56
  rw [e]
  dsimp only [Option.bind_some]
  rw [f]
  rfl
set_option maxRecDepth 16384 in
theorem sk_57 {h : Hp} (I : Iv h) : ∃ r, K_57 h = some r ∧ Iv r := by
  obtain ⟨t, e⟩ : ∃ v, C_meanFat h = some v := cc_meanFat I.1
  obtain ⟨v, h4, f, m⟩ := mc_meanFat I.2.1
  refine ⟨h4, ?_, I.ms m⟩
  unfold K_57
  rw [e]
  dsimp only [Option.bind_some]
  rw [f]
  rfl
set_option maxRecDepth 16384 in
theorem sk_58 {h : Hp} (I : Iv h) : ∃ r, K_58 h = some r ∧ Iv r := by
  obtain ⟨t, y, e, ey⟩ := cc_sleepShare I.1
  obtain ⟨v, h4, f, ⟨y2, ey2⟩, m⟩ := mc_sleepShare I.2.1
  refine ⟨h4, ?_, I.ms m⟩
  unfold K_58
  rw [e]
  dsimp only [Option.bind_some]
  rw [ey]
  dsimp only [Option.bind_some]
  rw [f]
  dsimp only [Option.bind_some]
  rw [ey2]
  rfl
set_option maxRecDepth 16384 in
theorem sk_59 {h : Hp} (I : Iv h) : ∃ r, K_59 h = some r ∧ Iv r := by
  obtain ⟨h4, f, m⟩ := mc_zero I.2.1
  refine ⟨h4, ?_, I.ms m⟩
  unfold K_59
  rw [cc_zero I.1]
  dsimp only [Option.bind_some]
  rw [f]
  dsimp only [Option.bind_some]
  rw [if_pos rfl]
set_option maxRecDepth 16384 in
theorem sk_60 {h : Hp} (I : Iv h) (a1 : Int32) : ∃ r, K_60 h a1 = some r ∧ Iv r := by
  obtain ⟨t, h2, e, c⟩ := lc_writeReel I.1 a1
  obtain ⟨v, h4, f, m⟩ := mc_writeReel (I.cs c).2.1 a1
  refine ⟨h4, ?_, (I.cs c).ms m⟩
  unfold K_60
  rw [e]
  dsimp only [Option.bind_some]
  rw [f]
  rfl
set_option maxRecDepth 16384 in
theorem sk_61 {h : Hp} (I : Iv h) (a1 : Int32) : ∃ r, K_61 h a1 = some r ∧ Iv r := by
  obtain ⟨t, e⟩ : ∃ v, C_reportByte h a1 = some v := cc_reportByte I.1 a1
  obtain ⟨v, h4, f, m⟩ := mc_reportByte I.2.1 a1
  refine ⟨h4, ?_, I.ms m⟩
  unfold K_61
  rw [e]
  dsimp only [Option.bind_some]
  rw [f]
  rfl
set_option maxRecDepth 16384 in
theorem step_all {h : Hp} (I : Iv h) (k : Nat) (hk : k < 64) (a1 a2 a3 a4 a5 : Int32) : ∃ r, lawStep k h a1 a2 a3 a4 a5 = some r ∧ Iv r := by
  match k, hk with
  | 0, _ => exact sk_0 I a1 a2 a3 a4 a5
  | 1, _ => exact sk_1 I a1
  | 2, _ => exact sk_2 I
  | 3, _ => exact sk_3 I a1
  | 4, _ => exact sk_4 I a1
  | 5, _ => exact sk_5 I a1
  | 6, _ => exact sk_6 I a1 a2
  | 7, _ => exact sk_7 I a1
  | 8, _ => exact sk_8 I a1 a2
  | 9, _ => exact sk_9 I a1
  | 10, _ => exact sk_10 I a1 a2
  | 11, _ => exact sk_11 I a1
  | 12, _ => exact sk_12 I a1 a2 a3
  | 13, _ => exact sk_13 I a1
  | 14, _ => exact sk_14 I
  | 15, _ => exact sk_15 I
  | 16, _ => exact sk_16 I
  | 17, _ => exact sk_17 I
  | 18, _ => exact sk_18 I
  | 19, _ => exact sk_19 I
  | 20, _ => exact sk_20 I
  | 21, _ => exact sk_21 I
  | 22, _ => exact sk_22 I
  | 23, _ => exact sk_23 I
  | 24, _ => exact sk_24 I
  | 25, _ => exact sk_25 I a1
  | 26, _ => exact sk_26 I a1
  | 27, _ => exact sk_27 I a1
  | 28, _ => exact sk_28 I a1
  | 29, _ => exact sk_29 I a1
  | 30, _ => exact sk_30 I a1
  | 31, _ => exact sk_31 I a1
  | 32, _ => exact sk_32 I a1
  | 33, _ => exact sk_33 I a1
  | 34, _ => exact sk_34 I a1 a2
  | 35, _ => exact sk_35 I a1
  | 36, _ => exact sk_36 I a1
  | 37, _ => exact sk_37 I a1
  | 38, _ => exact sk_38 I a1
  | 39, _ => exact sk_39 I a1 a2
  | 40, _ => exact sk_40 I a1
  | 41, _ => exact sk_41 I a1 a2
  | 42, _ => exact sk_42 I a1 a2
  | 43, _ => exact sk_43 I a1 a2
  | 44, _ => exact sk_44 I a1 a2
  | 45, _ => exact sk_45 I a1
  | 46, _ => exact sk_46 I a1
  | 47, _ => exact sk_47 I a1
  | 48, _ => exact sk_48 I a1
  | 49, _ => exact sk_49 I a1 a2
  | 50, _ => exact sk_50 I a1
  | 51, _ => exact sk_51 I a1 a2
  | 52, _ => exact sk_52 I a1 a2
  | 53, _ => exact sk_53 I a1
  | 54, _ => exact sk_54 I
  | 55, _ => exact sk_55 I
  | 56, _ => exact sk_56 I
  | 57, _ => exact sk_57 I
  | 58, _ => exact sk_58 I
  | 59, _ => exact sk_59 I
  | 60, _ => exact sk_60 I a1
  | 61, _ => exact sk_61 I a1
  | 62, _ => exact ⟨h, rfl, I⟩
  | 63, _ => exact ⟨h, rfl, I⟩
  | k + 64, hk => exact absurd hk (by omega)
