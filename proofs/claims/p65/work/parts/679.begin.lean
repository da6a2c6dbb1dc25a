/-! ===== p65: the archive of a new object keeps all this ===== -/
def scB (n : Nat) (x : Int32) : Bool := decide (x.toNatClampNeg ≤ n) && decide (x = nI x.toNatClampNeg)
theorem scB_ok {n : Nat} {x : Int32} (h : scB n x = true) : Sc n x := by
  unfold scB at h
  rw [Bool.and_eq_true, decide_eq_true_eq, decide_eq_true_eq] at h
  exact ⟨_, h.1, h.2⟩
def bvB (x : Int32) : Bool := decide (x = -1) || decide (x = -2) || (decide (x.toNatClampNeg < 12) && decide (x = nI x.toNatClampNeg))
theorem bvB_ok {x : Int32} (h : bvB x = true) : Bv x := by
  unfold bvB at h
  rw [Bool.or_eq_true, Bool.or_eq_true, Bool.and_eq_true, decide_eq_true_eq, decide_eq_true_eq, decide_eq_true_eq, decide_eq_true_eq] at h
  rcases h with (h | h) | h
  · exact Or.inl h
  · exact Or.inr (Or.inl h)
  · exact Or.inr (Or.inr ⟨_, h.1, h.2⟩)
noncomputable def arcB (h : Hp) (a : Nat) : Bool := scB 12 (rd h a 5) && scB 4 (rd h a 12) && scB 5 (rd h a 15) && (List.range 12).all (fun i => scB 8 (rd h (a + 1) i)) && (List.range 96).all (fun i => scB 9 (rd h (a + 2) i)) && (List.range 12).all (fun i => scB 996 (rd h (a + 3) i)) && (List.range 12).all (fun i => scB 99 (rd h (a + 5) i)) && (List.range 4).all (fun i => scB 9 (rd h (a + 7) i)) && (List.range 36).all (fun i => bvB (rd h (a + 8) i))
theorem allR {p : Nat → Bool} {n : Nat} (h : (List.range n).all p = true) : ∀ i, i < n → p i = true := fun i hi => List.all_eq_true.mp h i (List.mem_range.mpr hi)
theorem arcB_ok {h : Hp} {a : Nat} (e : arcB h a = true) : Arc h a := by
  unfold arcB at e
  simp only [Bool.and_eq_true] at e
  obtain ⟨⟨⟨⟨⟨⟨⟨⟨e1, e2⟩, e3⟩, e4⟩, e5⟩, e6⟩, e7⟩, e8⟩, e9⟩ := e
  exact ⟨scB_ok e1, scB_ok e2, scB_ok e3, fun i hi => scB_ok (allR e4 i hi), fun i hi => scB_ok (allR e5 i hi), fun i hi => scB_ok (allR e6 i hi), fun i hi => scB_ok (allR e7 i hi), fun i hi => scB_ok (allR e8 i hi), fun i hi => bvB_ok (allR e9 i hi)⟩
def lieB (n R : Nat) (cnt hs : Nat → Nat) (as : Nat → Bool) (B : Nat → Int32) : Bool :=
  ((List.range R).all fun r => (List.range (cnt r)).all fun b => (List.range 12).all fun c => decide (B (r * 9 + b) = nI c → c < n ∧ as c = true)) &&
  (List.range n).all fun c => !as c || (List.range R).any fun r => (List.range (cnt r)).any fun k => decide (B (r * 9 + wb (hs c) (cnt r) k) = nI c) && ((List.range k).all fun j => decide (B (r * 9 + wb (hs c) (cnt r) j) ≠ -1)) && (List.range R).all fun r' => (List.range (cnt r')).all fun b' => decide (B (r' * 9 + b') = nI c → r' = r ∧ b' = wb (hs c) (cnt r) k)
theorem anyR {p : Nat → Bool} {n : Nat} (h : (List.range n).any p = true) : ∃ i, i < n ∧ p i = true := by
  obtain ⟨i, hi, e⟩ := List.any_eq_true.mp h
  exact ⟨i, List.mem_range.mp hi, e⟩
theorem lieB_ok {n R : Nat} {cnt hs : Nat → Nat} {as : Nat → Bool} {B : Nat → Int32} (h : lieB n R cnt hs as B = true) : Lie n R cnt hs (fun c => as c = true) B := by
  unfold lieB at h
  rw [Bool.and_eq_true] at h
  obtain ⟨h1, h2⟩ := h
  refine ⟨fun r b c hr hb hc => of_decide_eq_true (allR (allR (allR h1 r hr) b hb) c hc), fun c hc ha => ?_⟩
  have h3 := allR h2 c hc
  rw [Bool.or_eq_true] at h3
  rcases h3 with h3 | h3
  · rw [ha] at h3; cases h3
  · obtain ⟨r, hr, h4⟩ := anyR h3
    obtain ⟨k, hk, h5⟩ := anyR h4
    rw [Bool.and_eq_true, Bool.and_eq_true] at h5
    obtain ⟨⟨a1, a2⟩, a3⟩ := h5
    exact ⟨r, k, hr, hk, of_decide_eq_true a1, fun j hj => of_decide_eq_true (allR a2 j hj), fun r' b' hr' hb' => of_decide_eq_true (allR (allR a3 r' hr') b' hb')⟩
noncomputable def arxB (h : Hp) (a : Nat) : Bool := arcB h a && lieB (vn (rd h a 5)) (vn (rd h a 12)) (fun r => vn (rd h (a + 7) r)) (fun c => vn (rd h (a + 3) c)) (fun c => decide (rd h (a + 4) c = 1)) (rd h (a + 8)) && decide (40 * rd h a 5 + rd h a 2 = isum (rd h (a + 5)) (vn (rd h a 5)) + rd h a 3)
theorem arxB_ok {h : Hp} {a : Nat} (e : arxB h a = true) : Arx h a := by
  unfold arxB at e
  rw [Bool.and_eq_true, Bool.and_eq_true] at e
  obtain ⟨⟨e1, e2⟩, e3⟩ := e
  exact ⟨arcB_ok e1, (lieB_ok e2).cg (fun _ _ => rfl) (fun _ _ _ => rfl) (fun c _ => (decide_eq_true_iff).symm) (fun _ _ _ _ => rfl), by unfold AccA; exact of_decide_eq_true e3⟩
noncomputable def extB (h : Hp) (a : Nat) : Bool :=
  scB 999 (rd h a 0) && scB 9999 (rd h a 1) &&
  ((List.range (vn (rd h a 5))).all fun c => (decide (rd h (a + 4) c = 0) || decide (rd h (a + 4) c = 1) || decide (rd h (a + 4) c = 2)) && decide (rd h (a + 5) c = 0 ↔ rd h (a + 4) c = 2) && decide (rd h (a + 1) c ≠ 0) && (decide (rd h (a + 6) c = -1) || (List.range (vn (rd h a 15))).any fun s => decide (rd h (a + 6) c = nI s))) &&
  ((List.range (vn (rd h a 15))).all fun s => scB 9 (rd h (a + 9) s) && scB 9 (rd h (a + 10) s)) &&
  ((List.range (vn (rd h a 12))).all fun r => decide (rd h (a + 7) r ≠ 0)) && decide (1 ≤ vn (rd h a 5)) && decide (1 ≤ vn (rd h a 12)) && decide (1 ≤ vn (rd h a 15))
theorem extB_ok {h : Hp} {a : Nat} (e : extB h a = true) : Ext h a := by
  unfold extB at e
  simp only [Bool.and_eq_true] at e
  obtain ⟨⟨⟨⟨⟨⟨⟨e0, e1⟩, ec⟩, es⟩, e7⟩, e5⟩, e12⟩, e15⟩ := e
  refine ⟨scB_ok e0, scB_ok e1, fun c hc => ?_, fun s hs => ?_, fun r hr => of_decide_eq_true (allR e7 r hr), of_decide_eq_true e5, of_decide_eq_true e12, of_decide_eq_true e15⟩
  · have x := allR ec c hc
    simp only [Bool.and_eq_true, Bool.or_eq_true] at x
    obtain ⟨⟨⟨x1, x2⟩, x3⟩, x4⟩ := x
    refine ⟨?_, of_decide_eq_true x2, of_decide_eq_true x3, ?_⟩
    · rcases x1 with (x1 | x1) | x1
      · exact Or.inl (of_decide_eq_true x1)
      · exact Or.inr (Or.inl (of_decide_eq_true x1))
      · exact Or.inr (Or.inr (of_decide_eq_true x1))
    · rcases x4 with x4 | x4
      · exact Or.inl (of_decide_eq_true x4)
      · obtain ⟨s, hs, y⟩ := anyR x4
        exact Or.inr ⟨s, hs, of_decide_eq_true y⟩
  · have x := allR es s hs
    simp only [Bool.and_eq_true] at x
    exact ⟨scB_ok x.1, scB_ok x.2⟩
set_option maxRecDepth 16384 in
theorem Ary_HC : Ary HC 1 := ⟨arxB_ok (by decide +kernel), extB_ok (by decide +kernel)⟩
set_option maxRecDepth 16384 in
theorem Ring_HC : Ring HC 0 0 := ⟨by decide, by decide, by decide +kernel, by decide +kernel⟩
theorem Inv_HC : Inv 0 HC := ⟨Ary_HC, 0, 0, Ring_HC⟩
