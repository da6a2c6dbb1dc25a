/-! ===== facts that speak of no heap in particular ===== -/
set_option maxRecDepth 16384 in
theorem thB_l {ρ σ : Type} (e : Nat × Hp) (F : ρ → Option ((Nat × Hp) ⊕ σ)) : thB (some (.inl e)) F = some (.inl e) := rfl
set_option maxRecDepth 16384 in
theorem thB_r {ρ σ : Type} (v : ρ) (F : ρ → Option ((Nat × Hp) ⊕ σ)) : thB (some (.inr v)) F = F v := rfl
set_option maxRecDepth 16384 in
theorem caB_l {ρ σ : Type} (e : Nat × Hp) (E : Nat → Hp → Option σ) (F : ρ → Option σ) : caB (some (.inl e)) E F = E e.1 e.2 := rfl
set_option maxRecDepth 16384 in
theorem caB_r {ρ σ : Type} (v : ρ) (E : Nat → Hp → Option σ) (F : ρ → Option σ) : caB (some (.inr v)) E F = F v := rfl
def outR (a : Int32) (c : Int32) : Prop := a < 0 ∨ c ≤ a
set_option maxRecDepth 16384 in
theorem outR_or (a : Int32) (c : Nat) (hc : c < 2 ^ 31) : outR a (nI c) ∨ ∃ j, j < c ∧ a = nI j := by
  by_cases h0 : a < 0
  · exact Or.inl (Or.inl h0)
  by_cases h1 : nI c ≤ a
  · exact Or.inl (Or.inr h1)
  obtain ⟨j, hj, rfl⟩ := nI_of h0
  exact Or.inr ⟨j, by rw [nI_leI hc hj] at h1; omega, rfl⟩
set_option maxRecDepth 16384 in
theorem nlt_of_le {a b : Int32} (h : b ≤ a) : ¬ a < b := by
  rw [Int32.lt_iff_toInt_lt]; rw [Int32.le_iff_toInt_le] at h; omega
set_option maxRecDepth 16384 in
theorem in_out {a lo hi : Int32} (h : a < lo ∨ hi < a) : M_in a lo hi = some false := by
  unfold M_in
  rcases h with h | h
  · rw [if_pos h]
  · by_cases h0 : a < lo
    · rw [if_pos h0]
    · rw [if_neg h0, if_pos h]
set_option maxRecDepth 16384 in
theorem in_some (a lo hi : Int32) : ∃ b, M_in a lo hi = some b := by
  unfold M_in
  by_cases h : a < lo
  · exact ⟨_, if_pos h⟩
  · rw [if_neg h]
    by_cases h2 : hi < a
    · exact ⟨_, if_pos h2⟩
    · exact ⟨_, if_neg h2⟩
set_option maxRecDepth 16384 in
theorem range_out {h : Hp} {a lo hi : Int32} (ho : a < lo ∨ hi < a) : C_needRange h a lo hi = some (.inl (1, h)) := by
  unfold C_needRange
  by_cases h0 : a < lo
  · rw [if_pos h0]
  · rw [if_neg h0, if_neg]
    have := ho.resolve_left h0
    rw [Int32.lt_iff_toInt_lt] at this; rw [Int32.le_iff_toInt_le]; omega
set_option maxRecDepth 16384 in
theorem range_or (a : Int32) (lo hi : Nat) (hh : hi < 2 ^ 31) (hl : lo ≤ hi) : (a < nI lo ∨ nI hi < a) ∨ ∃ j, j < hi - lo + 1 ∧ a = nI (lo + j) := by
  by_cases h0 : a < nI lo
  · exact Or.inl (Or.inl h0)
  by_cases h1 : nI hi < a
  · exact Or.inl (Or.inr h1)
  have hn : ¬ a < 0 := fun q => h0 (by
    rw [Int32.lt_iff_toInt_lt] at q ⊢
    rw [nI_toInt (by omega)]
    have : (0 : Int32).toInt = 0 := by decide
    omega)
  obtain ⟨j, hj, rfl⟩ := nI_of hn
  have e0 : ¬ j < lo := fun q => h0 ((nI_ltI hj (by omega : lo < 2 ^ 31)).mpr q)
  have e1 : ¬ hi < j := fun q => h1 ((nI_ltI hh hj).mpr q)
  exact Or.inr ⟨j - lo, by omega, by congr 1; omega⟩
set_option maxRecDepth 16384 in
theorem bf : (b2i false = 0) = True := by decide
set_option maxRecDepth 16384 in
theorem bt : (b2i true = 0) = False := by decide
set_option maxRecDepth 16384 in
theorem upd_ne {f : Nat → Int32} {i j : Nat} {x : Int32} (e : j ≠ i) : upd f i x j = f j := by simp [upd, e]
set_option maxRecDepth 16384 in
theorem upd_self {f : Nat → Int32} {i : Nat} {x : Int32} : upd f i x i = x := by simp [upd]
set_option maxRecDepth 16384 in
theorem in_in {a lo hi : Int32} (h1 : ¬ a < lo) (h2 : ¬ hi < a) : M_in a lo hi = some true := by
  unfold M_in
  rw [if_neg h1, if_neg h2]
set_option maxRecDepth 16384 in
theorem range_in {h : Hp} {a lo hi : Int32} (h1 : ¬ a < lo) (h2 : ¬ hi < a) : C_needRange h a lo hi = some (.inr h) := by
  unfold C_needRange
  rw [if_neg h1, if_pos]
  rw [Int32.lt_iff_toInt_lt] at h2; rw [Int32.le_iff_toInt_le]; omega
set_option maxRecDepth 16384 in
theorem rdO_in {N v : Nat} {f : Nat → Int32} (hv : v < N) (hN : N < 2 ^ 31) : rdO N f (nI v) = some (f v) := by
  unfold rdO
  rw [if_neg (nI_in hv hN), nI_clamp (by omega)]
set_option maxRecDepth 16384 in
theorem wrO_in {h : Hp} {k N v : Nat} {x : Int32} (hv : v < N) (hN : N < 2 ^ 31) : wrO h k N (nI v) x = some (up2 h k v x) := by
  unfold wrO
  rw [if_neg (nI_in hv hN), nI_clamp (by omega)]
set_option maxRecDepth 16384 in
theorem begins_L : ∀ (n v : Nat) (h : Hp), v ≤ 106 → 106 - v < n → ∃ h', M_begins_L2 n (nI v) h = some h' ∧ ∀ k, k ≠ 142 → rd h' k = rd h k
  | 0, v, h, _, hn => absurd hn (Nat.not_lt_zero _)
  | n + 1, v, h, hv, hn => by
    unfold M_begins_L2
    by_cases e : v = 106
    · subst e
      exact ⟨h, if_pos (by decide), fun _ _ => rfl⟩
    · rw [if_neg (fun q => by have := (nI_leI (a := 106) (by decide) (by omega)).mp q; omega), rdO_in (by omega) (by decide), Option.bind_some, wrO_in (by omega) (by decide), Option.bind_some, nI_1]
      obtain ⟨h', e1, e2⟩ := begins_L n (v + 1) (up2 h 142 v (rd h 141 v)) (by omega) (by omega)
      exact ⟨h', e1, fun k hk => (e2 k hk).trans (rd_up2_ne hk)⟩
set_option maxRecDepth 16384 in
theorem begins_ok (h : Hp) : ∃ h', M_begins h = some h' ∧ ∀ k, k ≠ 142 → rd h' k = rd h k := by
  obtain ⟨h', e1, e2⟩ := begins_L FU 0 h (by omega) (by unfold FU; omega)
  refine ⟨h', ?_, e2⟩
  unfold M_begins
  rw [show (0 : Int32) = nI 0 from rfl, e1]
  rfl
def Fr (a n : Nat) (h h' : Hp) : Prop := ∀ k, (k < a ∨ a + n ≤ k) → rd h' k = rd h k
set_option maxRecDepth 16384 in
theorem fr_up {α : Type} {a n r i : Nat} {x : Int32} {h0 h : Hp} {F : Hp → Option α} {P : α → Prop} (hh : Fr a n h0 h) (hr : a ≤ r ∧ r < a + n) (k : ∀ h1, Fr a n h0 h1 → ∃ v, F h1 = some v ∧ P v) : ∃ v, nm (up2 h r i x) F = some v ∧ P v :=
  k _ (fun q hq => (rd_up2_ne (by omega)).trans (hh q hq))
set_option maxRecDepth 16384 in
theorem fr_acp {α : Type} {a n r s m : Nat} {h0 h : Hp} {F : Hp → Option α} {P : α → Prop} (hh : Fr a n h0 h) (hr : a ≤ r ∧ r < a + n) (k : ∀ h1, Fr a n h0 h1 → ∃ v, F h1 = some v ∧ P v) : ∃ v, nm (acp h r s m) F = some v ∧ P v :=
  k _ (fun q hq => (rd_acp_ne (by omega)).trans (hh q hq))
set_option maxRecDepth 16384 in
theorem copyFrom_ok (h : Hp) (a o : Nat) : ∃ h', A_copyFrom h a o = some h' ∧ Fr a 11 h h' := by
  unfold A_copyFrom
  have H0 : Fr a 11 h h := fun _ _ => rfl
  refine fr_up H0 (by omega) (fun h1 H1 => ?_)
  refine fr_up H1 (by omega) (fun h2 H2 => ?_)
  refine fr_up H2 (by omega) (fun h3 H3 => ?_)
  refine fr_up H3 (by omega) (fun h4 H4 => ?_)
  refine fr_up H4 (by omega) (fun h5 H5 => ?_)
  refine fr_up H5 (by omega) (fun h6 H6 => ?_)
  refine fr_acp H6 (by omega) (fun h7 H7 => ?_)
  refine fr_acp H7 (by omega) (fun h8 H8 => ?_)
  refine fr_acp H8 (by omega) (fun h9 H9 => ?_)
  refine fr_acp H9 (by omega) (fun h10 H10 => ?_)
  refine fr_acp H10 (by omega) (fun h11 H11 => ?_)
  refine fr_acp H11 (by omega) (fun h12 H12 => ?_)
  refine fr_up H12 (by omega) (fun h13 H13 => ?_)
  refine fr_acp H13 (by omega) (fun h14 H14 => ?_)
  refine fr_acp H14 (by omega) (fun h15 H15 => ?_)
  refine fr_up H15 (by omega) (fun h16 H16 => ?_)
  refine fr_acp H16 (by omega) (fun h17 H17 => ?_)
  refine fr_acp H17 (by omega) (fun h18 H18 => ?_)
  exact ⟨_, rfl, H18⟩
set_option maxRecDepth 16384 in
theorem add_ok {h : Hp} {s : Nat} (hs : rd h 47 1 = nI s) (hl : s < 600) (x : Int32) : ∃ h', T_add h x = some h' ∧ rd h' 47 1 = nI (s + 1) ∧ (∀ k, k ≠ 47 → k ≠ 48 → rd h' k = rd h k) ∧ ∀ i, i ≠ 1 → rd h' 47 i = rd h 47 i := by
  unfold T_add
  rw [hs, if_neg (fun q => by have := (nI_leI (a := 600) (by decide) (by omega)).mp q; omega), wrO_in (v := s) hl (by decide), Option.bind_some]
  refine ⟨_, rfl, ?_, fun k h1 h2 => ?_, fun i hi => ?_⟩
  · rw [rd_up2_self, upd_self, rd_up2_ne (by decide), hs, nI_1]
  · rw [rd_up2_ne h1, rd_up2_ne h2]
  · rw [rd_up2_self, upd_ne hi, rd_up2_ne (by decide)]
set_option maxRecDepth 16384 in
theorem addFour_ok {h : Hp} {s : Nat} (hs : rd h 47 1 = nI s) (hl : s + 4 ≤ 600) (x : Int32) : ∃ h', T_addFour h x = some h' ∧ rd h' 47 1 = nI (s + 4) ∧ (∀ k, k ≠ 47 → k ≠ 48 → rd h' k = rd h k) ∧ ∀ i, i ≠ 1 → rd h' 47 i = rd h 47 i := by
  obtain ⟨h1, e1, s1, f1, g1⟩ := add_ok hs (by omega) (iush x 24)
  obtain ⟨h2, e2, s2, f2, g2⟩ := add_ok s1 (by omega) (iush x 16)
  obtain ⟨h3, e3, s3, f3, g3⟩ := add_ok s2 (by omega) (iush x 8)
  obtain ⟨h4, e4, s4, f4, g4⟩ := add_ok s3 (by omega) x
  refine ⟨h4, ?_, s4, fun k a b => ?_, fun i a => ?_⟩
  · unfold T_addFour
    rw [e1, Option.bind_some, e2, Option.bind_some, e3, Option.bind_some, e4, Option.bind_some]
  · rw [f4 k a b, f3 k a b, f2 k a b, f1 k a b]
  · rw [g4 i a, g3 i a, g2 i a, g1 i a]
set_option maxRecDepth 16384 in
theorem append_ok {h : Hp} {s : Nat} (hs : rd h 47 1 = nI s) (hl : s + 20 ≤ 600) (p1 p2 p3 p4 p5 : Int32) : ∃ h', C_append h p1 p2 p3 p4 p5 = some (nI (s + 20), h') ∧ rd h' 47 1 = nI (s + 20) ∧ (∀ k, k ≠ 47 → k ≠ 48 → rd h' k = rd h k) ∧ ∀ i, i ≠ 1 → rd h' 47 i = rd h 47 i := by
  obtain ⟨h1, e1, s1, f1, g1⟩ := addFour_ok hs (by omega) p1
  obtain ⟨h2, e2, s2, f2, g2⟩ := addFour_ok s1 (by omega) p2
  obtain ⟨h3, e3, s3, f3, g3⟩ := addFour_ok s2 (by omega) p3
  obtain ⟨h4, e4, s4, f4, g4⟩ := addFour_ok s3 (by omega) p4
  obtain ⟨h5, e5, s5, f5, g5⟩ := addFour_ok s4 (by omega) p5
  refine ⟨h5, ?_, s5, fun k a b => ?_, fun i a => ?_⟩
  · have l : nI s + 20 ≤ 600 := by
      rw [show (20 : Int32) = nI 20 from rfl, nI_add]
      exact nI_le (b := 600) hl (by decide)
    unfold C_append
    rw [hs, if_pos l, e1, Option.bind_some, e2, Option.bind_some, e3, Option.bind_some, e4, Option.bind_some, e5, Option.bind_some, s5]
  · rw [f5 k a b, f4 k a b, f3 k a b, f2 k a b, f1 k a b]
  · rw [g5 i a, g4 i a, g3 i a, g2 i a, g1 i a]
set_option maxRecDepth 16384 in
theorem append_no {h : Hp} {s : Nat} (hs : rd h 47 1 = nI s) (hl : 600 < s + 20) (hb : s ≤ 600) (p1 p2 p3 p4 p5 : Int32) : C_append h p1 p2 p3 p4 p5 = some (-1, h) := by
  have l : ¬ nI s + 20 ≤ 600 := by
    rw [show (20 : Int32) = nI 20 from rfl, nI_add]
    exact nI_ge (a := 600) hl (by omega)
  unfold C_append
  rw [hs, if_neg l]
set_option maxRecDepth 16384 in
theorem type_step {h : Hp} {s : Nat} (hs : rd h 140 9 = nI s) (hl : s < 600) (c : Int32) (n : Nat) {v : Int32} (hv : ¬ v < 0) : ∃ h', M_type_L3 c (n + 1) v h = M_type_L3 c n (v + (-8)) h' ∧ rd h' 140 9 = nI (s + 1) ∧ (∀ k, k ≠ 140 → k ≠ 146 → rd h' k = rd h k) ∧ ∀ i, i ≠ 9 → rd h' 140 i = rd h 140 i := by
  refine ⟨up2 (up2 h 146 s ((c >>> (v &&& 31)) &&& 255)) 140 9 (nI (s + 1)), ?_, ?_, fun k h1 h2 => ?_, fun i hi => ?_⟩
  · rw [M_type_L3, if_neg hv, hs, wrO_in (v := s) hl (by decide), Option.bind_some]
    show M_type_L3 c n (v + (-8)) (up2 _ 140 9 (rd _ 140 9 + 1)) = _
    rw [rd_up2_ne (by decide), hs, nI_1]
  · rw [rd_up2_self, upd_self]
  · rw [rd_up2_ne h1, rd_up2_ne h2]
  · rw [rd_up2_self, upd_ne hi, rd_up2_ne (by decide)]
set_option maxRecDepth 16384 in
theorem type_ok {h : Hp} {s : Nat} (hs : rd h 140 9 = nI s) (hl : s + 4 ≤ 600) (c : Int32) : ∃ h', M_type h c = some h' ∧ rd h' 140 9 = nI (s + 4) ∧ (∀ k, k ≠ 140 → k ≠ 146 → rd h' k = rd h k) ∧ ∀ i, i ≠ 9 → rd h' 140 i = rd h 140 i := by
  obtain ⟨h1, e1, s1, f1, g1⟩ := type_step hs (by omega) c 1000002 (v := 24) (by decide)
  obtain ⟨h2, e2, s2, f2, g2⟩ := type_step s1 (by omega) c 1000001 (v := 24 + (-8)) (by decide)
  obtain ⟨h3, e3, s3, f3, g3⟩ := type_step s2 (by omega) c 1000000 (v := 24 + (-8) + (-8)) (by decide)
  obtain ⟨h4, e4, s4, f4, g4⟩ := type_step s3 (by omega) c 999999 (v := 24 + (-8) + (-8) + (-8)) (by decide)
  have e5 : M_type_L3 c 999999 (24 + (-8) + (-8) + (-8) + (-8)) h4 = some h4 := by
    rw [show (999999 : Nat) = 999998 + 1 from rfl, M_type_L3, if_pos (by decide)]
  refine ⟨h4, ?_, s4, fun k a b => ?_, fun i a => ?_⟩
  · unfold M_type
    rw [show FU = 1000002 + 1 from rfl, e1, show (1000002 : Nat) = 1000001 + 1 from rfl, e2, show (1000001 : Nat) = 1000000 + 1 from rfl, e3, show (1000000 : Nat) = 999999 + 1 from rfl, e4, e5, Option.bind_some]
  · rw [f4 k a b, f3 k a b, f2 k a b, f1 k a b]
  · rw [g4 i a, g3 i a, g2 i a, g1 i a]
set_option maxRecDepth 16384 in
theorem mappend_ok {h : Hp} {s : Nat} (hs : rd h 140 9 = nI s) (hl : s + 20 ≤ 600) (p1 p2 p3 p4 p5 : Int32) : ∃ h', M_append h p1 p2 p3 p4 p5 = some (nI (s + 20), h') ∧ rd h' 140 9 = nI (s + 20) ∧ (∀ k, k ≠ 140 → k ≠ 146 → rd h' k = rd h k) ∧ ∀ i, i ≠ 9 → i ≠ 15 → rd h' 140 i = rd h 140 i := by
  have hs : rd (up2 h 140 15 0) 140 9 = nI s := by rw [rd_up2_self, upd_ne (by decide), hs]
  obtain ⟨h1, e1, s1, f1, g1⟩ := type_ok hs (by omega) p1
  obtain ⟨h2, e2, s2, f2, g2⟩ := type_ok s1 (by omega) p2
  obtain ⟨h3, e3, s3, f3, g3⟩ := type_ok s2 (by omega) p3
  obtain ⟨h4, e4, s4, f4, g4⟩ := type_ok s3 (by omega) p4
  obtain ⟨h5, e5, s5, f5, g5⟩ := type_ok s4 (by omega) p5
  refine ⟨h5, ?_, s5, fun k a b => ?_, fun i a b => ?_⟩
  · have l : nI s + 20 ≤ 600 := by
      rw [show (20 : Int32) = nI 20 from rfl, nI_add]
      exact nI_le (b := 600) hl (by decide)
    unfold M_append nm
    dsimp only
    rw [hs, if_pos l, e1, Option.bind_some, e2, Option.bind_some, e3, Option.bind_some, e4, Option.bind_some, e5, Option.bind_some, s5]
  · rw [f5 k a b, f4 k a b, f3 k a b, f2 k a b, f1 k a b, rd_up2_ne a]
  · rw [g5 i a, g4 i a, g3 i a, g2 i a, g1 i a, rd_up2_self, upd_ne b]
set_option maxRecDepth 16384 in
theorem mappend_no {h : Hp} {s : Nat} (hs : rd h 140 9 = nI s) (hl : 600 < s + 20) (hb : s ≤ 600) (p1 p2 p3 p4 p5 : Int32) : M_append h p1 p2 p3 p4 p5 = some (-1, up2 h 140 15 0) := by
  have hs : rd (up2 h 140 15 0) 140 9 = nI s := by rw [rd_up2_self, upd_ne (by decide), hs]
  have l : ¬ nI s + 20 ≤ 600 := by
    rw [show (20 : Int32) = nI 20 from rfl, nI_add]
    exact nI_ge (a := 600) hl (by omega)
  unfold M_append nm
  dsimp only
  rw [hs, if_neg l]
def aR : Nat → Nat → Bool
  | 0, _ => false
  | k + 1, j => if j % 10 = 0 then false else if j / 10 = 0 then true else aR k (j / 10)
def zr : Nat → Nat → Bool
  | 0, _ => false
  | k + 1, j => if j = 0 then false else if j % 10 = 0 then true else zr k (j / 10)
set_option maxRecDepth 16384 in
theorem zr_0 : ∀ k, zr k 0 = false
  | 0 => rfl
  | _ + 1 => rfl
set_option maxRecDepth 16384 in
theorem aRz : ∀ (k j : Nat), 1 ≤ j → aR k j = (decide (j < 10 ^ k) && !zr k j)
  | 0, j, hj => by
    have : ¬ j < 10 ^ 0 := by simp; omega
    rw [decide_eq_false this]; rfl
  | k + 1, j, hj => by
    have hp : 10 ^ (k + 1) = 10 * 10 ^ k := by rw [Nat.pow_succ, Nat.mul_comm]
    have h1 : 1 ≤ 10 ^ k := Nat.one_le_pow _ _ (by decide)
    by_cases h : j % 10 = 0
    · rw [aR, if_pos h, zr, if_neg (by omega), if_pos h]
      simp
    · by_cases h2 : j / 10 = 0
      · have : j < 10 ^ (k + 1) := by rw [hp]; omega
        rw [aR, if_neg h, if_pos h2, zr, if_neg (by omega), if_neg h, h2, zr_0, decide_eq_true this]; rfl
      · rw [aR, if_neg h, if_neg h2, zr, if_neg (by omega), if_neg h, aRz k (j / 10) (by omega)]
        have : (j / 10 < 10 ^ k) ↔ j < 10 ^ (k + 1) := by rw [hp]; omega
        simp only [this]
set_option maxRecDepth 16384 in
theorem nI_rem10 {j : Nat} (h : j < 2 ^ 31) : nI j - nI j / 10 * 10 = nI (j % 10) := pk_rem (d := 10) h (by decide) (by decide)
set_option maxRecDepth 16384 in
theorem nI_div10 {j : Nat} (h : j < 2 ^ 31) : nI j / 10 = nI (j / 10) := pk_div (d := 10) h (by decide) (by decide)
set_option maxRecDepth 16384 in
theorem aL : ∀ (n v j : Nat), v ≤ 8 → 1 ≤ j → j < 2 ^ 31 → 8 - v < n → ∃ r, A_areColours_L4 n (nI j) (nI v) = some r ∧ (match r with | .inr y => y | .inl () => false) = aR (8 - v) j
  | 0, v, j, _, _, _, hn => absurd hn (Nat.not_lt_zero _)
  | n + 1, v, j, hv, hj, hl, hn => by
    rw [A_areColours_L4]
    by_cases h8 : v = 8
    · subst h8
      exact ⟨.inl (), if_pos (by decide), rfl⟩
    · rw [if_neg (fun q => by have := (nI_leI (a := 8) (by decide) (by omega)).mp q; omega), if_neg (show ¬ nI j < 1 from nI_nlt (b := 1) hj hl), nI_rem10 hl, nI_div10 hl, show 8 - v = (8 - (v + 1)) + 1 by omega, aR]
      by_cases hz : j % 10 = 0
      · rw [if_pos (by rw [hz]; rfl), if_pos hz]
        exact ⟨_, rfl, rfl⟩
      · rw [if_neg (show ¬ nI (j % 10) = 0 from fun q => hz ((nI_eq (b := 0) (by omega) (by decide)).mp q)), if_neg hz]
        by_cases hd : j / 10 = 0
        · rw [if_pos (by rw [hd]; rfl), if_pos hd]
          exact ⟨_, rfl, rfl⟩
        · rw [if_neg (show ¬ nI (j / 10) = 0 from fun q => hd ((nI_eq (b := 0) (by omega) (by decide)).mp q)), if_neg hd, nI_1]
          exact aL n (v + 1) (j / 10) (by omega) (by omega) (by omega) (by omega)
set_option maxRecDepth 16384 in
theorem zL : ∀ (k n j : Nat), j < 10 ^ k → k < n → j < 2 ^ 31 → M_hasZero_L2 n (nI j) = some (if zr k j = true then .inr true else .inl ())
  | 0, n, j, hj, hn, _ => by
    obtain rfl : j = 0 := by simpa using hj
    obtain ⟨m, rfl⟩ : ∃ m, n = m + 1 := ⟨n - 1, by omega⟩
    rw [M_hasZero_L2, if_pos (by decide)]
    rfl
  | k + 1, n, j, hj, hn, hl => by
    obtain ⟨m, rfl⟩ : ∃ m, n = m + 1 := ⟨n - 1, by omega⟩
    have hp : 10 ^ (k + 1) = 10 * 10 ^ k := by rw [Nat.pow_succ, Nat.mul_comm]
    rw [M_hasZero_L2, zr]
    by_cases h0 : j = 0
    · subst h0
      rw [if_pos (by decide), if_pos rfl]
      rfl
    · rw [if_neg (nI_nle (by omega) hl), nI_rem10 hl, nI_div10 hl, if_neg h0]
      by_cases hz : j % 10 = 0
      · rw [if_pos (by rw [hz]; rfl), if_pos hz]
        rfl
      · rw [if_neg (show ¬ nI (j % 10) = 0 from fun q => hz ((nI_eq (b := 0) (by omega) (by decide)).mp q)), if_neg hz]
        exact zL k m (j / 10) (by rw [hp] at hj; omega) (by omega) (by omega)
set_option maxRecDepth 16384 in
theorem areCol (p : Int32) : ∃ b, A_areColours p = some b ∧ M_areColours p = some b ∧ (b = true → ∃ j, p = nI j ∧ 1 ≤ j ∧ j < 10 ^ 8) := by
  by_cases h1 : p < 1
  · refine ⟨false, ?_, ?_, fun q => by cases q⟩
    · have e : A_areColours_L4 FU p 0 = some (.inr false) := by
        rw [show FU = 1000002 + 1 from rfl, A_areColours_L4, if_neg (by decide), if_pos h1]
      unfold A_areColours
      rw [e]; rfl
    · have e : M_in p 1 99999999 = some false := in_out (Or.inl h1)
      unfold M_areColours
      rw [e, Option.bind_some, if_pos (by decide)]
  · obtain ⟨j, hl, rfl⟩ := nI_of (x := p) (fun q => h1 (by
      rw [Int32.lt_iff_toInt_lt] at q ⊢
      have a : (0 : Int32).toInt = 0 := by decide
      have b : (1 : Int32).toInt = 1 := by decide
      omega))
    have hj : 1 ≤ j := by
      by_cases h : j = 0
      · subst h; exact absurd (by decide) h1
      · omega
    obtain ⟨r, e1, e2⟩ := aL FU 0 j (by omega) hj hl (by unfold FU; omega)
    have eA : A_areColours (nI j) = some (aR 8 j) := by
      unfold A_areColours
      rw [show (0 : Int32) = nI 0 from rfl, e1, Option.bind_some]
      rw [show aR (8 - 0) j = aR 8 j from rfl] at e2
      rw [← e2]
      match r with
      | .inl () => rfl
      | .inr y => rfl
    rw [aRz 8 j hj] at eA
    by_cases h8 : j < 10 ^ 8
    · rw [decide_eq_true h8, Bool.true_and] at eA
      refine ⟨_, eA, ?_, fun _ => ⟨j, rfl, hj, h8⟩⟩
      have e : M_in (nI j) 1 99999999 = some true := in_in (nI_nlt (b := 1) hj hl) (nI_nlt (a := 99999999) (by omega) (by decide))
      have ez := zL 8 FU j h8 (by unfold FU; omega) hl
      have eh : M_hasZero (nI j) = some (zr 8 j) := by
        unfold M_hasZero
        rw [ez, Option.bind_some]
        cases zr 8 j <;> rfl
      unfold M_areColours
      rw [e, Option.bind_some, if_neg (by decide), eh, Option.bind_some]
      cases zr 8 j <;> rfl
    · rw [decide_eq_false h8, Bool.false_and] at eA
      refine ⟨false, eA, ?_, fun q => by cases q⟩
      have e : M_in (nI j) 1 99999999 = some false := in_out (Or.inr ((nI_ltI (a := 99999999) (by decide) hl).mpr (by omega)))
      unfold M_areColours
      rw [e, Option.bind_some, if_pos (by decide)]
set_option maxRecDepth 16384 in
theorem digits_L : ∀ (n v : Nat) (x : Int32), v ≤ 8 → 8 - v < n → ∃ d, v ≤ d ∧ d ≤ 8 ∧ A_digits_L7 n (nI v) x = some (nI d)
  | 0, v, x, _, hn => absurd hn (Nat.not_lt_zero _)
  | n + 1, v, x, hv, hn => by
    rw [A_digits_L7]
    by_cases h0 : x ≤ 0
    · exact ⟨v, Nat.le_refl _, hv, if_pos h0⟩
    · rw [if_neg h0]
      by_cases h8 : v = 8
      · subst h8
        exact ⟨8, Nat.le_refl _, hv, if_pos (by decide)⟩
      · rw [if_neg (fun q => by have := (nI_leI (a := 8) (by decide) (by omega)).mp q; omega), nI_1]
        obtain ⟨d, a, b, c⟩ := digits_L n (v + 1) (x / 10) (by omega) (by omega)
        exact ⟨d, by omega, b, c⟩
set_option maxRecDepth 16384 in
theorem digits_ok (x : Int32) : ∃ d, 1 ≤ d ∧ d ≤ 8 ∧ A_digits x = some (nI d) := by
  obtain ⟨d, a, b, c⟩ := digits_L FU 1 (x / 10) (by omega) (by unfold FU; omega)
  refine ⟨d, a, b, ?_⟩
  unfold A_digits
  rw [show (1 : Int32) = nI 1 from rfl, c]; rfl
set_option maxRecDepth 16384 in
theorem nI_ix8 (c d : Nat) : nI c * 8 + nI d = nI (c * 8 + d) := by
  rw [show (8 : Int32) = nI 8 from rfl, pk_mul, nI_add]
set_option maxRecDepth 16384 in
theorem i_m1 (x : Int32) : x + (-1) = x - 1 := (Int32.sub_eq_add_neg x 1).symm
def Sm (n m : Nat) (f : Nat → Int32) : Prop := ∀ i, i < n → ∃ k, k ≤ m ∧ f i = nI k
set_option maxRecDepth 16384 in
theorem Sm.upd {n m i k : Nat} {f : Nat → Int32} (h : Sm n m f) (hk : k ≤ m) : Sm n m (upd f i (nI k)) := fun j hj => by
  by_cases e : j = i
  · subst e; exact ⟨k, hk, upd_self⟩
  · rw [upd_ne e]; exact h j hj
set_option maxRecDepth 16384 in
theorem putCol_L (a c : Nat) (hc : c < 12) : ∀ (n d j : Nat) (h : Hp), d ≤ 8 → d < n → j < 2 ^ 31 → Sm 96 9 (rd h (a + 2)) → ∃ h', A_putClip_L37 a (nI c) n (nI j) (nI d - 1) h = some h' ∧ (∀ k, k ≠ a + 2 → rd h' k = rd h k) ∧ Sm 96 9 (rd h' (a + 2))
  | 0, d, j, h, _, hn, _, _ => absurd hn (Nat.not_lt_zero _)
  | n + 1, 0, j, h, _, _, _, hs => by
    refine ⟨h, ?_, fun _ _ => rfl, hs⟩
    rw [A_putClip_L37, if_pos (by decide)]
  | n + 1, d + 1, j, h, hd, hn, hl, hs => by
    rw [A_putClip_L37, nI_pred, if_neg (nI_pos (by omega)), nI_ix8, nI_rem10 hl, nI_div10 hl, wrO_in (by omega) (by decide), Option.bind_some, i_m1]
    obtain ⟨h', e, f, s⟩ := putCol_L a c hc n d (j / 10) (up2 h (a + 2) (c * 8 + d) (nI (j % 10))) (by omega) (by omega) (by omega) (by rw [rd_up2_self]; exact hs.upd (by omega))
    exact ⟨h', e, fun k hk => by rw [f k hk, rd_up2_ne hk], s⟩
set_option maxRecDepth 16384 in
theorem colourAt_ok {h : Hp} {a c i : Nat} (hs : Sm 96 9 (rd h (a + 2))) (hi : c * 8 + i < 96) : ∃ k, k ≤ 9 ∧ A_colourAt h a (nI c) (nI i) = some (nI k) := by
  obtain ⟨k, hk, e⟩ := hs _ hi
  refine ⟨k, hk, ?_⟩
  unfold A_colourAt
  rw [nI_ix8, rdO_in hi (by decide), Option.bind_some, e]
set_option maxRecDepth 16384 in
theorem renew_L {h : Hp} {a c l : Nat} (hc : c < 12) (hlen : rd h (a + 1) c = nI l) (hl : l ≤ 8) (hs : Sm 96 9 (rd h (a + 2))) : ∀ (n v q : Nat), v ≤ l → l - v < n → q < 997 → ∃ q', q' < 997 ∧ A_renewHash_L4 h a (nI c) n (nI q) (nI v) = some (nI q')
  | 0, v, q, _, hn, _ => absurd hn (Nat.not_lt_zero _)
  | n + 1, v, q, hv, hn, hq => by
    rw [A_renewHash_L4, rdO_in hc (by decide), Option.bind_some, hlen]
    by_cases e : l = v
    · subst e
      exact ⟨q, hq, if_pos (nI_le (Nat.le_refl _) (by omega))⟩
    · obtain ⟨k, hk, ek⟩ := colourAt_ok (c := c) (i := v) hs (by omega)
      rw [if_neg (nI_ge (by omega) (by omega)), ek, Option.bind_some, show (31 : Int32) = nI 31 from rfl, pk_mul, nI_add, show (997 : Int32) = nI 997 from rfl, pk_rem (by omega) (by decide) (by decide), nI_1]
      exact renew_L hc hlen hl hs n (v + 1) _ (by omega) (by omega) (Nat.mod_lt _ (by decide))
set_option maxRecDepth 16384 in
theorem renew_ok {h : Hp} {a c l : Nat} (hc : c < 12) (hlen : rd h (a + 1) c = nI l) (hl : l ≤ 8) (hs : Sm 96 9 (rd h (a + 2))) : ∃ q, q < 997 ∧ A_renewHash h a (nI c) = some (up2 h (a + 3) c (nI q)) := by
  obtain ⟨q, hq, e⟩ := renew_L hc hlen hl hs FU 0 0 (by omega) (by unfold FU; omega) (by decide)
  refine ⟨q, hq, ?_⟩
  unfold A_renewHash
  rw [show (0 : Int32) = nI 0 from rfl, e, Option.bind_some, wrO_in hc (by decide), Option.bind_some]
set_option maxRecDepth 16384 in
theorem putClip_ok {h : Hp} {a n j : Nat} (hn : rd h a 5 = nI n) (hl : n < 12) (hj : j < 2 ^ 31) (hs : Sm 96 9 (rd h (a + 2))) : ∃ h' d q, A_putClip h a (nI j) = some (nI n, h') ∧ 1 ≤ d ∧ d ≤ 8 ∧ q < 997 ∧ (∀ k, (k < a ∨ a + 7 ≤ k) → rd h' k = rd h k) ∧ rd h' a = upd (rd h a) 5 (nI (n + 1)) ∧ rd h' (a + 1) = upd (rd h (a + 1)) n (nI d) ∧ Sm 96 9 (rd h' (a + 2)) ∧ rd h' (a + 3) = upd (rd h (a + 3)) n (nI q) ∧ rd h' (a + 4) = upd (rd h (a + 4)) n 0 ∧ rd h' (a + 5) = upd (rd h (a + 5)) n 40 ∧ rd h' (a + 6) = upd (rd h (a + 6)) n (-1) := by
  obtain ⟨d, d1, d8, ed⟩ := digits_ok (nI j)
  obtain ⟨h1, e1⟩ : ∃ h1, h1 = up2 h a 5 (nI (n + 1)) := ⟨_, rfl⟩
  obtain ⟨h3, e3⟩ : ∃ h3, h3 = up2 h1 (a + 1) n (nI d) := ⟨_, rfl⟩
  have r3 : rd h3 (a + 1) n = nI d := by rw [e3, rd_up2_self, upd_self]
  obtain ⟨h6, e6, f6, s6⟩ := putCol_L a n hl FU d j h3 d8 (by unfold FU; omega) hj (by rw [e3, rd_up2_ne (by omega), e1, rd_up2_ne (by omega)]; exact hs)
  obtain ⟨h7, e7⟩ : ∃ h7, h7 = up2 h6 (a + 4) n 0 := ⟨_, rfl⟩
  obtain ⟨h8, e8⟩ : ∃ h8, h8 = up2 h7 (a + 5) n 40 := ⟨_, rfl⟩
  obtain ⟨h9, e9⟩ : ∃ h9, h9 = up2 h8 (a + 6) n (-1) := ⟨_, rfl⟩
  have k9 : ∀ k, k ≠ a + 4 → k ≠ a + 5 → k ≠ a + 6 → rd h9 k = rd h6 k := fun k x y z => by rw [e9, rd_up2_ne z, e8, rd_up2_ne y, e7, rd_up2_ne x]
  have k3 : ∀ k, k ≠ a → k ≠ a + 1 → rd h3 k = rd h k := fun k x y => by rw [e3, rd_up2_ne y, e1, rd_up2_ne x]
  obtain ⟨q, hq, e11⟩ := renew_ok (h := h9) (a := a) (c := n) (l := d) hl (by rw [k9 _ (by omega) (by omega) (by omega), f6 _ (by omega), r3]) d8 (by rw [k9 _ (by omega) (by omega) (by omega)]; exact s6)
  refine ⟨up2 h9 (a + 3) n (nI q), d, q, ?_, d1, d8, hq, fun k hk => ?_, ?_, ?_, ?_, ?_, ?_, ?_, ?_⟩
  · unfold A_putClip nm
    dsimp only
    rw [hn, nI_1, ← e1, ed, Option.bind_some, wrO_in hl (by decide), Option.bind_some, ← e3, rdO_in hl (by decide), Option.bind_some, r3, e6, Option.bind_some, wrO_in hl (by decide), Option.bind_some, ← e7, wrO_in hl (by decide), Option.bind_some, ← e8, wrO_in hl (by decide), Option.bind_some, ← e9, e11, Option.bind_some]
  · rw [rd_up2_ne (by omega), k9 _ (by omega) (by omega) (by omega), f6 _ (by omega), k3 _ (by omega) (by omega)]
  · rw [rd_up2_ne (by omega), k9 _ (by omega) (by omega) (by omega), f6 _ (by omega), e3, rd_up2_ne (by omega), e1, rd_up2_self]
  · rw [rd_up2_ne (by omega), k9 _ (by omega) (by omega) (by omega), f6 _ (by omega), e3, rd_up2_self, e1, rd_up2_ne (by omega)]
  · rw [rd_up2_ne (by omega), k9 _ (by omega) (by omega) (by omega)]; exact s6
  · rw [rd_up2_self, k9 _ (by omega) (by omega) (by omega), f6 _ (by omega), k3 _ (by omega) (by omega)]
  · rw [rd_up2_ne (by omega), e9, rd_up2_ne (by omega), e8, rd_up2_ne (by omega), e7, rd_up2_self, f6 _ (by omega), k3 _ (by omega) (by omega)]
  · rw [rd_up2_ne (by omega), e9, rd_up2_ne (by omega), e8, rd_up2_self, e7, rd_up2_ne (by omega), f6 _ (by omega), k3 _ (by omega) (by omega)]
  · rw [rd_up2_ne (by omega), e9, rd_up2_self, e8, rd_up2_ne (by omega), e7, rd_up2_ne (by omega), f6 _ (by omega), k3 _ (by omega) (by omega)]
set_option maxRecDepth 16384 in
theorem mto_ok {h : Hp} {c f : Nat} (hc : c < 12) (hf : f < 4) (x : Int32) : M_to h (nI c) (nI f) x = some (up2 h 141 (8 + 4 * c + f) x) := by
  unfold M_to
  rw [show (8 : Int32) = nI 8 from rfl, show (4 : Int32) = nI 4 from rfl, pk_mul, nI_add, nI_add, wrO_in (by omega) (by decide), Option.bind_some]
set_option maxRecDepth 16384 in
theorem mof_ok {h : Hp} {c f : Nat} (hc : c < 12) (hf : f < 4) : M_of h (nI c) (nI f) = some (rd h 141 (8 + 4 * c + f)) := by
  unfold M_of
  rw [show (8 : Int32) = nI 8 from rfl, show (4 : Int32) = nI 4 from rfl, pk_mul, nI_add, nI_add, rdO_in (by omega) (by decide), Option.bind_some]
set_option maxRecDepth 16384 in
theorem adds_ok {h : Hp} {n : Nat} (hn : rd h 141 2 = nI n) (hl : n < 12) (p : Int32) : ∃ h', M_adds h p = some (nI n, h') ∧ (∀ k, k ≠ 141 → rd h' k = rd h k) ∧ rd h' 141 = upd (upd (upd (upd (upd (rd h 141) 2 (nI (n + 1))) (8 + 4 * n) p) (8 + 4 * n + 1) 0) (8 + 4 * n + 2) 40) (8 + 4 * n + 3) (-1) := by
  have r : rdO 106 (rd h 141) 2 = some (nI n) := by rw [show (2 : Int32) = nI 2 from rfl, rdO_in (by decide) (by decide), hn]
  refine ⟨up2 (up2 (up2 (up2 (up2 h 141 2 (nI (n + 1))) 141 (8 + 4 * n + 0) p) 141 (8 + 4 * n + 1) 0) 141 (8 + 4 * n + 2) 40) 141 (8 + 4 * n + 3) (-1), ?_, fun k hk => ?_, ?_⟩
  · unfold M_adds
    have w : ∀ x, wrO h 141 106 2 x = some (up2 h 141 2 x) := fun x => wrO_in (v := 2) (by decide) (by decide)
    have t0 : ∀ (g : Hp) (x : Int32), M_to g (nI n) 0 x = some (up2 g 141 (8 + 4 * n + 0) x) := fun g x => mto_ok (f := 0) hl (by decide) x
    have t1 : ∀ (g : Hp) (x : Int32), M_to g (nI n) 1 x = some (up2 g 141 (8 + 4 * n + 1) x) := fun g x => mto_ok (f := 1) hl (by decide) x
    have t2 : ∀ (g : Hp) (x : Int32), M_to g (nI n) 2 x = some (up2 g 141 (8 + 4 * n + 2) x) := fun g x => mto_ok (f := 2) hl (by decide) x
    have t3 : ∀ (g : Hp) (x : Int32), M_to g (nI n) 3 x = some (up2 g 141 (8 + 4 * n + 3) x) := fun g x => mto_ok (f := 3) hl (by decide) x
    simp only [r, Option.bind_some, w, nI_1, t0, t1, t2, t3]
  · simp only [rd_up2_ne hk]
  · simp only [rd_up2_self, Nat.add_zero]
set_option maxRecDepth 16384 in
theorem feedClip_eq {h : Hp} {a c : Nat} (hc : c < 12) (x : Int32) : A_feedClip h a (nI c) x = some (rd h (a + 5) c + x, up2 (up2 (up2 h (a + 5) c (rd h (a + 5) c + x)) a 1 (rd h a 1 - x)) a 2 (rd h a 2 + x)) := by
  unfold A_feedClip nm
  dsimp only
  have e1 : rd (up2 h (a + 5) c (rd h (a + 5) c + x)) a 1 = rd h a 1 := by rw [rd_up2_ne (by omega)]
  have e2 : rd (up2 (up2 h (a + 5) c (rd h (a + 5) c + x)) a 1 (rd h a 1 - x)) a 2 = rd h a 2 := by rw [rd_up2_self, upd_ne (by decide), rd_up2_ne (by omega)]
  rw [rdO_in hc (by decide), Option.bind_some, wrO_in hc (by decide), Option.bind_some, e1, e2, rdO_in hc (by decide), Option.bind_some]
  have e3 : ∀ y z : Int32, rd (up2 (up2 (up2 h (a + 5) c (rd h (a + 5) c + x)) a 1 y) a 2 z) (a + 5) c = rd h (a + 5) c + x := fun y z => by
    rw [rd_up2_ne (by omega), rd_up2_ne (by omega), rd_up2_self, upd_self]
  rw [e3]
set_option maxRecDepth 16384 in
theorem feeds_eq {h : Hp} {c : Nat} (hc : c < 12) (x : Int32) : ∃ h', M_feeds h (nI c) x = some (rd h 141 (8 + 4 * c + 2) + x, h') ∧ (∀ k, k ≠ 141 → rd h' k = rd h k) ∧ rd h' 141 = upd (upd (upd (rd h 141) (8 + 4 * c + 2) (rd h 141 (8 + 4 * c + 2) + x)) 1 (rd h 141 1 - x)) 6 (rd h 141 6 + x) := by
  obtain ⟨v, hv⟩ : ∃ v, v = rd h 141 (8 + 4 * c + 2) + x := ⟨_, rfl⟩
  obtain ⟨h3, e3⟩ : ∃ h3, h3 = up2 h 141 (8 + 4 * c + 2) v := ⟨_, rfl⟩
  have r3 : rd h3 141 = upd (rd h 141) (8 + 4 * c + 2) v := by rw [e3, rd_up2_self]
  obtain ⟨h5, e5⟩ : ∃ h5, h5 = up2 h3 141 1 (rd h 141 1 - x) := ⟨_, rfl⟩
  have r5 : rd h5 141 = upd (rd h3 141) 1 (rd h 141 1 - x) := by rw [e5, rd_up2_self]
  have a1 : M_of h (nI c) 2 = some (rd h 141 (8 + 4 * c + 2)) := mof_ok (f := 2) hc (by decide)
  have a2 : M_to h (nI c) 2 v = some h3 := by rw [e3]; exact mto_ok (f := 2) hc (by decide) v
  have a3 : rdO 106 (rd h3 141) 1 = some (rd h 141 1) := by
    rw [show (1 : Int32) = nI 1 from rfl, rdO_in (by decide) (by decide), r3, upd_ne (by omega)]
  have a4 : wrO h3 141 106 1 (rd h 141 1 - x) = some h5 := by rw [e5]; exact wrO_in (v := 1) (by decide) (by decide)
  have a5 : rdO 106 (rd h5 141) 6 = some (rd h 141 6) := by
    rw [show (6 : Int32) = nI 6 from rfl, rdO_in (by decide) (by decide), r5, upd_ne (by decide), r3, upd_ne (by omega)]
  have a6 : wrO h5 141 106 6 (rd h 141 6 + x) = some (up2 h5 141 6 (rd h 141 6 + x)) := wrO_in (v := 6) (by decide) (by decide)
  have a7 : M_of (up2 h5 141 6 (rd h 141 6 + x)) (nI c) 2 = some v := by
    rw [show (2 : Int32) = nI 2 from rfl, mof_ok hc (by decide), rd_up2_self, upd_ne (by omega), r5, upd_ne (by omega), r3, upd_self]
  refine ⟨up2 h5 141 6 (rd h 141 6 + x), ?_, fun k hk => ?_, ?_⟩
  · unfold M_feeds
    rw [a1, Option.bind_some, ← hv, a2, Option.bind_some, a3, Option.bind_some, a4, Option.bind_some, a5, Option.bind_some, a6, Option.bind_some, a7, Option.bind_some]
  · rw [rd_up2_ne hk, e5, rd_up2_ne hk, e3, rd_up2_ne hk]
  · rw [rd_up2_self, r5, r3, hv]
set_option maxRecDepth 16384 in
theorem paintClip_eq {h : Hp} {a c i : Nat} {x q : Int32} (hc : c < 12) (hi : c * 8 + i < 96) (e : A_renewHash_L4 (up2 h (a + 2) (c * 8 + i) x) a (nI c) FU 0 0 = some q) : A_paintClip h a (nI c) (nI i) x = some (q, up2 (up2 h (a + 2) (c * 8 + i) x) (a + 3) c q) := by
  unfold A_paintClip A_renewHash
  rw [nI_ix8, wrO_in hi (by decide), Option.bind_some, e, Option.bind_some, wrO_in hc (by decide), Option.bind_some, Option.bind_some, rdO_in hc (by decide), Option.bind_some, rd_up2_self, upd_self]
