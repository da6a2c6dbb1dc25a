/-! ===== p1: patterns in range ===== -/
set_option maxRecDepth 16384 in
theorem fm_x {p t : Nat} (h : fm p t = true) : ∃ x, A_findPattern HM 1 (nI t) (nI p) = some x ∧ M_matchOf HM (nI t) (nI p) = some x := by
  unfold fm at h
  cases e1 : A_findPattern HM 1 (nI t) (nI p) with
  | none => rw [e1] at h; cases h
  | some a =>
    cases e2 : M_matchOf HM (nI t) (nI p) with
    | none => rw [e1, e2] at h; cases h
    | some b =>
      rw [e1, e2] at h
      exact ⟨a, rfl, by rw [show a = b from of_decide_eq_true h]⟩
set_option maxRecDepth 16384 in
theorem matchOf_cg {h h' : Hp} (e : rd h 141 = rd h' 141) (t p : Int32) : M_matchOf h t p = M_matchOf h' t p := by
  unfold M_matchOf M_of; rw [e]
set_option maxRecDepth 16384 in
theorem pat_in {h : Hp} {i : Nat} (hi : i < 9999) : C_needPattern h (nI (1 + i)) = some (.inr h) ∧ M_isPattern (nI (1 + i)) = some true := by
  have n1 : ¬ nI (1 + i) < 1 := nI_nlt (b := 1) (by omega) (by omega)
  have n2 : ¬ (9999 : Int32) < nI (1 + i) := nI_nlt (a := 9999) (by omega) (by decide)
  constructor
  · unfold C_needPattern; rw [range_in n1 n2, thB_r]
  · unfold M_isPattern; rw [in_in n1 n2, Option.bind_some]
set_option maxRecDepth 16384 in
theorem kV0 {L : Option (Int32 × Hp)} {M : Hp → Option (Int32 × Hp)} {v : Int32} (hL : L = some (0, up2 HM 150 0 v)) (hM : M (up2 HM 150 0 v) = some (v, up2 (up2 HM 150 0 v) 140 15 0)) : (Kf L M).isSome = true := by
  refine kV hL hM ?_ ?_
  · rw [rd_up2_self]; exact upd_self
  · rw [rd_up2_ne (by decide), rd_up2_self]; exact upd_self
set_option maxRecDepth 16384 in
theorem isClip_cg {h h' : Hp} (e : rd h 141 = rd h' 141) (t : Int32) : M_isClip h t = M_isClip h' t := by unfold M_isClip; rw [e]
set_option maxRecDepth 16384 in
theorem isScene_cg {h h' : Hp} (e : rd h 141 = rd h' 141) (t : Int32) : M_isScene h t = M_isScene h' t := by unfold M_isScene; rw [e]
set_option maxRecDepth 16384 in
theorem ki_52 {j : Nat} (hj : j < 5) {i : Nat} (hi : i < 9999) : (K_52 HM (nI j) (nI (1 + i))).isSome = true := by
  obtain ⟨x, x1, x2⟩ := fm_x (fm_all (p := 1 + i) (by omega) (by omega) hj)
  obtain ⟨p1, p2⟩ := pat_in (h := HM) hi
  have hL : L_firstMatch HM (nI j) (nI (1 + i)) = some (0, up2 HM 150 0 x) := by
    simp only [L_firstMatch, C_firstMatch, needClip_in hj, thB_r, p1, x1, Option.bind_some, caB_r, nm]
  have e1 : M_isClip (up2 HM 150 0 x) (nI j) = some true := (isClip_cg (rd_up2_ne (by decide)) _).trans (isClip_in hj)
  have e2 : M_matchOf (up2 (up2 HM 150 0 x) 140 15 0) (nI j) (nI (1 + i)) = some x := (matchOf_cg ((rd_up2_ne (by decide)).trans (rd_up2_ne (by decide))) _ _).trans x2
  refine kV0 (L := L_firstMatch HM (nI j) (nI (1 + i))) (M := fun h => M_firstMatch h (nI j) (nI (1 + i))) hL ?_
  simp only [M_firstMatch, e1, p2, Option.bind_some, lt, bf, bt, if_true, if_false, th2c, e2]
set_option maxRecDepth 16384 in
theorem ki_49 {j : Nat} (hj : j < 5) {i : Nat} (hi : i < 9999) : (K_49 HM (nI j) (nI (1 + i))).isSome = true := by
  obtain ⟨x, x1, x2⟩ := fm_x (fm_all (p := 1 + i) (by omega) (by omega) hj)
  obtain ⟨p1, p2⟩ := pat_in (h := HM) hi
  have go : ∀ (b : Bool) (v : Int32), L_matches HM (nI j) (nI (1 + i)) = some (0, up2 HM 150 0 v) → M_matches (up2 HM 150 0 v) (nI j) (nI (1 + i)) = some (b, up2 (up2 HM 150 0 v) 140 15 0) → (if b = true then (1 : Int32) else 0) = v → (K_49 HM (nI j) (nI (1 + i))).isSome = true := fun b v a1 a2 a3 => by
    have t0 : M_thrown (up2 (up2 HM 150 0 v) 140 15 0) = some 0 := by
      unfold M_thrown; rw [rd_up2_self, upd_self]
    have t1 : rd (up2 (up2 HM 150 0 v) 140 15 0) 150 0 = v := by rw [rd_up2_ne (by decide), rd_up2_self, upd_self]
    unfold K_49
    rw [a1, Option.bind_some]
    dsimp only
    rw [a2, Option.bind_some]
    dsimp only
    rw [t0, Option.bind_some, if_pos rfl, if_pos rfl]
    unfold lt
    dsimp only
    rw [t1]
    match b, a3 with
    | true, a3 =>
      rw [if_neg (by decide), if_pos ((lg_cmp_eq _ _).mpr (by rw [← a3]; rfl))]; rfl
    | false, a3 =>
      rw [if_pos (by decide), if_pos ((lg_cmp_eq _ _).mpr (by rw [← a3]; rfl))]; rfl
  have e1 : ∀ v, M_isClip (up2 HM 150 0 v) (nI j) = some true := fun v => (isClip_cg (rd_up2_ne (by decide)) _).trans (isClip_in hj)
  have e2 : ∀ v, M_matchOf (up2 (up2 HM 150 0 v) 140 15 0) (nI j) (nI (1 + i)) = some x := fun v => (matchOf_cg ((rd_up2_ne (by decide)).trans (rd_up2_ne (by decide))) _ _).trans x2
  by_cases c : x = -1
  · refine go false 0 ?_ ?_ rfl
    · simp only [L_matches, C_matches, needClip_in hj, thB_r, p1, x1, c, Option.bind_some, if_true, caB_r, bf, nm]
    · simp only [M_matches, e1, p2, Option.bind_some, lt, bf, bt, if_true, if_false, th2c, e2, c]
  · refine go true 1 ?_ ?_ rfl
    · simp only [L_matches, C_matches, needClip_in hj, thB_r, p1, x1, c, Option.bind_some, if_false, caB_r, bt, nm]
    · simp only [M_matches, e1, p2, Option.bind_some, lt, bf, bt, if_true, if_false, th2c, e2, c]
set_option maxRecDepth 16384 in
theorem cnt5 : rd HM 1 5 = nI 5 ∧ rdO 106 (rd HM 141) 2 = some (nI 5) := by decide +kernel
set_option maxRecDepth 16384 in
theorem sleepers_L {p : Nat} (hp : 1 ≤ p ∧ p ≤ 10000) {h : Hp} (e : rd h 141 = rd HM 141) : ∀ (d v n m : Nat) (acc : Int32), v + d = 5 → d < n → d < m → ∃ r, A_sleepersWith_L4 HM 1 (nI p) n acc (nI v) = some r ∧ M_matchingSleepers_L25 h (nI p) m acc (nI v) = some r
  | 0, v, n, m, acc, hv, hn, hm => by
    obtain ⟨n, rfl⟩ : ∃ q, n = q + 1 := ⟨n - 1, by omega⟩
    obtain ⟨m, rfl⟩ : ∃ q, m = q + 1 := ⟨m - 1, by omega⟩
    obtain rfl : v = 5 := by omega
    refine ⟨acc, ?_, ?_⟩
    · rw [A_sleepersWith_L4, cnt5.1, if_pos (by decide)]
    · rw [M_matchingSleepers_L25, e, cnt5.2, Option.bind_some, if_pos (by decide)]
  | d + 1, v, n, m, acc, hv, hn, hm => by
    obtain ⟨n, rfl⟩ : ∃ q, n = q + 1 := ⟨n - 1, by omega⟩
    obtain ⟨m, rfl⟩ : ∃ q, m = q + 1 := ⟨m - 1, by omega⟩
    obtain ⟨x, x1, x2⟩ := fm_x (fm_all hp.1 hp.2 (by omega : v < 5))
    obtain ⟨t, ht3, s1, s2, -⟩ := stHM_eq v (by omega)
    have o : M_of h (nI v) 1 = some (nI t) := by rw [← s2]; unfold M_of; rw [e]
    have q : ∀ a : Int32, a ||| 0 = a := fun a => Int32.or_zero
    have g : ¬ nI 5 ≤ nI v := nI_ge (by omega) (by decide)
    rw [A_sleepersWith_L4, M_matchingSleepers_L25, e, cnt5.1, cnt5.2, Option.bind_some, if_neg g, if_neg g, s1, Option.bind_some, o, Option.bind_some, x1, matchOf_cg e, x2, Option.bind_some, Option.bind_some, q, nI_1]
    by_cases c : nI t = 1
    · rw [if_pos c, if_pos c]
      by_cases c2 : x = -1
      · rw [if_pos c2, if_pos c2]
        exact sleepers_L hp e d (v + 1) n m acc (by omega) (by omega) (by omega)
      · rw [if_neg c2, if_neg c2]
        exact sleepers_L hp e d (v + 1) n m _ (by omega) (by omega) (by omega)
    · rw [if_neg c, if_neg c]
      exact sleepers_L hp e d (v + 1) n m acc (by omega) (by omega) (by omega)
set_option maxRecDepth 16384 in
theorem ki_50 {i : Nat} (hi : i < 9999) : (K_50 HM (nI (1 + i))).isSome = true := by
  obtain ⟨p1, p2⟩ := pat_in (h := HM) hi
  have w : ∀ x, rd (up2 (up2 HM 150 0 x) 140 15 0) 141 = rd HM 141 := fun x => (rd_up2_ne (by decide)).trans (rd_up2_ne (by decide))
  obtain ⟨x, r1, -⟩ := sleepers_L (p := 1 + i) ⟨by omega, by omega⟩ (h := HM) rfl 5 0 FU FU 0 (by decide) (by unfold FU; omega) (by unfold FU; omega)
  obtain ⟨x', r1', r2⟩ := sleepers_L (p := 1 + i) ⟨by omega, by omega⟩ (w x) 5 0 FU FU 0 (by decide) (by unfold FU; omega) (by unfold FU; omega)
  obtain rfl : x = x' := by rw [r1] at r1'; exact Option.some.inj r1'
  have eA : A_sleepersWith HM 1 (nI (1 + i)) = some x := by
    unfold A_sleepersWith; rw [show (0 : Int32) = nI 0 from rfl] at r1 ⊢; rw [r1, Option.bind_some]
  rw [show nI 0 = (0 : Int32) from rfl] at r2
  have hL : L_matchingSleepers HM (nI (1 + i)) = some (0, up2 HM 150 0 x) := by
    simp only [L_matchingSleepers, C_matchingSleepers, thB_r, p1, eA, Option.bind_some, caB_r, nm]
  have th1d : ∀ h : Hp, M_throwsOne h false = some (false, up2 h 140 15 0) := fun h => by
    simp only [M_throwsOne, bf, if_true, nm]
  refine kV0 (L := L_matchingSleepers HM (nI (1 + i))) (M := fun h => M_matchingSleepers h (nI (1 + i))) hL ?_
  simp only [M_matchingSleepers, p2, Option.bind_some, lt, bf, bt, if_true, if_false, th1d, r2]
/-! cuts -/
def orA (b0 b1 b2 b3 b4 : Bool) (t : Int32) : Option Bool := if t = nI 0 then some b0 else if t = nI 1 then some b1 else if t = nI 2 then some b2 else if t = nI 3 then some b3 else if t = nI 4 then some b4 else none
def orM (b0 b1 b2 b3 b4 : Bool) (c : Int32) : Option Bool := if c = 123 then some b0 else if c = 3214 then some b1 else if c = 44 then some b2 else if c = 12345678 then some b3 else if c = 9 then some b4 else none
set_option maxRecDepth 16384 in
theorem ct_eq : ∀ s, s < 2 → ∀ b0 b1 b2 b3 b4 : Bool, (O_cutScene (orA b0 b1 b2 b3 b4) (wS 0) 1 (nI s) 0).map Prod.fst = (N_cuts (orM b0 b1 b2 b3 b4) (wR.getD 0 0) (nI s) 0).map Prod.fst ∧ (O_cutScene (orA b0 b1 b2 b3 b4) (wS 0) 1 (nI s) 0).isSome = true := by decide +kernel
set_option maxRecDepth 16384 in
theorem matchL_cg {h h' : Hp} {a a' : Nat} {c : Int32} (e2 : rd h (a + 2) = rd h' (a' + 2)) : ∀ (n : Nat) (v w : Int32), A_matchesAt_L8 h a c n v w = A_matchesAt_L8 h' a' c n v w
  | 0, _, _ => rfl
  | n + 1, v, w => by simp only [A_matchesAt_L8, A_colourAt, e2, matchL_cg e2 n]
set_option maxRecDepth 16384 in
theorem findL_cg {h h' : Hp} {a a' : Nat} {c p d : Int32} (e1 : rd h (a + 1) = rd h' (a' + 1)) (e2 : rd h (a + 2) = rd h' (a' + 2)) : ∀ (n : Nat) (v : Int32), A_findPattern_L8 h a c p d n v = A_findPattern_L8 h' a' c p d n v
  | 0, _ => rfl
  | n + 1, v => by simp only [A_findPattern_L8, A_matchesAt, e1, matchL_cg e2, findL_cg e1 e2 n]
set_option maxRecDepth 16384 in
theorem find_cg {h h' : Hp} {a a' : Nat} (e1 : rd h (a + 1) = rd h' (a' + 1)) (e2 : rd h (a + 2) = rd h' (a' + 2)) (t p : Int32) : A_findPattern h a t p = A_findPattern h' a' t p := by
  simp only [A_findPattern, findL_cg e1 e2]
set_option maxRecDepth 16384 in
theorem orA_some {b0 b1 b2 b3 b4 : Bool} {t : Int32} {y : Bool} (h : orA b0 b1 b2 b3 b4 t = some y) : ∃ k, k < 5 ∧ t = nI k ∧ y = [b0, b1, b2, b3, b4].getD k false := by
  unfold orA at h
  by_cases c0 : t = nI 0
  · rw [if_pos c0] at h; exact ⟨0, by decide, c0, (Option.some.inj h).symm⟩
  rw [if_neg c0] at h
  by_cases c1 : t = nI 1
  · rw [if_pos c1] at h; exact ⟨1, by decide, c1, (Option.some.inj h).symm⟩
  rw [if_neg c1] at h
  by_cases c2 : t = nI 2
  · rw [if_pos c2] at h; exact ⟨2, by decide, c2, (Option.some.inj h).symm⟩
  rw [if_neg c2] at h
  by_cases c3 : t = nI 3
  · rw [if_pos c3] at h; exact ⟨3, by decide, c3, (Option.some.inj h).symm⟩
  rw [if_neg c3] at h
  by_cases c4 : t = nI 4
  · rw [if_pos c4] at h; exact ⟨4, by decide, c4, (Option.some.inj h).symm⟩
  rw [if_neg c4] at h; cases h
def colN (k : Nat) : Int32 := [123, 3214, 44, 12345678, 9].getD k 0
set_option maxRecDepth 16384 in
theorem orM_some {b0 b1 b2 b3 b4 : Bool} {t : Int32} {y : Bool} (h : orM b0 b1 b2 b3 b4 t = some y) : ∃ k, k < 5 ∧ t = colN k ∧ y = [b0, b1, b2, b3, b4].getD k false := by
  unfold orM at h
  by_cases c0 : t = 123
  · rw [if_pos c0] at h; exact ⟨0, by decide, c0, (Option.some.inj h).symm⟩
  rw [if_neg c0] at h
  by_cases c1 : t = 3214
  · rw [if_pos c1] at h; exact ⟨1, by decide, c1, (Option.some.inj h).symm⟩
  rw [if_neg c1] at h
  by_cases c2 : t = 44
  · rw [if_pos c2] at h; exact ⟨2, by decide, c2, (Option.some.inj h).symm⟩
  rw [if_neg c2] at h
  by_cases c3 : t = 12345678
  · rw [if_pos c3] at h; exact ⟨3, by decide, c3, (Option.some.inj h).symm⟩
  rw [if_neg c3] at h
  by_cases c4 : t = 9
  · rw [if_pos c4] at h; exact ⟨4, by decide, c4, (Option.some.inj h).symm⟩
  rw [if_neg c4] at h; cases h
set_option maxRecDepth 16384 in
theorem colN_of : ∀ k, k < 5 → M_of HM (nI k) 0 = some (colN k) := by decide +kernel
set_option maxRecDepth 16384 in
/-- what a cut wakes: both say the same, on whatever heaps hold the fresh archive -/
theorem cut_both {s i a : Nat} (hs : s < 2) (hi : i < 9999) {b h : Hp} (W : Wa a b h (wS 0)) : ∃ v h', A_cutScene h a (nI s) (nI (1 + i)) = some (v, h') ∧ (∀ j, (j < a ∨ a + 11 ≤ j) → rd h' j = rd b j) ∧ ∀ g : Hp, rd g 141 = rd HM 141 → ∃ g', M_cuts g (nI s) (nI (1 + i)) = some (v, g') ∧ ∀ j, j ≠ 141 → rd g' j = rd g j := by
  have X : ∀ k, k < 5 → ∃ x, A_findPattern HM 1 (nI k) (nI (1 + i)) = some x ∧ M_matchOf HM (nI k) (nI (1 + i)) = some x := fun k hk => fm_x (fm_all (p := 1 + i) (by omega) (by omega) hk)
  obtain ⟨x0, a0, m0⟩ := X 0 (by decide)
  obtain ⟨x1, a1, m1⟩ := X 1 (by decide)
  obtain ⟨x2, a2, m2⟩ := X 2 (by decide)
  obtain ⟨x3, a3, m3⟩ := X 3 (by decide)
  obtain ⟨x4, a4, m4⟩ := X 4 (by decide)
  obtain ⟨xs, hxs⟩ : ∃ xs : Nat → Int32, xs = fun k => [x0, x1, x2, x3, x4].getD k 0 := ⟨_, rfl⟩
  have AX : ∀ k, k < 5 → A_findPattern HM 1 (nI k) (nI (1 + i)) = some (xs k) ∧ M_matchOf HM (nI k) (nI (1 + i)) = some (xs k) ∧ [decide (x0 = -1), decide (x1 = -1), decide (x2 = -1), decide (x3 = -1), decide (x4 = -1)].getD k false = decide (xs k = -1) := by
    intro k hk
    subst hxs
    match k, hk with
    | 0, _ => exact ⟨a0, m0, rfl⟩
    | 1, _ => exact ⟨a1, m1, rfl⟩
    | 2, _ => exact ⟨a2, m2, rfl⟩
    | 3, _ => exact ⟨a3, m3, rfl⟩
    | 4, _ => exact ⟨a4, m4, rfl⟩
  obtain ⟨c1, c2⟩ := ct_eq s hs (decide (x0 = -1)) (decide (x1 = -1)) (decide (x2 = -1)) (decide (x3 = -1)) (decide (x4 = -1))
  obtain ⟨⟨v, S'⟩, eS⟩ := Option.isSome_iff_exists.mp c2
  rw [eS] at c1
  obtain ⟨⟨v', r'⟩, eN, ev⟩ := Option.map_eq_some_iff.mp c1.symm
  dsimp only at ev
  subst ev
  obtain ⟨⟨y, h'⟩, e1, q1, q2⟩ := cut_R (a := a) (b := b) (h := h) (c1 := nI s) (c2 := nI (1 + i)) (fo := orA (decide (x0 = -1)) (decide (x1 = -1)) (decide (x2 = -1)) (decide (x3 = -1)) (decide (x4 = -1))) (fun g t g1 g2 y hy => by
    obtain ⟨k, hk, rfl, hk2⟩ := orA_some hy
    obtain ⟨k1, k2, k3⟩ := AX k hk
    exact ⟨xs k, (find_cg (a' := 1) (h' := HM) g1 g2 _ _).trans k1, by rw [hk2, k3]⟩) W _ eS
  dsimp only at q1
  subst q1
  refine ⟨y, h', e1, q2.2.1, fun g hg => ?_⟩
  obtain ⟨⟨z, g'⟩, f1, r1, r2⟩ := cuts_R (b := g) (h := g) (r := wR.getD 0 0) (c1 := nI s) (c2 := nI (1 + i)) (go := orM (decide (x0 = -1)) (decide (x1 = -1)) (decide (x2 = -1)) (decide (x3 = -1)) (decide (x4 = -1))) (fun c y hy => by
    obtain ⟨k, hk, rfl, hk2⟩ := orM_some hy
    obtain ⟨k1, k2, k3⟩ := AX k hk
    rw [matchOf_mgo, colN_of k hk, Option.bind_some] at k2
    exact ⟨xs k, k2, by rw [hk2, k3]⟩) ⟨hg.trans wR0, fun _ _ => rfl⟩ _ eN
  dsimp only at r1
  subst r1
  exact ⟨g', f1, r2.2⟩
set_option maxRecDepth 16384 in
theorem ki_8 {s : Nat} (hs : s < 2) {i : Nat} (hi : i < 9999) : (K_8 HM (nI s) (nI (1 + i))).isSome = true := by
  obtain ⟨p1, p2⟩ := pat_in (h := HM) hi
  obtain ⟨HR, eR, fR⟩ := cremember_ok (h := HM) (i := 0) (by decide) HM06
  have W0 : Wa 1 HR HR (wS 0) := by
    refine ⟨fun k hk => ?_, fun _ _ => rfl, (wS0' (k := 1) (by decide)).symm, (wS0' (k := 2) (by decide)).symm⟩
    rw [fR (1 + k) (by omega) (by omega)]
    exact wS0' hk
  obtain ⟨v, h1, e1, f1, K⟩ := cut_both hs hi W0
  have hL : L_cut HM (nI s) (nI (1 + i)) = some (0, up2 h1 150 0 v) := by
    simp only [L_cut, C_cut, needScene_in hs, p1, thB_r, eR, e1, Option.bind_some, caB_r, nm]
  obtain ⟨h2, e2⟩ : ∃ h2, h2 = up2 h1 150 0 v := ⟨_, rfl⟩
  have g2 : ∀ k, 140 ≤ k → k ≠ 150 → rd h2 k = rd HM k := fun k a b => by
    rw [e2, rd_up2_ne b, f1 k (by omega)]; exact fR k (by omega) (Or.inr a)
  obtain ⟨h6, e6, f6⟩ := begins_ok (up2 h2 140 15 0)
  have w6 : rd h6 141 = rd HM 141 := by rw [f6 141 (by decide), rd_up2_ne (by decide), g2 141 (by decide) (by decide)]
  obtain ⟨h8, e8, f8⟩ := K h6 w6
  have q8 : rd h8 140 5 = nI 0 := by
    rw [f8 140 (by decide), f6 140 (by decide), rd_up2_self, upd_ne (by decide), g2 140 (by decide) (by decide)]; exact HMc0
  obtain ⟨h10, e10, f10, g10⟩ := remember_ok (c := 0) (by decide) q8 v
  have hS : M_isScene h2 (nI s) = some true := (isScene_cg (g2 141 (by decide) (by decide)) _).trans (isScene_in hs)
  have hM : M_cut h2 (nI s) (nI (1 + i)) = some (v, h10) := by
    simp only [M_cut, hS, p2, Option.bind_some, lt, bt, bf, if_false, if_true, th2c, e6, e8, e10]
  refine kV (L := L_cut HM (nI s) (nI (1 + i))) (M := fun h => M_cut h (nI s) (nI (1 + i))) (by rw [hL, e2]) hM ?_ ?_
  · rw [g10, upd_ne (by decide), f8 140 (by decide), f6 140 (by decide), rd_up2_self]; exact upd_self
  · rw [f10 150 (by decide) (by decide), f8 150 (by decide), f6 150 (by decide), rd_up2_ne (by decide), e2, rd_up2_self]; exact upd_self
set_option maxRecDepth 16384 in
theorem aside_L : ∀ (n v : Nat) (h : Hp), v ≤ 106 → 106 - v < n → ∃ h', M_setAside_L2 n (nI v) h = some h' ∧ ∀ k, k ≠ 143 → rd h' k = rd h k
  | 0, v, h, _, hn => absurd hn (Nat.not_lt_zero _)
  | n + 1, v, h, hv, hn => by
    unfold M_setAside_L2
    by_cases e : v = 106
    · subst e
      exact ⟨h, if_pos (by decide), fun _ _ => rfl⟩
    · rw [if_neg (fun q => by have := (nI_leI (a := 106) (by decide) (by omega)).mp q; omega), rdO_in (by omega) (by decide), Option.bind_some, wrO_in (by omega) (by decide), Option.bind_some, nI_1]
      obtain ⟨h', e1, e2⟩ := aside_L n (v + 1) (up2 h 143 v (rd h 141 v)) (by omega) (by omega)
      exact ⟨h', e1, fun k hk => (e2 k hk).trans (rd_up2_ne hk)⟩
set_option maxRecDepth 16384 in
theorem aside_ok (h : Hp) : ∃ h', M_setAside h = some h' ∧ ∀ k, k ≠ 143 → rd h' k = rd h k := by
  obtain ⟨h', e1, e2⟩ := aside_L FU 0 h (by omega) (by unfold FU; omega)
  refine ⟨h', ?_, e2⟩
  unfold M_setAside
  rw [show (0 : Int32) = nI 0 from rfl, e1]; rfl
set_option maxRecDepth 16384 in
theorem back_L : ∀ (n v : Nat) (h : Hp), v ≤ 106 → 106 - v < n → ∃ h', M_bringBack_L2 n (nI v) h = some h' ∧ ∀ k, k ≠ 141 → rd h' k = rd h k
  | 0, v, h, _, hn => absurd hn (Nat.not_lt_zero _)
  | n + 1, v, h, hv, hn => by
    unfold M_bringBack_L2
    by_cases e : v = 106
    · subst e
      exact ⟨h, if_pos (by decide), fun _ _ => rfl⟩
    · rw [if_neg (fun q => by have := (nI_leI (a := 106) (by decide) (by omega)).mp q; omega), rdO_in (by omega) (by decide), Option.bind_some, wrO_in (by omega) (by decide), Option.bind_some, nI_1]
      obtain ⟨h', e1, e2⟩ := back_L n (v + 1) (up2 h 141 v (rd h 143 v)) (by omega) (by omega)
      exact ⟨h', e1, fun k hk => (e2 k hk).trans (rd_up2_ne hk)⟩
set_option maxRecDepth 16384 in
theorem back_ok (h : Hp) : ∃ h', M_bringBack h = some h' ∧ ∀ k, k ≠ 141 → rd h' k = rd h k := by
  obtain ⟨h', e1, e2⟩ := back_L FU 0 h (by omega) (by unfold FU; omega)
  refine ⟨h', ?_, e2⟩
  unfold M_bringBack
  rw [show (0 : Int32) = nI 0 from rfl, e1]; rfl
noncomputable def HT : Hp := (A_copyFrom HM 12 1).getD []
set_option maxRecDepth 16384 in
theorem HT_rows : ∀ k, k < 11 → row (12 + k) HT = row (1 + k) (wS 0) := by decide +kernel
set_option maxRecDepth 16384 in
theorem ki_51 {s : Nat} (hs : s < 2) {i : Nat} (hi : i < 9999) : (K_51 HM (nI s) (nI (1 + i))).isSome = true := by
  obtain ⟨p1, p2⟩ := pat_in (h := HM) hi
  obtain ⟨HR, eR, fR⟩ := copyFrom_ok HM 12 1
  have eT : HT = HR := by unfold HT; rw [eR]; rfl
  have W0 : Wa 12 HR HR (wS 0) := by
    refine ⟨fun k hk => ?_, fun _ _ => rfl, (wS0' (k := 1) (by decide)).symm, (wS0' (k := 2) (by decide)).symm⟩
    rw [← eT]
    unfold rd
    rw [HT_rows k hk]
  obtain ⟨v, h1, e1, f1, K⟩ := cut_both hs hi W0
  have hL : L_wokenBy HM (nI s) (nI (1 + i)) = some (0, up2 h1 150 0 v) := by
    simp only [L_wokenBy, C_wokenBy, needScene_in hs, p1, thB_r, eR, e1, Option.bind_some, caB_r, nm]
  obtain ⟨h2, e2⟩ : ∃ h2, h2 = up2 h1 150 0 v := ⟨_, rfl⟩
  have g2 : ∀ k, 140 ≤ k → k ≠ 150 → rd h2 k = rd HM k := fun k a b => by
    rw [e2, rd_up2_ne b, f1 k (by omega)]; exact fR k (by omega)
  obtain ⟨h6, e6, f6⟩ := aside_ok (up2 h2 140 15 0)
  have w6 : rd h6 141 = rd HM 141 := by rw [f6 141 (by decide), rd_up2_ne (by decide), g2 141 (by decide) (by decide)]
  obtain ⟨h8, e8, f8⟩ := K h6 w6
  obtain ⟨h10, e10, f10⟩ := back_ok h8
  have hS : M_isScene h2 (nI s) = some true := (isScene_cg (g2 141 (by decide) (by decide)) _).trans (isScene_in hs)
  have hM : M_wokenBy h2 (nI s) (nI (1 + i)) = some (v, h10) := by
    simp only [M_wokenBy, hS, p2, Option.bind_some, lt, bt, bf, if_false, if_true, th2c, e6, e8, e10]
  refine kV (L := L_wokenBy HM (nI s) (nI (1 + i))) (M := fun h => M_wokenBy h (nI s) (nI (1 + i))) (by rw [hL, e2]) hM ?_ ?_
  · rw [f10 140 (by decide), f8 140 (by decide), f6 140 (by decide), rd_up2_self]; exact upd_self
  · rw [f10 150 (by decide), f8 150 (by decide), f6 150 (by decide), rd_up2_ne (by decide), e2, rd_up2_self]; exact upd_self
