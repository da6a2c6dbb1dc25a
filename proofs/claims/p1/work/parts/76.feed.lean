/-! ===== feed, paint ===== -/
set_option maxRecDepth 16384 in
theorem th3c : M_throwsOne3 HM false false true = some (true, HX 3) := by
  simp only [M_throwsOne3, bt, bf, if_false, if_true, nm, lt]; rfl
set_option maxRecDepth 16384 in
theorem th3d (h : Hp) : M_throwsOne3 h false false false = some (false, up2 h 140 15 0) := by
  simp only [M_throwsOne3, bf, if_true, nm, lt]
set_option maxRecDepth 16384 in
theorem feedClip_eq {h : Hp} {a c : Nat} (hc : c < 12) (x : Int32) : A_feedClip h a (nI c) x = some (rd h (a + 5) c + x, up2 (up2 (up2 h (a + 5) c (rd h (a + 5) c + x)) a 1 (rd h a 1 - x)) a 2 (rd h a 2 + x)) := by
  unfold A_feedClip nm
  dsimp only
  have e1 : rd (up2 h (a + 5) c (rd h (a + 5) c + x)) a 1 = rd h a 1 := by rw [rd_up2_ne (by omega)]
  have e2 : rd (up2 (up2 h (a + 5) c (rd h (a + 5) c + x)) a 1 (rd h a 1 - x)) a 2 = rd h a 2 := by rw [rd_up2_self, upd_ne (by decide), rd_up2_ne (by omega)]
  rw [rdO_in hc (by decide), Option.bind_some, wrO_in hc (by decide), Option.bind_some, e1, e2, rdO_in hc (by decide), Option.bind_some]
  have e3 : ∀ y z : Int32, rd (up2 (up2 (up2 h (a + 5) c (rd h (a + 5) c + x)) a 1 y) a 2 z) (a + 5) c = rd h (a + 5) c + x := fun y z => by
    rw [rd_up2_ne (by omega), rd_up2_ne (by omega), rd_up2_self, upd_self]
  rw [e3]
set_option maxRecDepth 16384 in
theorem feeds_eq {h : Hp} {c : Nat} (hc : c < 12) (x : Int32) : ∃ h', M_feeds h (nI c) x = some (rd h 141 (8 + 4 * c + 2) + x, h') ∧ (∀ k, k ≠ 141 → rd h' k = rd h k) ∧ rd h' 141 = upd (upd (upd (rd h 141) (8 + 4 * c + 2) (rd h 141 (8 + 4 * c + 2) + x)) 1 (rd h 141 1 - x)) 6 (rd h 141 6 + x) := by
  obtain ⟨v, hv⟩ : ∃ v, v = rd h 141 (8 + 4 * c + 2) + x := ⟨_, rfl⟩
  obtain ⟨h3, e3⟩ : ∃ h3, h3 = up2 h 141 (8 + 4 * c + 2) v := ⟨_, rfl⟩
  have r3 : rd h3 141 = upd (rd h 141) (8 + 4 * c + 2) v := by rw [e3, rd_up2_self]
  obtain ⟨h5, e5⟩ : ∃ h5, h5 = up2 h3 141 1 (rd h 141 1 - x) := ⟨_, rfl⟩
  have r5 : rd h5 141 = upd (rd h3 141) 1 (rd h 141 1 - x) := by rw [e5, rd_up2_self]
  have a1 : M_of h (nI c) 2 = some (rd h 141 (8 + 4 * c + 2)) := mof_ok (f := 2) hc (by decide)
  have a2 : M_to h (nI c) 2 v = some h3 := by rw [e3]; exact mto_ok (f := 2) hc (by decide) v
  have a3 : rdO 106 (rd h3 141) 1 = some (rd h 141 1) := by
    rw [show (1 : Int32) = nI 1 from rfl, rdO_in (by decide) (by decide), r3, upd_ne (by omega)]
  have a4 : wrO h3 141 106 1 (rd h 141 1 - x) = some h5 := by rw [e5]; exact wrO_in (v := 1) (by decide) (by decide)
  have a5 : rdO 106 (rd h5 141) 6 = some (rd h 141 6) := by
    rw [show (6 : Int32) = nI 6 from rfl, rdO_in (by decide) (by decide), r5, upd_ne (by decide), r3, upd_ne (by omega)]
  have a6 : wrO h5 141 106 6 (rd h 141 6 + x) = some (up2 h5 141 6 (rd h 141 6 + x)) := wrO_in (v := 6) (by decide) (by decide)
  have a7 : M_of (up2 h5 141 6 (rd h 141 6 + x)) (nI c) 2 = some v := by
    rw [show (2 : Int32) = nI 2 from rfl, mof_ok hc (by decide), rd_up2_self, upd_ne (by omega), r5, upd_ne (by omega), r3, upd_self]
  refine ⟨up2 h5 141 6 (rd h 141 6 + x), ?_, fun k hk => ?_, ?_⟩
  · unfold M_feeds
    rw [a1, Option.bind_some, ← hv, a2, Option.bind_some, a3, Option.bind_some, a4, Option.bind_some, a5, Option.bind_some, a6, Option.bind_some, a7, Option.bind_some]
  · rw [rd_up2_ne hk, e5, rd_up2_ne hk, e3, rd_up2_ne hk]
  · rw [rd_up2_self, r5, r3, hv]
set_option maxRecDepth 16384 in
theorem may_eq : ∀ j, j < 5 → ∀ i, i < 50 → A_mayFeed HM 1 (nI j) (nI (1 + i)) = M_canFeed HM (nI j) (nI (1 + i)) ∧ (A_mayFeed HM 1 (nI j) (nI (1 + i))).isSome = true := by decide +kernel
set_option maxRecDepth 16384 in
theorem fat_eq : ∀ j, j < 5 → rd HM 6 j = rd HM 141 (8 + 4 * j + 2) := by decide +kernel
set_option maxRecDepth 16384 in
theorem HMc0 : rd HM 140 5 = nI 0 := by decide +kernel
set_option maxRecDepth 16384 in
theorem ki_10 {j : Nat} (hj : j < 5) {i : Nat} (hi : i < 50) : (K_10 HM (nI j) (nI (1 + i))).isSome = true := by
  have n1 : ¬ nI (1 + i) < 1 := nI_nlt (b := 1) (by omega) (by omega)
  have n2 : ¬ (50 : Int32) < nI (1 + i) := nI_nlt (a := 50) (by omega) (by decide)
  obtain ⟨q1, q2⟩ := may_eq j hj i hi
  generalize hx : nI (1 + i) = x at n1 n2 q1 q2 ⊢
  obtain ⟨b, hb⟩ := Option.isSome_iff_exists.mp q2
  rw [hb] at q1
  match b with
  | false =>
    have hL : L_feed HM (nI j) (x) = some (3, HM) := by
      simp only [L_feed, C_feed, needClip_in hj, thB_r, range_in n1 n2, hb, Option.bind_some, lt, bf, bt, if_true, if_false, C_refuseIf, thB_l, caB_l, show ¬ (2 : Nat) = 3 by decide, show ¬ (2 : Nat) = 1 by decide]
    have hM : M_feed HM (nI j) (x) = some (0, HX 3) := by
      simp only [M_feed, isClip_in hj, in_in n1 n2, ← q1, Option.bind_some, lt, bf, bt, if_true, if_false, th3c]
    exact kT (L := L_feed HM (nI j) (x)) (M := fun h => M_feed h (nI j) (x)) hL hM (HX_t 3) (by decide)
  | true =>
    obtain ⟨HR, eR, fR⟩ := cremember_ok (h := HM) (i := 0) (by decide) HM06
    have v6 : rd HR 6 j = rd HM 6 j := by rw [fR 6 (by decide) (by decide)]
    obtain ⟨v, hv⟩ : ∃ v, v = rd HM 6 j + x := ⟨_, rfl⟩
    obtain ⟨h1, e1, f1⟩ : ∃ h1, A_feedClip HR 1 (nI j) x = some (v, h1) ∧ ∀ k, 12 ≤ k → rd h1 k = rd HR k := by
      have e := feedClip_eq (h := HR) (a := 1) (c := j) (by omega) x
      rw [show (1 + 5 : Nat) = 6 from rfl, v6, ← hv] at e
      refine ⟨_, e, fun k hk => ?_⟩
      rw [rd_up2_ne (by omega), rd_up2_ne (by omega), rd_up2_ne (by omega)]
    have hL : L_feed HM (nI j) (x) = some (0, up2 h1 150 0 v) := by
      simp only [L_feed, C_feed, needClip_in hj, thB_r, range_in n1 n2, hb, Option.bind_some, lt, bf, bt, if_true, if_false, C_refuseIf, eR, e1, caB_r, nm]
    obtain ⟨h2, e2⟩ : ∃ h2, h2 = up2 h1 150 0 v := ⟨_, rfl⟩
    have g2 : ∀ k, 140 ≤ k → k ≠ 150 → rd h2 k = rd HM k := fun k a b => by
      rw [e2, rd_up2_ne b, f1 k (by omega)]; exact fR k (by omega) (Or.inr a)
    have m0 : M_isClip h2 (nI j) = some true := by
      rw [← isClip_in hj]; unfold M_isClip; rw [g2 141 (by decide) (by decide)]
    have m1 : M_canFeed h2 (nI j) x = some true := by
      rw [q1]; unfold M_canFeed M_of; rw [g2 141 (by decide) (by decide)]
    obtain ⟨h6, e6, f6⟩ := begins_ok (up2 h2 140 15 0)
    have w6 : rd h6 141 = rd HM 141 := by rw [f6 141 (by decide), rd_up2_ne (by decide), g2 141 (by decide) (by decide)]
    obtain ⟨h8, e8, f8, -⟩ := feeds_eq (h := h6) (c := j) (by omega) x
    rw [w6, ← fat_eq j hj, ← hv] at e8
    have q8 : rd h8 140 5 = nI 0 := by
      rw [f8 140 (by decide), f6 140 (by decide), rd_up2_self, upd_ne (by decide), g2 140 (by decide) (by decide)]; exact HMc0
    obtain ⟨h10, e10, f10, g10⟩ := remember_ok (c := 0) (by decide) q8 v
    have hM : M_feed h2 (nI j) (x) = some (v, h10) := by
      simp only [M_feed, m0, in_in n1 n2, Option.bind_some, lt, bf, bt, if_true, if_false, m1, th3d, e6, e8, e10]
    refine kV (L := L_feed HM (nI j) (x)) (M := fun h => M_feed h (nI j) (x)) (by rw [hL, e2]) hM ?_ ?_
    · rw [g10, upd_ne (by decide), f8 140 (by decide), f6 140 (by decide), rd_up2_self]; exact upd_self
    · rw [f10 150 (by decide) (by decide), f8 150 (by decide), f6 150 (by decide), rd_up2_ne (by decide), e2, rd_up2_self]; exact upd_self
/-! ===== paint ===== -/
set_option maxRecDepth 16384 in
theorem renewL_cg {h h' : Hp} {a a' : Nat} {c : Int32} (e1 : rd h (a + 1) = rd h' (a' + 1)) (e2 : rd h (a + 2) = rd h' (a' + 2)) : ∀ (n : Nat) (v w : Int32), A_renewHash_L4 h a c n v w = A_renewHash_L4 h' a' c n v w
  | 0, _, _ => rfl
  | n + 1, v, w => by
    simp only [A_renewHash_L4, A_colourAt, e1, e2, renewL_cg e1 e2 n]
set_option maxRecDepth 16384 in
theorem paintsL_cg {h h' : Hp} {c i x : Int32} (e : rd h 141 = rd h' 141) : ∀ (n : Nat) (v w : Int32), M_paints_L6 h c i x n v w = M_paints_L6 h' c i x n v w
  | 0, _, _ => rfl
  | n + 1, v, w => by
    simp only [M_paints_L6, M_of, e, paintsL_cg e n]
set_option maxRecDepth 16384 in
theorem hashL_cg {h h' : Hp} {c : Int32} (e : rd h 141 = rd h' 141) : ∀ (n : Nat) (v w : Int32), M_hashOf_L4 h c n v w = M_hashOf_L4 h' c n v w
  | 0, _, _ => rfl
  | n + 1, v, w => by
    simp only [M_hashOf_L4, M_of, e, hashL_cg e n]
set_option maxRecDepth 16384 in
theorem paintClip_eq {h : Hp} {a c i : Nat} {x q : Int32} (hc : c < 12) (hi : c * 8 + i < 96) (e : A_renewHash_L4 (up2 h (a + 2) (c * 8 + i) x) a (nI c) FU 0 0 = some q) : A_paintClip h a (nI c) (nI i) x = some (q, up2 (up2 h (a + 2) (c * 8 + i) x) (a + 3) c q) := by
  unfold A_paintClip A_renewHash
  rw [nI_ix8, wrO_in hi (by decide), Option.bind_some, e, Option.bind_some, wrO_in hc (by decide), Option.bind_some, Option.bind_some, rdO_in hc (by decide), Option.bind_some, rd_up2_self, upd_self]
set_option maxRecDepth 16384 in
theorem paints_eq {h : Hp} {c i : Nat} {x r q : Int32} (hc : c < 12) (e : M_paints_L6 h (nI c) (nI i) x FU 0 0 = some r) (e2 : M_hashOf_L4 (up2 h 141 (8 + 4 * c + 0) r) (nI c) FU 0 0 = some q) : M_paints h (nI c) (nI i) x = some (q, up2 h 141 (8 + 4 * c + 0) r) := by
  have t : M_to h (nI c) 0 r = some (up2 h 141 (8 + 4 * c + 0) r) := mto_ok (f := 0) hc (by decide) r
  unfold M_paints M_hashOf
  rw [e, Option.bind_some, t, Option.bind_some, e2, Option.bind_some, Option.bind_some]
noncomputable def pvOk (j i x : Nat) : Bool := match A_renewHash_L4 (up2 HM 3 (j * 8 + i) (nI x)) 1 (nI j) FU 0 0, M_paints_L6 HM (nI j) (nI i) (nI x) FU 0 0 with
  | some q, some r => decide (M_hashOf_L4 (up2 HM 141 (8 + 4 * j + 0) r) (nI j) FU 0 0 = some q)
  | _, _ => false
def lenHM (j : Nat) : Nat := [3, 4, 2, 8, 1].getD j 0
def awHM (j : Nat) : Bool := [false, true, false, false, true].getD j false
set_option maxRecDepth 16384 in
theorem pv1 : ∀ i, i < 4 → ∀ x, x < 9 → pvOk 1 i (1 + x) = true := by decide +kernel
set_option maxRecDepth 16384 in
theorem pv4 : ∀ x, x < 9 → pvOk 4 0 (1 + x) = true := by decide +kernel
set_option maxRecDepth 16384 in
theorem lenHM_eq : ∀ j, j < 5 → rdO 12 (rd HM (1 + 1)) (nI j) = some (nI (lenHM j)) ∧ (M_of HM (nI j) 0).bind M_digits = some (nI (lenHM j)) := by decide +kernel
set_option maxRecDepth 16384 in
theorem stHM_eq : ∀ j, j < 5 → ∃ t, t < 3 ∧ rdO 12 (rd HM (1 + 4)) (nI j) = some (nI t) ∧ M_of HM (nI j) 1 = some (nI t) ∧ awHM j = decide (t = 0) := by decide +kernel
set_option maxRecDepth 16384 in
theorem pvAll {j i x : Nat} (hj : j < 5) (ha : awHM j = true) (hi : i < lenHM j) (hx : x < 9) : pvOk j i (1 + x) = true := by
  match j, hj with
  | 0, _ => cases ha
  | 1, _ => exact pv1 i hi x hx
  | 2, _ => cases ha
  | 3, _ => cases ha
  | 4, _ =>
    obtain rfl : i = 0 := by have : i < 1 := hi; omega
    exact pv4 x hx
set_option maxRecDepth 16384 in
theorem lenHM_le : ∀ j, j < 5 → lenHM j ≤ 8 ∧ 1 ≤ lenHM j := by decide
set_option maxRecDepth 16384 in
theorem ka_12 (a1 a2 a3 : Int32) : (K_12 HM a1 a2 a3).isSome = true := by
  rcases outR_or a1 5 (by decide) with h | ⟨j, hj, rfl⟩
  · exact ko_12 h
  obtain ⟨l1, l2⟩ := lenHM_eq j hj
  obtain ⟨u1, u2⟩ := lenHM_le j hj
  obtain ⟨t, ht3, s1, s2, s3⟩ := stHM_eq j hj
  obtain ⟨w, w1⟩ : ∃ w, M_of HM (nI j) 0 = some w := ⟨_, mof_ok (f := 0) (by omega) (by decide)⟩
  have w2 : M_digits w = some (nI (lenHM j)) := by rw [w1, Option.bind_some] at l2; exact l2
  have sub1 : nI (lenHM j) - 1 = nI (lenHM j - 1) := pk_sub (b := 1) u2
  obtain ⟨b3, hb3⟩ := in_some a3 1 9
  rcases outR_or a2 (lenHM j) (by omega) with h | ⟨i, hi, rfl⟩
  · have hL : L_paint HM (nI j) a2 a3 = some (1, HM) := by
      have e : C_paint HM (nI j) a2 a3 = some (.inl (3, HM)) := by
        unfold C_paint
        rw [needClip_in hj, thB_r]
        by_cases h0 : a2 < 0
        · rw [if_pos h0]
        · rw [if_neg h0, l1, Option.bind_some, if_neg (nlt_of_le (h.resolve_left h0))]
      unfold L_paint
      rw [e]; rfl
    have hM : M_paint HM (nI j) a2 a3 = some (0, HX 1) := by
      have e : M_in a2 0 (nI (lenHM j) - 1) = some false := by rw [sub1]; exact out_in (c := lenHM j) (by omega) h
      simp only [M_paint, isClip_in hj, w1, w2, e, hb3, Option.bind_some, lt, bf, bt, if_true, if_false]
      cases b3 <;> simp only [bf, bt, if_true, if_false, th3a, Option.bind_some]
    exact kT (L := L_paint HM (nI j) a2 a3) (M := fun h => M_paint h (nI j) a2 a3) hL hM (HX_t 1) (by decide)
  have i1 : ¬ nI i < 0 := nI_pos (by omega)
  have i2 : nI i < nI (lenHM j) := nI_lt hi (by omega)
  have i3 : M_in (nI i) 0 (nI (lenHM j) - 1) = some true := by
    rw [sub1]; exact in_in i1 (nI_nlt (by omega) (by omega))
  rcases range_or a3 1 9 (by decide) (by decide) with h | ⟨x, hx, rfl⟩
  · have hL : L_paint HM (nI j) (nI i) a3 = some (2, HM) := by
      have e : C_needRange HM a3 1 9 = some (.inl (1, HM)) := range_out h
      simp only [L_paint, C_paint, needClip_in hj, thB_r, i1, l1, i2, e, Option.bind_some, if_true, if_false, thB_l, caB_l, show ¬ (1 : Nat) = 3 by decide]
    have hM : M_paint HM (nI j) (nI i) a3 = some (0, HX 2) := by
      have e : M_in a3 1 9 = some false := in_out h
      simp only [M_paint, isClip_in hj, w1, w2, i3, e, s2, Option.bind_some, lt, bf, bt, if_true, if_false]
      by_cases q : nI t = 0 <;> simp only [q, bt, if_true, if_false, th3b, Option.bind_some]
    exact kT (L := L_paint HM (nI j) (nI i) a3) (M := fun h => M_paint h (nI j) (nI i) a3) hL hM (HX_t 2) (by decide)
  have n1 : ¬ nI (1 + x) < 1 := nI_nlt (b := 1) (by omega) (by omega)
  have n2 : ¬ (9 : Int32) < nI (1 + x) := nI_nlt (a := 9) (by omega) (by decide)
  by_cases ht : t = 0
  · subst ht
    have hp := pvAll hj s3 hi (by omega : x < 9)
    obtain ⟨HR, eR, fR⟩ := cremember_ok (h := HM) (i := 0) (by decide) HM06
    unfold pvOk at hp
    obtain ⟨q, eq⟩ : ∃ q, A_renewHash_L4 (up2 HM 3 (j * 8 + i) (nI (1 + x))) 1 (nI j) FU 0 0 = some q := by
      cases e : A_renewHash_L4 (up2 HM 3 (j * 8 + i) (nI (1 + x))) 1 (nI j) FU 0 0 with
      | none => rw [e] at hp; cases hp
      | some q => exact ⟨q, rfl⟩
    obtain ⟨r, er⟩ : ∃ r, M_paints_L6 HM (nI j) (nI i) (nI (1 + x)) FU 0 0 = some r := by
      cases e : M_paints_L6 HM (nI j) (nI i) (nI (1 + x)) FU 0 0 with
      | none => rw [eq, e] at hp; cases hp
      | some q => exact ⟨q, rfl⟩
    rw [eq, er] at hp
    have eh : M_hashOf_L4 (up2 HM 141 (8 + 4 * j + 0) r) (nI j) FU 0 0 = some q := of_decide_eq_true hp
    obtain ⟨h1, e1, f1⟩ : ∃ h1, A_paintClip HR 1 (nI j) (nI i) (nI (1 + x)) = some (q, h1) ∧ ∀ k, 12 ≤ k → rd h1 k = rd HR k := by
      have c1 : rd (up2 HR (1 + 2) (j * 8 + i) (nI (1 + x))) (1 + 1) = rd (up2 HM 3 (j * 8 + i) (nI (1 + x))) (1 + 1) := by
        rw [rd_up2_ne (by decide), rd_up2_ne (by decide)]; exact fR 2 (by decide) (by decide)
      have c2 : rd (up2 HR (1 + 2) (j * 8 + i) (nI (1 + x))) (1 + 2) = rd (up2 HM 3 (j * 8 + i) (nI (1 + x))) (1 + 2) := by
        rw [show (1 + 2 : Nat) = 3 from rfl, rd_up2_self, rd_up2_self, fR 3 (by decide) (by decide)]
      have e := paintClip_eq (h := HR) (a := 1) (c := j) (i := i) (x := nI (1 + x)) (by omega) (by omega) ((renewL_cg c1 c2 FU 0 0).trans eq)
      refine ⟨_, e, fun k hk => ?_⟩
      rw [rd_up2_ne (by omega), rd_up2_ne (by omega)]
    have hL : L_paint HM (nI j) (nI i) (nI (1 + x)) = some (0, up2 h1 150 0 q) := by
      simp only [L_paint, C_paint, needClip_in hj, thB_r, i1, l1, i2, range_in n1 n2, s1, show (nI 0 : Int32) = 0 from rfl, C_refuseIf, bf, eR, e1, lt, Option.bind_some, if_true, if_false, caB_r, nm]
    obtain ⟨h2, e2⟩ : ∃ h2, h2 = up2 h1 150 0 q := ⟨_, rfl⟩
    have g2 : ∀ k, 140 ≤ k → k ≠ 150 → rd h2 k = rd HM k := fun k a b => by
      rw [e2, rd_up2_ne b, f1 k (by omega)]; exact fR k (by omega) (Or.inr a)
    have m0 : M_isClip h2 (nI j) = some true := by
      rw [← isClip_in hj]; unfold M_isClip; rw [g2 141 (by decide) (by decide)]
    have mf : ∀ f, M_of h2 (nI j) f = M_of HM (nI j) f := fun f => by unfold M_of; rw [g2 141 (by decide) (by decide)]
    obtain ⟨h6, e6, f6⟩ := begins_ok (up2 h2 140 15 0)
    have w6 : rd h6 141 = rd HM 141 := by rw [f6 141 (by decide), rd_up2_ne (by decide), g2 141 (by decide) (by decide)]
    have e8 : M_paints h6 (nI j) (nI i) (nI (1 + x)) = some (q, up2 h6 141 (8 + 4 * j + 0) r) := by
      refine paints_eq (by omega) ((paintsL_cg w6 FU 0 0).trans er) ((hashL_cg ?_ FU 0 0).trans eh)
      rw [rd_up2_self, rd_up2_self, w6]
    have q8 : rd (up2 h6 141 (8 + 4 * j + 0) r) 140 5 = nI 0 := by
      rw [rd_up2_ne (by decide), f6 140 (by decide), rd_up2_self, upd_ne (by decide), g2 140 (by decide) (by decide)]; exact HMc0
    obtain ⟨h10, e10, f10, g10⟩ := remember_ok (c := 0) (by decide) q8 q
    have hM : M_paint h2 (nI j) (nI i) (nI (1 + x)) = some (q, h10) := by
      simp only [M_paint, m0, mf, w1, w2, i3, in_in n1 n2, s2, show (nI 0 : Int32) = 0 from rfl, Option.bind_some, lt, bf, bt, if_true, if_false, th3d, e6, e8, e10]
    refine kV (L := L_paint HM (nI j) (nI i) (nI (1 + x))) (M := fun h => M_paint h (nI j) (nI i) (nI (1 + x))) (by rw [hL, e2]) hM ?_ ?_
    · rw [g10, upd_ne (by decide), rd_up2_ne (by decide), f6 140 (by decide), rd_up2_self]; exact upd_self
    · rw [f10 150 (by decide) (by decide), rd_up2_ne (by decide), f6 150 (by decide), rd_up2_ne (by decide), e2, rd_up2_self]; exact upd_self
  · have t0 : ¬ nI t = 0 := nI_ne0 (by omega) (by omega)
    have hL : L_paint HM (nI j) (nI i) (nI (1 + x)) = some (3, HM) := by
      simp only [L_paint, C_paint, needClip_in hj, thB_r, i1, l1, i2, range_in n1 n2, s1, t0, C_refuseIf, bt, thB_l, lt, Option.bind_some, if_true, if_false, caB_l, show ¬ (2 : Nat) = 3 by decide, show ¬ (2 : Nat) = 1 by decide]
    have hM : M_paint HM (nI j) (nI i) (nI (1 + x)) = some (0, HX 3) := by
      simp only [M_paint, isClip_in hj, w1, w2, i3, in_in n1 n2, s2, t0, Option.bind_some, lt, bf, bt, if_true, if_false, th3c]
    exact kT (L := L_paint HM (nI j) (nI i) (nI (1 + x))) (M := fun h => M_paint h (nI j) (nI i) (nI (1 + x))) hL hM (HX_t 3) (by decide)
