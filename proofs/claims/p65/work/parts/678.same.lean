/-! ===== p65: weeks in pieces do the same as at once ===== -/
theorem passM_acc {a : Nat} (A : Int32) : ∀ (n : Nat) (s v : Int32) (h : Hp) (t : Int32) (z : Hp), A_pass_L22 a n s v h = some (t, z) → A_pass_L22 a n (A + s) v h = some (A + t, z)
  | 0, _, _, _, t, z, e => by
    have e : (none : Option (Int32 × Hp)) = some (t, z) := e
    cases e
  | n + 1, s, v, h, t, z, e => by
    rw [A_pass_L22] at e ⊢
    by_cases q : rd h a 5 ≤ v
    · rw [if_pos q] at e ⊢
      have e := Prod.mk.inj (Option.some.inj e)
      rw [e.1, e.2]
    · rw [if_neg q] at e ⊢
      obtain ⟨⟨y, g⟩, e1, e2⟩ := Option.bind_eq_some_iff.mp e
      dsimp only at e2
      rw [e1, Option.bind_some]
      dsimp only
      rw [Int32.add_assoc]
      exact passM_acc A n _ _ _ _ _ e2
/-- the rest of the weeks, counted from one on, over what has faded before -/
theorem passL_shift {a one two : Nat} (A : Int32) (h31 : one + two < 2 ^ 31) : ∀ (n v : Nat) (s : Int32) (h : Hp) (t : Int32) (z : Hp), v ≤ two → A_pass_L4 a (nI two) n s (nI v) h = some (t, z) → A_pass_L4 a (nI (one + two)) n (A + s) (nI (one + v)) h = some (A + t, z)
  | 0, _, _, _, t, z, _, e => by
    have e : (none : Option (Int32 × Hp)) = some (t, z) := e
    cases e
  | n + 1, v, s, h, t, z, hv, e => by
    rw [A_pass_L4] at e ⊢
    by_cases q : two ≤ v
    · rw [if_pos (nI_le q (by omega))] at e
      rw [if_pos (nI_le (by omega) (by omega))]
      have e := Prod.mk.inj (Option.some.inj e)
      rw [e.1, e.2]
    · rw [if_neg (nI_ge (by omega) (by omega))] at e
      rw [if_neg (nI_ge (by omega) (by omega))]
      unfold nm at e ⊢
      dsimp only at e ⊢
      obtain ⟨⟨y, g⟩, e1, e2⟩ := Option.bind_eq_some_iff.mp e
      dsimp only at e2
      obtain ⟨g2, e3, e4⟩ := Option.bind_eq_some_iff.mp e2
      rw [passM_acc A _ _ _ _ _ _ e1, Option.bind_some]
      dsimp only
      rw [e3, Option.bind_some, nI_1]
      rw [nI_1] at e4
      exact passL_shift A h31 n (v + 1) _ _ _ _ (by omega) e4
/-- the first weeks of all of them -/
theorem passL_first {a one two : Nat} (h31 : one + two < 2 ^ 31) {t : Int32} {z : Hp} : ∀ (d n v : Nat) (s : Int32) (h : Hp), v + d = one → A_pass_L4 a (nI one) (n + d) s (nI v) h = some (t, z) → A_pass_L4 a (nI (one + two)) (n + d) s (nI v) h = A_pass_L4 a (nI (one + two)) n t (nI one) z
  | 0, n, v, s, h, hv, e => by
    obtain rfl : v = one := by omega
    match n, e with
    | 0, e =>
      have e : (none : Option (Int32 × Hp)) = some (t, z) := e
      cases e
    | n + 1, e =>
      have e : A_pass_L4 a (nI v) (n + 1) s (nI v) h = some (t, z) := e
      rw [A_pass_L4, if_pos (nI_le (Nat.le_refl _) (by omega))] at e
      obtain ⟨y1, y2⟩ := Prod.mk.inj (Option.some.inj e)
      subst y1
      subst y2
      rfl
  | d + 1, n, v, s, h, hv, e => by
    have e : A_pass_L4 a (nI one) (n + d + 1) s (nI v) h = some (t, z) := e
    show A_pass_L4 a (nI (one + two)) (n + d + 1) s (nI v) h = _
    rw [A_pass_L4, if_neg (nI_ge (by omega) (by omega))] at e
    rw [A_pass_L4, if_neg (nI_ge (by omega) (by omega))]
    unfold nm at e ⊢
    dsimp only at e ⊢
    obtain ⟨⟨y, g⟩, e1, e2⟩ := Option.bind_eq_some_iff.mp e
    dsimp only at e2
    obtain ⟨g2, e3, e4⟩ := Option.bind_eq_some_iff.mp e2
    rw [e1, Option.bind_some]
    dsimp only
    rw [e3, Option.bind_some, nI_1]
    rw [nI_1] at e4
    exact passL_first h31 d n (v + 1) _ _ (by omega) e4
/-- less fuel is enough -/
theorem passL_fuel {a two : Nat} (h31 : two < 2 ^ 31) : ∀ (n n' v : Nat) (s : Int32) (h : Hp) (r : Int32 × Hp), v ≤ two → two - v < n' → A_pass_L4 a (nI two) n s (nI v) h = some r → A_pass_L4 a (nI two) n' s (nI v) h = some r
  | 0, _, _, _, _, r, _, _, e => by
    have e : (none : Option (Int32 × Hp)) = some r := e
    cases e
  | n + 1, 0, _, _, _, _, _, hn, _ => absurd hn (Nat.not_lt_zero _)
  | n + 1, n' + 1, v, s, h, r, hv, hn, e => by
    rw [A_pass_L4] at e ⊢
    by_cases q : two ≤ v
    · rw [if_pos (nI_le q (by omega))] at e ⊢
      exact e
    · rw [if_neg (nI_ge (by omega) (by omega))] at e ⊢
      unfold nm at e ⊢
      dsimp only at e ⊢
      obtain ⟨⟨y, g⟩, e1, e2⟩ := Option.bind_eq_some_iff.mp e
      dsimp only at e2
      obtain ⟨g2, e3, e4⟩ := Option.bind_eq_some_iff.mp e2
      rw [e1, Option.bind_some]
      dsimp only
      rw [e3, Option.bind_some, nI_1]
      rw [nI_1] at e4
      exact passL_fuel h31 n n' (v + 1) _ _ r (by omega) (by omega) e4
theorem pass_in {h : Hp} {a : Nat} {w : Nat} {r : Int32 × Hp} (e : A_pass h a (nI w) = some r) : A_pass_L4 a (nI w) FU 0 0 h = some r := by
  unfold A_pass at e
  obtain ⟨⟨x, g⟩, e1, e2⟩ := Option.bind_eq_some_iff.mp e
  dsimp only at e2
  rw [e1, ← Option.some.inj e2]
theorem pass_out {h : Hp} {a : Nat} {w : Nat} {x : Int32} {g : Hp} (e : A_pass_L4 a (nI w) FU 0 0 h = some (x, g)) : A_pass h a (nI w) = some (x, g) := by
  unfold A_pass
  rw [e, Option.bind_some]
theorem pass_cg {g g' : Hp} {a a' : Nat} {v : Int32} {x : Hp} {c : Int32} (q : Eqa a a' g g') (e : A_pass g' a' c = some (v, x)) : ∃ y, A_pass g a c = some (v, y) ∧ Eqa a a' y x := by
  have R : Rs (Rq (Eqa a a')) (A_pass g a c) (A_pass g' a' c) := by
    unfold A_pass
    exact Rs.bind (passL_R FU 0 0 g g' q) fun x y q => by
      obtain ⟨x1, x2⟩ := x
      obtain ⟨y1, y2⟩ := y
      obtain ⟨q1, q2⟩ := q
      dsimp only at q1 q2 ⊢
      subst q1
      exact Rs.ret ⟨rfl, q2⟩
  obtain ⟨⟨w, y⟩, e1, e2, e3⟩ := R _ e
  dsimp only at e2 e3
  exact ⟨y, by rw [e1, e2], e3⟩
/-- one number of weeks and then another: as their sum -/
theorem pass_add {h x x' y : Hp} {a one two : Nat} (h1 : one ≤ 50) (h2 : two ≤ 50) {F1 F2 : Int32} (e1 : A_pass h a (nI one) = some (F1, x)) (q : Eqa a a x' x) (e2 : A_pass x' a (nI two) = some (F2, y)) : ∃ z, A_pass h a (nI (one + two)) = some (F1 + F2, z) ∧ Eqa a a z y := by
  obtain ⟨z, ez, qz⟩ := pass_cg q.sy e2
  refine ⟨z, pass_out ?_, qz⟩
  have a1 := pass_in e1
  have a2 := passL_fuel (by omega) FU (FU - one) 0 0 x (F2, z) (by omega) (by unfold FU; omega) (pass_in ez)
  have a3 := passL_first (a := a) (one := one) (two := two) (t := F1) (z := x) (by omega) one (FU - one) 0 0 h (by omega) (by
    rw [show FU - one + one = FU by unfold FU; omega]; exact a1)
  rw [show FU - one + one = FU by unfold FU; omega] at a3
  have a4 := passL_shift (a := a) (one := one) (two := two) F1 (by omega) (FU - one) 0 0 x F2 z (by omega) a2
  have a4 : A_pass_L4 a (nI (one + two)) (FU - one) (F1 + 0) (nI one) x = some (F1 + F2, z) := a4
  rw [i_add0] at a4
  rw [a4] at a3
  exact a3
section
variable {h : Hp} {e c0 : Nat}
theorem restore_y {h' b : Hp} (s3 : rd h' 0 3 = 1) (q : Eqa 23 1 h' b) {e c : Nat} (ring : Ring h' e c) : ∃ g, C_restoreSnapshot h' = some (rd g 1 0, g) ∧ Eqa 1 1 g b ∧ Ring g e 0 ∧ (∀ k, 12 ≤ k → rd g k = rd h' k) ∧ rd g 0 3 = 1 := by
  obtain ⟨g2, e2, f2, q2⟩ := copy_eqa h' 1 23 (Or.inl (by decide))
  obtain ⟨g, eg⟩ : ∃ g, g = up2 g2 0 5 0 := ⟨_, rfl⟩
  have z : rd g 0 = upd (rd h' 0) 5 0 := by rw [eg, rd_up2_self, f2 0 (by omega)]
  have R : ∀ k, k ≠ 0 → rd g k = rd g2 k := fun k hk => by rw [eg, rd_up2_ne hk]
  obtain ⟨r1, r2, r6, r5⟩ := ring
  refine ⟨g, ?_, (q2.fr (fun k a b => R k (by omega))).tr q, ⟨r1, by omega, ?_, ?_⟩, fun k hk => by rw [R k (by omega), f2 k (by omega)], ?_⟩
  · unfold C_restoreSnapshot nm
    rw [s3, if_neg (by decide), e2, Option.bind_some, ← eg]
  · rw [z, upd_ne (by decide)]; exact r6
  · rw [z, upd_self]; rfl
  · rw [z, upd_ne (by decide)]; exact s3
theorem isSame_y (I : Ary h 1) (ring : Ring h e c0) {one two : Nat} (o1 : 1 ≤ one) (ho : one ≤ 16) (t1 : 1 ≤ two) (ht : two ≤ 32) : ∃ g, L_isSame h (nI one) (nI two) = some (true, g) := by
  obtain ⟨k, hk, ek⟩ := I.2.1
  have eW : C_week h = some (nI k) := by unfold C_week; rw [ek]
  have sm : nI k + nI one + nI two = nI (k + one + two) := by rw [nI_add, nI_add]
  by_cases hs : k + one + two ≤ 999
  · obtain ⟨s1, es1⟩ := sum_ok I true
    -- the snapshot
    obtain ⟨h2, e2, f2, q2⟩ := copy_eqa h 23 1 (Or.inr (by decide))
    obtain ⟨h4, e4⟩ : ∃ h4, h4 = up2 h2 0 3 1 := ⟨_, rfl⟩
    have z4 : rd h4 0 = upd (rd h 0) 3 1 := by rw [e4, rd_up2_self, f2 0 (by omega)]
    have R4 : ∀ k, k ≠ 0 → rd h4 k = rd h2 k := fun k hk => by rw [e4, rd_up2_ne hk]
    have n4 : ∀ k, 1 ≤ k → k < 23 → rd h4 k = rd h k := fun k a b => by rw [R4 k (by omega), f2 k (by omega)]
    have q4 : Eqa 23 1 h4 h := q2.fr (fun k a b => R4 k (by omega))
    have I4 : Ary h4 1 := I.cg (fun k a b => n4 k a (by omega))
    obtain ⟨g1, g2, g6, g5⟩ := ring
    have ring4 : Ring h4 e c0 := ⟨g1, g2, by rw [z4, upd_ne (by decide)]; exact g6, by rw [z4, upd_ne (by decide)]; exact g5⟩
    have s4 : rd h4 0 3 = 1 := by rw [z4, upd_self]
    have eS : C_saveSnapshot h = some (rd h4 1 0, h4) := by
      unfold C_saveSnapshot nm
      rw [e2, Option.bind_some, ← e4]
    -- all weeks at once
    obtain ⟨F, h6, e6, H6, I6, -, p6, ep6, fp6, Fp6⟩ := passWeeks_y I4 ring4 (w := one + two) (k := k) (by omega) (by omega) (by rw [n4 1 (by omega) (by omega)]; exact ek) (by omega)
    obtain ⟨s6, es6⟩ := sum_ok I6 true
    have s36 : rd h6 0 3 = 1 := by rw [H6.2.2.2]; exact s4
    have q6 : Eqa 23 1 h6 h := q4.fr (fun k a b => H6.2.2.1 k (by omega) (by omega))
    -- back, and in pieces
    obtain ⟨h9, e9, q9, ring9, f9, s9⟩ := restore_y s36 q6 H6.1
    have I9 : Ary h9 1 := Ary.eq q9 I
    have k9 : rd h9 1 0 = nI k := by rw [q9.1 0 (Or.inl (by decide))]; exact ek
    obtain ⟨F1, h11, e11, H11, I11, w11, p11, ep11, fp11, Fp11⟩ := passWeeks_y I9 ring9 (w := one) (k := k) o1 (by omega) k9 (by omega)
    obtain ⟨F2, h13, e13, H13, I13, -, p13, ep13, fp13, Fp13⟩ := passWeeks_y I11 H11.1 (w := two) (k := k + one) t1 (by omega) w11 (by omega)
    have qp11 : Eqa 1 1 p11 p6 := (((Eqa.rf 1 h9).fr (fun k a b => fp11 k a (by omega))).tr q9).tr ((((Eqa.rf 1 h4).fr (fun k a b => fp6 k a (by omega))).tr ((Eqa.rf 1 h).fr (fun k a b => n4 k a (by omega)))).sy)
    obtain ⟨x, ex, qx⟩ := pass_add (by omega) (by omega) ep11 ((Eqa.rf 1 h11).fr (fun k a b => fp13 k a (by omega))) ep13
    obtain ⟨y, ey, qy⟩ := pass_cg qp11 ep6
    rw [ex] at ey
    have eF := (Prod.mk.inj (Option.some.inj ey)).1
    have exy := (Prod.mk.inj (Option.some.inj ey)).2
    have q13 : Eqa 1 1 h13 h6 := qx.sy.tr (by rw [exy]; exact qy)
    have es13 : L_sum h13 true = some s6 := by rw [sum_cg q13]; exact es6
    have s313 : rd h13 0 3 = 1 := by rw [H13.2.2.2, H11.2.2.2]; exact s9
    have q15 : Eqa 23 1 h13 h := q6.fr (fun k a b => by
      rw [H13.2.2.1 k (by omega) (by omega), H11.2.2.1 k (by omega) (by omega), f9 k (by omega)])
    obtain ⟨h15, e15, qq, -⟩ := restore_y s313 q15 H13.1
    have es15 : L_sum h15 true = some s1 := by rw [sum_cg qq]; exact es1
    refine ⟨h15, ?_⟩
    have bt1 : ¬ b2i true = 0 := by decide
    have c3 : (0 : Int32) = 0 := rfl
    unfold L_isSame lt
    dsimp only
    rw [eW, Option.bind_some, sm, if_pos (show nI (k + one + two) ≤ 999 from nI_le (b := 999) hs (by decide)), es1, Option.bind_some, eS, Option.bind_some]
    dsimp only
    rw [show nI one + nI two = nI (one + two) from nI_add _ _, e6, Option.bind_some]
    dsimp only
    rw [es6, Option.bind_some, e9, Option.bind_some]
    dsimp only
    rw [e11, Option.bind_some]
    dsimp only
    rw [e13, Option.bind_some]
    dsimp only
    rw [if_pos eF, es13, Option.bind_some, lgc, if_pos c3, e15, Option.bind_some]
    dsimp only
    rw [if_neg bt1, es15, Option.bind_some, lgc, if_pos c3]
  · refine ⟨h, ?_⟩
    unfold L_isSame
    rw [eW, Option.bind_some, sm, if_neg (show ¬ nI (k + one + two) ≤ 999 from nI_ge (a := 999) (by omega) (by omega))]
/-- one turn of the law's loop -/
def Inv (_ : Nat) (h : Hp) : Prop := Ary h 1 ∧ ∃ e c, Ring h e c
set_option maxHeartbeats 4000000 in
theorem step_y (i : Nat) (p : Int32) (hi : i < 12) (H : Inv i h) : ∃ g, L_step h (nI i) p = some g ∧ Inv (i + 1) g := by
  obtain ⟨I, e, c, ring⟩ := H
  obtain ⟨s1, es1⟩ := sum_ok I true
  have eU : C_undoCount h = some (nI c) := by unfold C_undoCount; rw [ring.2.2.2]
  have hc : c ≤ 8 := ring.2.1
  have c3 : (0 : Int32) = 0 := rfl
  have bt1 : ¬ b2i true = 0 := by decide
  have bf1 : b2i false = 0 := by decide
  -- what comes behind the deed
  have tail : ∀ g : Hp, Ary g 1 → (∃ e c, Ring g e c) → ∃ r, (if nI i - nI i / 4 * 4 = 3 then (C_reelCount g).bind fun t7 => (rmO ((iush p 6) &&& 3) t7).bind fun t8 => (L_isAired g t8).bind fun (t9, h10) => if (b2i t9) = 0 then none else some h10 else some g) = some r ∧ Inv (i + 1) r := fun g Ig rg => by
    obtain ⟨e', c', ring'⟩ := rg
    by_cases z : nI i - nI i / 4 * 4 = 3
    · obtain ⟨n, R, S, n1, hn, R1, hR, S1, hS, en, eR, eS, v5, v12, v15⟩ := Ig.nums
      obtain ⟨a, ha, ea⟩ := and_lt (iush p 6) 3 (by decide)
      have ea : (iush p 6) &&& 3 = nI a := ea
      have eRc : C_reelCount g = some (nI R) := by unfold C_reelCount; rw [eR]
      obtain ⟨g', c'', eA, IA, ringA⟩ := isAired_y Ig ring' eR hR (r := a % R) (Nat.mod_lt _ R1)
      refine ⟨g', ?_, IA, _, _, ringA⟩
      rw [if_pos z, eRc, Option.bind_some, ea, rmO_eq (by omega) R1 (by omega), Option.bind_some, eA, Option.bind_some]
      dsimp only
      rw [if_neg bt1]
    · exact ⟨g, if_neg z, Ig, _, _, ring'⟩
  obtain ⟨h4, e4, D⟩ := deed_y I ring p
  unfold L_step lt
  dsimp only
  rw [eU, Option.bind_some, es1, Option.bind_some, e4, Option.bind_some]
  rcases D with D | ⟨H4, I4⟩
  · obtain ⟨r, er, ir⟩ := tail h I ⟨e, c, ring⟩
    refine ⟨r, ?_, ir⟩
    rw [D, eU, Option.bind_some, if_pos (nI_le (Nat.le_refl c) (by omega)), holds_true I, Option.bind_some, if_neg bt1, if_pos bf1]
    by_cases z : 8 ≤ c
    · rw [if_pos (show (8 : Int32) ≤ nI c from nI_le (a := 8) z (by omega)), if_pos bf1]
      exact er
    · rw [if_neg (show ¬ (8 : Int32) ≤ nI c from nI_ge (b := 8) (by omega) (by decide)), es1, Option.bind_some, lgc, if_pos c3, if_pos bf1]
      exact er
  · have eU4 : C_undoCount h4 = some (nI (min (c + 1) 8)) := by unfold C_undoCount; rw [H4.1.2.2.2]
    rw [eU4, Option.bind_some]
    by_cases z : 8 ≤ c
    · obtain ⟨r, er, ir⟩ := tail h4 I4 ⟨_, _, H4.1⟩
      refine ⟨r, ?_, ir⟩
      rw [if_pos (nI_le (by omega) (by omega)), holds_true I4, Option.bind_some, if_neg bt1, if_pos bf1, if_pos (show (8 : Int32) ≤ nI c from nI_le (a := 8) z (by omega)), if_pos bf1]
      exact er
    · rw [if_neg (nI_ge (by omega) (by omega)), holds_true I4, Option.bind_some, if_neg bt1, if_neg bt1, if_neg bt1]
      by_cases y : (iush p 29) &&& 3 = 1
      · obtain ⟨h12, e12, q12, ring12, -, -⟩ := undo_y (h' := h4) (b := h) (e := e) (c := min (c + 1) 8) ring.1 (by omega) H4.1 H4.2.1
        have es12 : L_sum h12 true = some s1 := by rw [sum_cg q12]; exact es1
        obtain ⟨r, er, ir⟩ := tail h12 (Ary.eq q12 I) ⟨_, _, ring12⟩
        refine ⟨r, ?_, ir⟩
        have cc : nI (min (c + 1) 8 - 1) = nI c := by congr 1; omega
        rw [if_pos y, e12, Option.bind_some]
        dsimp only
        rw [if_pos cc, es12, Option.bind_some, lgc, if_pos c3]
        exact er
      · obtain ⟨r, er, ir⟩ := tail h4 I4 ⟨_, _, H4.1⟩
        refine ⟨r, ?_, ir⟩
        rw [if_neg y]
        exact er
end
