/-! ===== the class's script, run to its end ===== -/
/-- what a step of the script may change -/
def Fz (h h' : Hp) : Prop := (∀ k, (k < 35 ∨ 51 ≤ k ∨ k = 48) → rd h' k = rd h k) ∧ rd h' 47 1 = rd h 47 1
set_option maxRecDepth 16384 in
theorem Fz.rf (h : Hp) : Fz h h := ⟨fun _ _ => rfl, rfl⟩
set_option maxRecDepth 16384 in
theorem Fz.tr {h0 h1 h2 : Hp} (x : Fz h0 h1) (y : Fz h1 h2) : Fz h0 h2 := ⟨fun k a => (y.1 k a).trans (x.1 k a), y.2.trans x.2⟩
set_option maxRecDepth 16384 in
theorem Fz.of3 {h h' : Hp} (f : Fr3 h h') : Fz h h' := ⟨fun k a => f.1 k (by omega) (by omega), f.2.1⟩
set_option maxRecDepth 16384 in
theorem Fz.ofs {h h' : Hp} (f : Fs h h') : Fz h h' := Fz.of3 (Fr3.of f)
set_option maxRecDepth 16384 in
theorem Fz.ofw {h h' : Hp} (w : Wx h 36 h') : Fz h h' := ⟨fun k a => w.2 k (by omega), by rw [w.2 47 (by omega)]⟩
set_option maxRecDepth 16384 in
theorem Fz.up {h0 h : Hp} (x : Fz h0 h) {k i : Nat} (hk : k = 35 ∨ k = 49 ∨ k = 50) {v : Int32} : Fz h0 (up2 h k i v) :=
  ⟨fun q a => by rw [rd_up2_ne (by omega)]; exact x.1 q a, by rw [rd_up2_ne (by omega)]; exact x.2⟩
set_option maxRecDepth 16384 in
theorem Sp.fs {h h' : Hp} (s : Sp h) (T : Tx h') (f : Fs h h') : Sp h' :=
  ⟨s.1.fr3 (Fr3.of f), T, by rw [f.2.2 5 (by decide) (by decide)]; exact s.2.2.1, by rw [f.1 49 (by decide) (by decide)]; exact s.2.2.2⟩
set_option maxRecDepth 16384 in
theorem presentCommand_ok {h : Hp} (T : Tx h) : ∃ v, S_presentCommand h = some v ∧ (v = -1 ∨ ∃ k, k < 12 ∧ v = nI (10 + k)) := by
  obtain ⟨r, e, p⟩ := loop0 (fun n (_ : Unit) v => S_presentCommand_L9 h 12 n (nI v)) 12 (fun _ _ => True) (fun r => r = .inl () ∨ ∃ k, k < 12 ∧ r = .inr (nI (10 + k))) (by decide) (fun n s v hv _ => by
    rw [S_presentCommand_L9]
    by_cases q : 12 ≤ v
    · exact Or.inl ⟨_, if_pos (show (12 : Int32) ≤ nI v from nI_le (a := 12) q (by omega)), Or.inl rfl⟩
    · have e1 : cmO (nI v) = some (nI (10 + v)) := by
        unfold cmO
        rw [nI_clamp (by omega), if_neg (by
          rintro (q | q)
          · exact nI_pos (by omega) q
          · omega)]
      have e2 : wdO (nI (10 + v)) = some (nI (10 + v + 90)) := by
        unfold wdO
        rw [nI_clamp (by omega), if_pos (by omega)]
      obtain ⟨b, eb⟩ := isWord_ok T (c := 10 + v + 90) (by omega)
      rw [if_neg (show ¬ (12 : Int32) ≤ nI v from nI_ge (b := 12) (by omega) (by decide)), e1, Option.bind_some, e2, Option.bind_some, eb, Option.bind_some, nI_1]
      by_cases w : b2i b = 0
      · rw [if_pos w]; exact Or.inr ⟨by omega, (), trivial, rfl⟩
      · rw [if_neg w]; exact Or.inl ⟨_, rfl, Or.inr ⟨v, by omega, rfl⟩⟩) () trivial
  have e : S_presentCommand_L9 h 12 FU 0 = some r := e
  unfold S_presentCommand
  rw [e, Option.bind_some]
  rcases p with rfl | ⟨k, hk, rfl⟩
  · exact ⟨-1, rfl, Or.inl rfl⟩
  · exact ⟨_, rfl, Or.inr ⟨k, hk, rfl⟩⟩
set_option maxRecDepth 16384 in
theorem beginRepeat_ok {h : Hp} (s : Sp h) : ∃ h', S_beginRepeat h = some h' ∧ Sp h' ∧ Fz h h' := by
  unfold S_beginRepeat
  obtain ⟨d, hd, ed⟩ := s.2.2.1
  by_cases q : rd h 35 5 < 2
  · rw [if_pos q]
    have hd2 : d < 2 := by rw [ed] at q; exact (nI_ltI (b := 2) (by omega) (by decide)).mp q
    obtain ⟨t, h2, e2, T2, f2, -⟩ := number_ok s.2.1 1 20
    obtain ⟨h4, e4, T4, f4, -⟩ := expect_ok T2 (t := 2) (by decide)
    have e4 : S_expect h2 2 = some h4 := e4
    have f : Fs h h4 := f2.tr f4
    have r5 : rd h4 35 5 = nI d := by rw [f.2.2 5 (by decide) (by decide), ed]
    rw [e2, Option.bind_some]
    dsimp only
    rw [e4, Option.bind_some, r5, wrO_in hd2 (by decide), Option.bind_some]
    have r5' : rd (up2 h4 49 d (rd h4 47 2)) 35 5 = nI d := by rw [rd_up2_ne (by decide), r5]
    rw [r5', wrO_in hd2 (by decide), Option.bind_some]
    unfold nm
    dsimp only
    have r5'' : rd (up2 (up2 h4 49 d (rd h4 47 2)) 50 d t) 35 5 = nI d := by rw [rd_up2_ne (by decide), r5']
    rw [r5'', nI_1]
    refine ⟨_, rfl, ⟨?_, ?_, ?_, ?_⟩, ?_⟩
    · exact (((s.1.fr3 (Fr3.of f)).out (by omega)).out (by omega)).out (by omega)
    · exact ((T4.up (by decide)).up (by decide)).up (by decide)
    · rw [rd_up2_self, upd_self]; exact ⟨d + 1, by omega, rfl⟩
    · rw [rd_up2_ne (by decide), rd_up2_ne (by decide), rd_up2_self]
      refine sm_updS ?_ T4.2.1
      rw [f.1 49 (by decide) (by decide)]; exact s.2.2.2
    · exact (((Fz.ofs f).up (by omega)).up (by omega)).up (by omega)
  · rw [if_neg q]
    obtain ⟨h2, e2, T2, f2, -⟩ := fail_ok s.2.1 4
    exact ⟨h2, by rw [e2, Option.bind_some], s.fs T2 f2, Fz.ofs f2⟩
set_option maxRecDepth 16384 in
theorem endRound_ok {h : Hp} (s : Sp h) : ∃ h', S_endRound h = some h' ∧ Sp h' ∧ Fz h h' := by
  unfold S_endRound
  obtain ⟨d, hd, ed⟩ := s.2.2.1
  match d, hd, ed with
  | 0, _, ed =>
    rw [ed, if_pos (by decide)]
    exact ⟨h, rfl, s, Fz.rf h⟩
  | d + 1, hd, ed =>
    rw [ed, nI_pred, if_neg (nI_pos (by omega))]
    rw [if_pos (show nI d < 2 from nI_lt (b := 2) (by omega) (by decide)), rdO_in (by omega) (by decide), Option.bind_some, wrO_in (by omega) (by decide), Option.bind_some]
    obtain ⟨h2, e2⟩ : ∃ h2, h2 = up2 h 50 d (rd h 50 d - 1) := ⟨_, rfl⟩
    rw [← e2]
    have s2 : Sp h2 := by
      rw [e2]
      exact ⟨s.1.out (by omega), s.2.1.up (by decide), by rw [rd_up2_ne (by decide)]; exact s.2.2.1, by rw [rd_up2_ne (by decide)]; exact s.2.2.2⟩
    have z2 : Fz h h2 := by rw [e2]; exact (Fz.rf h).up (by omega)
    rw [rdO_in (by omega) (by decide), Option.bind_some]
    by_cases q : rd h2 50 d ≤ 0
    · rw [if_pos q]
      unfold nm
      dsimp only
      obtain ⟨h4, e4⟩ : ∃ h4, h4 = up2 h2 35 5 (nI d) := ⟨_, rfl⟩
      have s4 : Sp h4 := by
        rw [e4]
        refine ⟨s2.1.out (by omega), s2.2.1.up (by decide), ?_, by rw [rd_up2_ne (by decide)]; exact s2.2.2.2⟩
        rw [rd_up2_self, upd_self]; exact ⟨d, by omega, rfl⟩
      obtain ⟨h6, e6, T6, f6, -⟩ := expect_ok s4.2.1 (t := 4) (by decide)
      have e6 : S_expect h4 4 = some h6 := e6
      rw [← e4, e6, Option.bind_some]
      exact ⟨h6, rfl, s4.fs T6 f6, (z2.tr (by rw [e4]; exact (Fz.rf h2).up (by omega))).tr (Fz.ofs f6)⟩
    · obtain ⟨p, hp, ep⟩ := s2.2.2.2 d (by omega)
      rw [if_neg q, rdO_in (by omega) (by decide), Option.bind_some, ep]
      refine ⟨_, rfl, ⟨s2.1.out (by omega), ?_, by rw [rd_up2_ne (by decide)]; exact s2.2.2.1, by rw [rd_up2_ne (by decide)]; exact s2.2.2.2⟩, ?_⟩
      · obtain ⟨a1, a2, a3, a4, a5⟩ := s2.2.1
        refine ⟨?_, ?_, ?_, ?_, ?_⟩
        · rw [up47, if_neg (by decide)]; exact a1
        · rw [up47, if_pos rfl]; exact ⟨p, hp, rfl⟩
        · rw [up47, if_neg (by decide)]; exact a3
        · rw [up47, if_neg (by decide)]; exact a4
        · rw [up47, if_neg (by decide), up47, if_neg (by decide)]; exact a5
      · exact z2.tr ⟨fun k a => rd_up2_ne (by omega), by rw [up47, if_neg (by decide)]⟩
set_option maxRecDepth 16384 in
theorem runCommand_ok {h : Hp} (s : Sp h) : ∃ h', S_runCommand h = some h' ∧ Sp h' ∧ Fz h h' := by
  unfold S_runCommand
  obtain ⟨v, ev, pv⟩ := presentCommand_ok s.2.1
  rw [ev, Option.bind_some]
  rcases pv with rfl | ⟨k, hk, rfl⟩
  · rw [if_pos rfl]
    obtain ⟨h2, e2, T2, f2, -⟩ := fail_ok s.2.1 1
    exact ⟨h2, by rw [e2, Option.bind_some], s.fs T2 f2, Fz.ofs f2⟩
  · have ea : acO (nI (10 + k)) 21 = some (decide (10 + k = 21)) := acO_ok2 (y := 21) (by omega) (by decide)
    rw [if_neg (nI_nm1 (by omega)), ea, Option.bind_some]
    by_cases q : 10 + k = 21
    · rw [decide_eq_true q]
      obtain ⟨h3, e3, s3, z3⟩ := beginRepeat_ok s
      refine ⟨h3, ?_, s3, z3⟩
      show ((S_beginRepeat h).bind fun h3 => some h3) = _
      rw [e3, Option.bind_some]
    · rw [decide_eq_false q]
      show ∃ h', (if rd h 35 4 < 200 then _ else _) = some h' ∧ Sp h' ∧ Fz h h'
      by_cases q2 : rd h 35 4 < 200
      · rw [if_pos q2]
        unfold nm lt
        dsimp only
        obtain ⟨h4, e4⟩ : ∃ h4, h4 = up2 h 35 4 (rd h 35 4 + 1) := ⟨_, rfl⟩
        have s4 : Sp h4 := by
          rw [e4]
          exact ⟨s.1.out (by omega), s.2.1.up (by decide), by rw [rd_up2_self, upd_ne (by decide)]; exact s.2.2.1, by rw [rd_up2_ne (by decide)]; exact s.2.2.2⟩
        have z4 : Fz h h4 := by rw [e4]; exact (Fz.rf h).up (by omega)
        rw [← e4]
        obtain ⟨h6, e6, T6, f6, p6⟩ := readNumbers_ok s4.1 s4.2.1 (k := k) (by omega)
        have s6 : Sp h6 := ⟨s4.1.fr3 f6, T6, by rw [f6.2.2.2]; exact s4.2.2.1, by rw [f6.1 49 (by decide) (by decide)]; exact s4.2.2.2⟩
        have z6 : Fz h h6 := z4.tr (Fz.of3 f6)
        obtain ⟨h8, e8, T8, f8, p8⟩ := expect_ok T6 (t := 4) (by decide)
        have e8 : S_expect h6 4 = some h8 := e8
        have s8 : Sp h8 := s6.fs T8 f8
        have z8 : Fz h h8 := z6.tr (Fz.ofs f8)
        rw [e6, Option.bind_some, e8, Option.bind_some]
        by_cases q3 : rd h8 35 2 = 0
        · have o6x := (p6 (p8 q3).1).2.2
          have o6 := (p6 (p8 q3).1).2.1
          have o8 : Ok k h8 := by
            have g8 := f8.2.2 8 (by decide) (by decide)
            have g9 := f8.2.2 9 (by decide) (by decide)
            have g10 := f8.2.2 10 (by decide) (by decide)
            have hk : k < 11 := by omega
            match k, hk, o6 with
            | 0, _, o6 => show Sc _ _; rw [g8]; exact o6
            | 1, _, o6 => show Sc _ _; rw [g8]; exact o6
            | 2, _, _ => trivial
            | 3, _, o6 => show (∃ c, c < 12 ∧ rd h8 35 8 = nI c) ∧ ∃ r, r < 4 ∧ rd h8 35 9 = nI r; rw [g8, g9]; exact o6
            | 4, _, o6 => show ∃ c, c < 12 ∧ rd h8 35 8 = nI c; rw [g8]; exact o6
            | 5, _, o6 => show ∃ c, c < 5 ∧ rd h8 35 8 = nI c; rw [g8]; exact o6
            | 6, _, o6 => show ∃ c, c < 4 ∧ rd h8 35 8 = nI c; rw [g8]; exact o6
            | 7, _, o6 => show (∃ c, c < 12 ∧ rd h8 35 8 = nI c) ∧ Sc 50 (rd h8 35 9); rw [g8, g9]; exact o6
            | 8, _, _ => trivial
            | 9, _, o6 => show (∃ c, c < 12 ∧ rd h8 35 8 = nI c) ∧ (∃ i, i < 8 ∧ rd h8 35 9 = nI i) ∧ Sc 9 (rd h8 35 10); rw [g8, g9, g10]; exact o6
            | 10, _, o6 => show Sc _ _; rw [g8]; exact o6
            | k + 11, hk, _ => exact absurd hk (by omega)
          have o8x : Okx k h8 := by
            have g8 := f8.2.2 8 (by decide) (by decide)
            have g9 := f8.2.2 9 (by decide) (by decide)
            have g36 := f8.1 36 (by decide) (by decide)
            have hk : k < 11 := by omega
            match k, hk, o6x with
            | 3, _, o6 => show (¬ rd h8 35 8 < 0 ∧ rd h8 35 8 ≤ rd h8 36 5 - 1) ∧ ¬ rd h8 35 9 < 0 ∧ rd h8 35 9 ≤ rd h8 36 12 - 1; rw [g8, g9, g36]; exact o6
            | 6, _, o6 => show ¬ rd h8 35 8 < 0 ∧ rd h8 35 8 ≤ rd h8 36 12 - 1; rw [g8, g36]; exact o6
            | 7, _, o6 => show ¬ rd h8 35 8 < 0 ∧ rd h8 35 8 ≤ rd h8 36 5 - 1; rw [g8, g36]; exact o6
            | 0, _, _ => trivial
            | 1, _, _ => trivial
            | 2, _, _ => trivial
            | 4, _, _ => trivial
            | 5, _, _ => trivial
            | 8, _, _ => trivial
            | 9, _, _ => trivial
            | 10, _, _ => trivial
            | k + 11, hk, _ => exact absurd hk (by omega)
          obtain ⟨b, eb, pb⟩ := isRefused_ok s8.1 (k := k) (by omega) o8
          rw [if_pos q3, eb, Option.bind_some]
          match b, pb with
          | false, pb =>
            obtain ⟨h10, e10, w10⟩ := carryOut_ok s8.1 (k := k) (by omega) o8 o8x (pb rfl)
            rw [if_pos (by decide), if_pos q3, e10, Option.bind_some]
            refine ⟨h10, rfl, ⟨w10.1, s8.2.1.cg (w10.2 47 (by omega)), by rw [w10.2 35 (by omega)]; exact s8.2.2.1, by rw [w10.2 49 (by omega)]; exact s8.2.2.2⟩, z8.tr (Fz.ofw w10)⟩
          | true, _ =>
            obtain ⟨h13, e13, T13, f13, k13⟩ := fail_ok T8 3
            rw [if_neg (by decide), e13, Option.bind_some, k13, if_neg (by decide)]
            exact ⟨h13, rfl, s8.fs T13 f13, z8.tr (Fz.ofs f13)⟩
        · rw [if_neg q3, if_neg q3]
          exact ⟨h8, rfl, s8, z8⟩
      · rw [if_neg q2]
        obtain ⟨h2, e2, T2, f2, -⟩ := fail_ok s.2.1 5
        exact ⟨h2, by rw [e2, Option.bind_some], s.fs T2 f2, Fz.ofs f2⟩
set_option maxRecDepth 16384 in
theorem begin_ok {h : Hp} (s : Sp h) : ∃ h', S_begin h = some h' ∧ Sp h' ∧ Fz h h' := by
  unfold S_begin nm
  dsimp only
  obtain ⟨h2, e2, w2, f2⟩ := empty_x s.1.1
  rw [e2, Option.bind_some]
  obtain ⟨h7, e7⟩ : ∃ h7, h7 = up2 (up2 (up2 (up2 (up2 h2 47 2 0) 35 2 0) 35 3 (-1)) 35 4 0) 35 5 0 := ⟨_, rfl⟩
  rw [← e7]
  have s7 : Sp h7 := by
    rw [e7]
    refine ⟨?_, ?_, ?_, ?_⟩
    · exact ((((w2.1.out (by omega)).out (by omega)).out (by omega)).out (by omega)).out (by omega)
    · refine ((((?_ : Tx (up2 h2 47 2 0)).up (by decide)).up (by decide)).up (by decide)).up (by decide)
      obtain ⟨a1, a2, a3, a4, a5⟩ := s.2.1.cg (f2 47 (by decide))
      refine ⟨?_, ?_, ?_, ?_, ?_⟩
      · rw [up47, if_neg (by decide)]; exact a1
      · rw [up47, if_pos rfl]; exact ⟨0, by decide, rfl⟩
      · rw [up47, if_neg (by decide)]; exact a3
      · rw [up47, if_neg (by decide)]; exact a4
      · rw [up47, if_neg (by decide), up47, if_neg (by decide)]; exact a5
    · rw [rd_up2_self, upd_self]; exact ⟨0, by decide, rfl⟩
    · rw [rd_up2_ne (by decide), rd_up2_ne (by decide), rd_up2_ne (by decide), rd_up2_ne (by decide), rd_up2_ne (by decide), f2 49 (by decide)]; exact s.2.2.2
  have z7 : Fz h h7 := by
    rw [e7]
    refine ((((Fz.ofw w2).tr (⟨fun k a => rd_up2_ne (by omega), by rw [up47, if_neg (by decide)]⟩ : Fz h2 (up2 h2 47 2 0))).up (by omega)).up (by omega)).up (by omega) |>.up (by omega)
  obtain ⟨h9, e9, T9, f9, -⟩ := expect_ok s7.2.1 (t := 0) (by decide)
  have e9 : S_expect h7 0 = some h9 := e9
  have s9 := s7.fs T9 f9
  have z9 := z7.tr (Fz.ofs f9)
  rw [e9, Option.bind_some]
  have fin : ∀ g : Hp, Sp g → Fz h g → ∃ h', ((S_expect g 4).bind fun h18 => some h18) = some h' ∧ Sp h' ∧ Fz h h' := fun g sg zg => by
    obtain ⟨h', e, T', f', -⟩ := expect_ok sg.2.1 (t := 4) (by decide)
    have e : S_expect g 4 = some h' := e
    exact ⟨h', by rw [e, Option.bind_some], sg.fs T' f', zg.tr (Fz.ofs f')⟩
  by_cases q : rd h9 35 2 = 0
  · obtain ⟨b, eb⟩ := isWord_ok T9 (c := 112) (by decide)
    have eb : T_isWord h9 112 = some b := eb
    rw [if_pos q, eb, Option.bind_some]
    by_cases q2 : b2i b = 0
    · obtain ⟨h12, e12, T12, f12, -⟩ := fail_ok T9 1
      rw [if_pos q2, e12, Option.bind_some]
      exact fin h12 (s9.fs T12 f12) (z9.tr (Fz.ofs f12))
    · rw [if_neg q2]; exact fin h9 s9 z9
  · rw [if_neg q]; exact fin h9 s9 z9
set_option maxRecDepth 16384 in
theorem run_ok {h : Hp} (s : Sp h) : ∃ h', S_run h = some h' ∧ Sp h' ∧ (∀ k, (k < 35 ∨ 51 ≤ k ∨ k = 48) → rd h' k = rd h k) ∧ rd h' 47 1 = 0 := by
  obtain ⟨h2, e2, s2, z2⟩ := begin_ok s
  obtain ⟨h3, e3, s3, z3⟩ := loop0 (fun n (u : Int32 × Hp) v => S_run_L8 n u.1 (nI v) u.2) 1000000 (fun u _ => Sp u.2 ∧ Fz h u.2) (fun g => Sp g ∧ Fz h g) (by decide) (fun n u v hv hj => by
    obtain ⟨su, zu⟩ := hj
    rw [S_run_L8]
    by_cases q : 1000000 ≤ v
    · exact Or.inl ⟨_, if_pos (show (1000000 : Int32) ≤ nI v from nI_le (a := 1000000) q (by omega)), su, zu⟩
    · rw [if_neg (show ¬ (1000000 : Int32) ≤ nI v from nI_ge (b := 1000000) (by omega) (by decide))]
      by_cases q1 : u.1 = 0
      · rw [if_pos q1]
        by_cases q2 : rd u.2 35 2 = 0
        · rw [if_pos q2]
          obtain ⟨h4, e4, T4, o4⟩ := readToken_ok su.2.1
          have s4 := su.fs T4 (Fs.of o4)
          have z4 := zu.tr (Fz.ofs (Fs.of o4))
          rw [e4, Option.bind_some, nI_1]
          unfold lt
          dsimp only
          obtain ⟨t, ht, et⟩ := T4.2.2.1
          have a5 : acO (rd h4 47 3) 5 = some (decide (t = 5)) := by rw [et]; exact acO_ok (y := 5) (by omega) (by decide)
          have a3 : acO (rd h4 47 3) 3 = some (decide (t = 3)) := by rw [et]; exact acO_ok (y := 3) (by omega) (by decide)
          obtain ⟨h6, e6, s6, z6⟩ := runCommand_ok s4
          obtain ⟨h8, e8, s8, z8⟩ := endRound_ok s4
          have run : ∀ X : Int32, X = 0 → ∃ s' : Int32 × Hp, (Sp s'.2 ∧ Fz h s'.2) ∧ ((S_runCommand h4).bind fun h6 => S_run_L8 n X (nI (v + 1)) h6) = S_run_L8 n s'.1 (nI (v + 1)) s'.2 := fun X _ => ⟨(X, h6), ⟨s6, z4.tr z6⟩, by rw [e6, Option.bind_some]⟩
          have j57 : ∃ s' : Int32 × Hp, (Sp s'.2 ∧ Fz h s'.2) ∧ ((acO (rd h4 47 3) 3).bind fun e => bcase e (if rd h4 35 5 ≤ 0 then (S_runCommand h4).bind fun h6 => S_run_L8 n u.1 (nI (v + 1)) h6 else (S_endRound h4).bind fun h8 => S_run_L8 n u.1 (nI (v + 1)) h8) ((S_runCommand h4).bind fun h10 => S_run_L8 n u.1 (nI (v + 1)) h10)) = S_run_L8 n s'.1 (nI (v + 1)) s'.2 := by
            rw [a3, Option.bind_some]
            by_cases c : t = 3
            · rw [decide_eq_true c]
              show ∃ s' : Int32 × Hp, _ ∧ (if rd h4 35 5 ≤ 0 then _ else _) = _
              by_cases d : rd h4 35 5 ≤ 0
              · rw [if_pos d]; exact run _ q1
              · rw [if_neg d, e8, Option.bind_some]
                exact ⟨(u.1, h8), ⟨s8, z4.tr z8⟩, rfl⟩
            · rw [decide_eq_false c]
              exact run _ q1
          refine Or.inr ⟨by omega, ?_⟩
          rw [a5, Option.bind_some]
          by_cases c : t = 5
          · rw [decide_eq_true c]
            show ∃ s' : Int32 × Hp, _ ∧ (if rd h4 35 5 = 0 then _ else _) = _
            by_cases d : rd h4 35 5 = 0
            · rw [if_pos d]
              exact ⟨(1, h4), ⟨s4, z4⟩, rfl⟩
            · rw [if_neg d]; exact j57
          · rw [decide_eq_false c]
            exact j57
        · exact Or.inl ⟨_, if_neg q2, su, zu⟩
      · exact Or.inl ⟨_, if_neg q1, su, zu⟩) (0, h2) ⟨s2, z2⟩
  have e3 : S_run_L8 FU 0 0 h2 = some h3 := e3
  refine ⟨up2 h3 47 1 0, ?_, ⟨s3.1.out (by omega), ?_, ?_, ?_⟩, fun k a => ?_, ?_⟩
  · unfold S_run
    rw [e2, Option.bind_some, e3, Option.bind_some]
    rfl
  · obtain ⟨a1, a2, a3, a4, a5⟩ := s3.2.1
    refine ⟨?_, ?_, ?_, ?_, ?_⟩
    · rw [up47, if_pos rfl]; exact ⟨0, by decide, rfl⟩
    · rw [up47, if_neg (by decide)]; exact a2
    · rw [up47, if_neg (by decide)]; exact a3
    · rw [up47, if_neg (by decide)]; exact a4
    · rw [up47, if_neg (by decide), up47, if_neg (by decide)]; exact a5
  · rw [rd_up2_ne (by decide)]; exact s3.2.2.1
  · rw [rd_up2_ne (by decide)]; exact s3.2.2.2
  · rw [rd_up2_ne (by omega)]; exact z3.1 k a
  · rw [up47, if_pos rfl]
