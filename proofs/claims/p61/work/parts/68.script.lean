/-! ===== the class's script ===== -/
def Sp (h : Hp) : Prop := Arx h 36 ∧ Tx h ∧ Sc 2 (rd h 35 5) ∧ Sm 2 600 (rd h 49)
/-- tokens and errors alone change: rows 47 (but the size) and 35 (kind and offset) -/
def Fs (h h' : Hp) : Prop := (∀ k, k ≠ 35 → k ≠ 47 → rd h' k = rd h k) ∧ rd h' 47 1 = rd h 47 1 ∧ ∀ i, i ≠ 2 → i ≠ 3 → rd h' 35 i = rd h 35 i
set_option maxRecDepth 16384 in
theorem Fs.rf (h : Hp) : Fs h h := ⟨fun _ _ _ => rfl, rfl, fun _ _ _ => rfl⟩
set_option maxRecDepth 16384 in
theorem Fs.tr {h0 h1 h2 : Hp} (x : Fs h0 h1) (y : Fs h1 h2) : Fs h0 h2 := ⟨fun k a b => (y.1 k a b).trans (x.1 k a b), y.2.1.trans x.2.1, fun i a b => (y.2.2 i a b).trans (x.2.2 i a b)⟩
set_option maxRecDepth 16384 in
theorem Fs.of {h h' : Hp} (o : O47 h h') : Fs h h' := ⟨fun k _ b => o.1 k b, o.2, fun i _ _ => by rw [o.1 35 (by decide)]⟩
set_option maxRecDepth 16384 in
theorem Tx.cg {h h' : Hp} (T : Tx h) (e : rd h' 47 = rd h 47) : Tx h' := by unfold Tx; rw [e]; exact T
set_option maxRecDepth 16384 in
theorem fail_ok {h : Hp} (T : Tx h) (x : Int32) : ∃ h', S_fail h x = some h' ∧ Tx h' ∧ Fs h h' ∧ rd h' 35 2 = x := by
  refine ⟨_, rfl, T.cg ?_, ⟨fun k a b => ?_, ?_, fun i a b => ?_⟩, ?_⟩
  · rw [rd_up2_ne (by decide), rd_up2_ne (by decide)]
  · rw [rd_up2_ne a, rd_up2_ne a]
  · rw [rd_up2_ne (by decide), rd_up2_ne (by decide)]
  · rw [rd_up2_self, upd_ne b, rd_up2_self, upd_ne a]
  · rw [rd_up2_self, upd_ne (by decide), rd_up2_self, upd_self]
set_option maxRecDepth 16384 in
theorem expect_ok {h : Hp} (T : Tx h) {t : Nat} (ht : t < 7) : ∃ h', S_expect h (nI t) = some h' ∧ Tx h' ∧ Fs h h' ∧ (rd h' 35 2 = 0 → rd h 35 2 = 0 ∧ rd h' 47 3 = nI t) := by
  unfold S_expect
  by_cases e0 : rd h 35 2 = 0
  · rw [if_pos e0]
    obtain ⟨h2, e2, T2, o2⟩ := readToken_ok T
    obtain ⟨u, hu, eu⟩ := T2.2.2.1
    rw [e2, Option.bind_some, eu, acO_ok (by omega) ht, Option.bind_some]
    by_cases q : u = t
    · subst q
      rw [decide_eq_true rfl]
      exact ⟨h2, rfl, T2, Fs.of o2, fun _ => ⟨e0, eu⟩⟩
    · rw [decide_eq_false q]
      obtain ⟨h4, e4, T4, f4, k4⟩ := fail_ok T2 1
      refine ⟨h4, ?_, T4, (Fs.of o2).tr f4, fun w => ?_⟩
      · show ((S_fail h2 1).bind fun h4 => some h4) = _
        rw [e4, Option.bind_some]
      · rw [k4] at w; exact absurd w (by decide)
  · rw [if_neg e0]
    exact ⟨h, rfl, T, Fs.rf h, fun w => absurd w e0⟩
set_option maxRecDepth 16384 in
theorem number_ok {h : Hp} (T : Tx h) (lo hi : Int32) : ∃ t h', S_number h lo hi = some (t, h') ∧ Tx h' ∧ Fs h h' ∧ (rd h' 35 2 = 0 → rd h 35 2 = 0 ∧ ¬ t < lo ∧ t ≤ hi ∧ Sc 99999999 t) ∧ (rd h' 35 2 ≠ 0 → t = 0) := by
  obtain ⟨h2, e2, T2, f2, p2⟩ := expect_ok T (t := 1) (by decide)
  have e2 : S_expect h 1 = some h2 := e2
  have fin : ∀ g : Hp, Tx g → Fs h g → (rd g 35 2 = 0 → rd h 35 2 = 0 ∧ ¬ rd g 47 5 < lo ∧ rd g 47 5 ≤ hi ∧ Sc 99999999 (rd g 47 5)) → ∃ t h', (if rd g 35 2 = 0 then some (rd g 47 5, g) else some (0, g)) = some (t, h') ∧ Tx h' ∧ Fs h h' ∧ (rd h' 35 2 = 0 → rd h 35 2 = 0 ∧ ¬ t < lo ∧ t ≤ hi ∧ Sc 99999999 t) ∧ (rd h' 35 2 ≠ 0 → t = 0) := fun g Tg fg pg => by
    by_cases q : rd g 35 2 = 0
    · exact ⟨_, g, if_pos q, Tg, fg, fun _ => pg q, fun w => absurd q w⟩
    · exact ⟨0, g, if_neg q, Tg, fg, fun w => absurd w q, fun _ => rfl⟩
  unfold S_number lt
  rw [e2, Option.bind_some]
  dsimp only
  by_cases q : rd h2 35 2 = 0
  · rw [if_pos q]
    obtain ⟨h4, e4, T4, f4, k4⟩ := fail_ok T2 2
    have bad : ∃ t h', ((S_fail h2 2).bind fun h4 => if rd h4 35 2 = 0 then some (rd h4 47 5, h4) else some (0, h4)) = some (t, h') ∧ Tx h' ∧ Fs h h' ∧ (rd h' 35 2 = 0 → rd h 35 2 = 0 ∧ ¬ t < lo ∧ t ≤ hi ∧ Sc 99999999 t) ∧ (rd h' 35 2 ≠ 0 → t = 0) := by
      rw [e4, Option.bind_some]
      exact fin h4 T4 (f2.tr f4) (fun w => by rw [k4] at w; exact absurd w (by decide))
    by_cases q1 : rd h2 47 5 < lo
    · rw [if_pos q1]; exact bad
    · rw [if_neg q1]
      by_cases q2 : rd h2 47 5 ≤ hi
      · rw [if_pos q2]
        exact fin h2 T2 f2 (fun w => ⟨(p2 w).1, q1, q2, T2.2.2.2.2 (p2 w).2⟩)
      · rw [if_neg q2]; exact bad
  · rw [if_neg q]
    exact fin h2 T2 f2 (fun w => absurd w q)
set_option maxRecDepth 16384 in
theorem colNumber_ok {h : Hp} (T : Tx h) : ∃ t h', S_coloursNumber h = some (t, h') ∧ Tx h' ∧ Fs h h' ∧ (rd h' 35 2 = 0 → rd h 35 2 = 0 ∧ Sc 99999999 t) := by
  obtain ⟨h2, e2, T2, f2, p2⟩ := expect_ok T (t := 1) (by decide)
  have e2 : S_expect h 1 = some h2 := e2
  have fin : ∀ g : Hp, Tx g → Fs h g → (rd g 35 2 = 0 → rd h 35 2 = 0 ∧ Sc 99999999 (rd g 47 5)) → ∃ t h', (if rd g 35 2 = 0 then some (rd g 47 5, g) else some (0, g)) = some (t, h') ∧ Tx h' ∧ Fs h h' ∧ (rd h' 35 2 = 0 → rd h 35 2 = 0 ∧ Sc 99999999 t) := fun g Tg fg pg => by
    by_cases q : rd g 35 2 = 0
    · exact ⟨_, g, if_pos q, Tg, fg, fun _ => pg q⟩
    · exact ⟨0, g, if_neg q, Tg, fg, fun w => absurd w q⟩
  unfold S_coloursNumber lt
  rw [e2, Option.bind_some]
  dsimp only
  by_cases q : rd h2 35 2 = 0
  · rw [if_pos q]
    by_cases q1 : rd h2 47 6 = 0
    · rw [if_pos q1]
      exact fin h2 T2 f2 (fun w => ⟨(p2 w).1, T2.2.2.2.2 (p2 w).2⟩)
    · obtain ⟨h4, e4, T4, f4, k4⟩ := fail_ok T2 2
      rw [if_neg q1, e4, Option.bind_some]
      exact fin h4 T4 (f2.tr f4) (fun w => by rw [k4] at w; exact absurd w (by decide))
  · rw [if_neg q]
    exact fin h2 T2 f2 (fun w => absurd w q)
/-- the command's numbers change too -/
def Fr3 (h h' : Hp) : Prop := (∀ k, k ≠ 35 → k ≠ 47 → rd h' k = rd h k) ∧ rd h' 47 1 = rd h 47 1 ∧ rd h' 35 4 = rd h 35 4 ∧ rd h' 35 5 = rd h 35 5
set_option maxRecDepth 16384 in
theorem Fr3.of {h h' : Hp} (o : Fs h h') : Fr3 h h' := ⟨o.1, o.2.1, o.2.2 4 (by decide) (by decide), o.2.2 5 (by decide) (by decide)⟩
set_option maxRecDepth 16384 in
theorem Fr3.tr {h0 h1 h2 : Hp} (x : Fr3 h0 h1) (y : Fr3 h1 h2) : Fr3 h0 h2 := ⟨fun k a b => (y.1 k a b).trans (x.1 k a b), y.2.1.trans x.2.1, y.2.2.1.trans x.2.2.1, y.2.2.2.trans x.2.2.2⟩
set_option maxRecDepth 16384 in
theorem Fr3.up {h0 h : Hp} (x : Fr3 h0 h) {i : Nat} (hi : 8 ≤ i) {v : Int32} : Fr3 h0 (up2 h 35 i v) :=
  ⟨fun k a b => by rw [rd_up2_ne a]; exact x.1 k a b, by rw [rd_up2_ne (by decide)]; exact x.2.1, by rw [rd_up2_self, upd_ne (by omega)]; exact x.2.2.1, by rw [rd_up2_self, upd_ne (by omega)]; exact x.2.2.2⟩
set_option maxRecDepth 16384 in
theorem Tx.up {h : Hp} (T : Tx h) {k i : Nat} (hk : k ≠ 47) {v : Int32} : Tx (up2 h k i v) := T.cg (rd_up2_ne (Ne.symm hk))
set_option maxRecDepth 16384 in
theorem Arx.out {h : Hp} {a : Nat} (I : Arx h a) {k i : Nat} {x : Int32} (hk : k < a ∨ a + 11 ≤ k) : Arx (up2 h k i x) a := I.cg fun q h1 h2 => rd_up2_ne (by omega)
set_option maxRecDepth 16384 in
theorem Arx.fr3 {h h' : Hp} (I : Arx h 36) (f : Fr3 h h') : Arx h' 36 := I.cg fun k a b => f.1 k (by omega) (by omega)
/-- what the numbers of the command with the ordinal k are, if there is no error -/
def Ok (k : Nat) (h : Hp) : Prop := match k with
  | 0 => Sc 99999999 (rd h 35 8)
  | 1 => Sc 9 (rd h 35 8)
  | 3 => (∃ c, c < 12 ∧ rd h 35 8 = nI c) ∧ ∃ r, r < 4 ∧ rd h 35 9 = nI r
  | 4 => ∃ c, c < 12 ∧ rd h 35 8 = nI c
  | 5 => ∃ s, s < 5 ∧ rd h 35 8 = nI s
  | 6 => ∃ r, r < 4 ∧ rd h 35 8 = nI r
  | 7 => (∃ c, c < 12 ∧ rd h 35 8 = nI c) ∧ Sc 50 (rd h 35 9)
  | 9 => (∃ c, c < 12 ∧ rd h 35 8 = nI c) ∧ (∃ i, i < 8 ∧ rd h 35 9 = nI i) ∧ Sc 9 (rd h 35 10)
  | 10 => Sc 50 (rd h 35 8)
  | _ => True
/-- clips and reels that the numbers name are there -/
def Okx (k : Nat) (h : Hp) : Prop := match k with
  | 3 => (¬ rd h 35 8 < 0 ∧ rd h 35 8 ≤ rd h 36 5 - 1) ∧ ¬ rd h 35 9 < 0 ∧ rd h 35 9 ≤ rd h 36 12 - 1
  | 6 => ¬ rd h 35 8 < 0 ∧ rd h 35 8 ≤ rd h 36 12 - 1
  | 7 => ¬ rd h 35 8 < 0 ∧ rd h 35 8 ≤ rd h 36 5 - 1
  | _ => True
set_option maxRecDepth 16384 in
theorem below {t hi : Int32} {n : Nat} (hn : n ≤ 600) (h0 : ¬ t < 0) (h1 : t ≤ hi) (eh : hi = nI n - 1) : ∃ j, j < n ∧ t = nI j := by
  obtain ⟨j, hj, rfl⟩ := nI_of h0
  subst eh
  match n with
  | 0 =>
    exfalso
    rw [Int32.le_iff_toInt_le, nI_toInt hj] at h1
    have : (nI 0 - 1).toInt = -1 := by decide
    omega
  | n + 1 =>
    rw [nI_pred] at h1
    have := (nI_leI hj (by omega)).mp h1
    exact ⟨j, by omega, rfl⟩
set_option maxRecDepth 16384 in
theorem below_vn {t hi : Int32} {n c : Nat} (hn : n ≤ 600) (hc : c < 600) (ec : t = nI c) (eh : hi = nI n) (h : ¬ t < 0 ∧ t ≤ hi - 1) : c < vn hi := by
  obtain ⟨j, hj, e⟩ := below hn h.1 h.2 (by rw [eh])
  rw [ec] at e
  rw [eh, vn_nI (by omega), nI_inj (by omega) (by omega) e]
  exact hj
set_option maxRecDepth 16384 in
theorem atMost {t lo hi : Int32} {n : Nat} (hn : n < 2 ^ 31) (h : Sc 99999999 t) (h1 : t ≤ hi) (eh : hi = nI n) : Sc n t := by
  obtain ⟨j, hj, rfl⟩ := h
  subst eh
  exact ⟨j, (nI_leI (by omega) hn).mp h1, rfl⟩
set_option maxRecDepth 16384 in
theorem orO_ok {k : Nat} (hk : k < 12) : orO (nI (10 + k)) = some (nI k) := by
  unfold orO
  rw [nI_clamp (by omega), if_pos (by omega)]
  congr 2; omega
set_option maxRecDepth 16384 in
theorem swO_ok {k : Nat} (hk : k < 11) : swO (nI k) = some (nI (k + 1)) := by
  unfold swO
  rw [nI_clamp (by omega), if_neg (by
    rintro (q | q)
    · exact nI_pos (by omega) q
    · omega)]
  unfold swV
  rw [if_neg (by omega)]
set_option maxRecDepth 16384 in
theorem readNumbers_ok {h : Hp} (I : Arx h 36) (T : Tx h) {k : Nat} (hk : k < 11) : ∃ h', S_readNumbers h (nI (10 + k)) = some h' ∧ Tx h' ∧ Fr3 h h' ∧ (rd h' 35 2 = 0 → rd h 35 2 = 0 ∧ Ok k h' ∧ Okx k h') := by
  obtain ⟨nc, hnc, enc⟩ := I.1.clips
  obtain ⟨nr, hnr, enr⟩ := I.1.reels
  obtain ⟨ns, hns, ens⟩ := I.1.scenes
  have one : ∀ lo hi : Int32, ∃ h', ((S_number h lo hi).bind fun (t, h1) => nm (up2 h1 35 8 t) fun h2 => some h2) = some h' ∧ Tx h' ∧ Fr3 h h' ∧ (rd h' 35 2 = 0 → rd h 35 2 = 0 ∧ ¬ rd h' 35 8 < lo ∧ rd h' 35 8 ≤ hi ∧ Sc 99999999 (rd h' 35 8)) := fun lo hi => by
    obtain ⟨t, h1, e1, T1, f1, p1, -⟩ := number_ok T lo hi
    refine ⟨up2 h1 35 8 t, by rw [e1, Option.bind_some]; rfl, T1.up (by decide), (Fr3.of f1).up (by decide), fun w => ?_⟩
    rw [rd_up2_self, upd_ne (by decide)] at w
    rw [rd_up2_self, upd_self]
    exact p1 w
  have clip : ∀ t : Int32, ¬ t < 0 → t ≤ nI nc - 1 → ∃ c, c < 12 ∧ t = nI c := fun t a b => by
    obtain ⟨j, hj, e⟩ := below (n := nc) (by omega) a b rfl
    exact ⟨j, by omega, e⟩
  have reel : ∀ t : Int32, ¬ t < 0 → t ≤ nI nr - 1 → ∃ c, c < 4 ∧ t = nI c := fun t a b => by
    obtain ⟨j, hj, e⟩ := below (n := nr) (by omega) a b rfl
    exact ⟨j, by omega, e⟩
  unfold S_readNumbers
  rw [orO_ok (by omega), Option.bind_some, swO_ok hk, Option.bind_some]
  match k, hk with
  | 0, _ =>
    obtain ⟨t, h1, e1, T1, f1, p1⟩ := colNumber_ok T
    rw [if_pos (by decide), e1, Option.bind_some]
    refine ⟨up2 h1 35 8 t, rfl, T1.up (by decide), (Fr3.of f1).up (by decide), fun w => ?_⟩
    rw [rd_up2_self, upd_ne (by decide)] at w
    refine ⟨(p1 w).1, ?_, trivial⟩
    show Sc 99999999 (rd (up2 h1 35 8 t) 35 8)
    rw [rd_up2_self, upd_self]
    exact (p1 w).2
  | 1, _ =>
    obtain ⟨h', e, T', f, p⟩ := one 1 9
    rw [if_neg (by decide), if_pos (by decide)]
    exact ⟨h', e, T', f, fun w => ⟨(p w).1, atMost (lo := 0) (n := 9) (by decide) (p w).2.2.2 (p w).2.2.1 rfl, trivial⟩⟩
  | 2, _ =>
    obtain ⟨h', e, T', f, p⟩ := one 1 9
    rw [if_neg (by decide), if_neg (by decide), if_pos (by decide)]
    exact ⟨h', e, T', f, fun w => ⟨(p w).1, trivial, trivial⟩⟩
  | 3, _ =>
    rw [if_neg (by decide), if_neg (by decide), if_neg (by decide), if_pos (by decide)]
    obtain ⟨t, h1, e1, T1, f1, p1, -⟩ := number_ok T 0 (rd h 36 5 - 1)
    obtain ⟨h2, e2⟩ : ∃ h2, h2 = up2 h1 35 8 t := ⟨_, rfl⟩
    have T2 : Tx h2 := by rw [e2]; exact T1.up (by decide)
    obtain ⟨u, h3, e3, T3, f3, p3, -⟩ := number_ok T2 0 (rd h2 36 12 - 1)
    rw [e1, Option.bind_some]
    unfold nm
    dsimp only
    rw [← e2, e3, Option.bind_some]
    have s8 : rd h3 35 8 = t := by rw [f3.2.2 8 (by decide) (by decide), e2, rd_up2_self, upd_self]
    have r12 : rd h2 36 12 = nI nr := by rw [e2, rd_up2_ne (by decide), f1.1 36 (by decide) (by decide), enr]
    refine ⟨up2 h3 35 9 u, rfl, T3.up (by decide), ((by rw [e2]; exact (Fr3.of f1).up (by decide) : Fr3 h h2).tr (Fr3.of f3)).up (by decide), fun w => ?_⟩
    rw [rd_up2_self, upd_ne (by decide)] at w
    obtain ⟨w3, a3, b3, -⟩ := p3 w
    rw [e2, rd_up2_self, upd_ne (by decide)] at w3
    obtain ⟨w1, a1, b1, -⟩ := p1 w3
    rw [enc] at b1
    rw [r12] at b3
    refine ⟨w1, ⟨?_, ?_⟩, ?_⟩
    · show ∃ c, c < 12 ∧ rd (up2 h3 35 9 u) 35 8 = nI c
      rw [rd_up2_self, upd_ne (by decide), s8]; exact clip t a1 b1
    · show ∃ c, c < 4 ∧ rd (up2 h3 35 9 u) 35 9 = nI c
      rw [rd_up2_self, upd_self]; exact reel u a3 b3
    · show (¬ rd (up2 h3 35 9 u) 35 8 < 0 ∧ rd (up2 h3 35 9 u) 35 8 ≤ rd (up2 h3 35 9 u) 36 5 - 1) ∧ ¬ rd (up2 h3 35 9 u) 35 9 < 0 ∧ rd (up2 h3 35 9 u) 35 9 ≤ rd (up2 h3 35 9 u) 36 12 - 1
      have r36 : rd (up2 h3 35 9 u) 36 = rd h 36 := by rw [rd_up2_ne (by decide), f3.1 36 (by decide) (by decide), e2, rd_up2_ne (by decide), f1.1 36 (by decide) (by decide)]
      rw [r36, enc, enr, rd_up2_self, upd_ne (by decide), upd_self, s8]
      exact ⟨⟨a1, b1⟩, a3, b3⟩
  | 4, _ =>
    obtain ⟨h', e, T', f, p⟩ := one 0 (rd h 36 5 - 1)
    rw [if_neg (by decide), if_neg (by decide), if_neg (by decide), if_neg (by decide), if_pos (by decide)]
    exact ⟨h', e, T', f, fun w => ⟨(p w).1, clip _ (p w).2.1 (by rw [← enc]; exact (p w).2.2.1), trivial⟩⟩
  | 5, _ =>
    rw [if_neg (by decide), if_neg (by decide), if_neg (by decide), if_neg (by decide), if_neg (by decide), if_pos (by decide)]
    obtain ⟨t, h1, e1, T1, f1, p1, -⟩ := number_ok T 0 (rd h 36 15 - 1)
    obtain ⟨h2, e2⟩ : ∃ h2, h2 = up2 h1 35 8 t := ⟨_, rfl⟩
    have T2 : Tx h2 := by rw [e2]; exact T1.up (by decide)
    obtain ⟨u, h3, e3, T3, f3, p3, -⟩ := number_ok T2 1 9999
    rw [e1, Option.bind_some]
    unfold nm
    dsimp only
    rw [← e2, e3, Option.bind_some]
    have s8 : rd h3 35 8 = t := by rw [f3.2.2 8 (by decide) (by decide), e2, rd_up2_self, upd_self]
    refine ⟨up2 h3 35 9 u, rfl, T3.up (by decide), ((by rw [e2]; exact (Fr3.of f1).up (by decide) : Fr3 h h2).tr (Fr3.of f3)).up (by decide), fun w => ?_⟩
    rw [rd_up2_self, upd_ne (by decide)] at w
    obtain ⟨w3, -⟩ := p3 w
    rw [e2, rd_up2_self, upd_ne (by decide)] at w3
    obtain ⟨w1, a1, b1, -⟩ := p1 w3
    rw [ens] at b1
    refine ⟨w1, ?_, trivial⟩
    show ∃ s, s < 5 ∧ rd (up2 h3 35 9 u) 35 8 = nI s
    rw [rd_up2_self, upd_ne (by decide), s8]
    obtain ⟨j, hj, e⟩ := below (n := ns) (by omega) a1 b1 rfl
    exact ⟨j, by omega, e⟩
  | 6, _ =>
    obtain ⟨h', e, T', f, p⟩ := one 0 (rd h 36 12 - 1)
    rw [if_neg (by decide), if_neg (by decide), if_neg (by decide), if_neg (by decide), if_neg (by decide), if_neg (by decide), if_pos (by decide)]
    exact ⟨h', e, T', f, fun w => ⟨(p w).1, reel _ (p w).2.1 (by rw [← enr]; exact (p w).2.2.1), (p w).2.1, by rw [f.1 36 (by decide) (by decide)]; exact (p w).2.2.1⟩⟩
  | 7, _ =>
    rw [if_neg (by decide), if_neg (by decide), if_neg (by decide), if_neg (by decide), if_neg (by decide), if_neg (by decide), if_neg (by decide), if_pos (by decide)]
    obtain ⟨t, h1, e1, T1, f1, p1, -⟩ := number_ok T 0 (rd h 36 5 - 1)
    obtain ⟨h2, e2⟩ : ∃ h2, h2 = up2 h1 35 8 t := ⟨_, rfl⟩
    have T2 : Tx h2 := by rw [e2]; exact T1.up (by decide)
    obtain ⟨u, h3, e3, T3, f3, p3, -⟩ := number_ok T2 1 50
    rw [e1, Option.bind_some]
    unfold nm
    dsimp only
    rw [← e2, e3, Option.bind_some]
    have s8 : rd h3 35 8 = t := by rw [f3.2.2 8 (by decide) (by decide), e2, rd_up2_self, upd_self]
    refine ⟨up2 h3 35 9 u, rfl, T3.up (by decide), ((by rw [e2]; exact (Fr3.of f1).up (by decide) : Fr3 h h2).tr (Fr3.of f3)).up (by decide), fun w => ?_⟩
    rw [rd_up2_self, upd_ne (by decide)] at w
    obtain ⟨w3, a3, b3, c3⟩ := p3 w
    rw [e2, rd_up2_self, upd_ne (by decide)] at w3
    obtain ⟨w1, a1, b1, -⟩ := p1 w3
    rw [enc] at b1
    refine ⟨w1, ⟨?_, ?_⟩, ?_⟩
    · show ∃ c, c < 12 ∧ rd (up2 h3 35 9 u) 35 8 = nI c
      rw [rd_up2_self, upd_ne (by decide), s8]; exact clip t a1 b1
    · show Sc 50 (rd (up2 h3 35 9 u) 35 9)
      rw [rd_up2_self, upd_self]; exact atMost (lo := 0) (n := 50) (by decide) c3 b3 rfl
    · show ¬ rd (up2 h3 35 9 u) 35 8 < 0 ∧ rd (up2 h3 35 9 u) 35 8 ≤ rd (up2 h3 35 9 u) 36 5 - 1
      have r36 : rd (up2 h3 35 9 u) 36 = rd h 36 := by rw [rd_up2_ne (by decide), f3.1 36 (by decide) (by decide), e2, rd_up2_ne (by decide), f1.1 36 (by decide) (by decide)]
      rw [r36, enc, rd_up2_self, upd_ne (by decide), s8]
      exact ⟨a1, b1⟩
  | 8, _ =>
    obtain ⟨h', e, T', f, p⟩ := one 1 999
    rw [if_neg (by decide), if_neg (by decide), if_neg (by decide), if_neg (by decide), if_neg (by decide), if_neg (by decide), if_neg (by decide), if_neg (by decide), if_pos (by decide)]
    exact ⟨h', e, T', f, fun w => ⟨(p w).1, trivial, trivial⟩⟩
  | 9, _ =>
    rw [if_neg (by decide), if_neg (by decide), if_neg (by decide), if_neg (by decide), if_neg (by decide), if_neg (by decide), if_neg (by decide), if_neg (by decide), if_neg (by decide), if_pos (by decide)]
    obtain ⟨t, h1, e1, T1, f1, p1, q1⟩ := number_ok T 0 (rd h 36 5 - 1)
    obtain ⟨h2, e2⟩ : ∃ h2, h2 = up2 h1 35 8 t := ⟨_, rfl⟩
    have T2 : Tx h2 := by rw [e2]; exact T1.up (by decide)
    have F2 : Fr3 h h2 := by rw [e2]; exact (Fr3.of f1).up (by decide)
    have tc : ∃ c, c < 12 ∧ t = nI c := by
      by_cases w : rd h1 35 2 = 0
      · obtain ⟨-, a1, b1, -⟩ := p1 w
        rw [enc] at b1
        exact clip t a1 b1
      · exact ⟨0, by decide, q1 w⟩
    obtain ⟨c, hc, ec⟩ := tc
    have s28 : rd h2 35 8 = nI c := by rw [e2, rd_up2_self, upd_self, ec]
    obtain ⟨l, hl, el⟩ := (I.fr3 F2).1.len c hc
    obtain ⟨u, h3, e3, T3, f3, p3, -⟩ := number_ok T2 0 (nI l - 1)
    obtain ⟨h4, e4⟩ : ∃ h4, h4 = up2 h3 35 9 u := ⟨_, rfl⟩
    have T4 : Tx h4 := by rw [e4]; exact T3.up (by decide)
    have F4 : Fr3 h h4 := by rw [e4]; exact (F2.tr (Fr3.of f3)).up (by decide)
    obtain ⟨v, h5, e5, T5, f5, p5, -⟩ := number_ok T4 1 9
    rw [e1, Option.bind_some]
    unfold nm
    dsimp only
    rw [← e2, s28, rdO_in hc (by decide), Option.bind_some, el, e3, Option.bind_some]
    dsimp only
    rw [← e4, e5, Option.bind_some]
    have s8 : rd h5 35 8 = nI c := by rw [f5.2.2 8 (by decide) (by decide), e4, rd_up2_self, upd_ne (by decide), f3.2.2 8 (by decide) (by decide), s28]
    have s9 : rd h5 35 9 = u := by rw [f5.2.2 9 (by decide) (by decide), e4, rd_up2_self, upd_self]
    refine ⟨up2 h5 35 10 v, rfl, T5.up (by decide), (F4.tr (Fr3.of f5)).up (by decide), fun w => ?_⟩
    rw [rd_up2_self, upd_ne (by decide)] at w
    obtain ⟨w5, a5, b5, c5⟩ := p5 w
    rw [e4, rd_up2_self, upd_ne (by decide)] at w5
    obtain ⟨w3, a3, b3, -⟩ := p3 w5
    rw [e2, rd_up2_self, upd_ne (by decide)] at w3
    obtain ⟨w1, -⟩ := p1 w3
    refine ⟨w1, ⟨?_, ?_, ?_⟩, trivial⟩
    · show ∃ c, c < 12 ∧ rd (up2 h5 35 10 v) 35 8 = nI c
      rw [rd_up2_self, upd_ne (by decide), s8]; exact ⟨c, hc, rfl⟩
    · show ∃ c, c < 8 ∧ rd (up2 h5 35 10 v) 35 9 = nI c
      rw [rd_up2_self, upd_ne (by decide), s9]
      obtain ⟨j, hj, e⟩ := below (n := l) (by omega) a3 b3 rfl
      exact ⟨j, by omega, e⟩
    · show Sc 9 (rd (up2 h5 35 10 v) 35 10)
      rw [rd_up2_self, upd_self]; exact atMost (lo := 0) (n := 9) (by decide) c5 b5 rfl
  | 10, _ =>
    obtain ⟨h', e, T', f, p⟩ := one 1 50
    rw [if_neg (by decide), if_neg (by decide), if_neg (by decide), if_neg (by decide), if_neg (by decide), if_neg (by decide), if_neg (by decide), if_neg (by decide), if_neg (by decide), if_neg (by decide), if_pos (by decide)]
    exact ⟨h', e, T', f, fun w => ⟨(p w).1, atMost (lo := 0) (n := 50) (by decide) (p w).2.2.2 (p w).2.2.1 rfl, trivial⟩⟩
  | k + 11, hk => exact absurd hk (by omega)
/-- what besides must hold for the command to be carried out -/
def Ok2 (k : Nat) (h : Hp) : Prop := match k with
  | 0 => ∃ n, n < 12 ∧ rd h 36 5 = nI n
  | 1 => ∃ n, n < 4 ∧ rd h 36 12 = nI n
  | 2 => ∃ n, n < 5 ∧ rd h 36 15 = nI n
  | 3 => A_refusal h 36 (rd h 35 8) (rd h 35 9) = some 0
  | 7 => A_mayFeed h 36 (rd h 35 8) (rd h 35 9) = some true
  | 9 => rdO 12 (rd h (36 + 4)) (rd h 35 8) = some 0
  | _ => True
set_option maxRecDepth 16384 in
theorem room_ok {x : Int32} {m n : Nat} (hm : m < 2 ^ 31) (h : Sc n x) (hn : n < 2 ^ 31) (q : ¬ nI m ≤ x) : ∃ k, k < m ∧ x = nI k := by
  obtain ⟨k, hk, rfl⟩ := h
  refine ⟨k, ?_, rfl⟩
  by_cases c : m ≤ k
  · exact absurd (nI_le c (by omega)) q
  · omega
set_option maxRecDepth 16384 in
theorem isRefused_ok {h : Hp} (I : Arx h 36) {k : Nat} (hk : k < 11) (ok : Ok k h) : ∃ b, S_isRefused h (nI (10 + k)) = some b ∧ (b = false → Ok2 k h) := by
  unfold S_isRefused
  rw [orO_ok (by omega), Option.bind_some, swO_ok hk, Option.bind_some]
  have rf : ∀ {b : Bool}, b = true → b = false → Ok2 k h := fun a c => by rw [a] at c; cases c
  match k, hk with
  | 0, _ =>
    rw [if_pos (by decide)]
    unfold A_hasRoomForClip
    by_cases q : 12 ≤ rd h 36 5
    · rw [if_pos q]; exact ⟨true, rfl, fun w => by cases w⟩
    · rw [if_neg q]; exact ⟨false, rfl, fun _ => room_ok (m := 12) (by decide) I.1.1 (by decide) q⟩
  | 1, _ =>
    rw [if_neg (by decide), if_pos (by decide)]
    unfold A_hasRoomForReel
    by_cases q : 4 ≤ rd h 36 12
    · rw [if_pos q]; exact ⟨true, rfl, fun w => by cases w⟩
    · rw [if_neg q]; exact ⟨false, rfl, fun _ => room_ok (m := 4) (by decide) I.1.2.1 (by decide) q⟩
  | 2, _ =>
    rw [if_neg (by decide), if_neg (by decide), if_pos (by decide)]
    unfold A_hasRoomForScene
    by_cases q : 5 ≤ rd h 36 15
    · rw [if_pos q]; exact ⟨true, rfl, fun w => by cases w⟩
    · rw [if_neg q]; exact ⟨false, rfl, fun _ => room_ok (m := 5) (by decide) I.1.2.2.1 (by decide) q⟩
  | 3, _ =>
    obtain ⟨⟨c, hc, ec⟩, r, hr, er⟩ := ok
    rw [if_neg (by decide), if_neg (by decide), if_neg (by decide), if_pos (by decide)]
    obtain ⟨v, ev, -⟩ := refusal_ok I.1 hc hr
    rw [← ec, ← er] at ev
    rw [ev, Option.bind_some]
    by_cases q : v = 0
    · rw [if_pos q]; exact ⟨false, rfl, fun _ => by rw [q] at ev; exact ev⟩
    · rw [if_neg q]; exact ⟨true, rfl, fun w => by cases w⟩
  | 4, _ =>
    obtain ⟨c, hc, ec⟩ := ok
    rw [if_neg (by decide), if_neg (by decide), if_neg (by decide), if_neg (by decide), if_pos (by decide), ec, rdO_in hc (by decide), Option.bind_some]
    by_cases q : rd h (36 + 4) c = 1
    · rw [if_pos q]; exact ⟨false, rfl, fun _ => trivial⟩
    · rw [if_neg q]; exact ⟨true, rfl, fun w => by cases w⟩
  | 5, _ =>
    rw [if_neg (by decide), if_neg (by decide), if_neg (by decide), if_neg (by decide), if_neg (by decide), if_pos (by decide)]
    exact ⟨false, rfl, fun _ => trivial⟩
  | 6, _ =>
    rw [if_neg (by decide), if_neg (by decide), if_neg (by decide), if_neg (by decide), if_neg (by decide), if_neg (by decide), if_pos (by decide)]
    exact ⟨false, rfl, fun _ => trivial⟩
  | 7, _ =>
    obtain ⟨⟨c, hc, ec⟩, -⟩ := ok
    rw [if_neg (by decide), if_neg (by decide), if_neg (by decide), if_neg (by decide), if_neg (by decide), if_neg (by decide), if_neg (by decide), if_pos (by decide)]
    obtain ⟨b, eb, -⟩ := mayFeed_ok (h := h) (a := 36) hc (rd h 35 9)
    rw [← ec] at eb
    rw [eb, Option.bind_some]
    match b with
    | false => exact ⟨true, rfl, fun w => by cases w⟩
    | true => exact ⟨false, rfl, fun _ => eb⟩
  | 8, _ =>
    rw [if_neg (by decide), if_neg (by decide), if_neg (by decide), if_neg (by decide), if_neg (by decide), if_neg (by decide), if_neg (by decide), if_neg (by decide), if_pos (by decide)]
    obtain ⟨b, eb⟩ := mayStore_ok (h := h) (a := 36) (rd h 35 8)
    rw [eb, Option.bind_some]
    match b with
    | false => exact ⟨true, rfl, fun w => by cases w⟩
    | true => exact ⟨false, rfl, fun _ => trivial⟩
  | 9, _ =>
    obtain ⟨⟨c, hc, ec⟩, -⟩ := ok
    rw [if_neg (by decide), if_neg (by decide), if_neg (by decide), if_neg (by decide), if_neg (by decide), if_neg (by decide), if_neg (by decide), if_neg (by decide), if_neg (by decide), if_pos (by decide), ec, rdO_in hc (by decide), Option.bind_some]
    by_cases q : rd h (36 + 4) c = 0
    · rw [if_pos q]
      refine ⟨false, rfl, fun _ => ?_⟩
      show rdO 12 (rd h (36 + 4)) (rd h 35 8) = some 0
      rw [ec, rdO_in hc (by decide), q]
    · rw [if_neg q]; exact ⟨true, rfl, fun w => by cases w⟩
  | 10, _ =>
    rw [if_neg (by decide), if_neg (by decide), if_neg (by decide), if_neg (by decide), if_neg (by decide), if_neg (by decide), if_neg (by decide), if_neg (by decide), if_neg (by decide), if_neg (by decide), if_pos (by decide)]
    obtain ⟨b, eb⟩ := mayPass_ok (h := h) (a := 36) (rd h 35 8)
    rw [eb, Option.bind_some]
    match b with
    | false => exact ⟨true, rfl, fun w => by cases w⟩
    | true => exact ⟨false, rfl, fun _ => trivial⟩
  | k + 11, hk => exact absurd hk (by omega)
set_option maxRecDepth 16384 in
theorem carryOut_ok {h : Hp} (I : Arx h 36) {k : Nat} (hk : k < 11) (ok : Ok k h) (okx : Okx k h) (ok2 : Ok2 k h) : ∃ h', S_carryOut h (nI (10 + k)) = some h' ∧ Wx h 36 h' := by
  unfold S_carryOut
  rw [orO_ok (by omega), Option.bind_some, swO_ok hk, Option.bind_some]
  match k, hk with
  | 0, _ =>
    obtain ⟨j, hj, ej⟩ := ok
    obtain ⟨n, hn, en⟩ := ok2
    obtain ⟨h', e, w⟩ := putClip_x I en hn (j := j) (by omega)
    rw [if_pos (by decide), ej, e, Option.bind_some]
    exact ⟨h', rfl, w⟩
  | 1, _ =>
    obtain ⟨j, hj, ej⟩ := ok
    obtain ⟨n, hn, en⟩ := ok2
    obtain ⟨h', e, w, -⟩ := putReel_x I en hn hj
    rw [if_neg (by decide), if_pos (by decide), ej, e, Option.bind_some]
    exact ⟨h', rfl, w⟩
  | 2, _ =>
    obtain ⟨n, hn, en⟩ := ok2
    obtain ⟨h', e, w, -⟩ := putScene_x I en hn (rd h 35 8)
    rw [if_neg (by decide), if_neg (by decide), if_pos (by decide), e, Option.bind_some]
    exact ⟨h', rfl, w⟩
  | 3, _ =>
    obtain ⟨⟨c, hc, ec⟩, r, hr, er⟩ := ok
    have ok2 : A_refusal h 36 (rd h 35 8) (rd h 35 9) = some 0 := ok2
    rw [ec, er] at ok2
    obtain ⟨v0, ev0, pv0⟩ := refusal_ok I.1 hc hr
    rw [ok2] at ev0
    have na := (pv0 (Option.some.inj ev0).symm).1
    obtain ⟨n, hn, en⟩ := I.1.clips
    obtain ⟨m, hm, em⟩ := I.1.reels
    obtain ⟨x1, x2⟩ := okx
    obtain ⟨v, h', e, w⟩ := layDown_x I (below_vn (n := n) (by omega) (by omega) ec en x1) (below_vn (n := m) (by omega) (by omega) er em x2) (by rw [na]; decide)
    rw [if_neg (by decide), if_neg (by decide), if_neg (by decide), if_pos (by decide), ec, er, e, Option.bind_some]
    exact ⟨h', rfl, w⟩
  | 4, _ =>
    obtain ⟨c, hc, ec⟩ := ok
    obtain ⟨v, h', e, w⟩ := rouse_x I hc
    rw [if_neg (by decide), if_neg (by decide), if_neg (by decide), if_neg (by decide), if_pos (by decide), ec, e, Option.bind_some]
    exact ⟨h', rfl, w⟩
  | 5, _ =>
    obtain ⟨s, hs, es⟩ := ok
    obtain ⟨v, h', e, w⟩ := cutScene_x I hs (rd h 35 9)
    rw [if_neg (by decide), if_neg (by decide), if_neg (by decide), if_neg (by decide), if_neg (by decide), if_pos (by decide), es, e, Option.bind_some]
    exact ⟨h', rfl, w⟩
  | 6, _ =>
    obtain ⟨r, hr, er⟩ := ok
    obtain ⟨m, hm, em⟩ := I.1.reels
    obtain ⟨v, h', e, w⟩ := airReel_x I (below_vn (n := m) (by omega) (by omega) er em okx)
    rw [if_neg (by decide), if_neg (by decide), if_neg (by decide), if_neg (by decide), if_neg (by decide), if_neg (by decide), if_pos (by decide), er, e, Option.bind_some]
    exact ⟨h', rfl, w⟩
  | 7, _ =>
    obtain ⟨⟨c, hc, ec⟩, x, hx, ex⟩ := ok
    obtain ⟨b, eb, pb⟩ := mayFeed_ok (h := h) (a := 36) hc (rd h 35 9)
    have ok2 : A_mayFeed h 36 (rd h 35 8) (rd h 35 9) = some true := ok2
    rw [ec, eb] at ok2
    obtain ⟨-, -, p3⟩ := pb (Option.some.inj ok2)
    rw [ex] at p3
    obtain ⟨n, hn, en⟩ := I.1.clips
    obtain ⟨v, h', e, w⟩ := feedClip_x I (below_vn (n := n) (by omega) (by omega) ec en okx) hx p3
    rw [if_neg (by decide), if_neg (by decide), if_neg (by decide), if_neg (by decide), if_neg (by decide), if_neg (by decide), if_neg (by decide), if_pos (by decide), ec, ex, e, Option.bind_some]
    exact ⟨h', rfl, w⟩
  | 8, _ =>
    obtain ⟨v, h', e, w⟩ := store_x I (rd h 35 8)
    rw [if_neg (by decide), if_neg (by decide), if_neg (by decide), if_neg (by decide), if_neg (by decide), if_neg (by decide), if_neg (by decide), if_neg (by decide), if_pos (by decide), e, Option.bind_some]
    exact ⟨h', rfl, w⟩
  | 9, _ =>
    obtain ⟨⟨c, hc, ec⟩, ⟨i, hi, ei⟩, x, hx, ex⟩ := ok
    have ok2 : rdO 12 (rd h (36 + 4)) (rd h 35 8) = some 0 := ok2
    rw [ec, rdO_in hc (by decide)] at ok2
    obtain ⟨q, h', e, w⟩ := paintClip_x I hc (by rw [Option.some.inj ok2]; decide) hi hx
    rw [if_neg (by decide), if_neg (by decide), if_neg (by decide), if_neg (by decide), if_neg (by decide), if_neg (by decide), if_neg (by decide), if_neg (by decide), if_neg (by decide), if_pos (by decide), ec, ei, ex, e, Option.bind_some]
    exact ⟨h', rfl, w⟩
  | 10, _ =>
    obtain ⟨x, hx, ex⟩ := ok
    obtain ⟨v, h', e, w⟩ := pass_x I hx
    rw [if_neg (by decide), if_neg (by decide), if_neg (by decide), if_neg (by decide), if_neg (by decide), if_neg (by decide), if_neg (by decide), if_neg (by decide), if_neg (by decide), if_neg (by decide), if_pos (by decide), ex, e, Option.bind_some]
    exact ⟨h', rfl, w⟩
  | k + 11, hk => exact absurd hk (by omega)
