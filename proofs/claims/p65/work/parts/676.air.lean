/-! ===== p65: airing a reel ===== -/
theorem loopE {β σ : Type} (F F' : Nat → σ → Nat → Option β) (N : Nat) (h0 : ∀ s v, F 0 s v = F' 0 s v) (hs : ∀ (n : Nat) (s : σ) (v : Nat), v ≤ N → F (n + 1) s v = F' (n + 1) s v ∨ (v < N ∧ ∃ s', F (n + 1) s v = F n s' (v + 1) ∧ F' (n + 1) s v = F' n s' (v + 1))) : ∀ (n : Nat) (s : σ) (v : Nat), v ≤ N → F n s v = F' n s v
  | 0, s, v, _ => h0 s v
  | n + 1, s, v, hv => by
    rcases hs n s v hv with e | ⟨hl, s', e, e'⟩
    · exact e
    · rw [e, e']
      exact loopE F F' N h0 hs n s' (v + 1) (by omega)
/-- the warm beds of a reel -/
noncomputable def warm (h : Hp) (a r : Nat) (b : Nat) : Bool := decide (rd h (a + 8) (r * 9 + b) = -2)
section
variable {h : Hp} {a : Nat}
theorem airL_cnt (I : Arc h a) {r m : Nat} (hr : r < 4) (em : rd h (a + 7) r = nI m) (hm : m ≤ 9) : ∃ h', A_airReel_L11 a (nI r) FU 0 0 h = some (nI (cn (warm h a r) m), h') ∧ Arc h' a ∧ (∀ k, k ≠ a + 8 → rd h' k = rd h k) ∧ ∀ i, rd h' (a + 8) i = if r * 9 ≤ i ∧ i < r * 9 + m then -1 else rd h (a + 8) i := by
  obtain ⟨⟨x, h'⟩, e, p0, p⟩ := loop0 (fun n (s : Int32 × Hp) v => A_airReel_L11 a (nI r) n s.1 (nI v) s.2) m (fun s v => s.1 = nI (cn (warm h a r) v) ∧ Arc s.2 a ∧ (∀ k, k ≠ a + 8 → rd s.2 k = rd h k) ∧ ∀ i, rd s.2 (a + 8) i = if r * 9 ≤ i ∧ i < r * 9 + v then -1 else rd h (a + 8) i) (fun s => s.1 = nI (cn (warm h a r) m) ∧ Arc s.2 a ∧ (∀ k, k ≠ a + 8 → rd s.2 k = rd h k) ∧ ∀ i, rd s.2 (a + 8) i = if r * 9 ≤ i ∧ i < r * 9 + m then -1 else rd h (a + 8) i) (by omega) (fun n s v hv hj => by
    obtain ⟨c, A, f, b⟩ := hj
    have em' : rd s.2 (a + 7) r = nI m := by rw [f _ (by omega)]; exact em
    rw [A_airReel_L11, r4 hr, Option.bind_some, em']
    by_cases q : m ≤ v
    · obtain rfl : v = m := by omega
      exact Or.inl ⟨_, if_pos (nI_le q (by omega)), c, A, f, b⟩
    · rw [if_neg (nI_ge (by omega) (by omega)), inBed_eq hr (by omega), Option.bind_some]
      unfold lt
      dsimp only
      rw [setBed_eq hr (by omega), Option.bind_some, nI_1]
      have w' : Arc (up2 s.2 (a + 8) (r * 9 + v) (-1)) a ∧ (∀ k, k ≠ a + 8 → rd (up2 s.2 (a + 8) (r * 9 + v) (-1)) k = rd h k) ∧ ∀ i, rd (up2 s.2 (a + 8) (r * 9 + v) (-1)) (a + 8) i = if r * 9 ≤ i ∧ i < r * 9 + (v + 1) then -1 else rd h (a + 8) i := by
        refine ⟨A.wbed (Or.inl (by decide)), fun k hk => by rw [rd_up2_ne hk]; exact f k hk, fun i => ?_⟩
        rw [rd_up2_self]
        by_cases z : i = r * 9 + v
        · subst z; rw [upd_self, if_pos (by omega)]
        · rw [upd_ne z, b]
          by_cases y : r * 9 ≤ i ∧ i < r * 9 + v
          · rw [if_pos y, if_pos (by omega)]
          · rw [if_neg y, if_neg (by omega)]
      have bv : rd s.2 (a + 8) (r * 9 + v) = rd h (a + 8) (r * 9 + v) := by rw [b, if_neg (by omega)]
      refine Or.inr ⟨by omega, ?_⟩
      rw [bv]
      by_cases z : rd h (a + 8) (r * 9 + v) = -2
      · rw [if_pos z]
        refine ⟨(s.1 + 1, _), ⟨?_, w'⟩, rfl⟩
        show s.1 + 1 = nI (cn (warm h a r) (v + 1))
        rw [cn_s, show warm h a r v = true from decide_eq_true z, if_pos rfl, c, nI_1]
      · rw [if_neg z]
        refine ⟨(s.1, _), ⟨?_, w'⟩, rfl⟩
        show s.1 = nI (cn (warm h a r) (v + 1))
        rw [cn_s, show warm h a r v = false from decide_eq_false z, if_neg (by decide), c, Nat.add_zero]) (0, h) ⟨rfl, I, fun _ _ => rfl, fun i => by rw [if_neg (by omega)]⟩
  dsimp only at p0 p
  subst p0
  exact ⟨h', e, p⟩
/-- airing, step by step: its sleepers, the cleared reel, the beds afterwards -/
theorem air_full (I : Arx h a) {r m : Nat} (hr : r < vn (rd h a 12)) (em : rd h (a + 7) r = nI m) (hm : m ≤ 9) : ∃ S h1 h', S < 4096 ∧ A_sleepersIn h a (nI r) = some (nI S) ∧ A_airReel_L11 a (nI r) FU 0 0 h = some (nI (cn (warm h a r) m), h1) ∧ A_airReel_L54 a (nI r) (nI S) FU 0 h1 = some h' ∧ A_airReel h a (nI r) = some (nI (cn (warm h a r) m), h') ∧ Wx h a h' ∧ (∀ k, k ≠ a + 8 → k ≠ a + 4 → rd h' k = rd h k) ∧ (∀ i, rd h' (a + 4) i = rd h (a + 4) i) ∧ (∀ k, k ≠ a + 8 → rd h1 k = rd h k) ∧ (∀ i, rd h1 (a + 8) i = if r * 9 ≤ i ∧ i < r * 9 + m then -1 else rd h (a + 8) i) ∧ (∀ i, (i < r * 9 ∨ r * 9 + m ≤ i) → rd h' (a + 8) i = rd h (a + 8) i) ∧ ∀ b, b < m → rd h' (a + 8) (r * 9 + b) ≠ -2 := by
  have R4 := I.1.R4
  have n12 := I.1.n12
  have hr4 : r < 4 := by omega
  obtain ⟨S, hS, eS, pS⟩ := sleepersIn_ok I.1 hr4
  obtain ⟨h1, e1, A1, f1, b1⟩ := airL_cnt I.1 hr4 em hm
  have as0 : ∀ c, c < 12 → S.testBit c = true → rd h (a + 4) c = 1 := fun c hc sc => by
    obtain ⟨b, hb, hb2, eb⟩ := (pS c hc).mp sc
    rw [em] at hb2
    exact (I.2.1.1 r b c hr (by show b < vn (rd h (a + 7) r); rw [em, vn_nI (by omega)]; exact (nI_ltI (by omega) (by omega)).mp hb2) hc eb).2
  obtain ⟨h2, e2, -, f2, s2, o2, w2⟩ := loop0 (fun n (s : Hp) v => A_airReel_L54 a (nI r) (nI S) n (nI v) s) 12 (fun s _ => Arc s a ∧ (∀ k, k ≠ a + 8 → k ≠ a + 4 → rd s k = rd h k) ∧ (∀ i, rd s (a + 4) i = rd h (a + 4) i) ∧ (∀ i, (i < r * 9 ∨ r * 9 + m ≤ i) → rd s (a + 8) i = rd h (a + 8) i) ∧ ∀ b, b < m → rd s (a + 8) (r * 9 + b) ≠ -2) (fun s => Arc s a ∧ (∀ k, k ≠ a + 8 → k ≠ a + 4 → rd s k = rd h k) ∧ (∀ i, rd s (a + 4) i = rd h (a + 4) i) ∧ (∀ i, (i < r * 9 ∨ r * 9 + m ≤ i) → rd s (a + 8) i = rd h (a + 8) i) ∧ ∀ b, b < m → rd s (a + 8) (r * 9 + b) ≠ -2) (by decide) (fun n s v hv j => by
    obtain ⟨A, f, st, o, w⟩ := id j
    obtain ⟨t, ht, et⟩ := A.clips
    rw [A_airReel_L54, et]
    by_cases q : t ≤ v
    · exact Or.inl ⟨_, if_pos (nI_le q (by omega)), j⟩
    · rw [if_neg (nI_ge (by omega) (by omega)), nI_1]
      refine Or.inr ⟨by omega, ?_⟩
      by_cases z : (nI S >>> (nI v &&& 31)) &&& 1 = 1
      · have s1 := as0 v (by omega) ((bit_c (by omega) (by omega)).mp z)
        rw [if_pos z]
        obtain ⟨y, g, eg, wg⟩ := layDown_ok A (show v < 12 by omega) hr4
        rw [eg, Option.bind_some]
        refine ⟨g, ⟨wg.1, ?_⟩, rfl⟩
        rcases layDown_eq A (show v < 12 by omega) hr4 with ⟨e0, -⟩ | ⟨q', m', k', -, hm', -, em', hk', -, -, -, e0⟩
        · rw [eg] at e0
          rw [(Prod.mk.inj (Option.some.inj e0)).2]; exact ⟨f, st, o, w⟩
        · rw [eg] at e0
          have emm : m' = m := by
            rw [f _ (by omega) (by omega), em] at em'
            exact (nI_inj (by omega) (by omega) em').symm
          have wl := wb_in (q := q') hk'
          rw [(Prod.mk.inj (Option.some.inj e0)).2]
          refine ⟨fun k k8 k4 => by rw [rd_up2_ne k4, rd_up2_ne k8]; exact f k k8 k4, fun i => ?_, fun i hi => ?_, fun b hb => ?_⟩
          · rw [rd_up2_self, rd_up2_ne (by omega)]
            by_cases y : i = v
            · subst y; rw [upd_self]; exact s1.symm
            · rw [upd_ne y]; exact st i
          · rw [rd_up2_ne (by omega), rd_up2_self, upd_ne (by omega)]; exact o i hi
          · rw [rd_up2_ne (by omega), rd_up2_self]
            by_cases y : r * 9 + b = r * 9 + wb q' m' k'
            · rw [y, upd_self]; exact nI_nm2 (by omega)
            · rw [upd_ne y]; exact w b hb
      · rw [if_neg z]; exact ⟨_, j, rfl⟩) h1 ⟨A1, fun k k8 _ => f1 k k8, fun i => by rw [f1 _ (by omega)], fun i hi => by rw [b1, if_neg (by omega)], fun b hb => by rw [b1, if_pos (by omega)]; decide⟩
  have e2 : A_airReel_L54 a (nI r) (nI S) FU 0 h1 = some h2 := e2
  have e3 : A_airReel h a (nI r) = some (nI (cn (warm h a r) m), h2) := by
    unfold A_airReel
    rw [eS, Option.bind_some, e1, Option.bind_some]
    dsimp only
    rw [e2, Option.bind_some]
  obtain ⟨v, h', e4, wx⟩ := airReel_x I hr
  rw [e3] at e4
  have e4 := (Prod.mk.inj (Option.some.inj e4)).2
  rw [← e4] at wx
  exact ⟨S, h1, h2, hS, eS, e1, e2, e3, wx, f2, s2, f1, b1, o2, w2⟩
end
section
variable {h h' : Hp} {n R ra m : Nat}
theorem aired_reelOf (I : Ary h 1) (I' : Ary h' 1) (en : rd h 1 5 = nI n) (hn : n ≤ 12) (eR : rd h 1 12 = nI R) (hR : R ≤ 4) (hra : ra < R) (em : rd h (1 + 7) ra = nI m) (hm : m ≤ 9) (f : ∀ k, k ≠ 1 + 8 → k ≠ 1 + 4 → 1 ≤ k → k < 12 → rd h' k = rd h k) (st : ∀ i, rd h' (1 + 4) i = rd h (1 + 4) i) (o : ∀ i, (i < ra * 9 ∨ ra * 9 + m ≤ i) → rd h' (1 + 8) i = rd h (1 + 8) i) {c : Nat} (hc : c < n) : C_reelOf h' (nI c) = C_reelOf h (nI c) := by
  have f1 : rd h' 1 = rd h 1 := f 1 (by decide) (by decide) (by decide) (by decide)
  have f7 : rd h' (1 + 7) = rd h (1 + 7) := f (1 + 7) (by decide) (by decide) (by decide) (by decide)
  have f3 : rd h' (1 + 3) = rd h (1 + 3) := f (1 + 3) (by decide) (by decide) (by decide) (by decide)
  have vm : vn (rd h (1 + 7) ra) = m := by rw [em, vn_nI (by omega)]
  have m9 : ∀ r, r < R → vn (rd h (1 + 7) r) ≤ 9 := fun r hr => I.1.1.m9 r (by rw [eR, vn_nI (by omega)]; exact hr)
  have other : ∀ r b, r < R → r ≠ ra → b < vn (rd h (1 + 7) r) → rd h' (1 + 8) (r * 9 + b) = rd h (1 + 8) (r * 9 + b) := fun r b hr hn hb => o _ (by have := m9 r hr; omega)
  rcases where_eq I en hn eR hR hc with ⟨ns, er, -⟩ | ⟨as, r, k, hr, hk, e0, -, u, er, -⟩
  · rcases where_eq I' (by rw [f1]; exact en) hn (by rw [f1]; exact eR) hR hc with ⟨-, er', -⟩ | ⟨as', -⟩
    · rw [er, er']
    · rw [st] at as'; exact absurd as' ns
  · rcases where_eq I' (by rw [f1]; exact en) hn (by rw [f1]; exact eR) hR hc with ⟨ns', -⟩ | ⟨-, r', k', hr', hk', e0', -, u', er', -⟩
    · rw [st] at ns'; exact absurd as ns'
    · rw [f7, f3] at e0' u'
      rw [f7] at hk'
      rw [er, er']
      have e1 : r' = r := by
        by_cases z : r' = ra
        · by_cases y : r = ra
          · omega
          · have := u' r _ hr (wb_in hk) (by rw [other r _ hr y (wb_in hk)]; exact e0)
            omega
        · exact (u r' _ hr' (wb_in hk') (by rw [← other r' _ hr' z (wb_in hk')]; exact e0')).1
      rw [e1]
/-- clip c sleeps in reel r: as reelOf tells it -/
theorem sleeps_iff (I : Ary h 1) (en : rd h 1 5 = nI n) (hn : n ≤ 12) (eR : rd h 1 12 = nI R) (hR : R ≤ 4) {r c : Nat} (hr : r < R) (hc : c < 12) : (∃ b, b < vn (rd h (1 + 7) r) ∧ rd h (1 + 8) (r * 9 + b) = nI c) ↔ c < n ∧ C_reelOf h (nI c) = some (nI r) := by
  have Li := I.1.2.1
  unfold LieA at Li
  rw [en, vn_nI (by omega), eR, vn_nI (by omega)] at Li
  constructor
  · rintro ⟨b, hb, eb⟩
    obtain ⟨cn, as⟩ := Li.1 r b c hr hb hc eb
    refine ⟨cn, ?_⟩
    rcases where_eq I en hn eR hR cn with ⟨ns, -⟩ | ⟨-, r', k, -, -, -, -, u, er, -⟩
    · exact absurd as ns
    · rw [er, (u r b hr hb eb).1]
  · rintro ⟨cn, er⟩
    rcases where_eq I en hn eR hR cn with ⟨-, er', -⟩ | ⟨-, r', k, hr', hk, e0, -, -, er', -⟩
    · rw [er] at er'
      exact absurd (Option.some.inj er') (nI_nm1 (by omega))
    · rw [er] at er'
      obtain rfl := nI_inj (by omega) (by omega) (Option.some.inj er')
      exact ⟨_, wb_in hk, e0⟩
theorem sleepers_same (I : Ary h 1) (I' : Ary h' 1) (en : rd h 1 5 = nI n) (hn : n ≤ 12) (eR : rd h 1 12 = nI R) (hR : R ≤ 4) (f1 : rd h' 1 = rd h 1) (f7 : rd h' (1 + 7) = rd h (1 + 7)) (ro : ∀ c, c < n → C_reelOf h' (nI c) = C_reelOf h (nI c)) {r : Nat} (hr : r < R) : A_sleepersIn h' 1 (nI r) = A_sleepersIn h 1 (nI r) := by
  obtain ⟨S, hS, eS, pS⟩ := sleepersIn_ok I.1.1 (show r < 4 by omega)
  obtain ⟨T, hT, eT, pT⟩ := sleepersIn_ok I'.1.1 (show r < 4 by omega)
  obtain ⟨m, m1, hm, em, vm⟩ := I.cnt (r := r) (by rw [eR, vn_nI (by omega)]; exact hr)
  have q : ∀ c, c < 12 → (S.testBit c = true ↔ T.testBit c = true) := fun c hc => by
    have a1 := sleeps_iff I en hn eR hR hr hc
    have a2 := sleeps_iff I' (by rw [f1]; exact en) hn (by rw [f1]; exact eR) hR hr hc
    rw [pS c hc, pT c hc, f7, em]
    rw [vm] at a1
    rw [f7, vm] at a2
    have b1 : (∃ b, b < 9 ∧ nI b < nI m ∧ rd h (1 + 8) (r * 9 + b) = nI c) ↔ ∃ b, b < m ∧ rd h (1 + 8) (r * 9 + b) = nI c :=
      ⟨fun ⟨b, x1, x2, x3⟩ => ⟨b, (nI_ltI (by omega) (by omega)).mp x2, x3⟩, fun ⟨b, x1, x2⟩ => ⟨b, by omega, nI_lt x1 (by omega), x2⟩⟩
    have b2 : (∃ b, b < 9 ∧ nI b < nI m ∧ rd h' (1 + 8) (r * 9 + b) = nI c) ↔ ∃ b, b < m ∧ rd h' (1 + 8) (r * 9 + b) = nI c :=
      ⟨fun ⟨b, x1, x2, x3⟩ => ⟨b, (nI_ltI (by omega) (by omega)).mp x2, x3⟩, fun ⟨b, x1, x2⟩ => ⟨b, by omega, nI_lt x1 (by omega), x2⟩⟩
    rw [b1, b2, a1, a2]
    constructor
    · rintro ⟨x, y⟩; exact ⟨x, by rw [ro c x]; exact y⟩
    · rintro ⟨x, y⟩; exact ⟨x, by rw [← ro c x]; exact y⟩
  have e : S = T := Nat.eq_of_testBit_eq fun c => by
    by_cases hc : c < 12
    · have := q c hc
      by_cases z : S.testBit c = true
      · rw [z, this.mp z]
      · by_cases y : T.testBit c = true
        · exact absurd (this.mpr y) z
        · rw [Bool.eq_false_iff.mpr z, Bool.eq_false_iff.mpr y]
    · have p12 : 2 ^ 12 ≤ 2 ^ c := Nat.pow_le_pow_right (by decide) (by omega)
      rw [Nat.testBit_lt_two_pow (show S < 2 ^ c by omega), Nat.testBit_lt_two_pow (show T < 2 ^ c by omega)]
  rw [eS, eT, e]
/-- the sum without the beds -/
theorem sum_aired (I : Ary h 1) (I' : Ary h' 1) (en : rd h 1 5 = nI n) (hn : n ≤ 12) (eR : rd h 1 12 = nI R) (hR : R ≤ 4) (f : ∀ k, k ≠ 1 + 8 → k ≠ 1 + 4 → 1 ≤ k → k < 12 → rd h' k = rd h k) (st : ∀ i, rd h' (1 + 4) i = rd h (1 + 4) i) (ro : ∀ c, c < n → C_reelOf h' (nI c) = C_reelOf h (nI c)) : L_sum h' false = L_sum h false := by
  have f1 : rd h' 1 = rd h 1 := f 1 (by decide) (by decide) (by decide) (by decide)
  have f7 : rd h' (1 + 7) = rd h (1 + 7) := f (1 + 7) (by decide) (by decide) (by decide) (by decide)
  have en' : rd h' 1 5 = nI n := by rw [f1]; exact en
  have eR' : rd h' 1 12 = nI R := by rw [f1]; exact eR
  have cgN : ∀ p, C_needClip h' p = C_needClip h p := fun p => by unfold C_needClip; rw [f1]
  have cgR : ∀ p, C_needReel h' p = C_needReel h p := fun p => by unfold C_needReel; rw [f1]
  have cgS : ∀ p, C_needScene h' p = C_needScene h p := fun p => by unfold C_needScene; rw [f1]
  have cC : ∀ (p q : Int32), A_colourAt h' 1 p q = A_colourAt h 1 p q := fun p q => by unfold A_colourAt; rw [f (1 + 2) (by decide) (by decide) (by decide) (by decide)]
  have cL : ∀ (p : Int32) (k : Nat) (x y : Int32), A_coloursOf_L4 h' 1 p k x y = A_coloursOf_L4 h 1 p k x y := fun p k => by
    induction k with
    | zero => intro x y; rfl
    | succ k ih => intro x y; simp only [A_coloursOf_L4, f (1 + 1) (by decide) (by decide) (by decide) (by decide), cC, ih]
  have eSt : ∀ p, C_state h' p = C_state h p := fun p => by
    unfold C_state
    rw [cgN, show rd h' (1 + 4) = rd h (1 + 4) from funext st]
  have eFat : ∀ p, C_fat h' p = C_fat h p := fun p => by unfold C_fat; rw [cgN, f (1 + 5) (by decide) (by decide) (by decide) (by decide)]
  have eSc : ∀ p, C_sceneOf h' p = C_sceneOf h p := fun p => by unfold C_sceneOf; rw [cgN, f (1 + 6) (by decide) (by decide) (by decide) (by decide)]
  have eCo : ∀ p, C_colours h' p = C_colours h p := fun p => by unfold C_colours A_coloursOf; rw [cgN, cL]
  have eSp : ∀ p, C_springs h' p = C_springs h p := fun p => by unfold C_springs; rw [cgS, f (1 + 10) (by decide) (by decide) (by decide) (by decide)]
  have eBc : ∀ p, C_bedCount h' p = C_bedCount h p := fun p => by unfold C_bedCount; rw [cgR, f7]
  have l1 : ∀ (k : Nat) (s : Int64) (v : Nat), v ≤ n → L_sum_L39 h' k s (nI v) = L_sum_L39 h k s (nI v) := by
    refine loopE (fun k (s : Int64) v => L_sum_L39 h' k s (nI v)) (fun k (s : Int64) v => L_sum_L39 h k s (nI v)) n (fun _ _ => rfl) (fun k s v hv => ?_)
    rw [L_sum_L39, L_sum_L39]
    unfold C_clipCount
    rw [f1, Option.bind_some, Option.bind_some, en]
    by_cases q : n ≤ v
    · exact Or.inl (by rw [if_pos (nI_le q (by omega)), if_pos (nI_le q (by omega))])
    · obtain ⟨x, ex⟩ := coloursOf_ok I.1.1 (show v < 12 by omega)
      have e1 : C_colours h (nI v) = some x := by
        unfold C_colours
        rw [needClip_eq en hn (by omega), Option.bind_some, ex, Option.bind_some]
      obtain ⟨y, ey⟩ : ∃ y, C_reelOf h (nI v) = some y := by
        rcases where_eq I en hn eR hR (show v < n by omega) with ⟨-, p, -⟩ | ⟨-, r, k, -, -, -, -, -, p, -⟩
        · exact ⟨_, p⟩
        · exact ⟨_, p⟩
      unfold nm
      rw [if_neg (nI_ge (by omega) (by omega)), if_neg (nI_ge (by omega) (by omega)), eCo, eSt, eFat, eSc, ro v (by omega), e1, Option.bind_some, Option.bind_some, state_eq en hn (by omega), Option.bind_some, Option.bind_some]
      dsimp only
      rw [fat_eq en hn (by omega), Option.bind_some, Option.bind_some, sceneOf_eq en hn (by omega), Option.bind_some, Option.bind_some, ey, Option.bind_some, Option.bind_some, nI_1]
      exact Or.inr ⟨by omega, _, rfl, rfl⟩
  have l2 : ∀ (k : Nat) (s : Int64) (w : Int32), L_sum_L121 h' k s w = L_sum_L121 h k s w := fun k => by
    induction k with
    | zero => intro s w; rfl
    | succ k ih =>
      intro s w
      rw [L_sum_L121, L_sum_L121]
      unfold C_sceneCount
      rw [f1]
      simp only [eSp, ih]
  have l3 : ∀ (g : Hp) (r : Int32) (k : Nat) (s : Int64) (w : Int32), L_sum_L191 g false r (k + 1) s w = some s := fun g r k s w => by
    rw [L_sum_L191, if_pos (by decide)]
  have l4 : ∀ (k : Nat) (s : Int64) (v : Nat), v ≤ R → L_sum_L153 h' false k s (nI v) = L_sum_L153 h false k s (nI v) := by
    refine loopE (fun k (s : Int64) v => L_sum_L153 h' false k s (nI v)) (fun k (s : Int64) v => L_sum_L153 h false k s (nI v)) R (fun _ _ => rfl) (fun k s v hv => ?_)
    rw [L_sum_L153, L_sum_L153]
    unfold C_reelCount
    rw [f1, Option.bind_some, Option.bind_some, eR]
    by_cases q : R ≤ v
    · exact Or.inl (by rw [if_pos (nI_le q (by omega)), if_pos (nI_le q (by omega))])
    · obtain ⟨T, hT, eT, -⟩ := sleepersIn_ok I.1.1 (show v < 4 by omega)
      have e1 : C_sleepers h (nI v) = some (nI T) := by
        unfold C_sleepers
        rw [needReel_eq eR hR (by omega), Option.bind_some, eT, Option.bind_some]
      have e2 : C_sleepers h' (nI v) = some (nI T) := by
        unfold C_sleepers
        rw [needReel_eq eR' hR (by omega), Option.bind_some, sleepers_same I I' en hn eR hR f1 f7 ro (by omega), eT, Option.bind_some]
      unfold nm
      rw [if_neg (nI_ge (by omega) (by omega)), if_neg (nI_ge (by omega) (by omega)), eBc, bedCount_eq eR hR (by omega), Option.bind_some, Option.bind_some, e1, e2, Option.bind_some, Option.bind_some]
      dsimp only
      rw [show FU = 1000002 + 1 from rfl, l3, l3, Option.bind_some, Option.bind_some, nI_1]
      exact Or.inr ⟨by omega, _, rfl, rfl⟩
  have l1' : ∀ s, L_sum_L39 h' FU s 0 = L_sum_L39 h FU s 0 := fun s => l1 FU s 0 (by omega)
  have l4' : ∀ s, L_sum_L153 h' false FU s 0 = L_sum_L153 h false FU s 0 := fun s => l4 FU s 0 (by omega)
  unfold L_sum C_week C_food C_burnedFat C_wakings
  rw [f1]
  simp only [l1', l2, l4']
end
