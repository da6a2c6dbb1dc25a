/-! ===== p65: the law's isAired ===== -/
section
variable {h : Hp} {e c0 n R S : Nat}
/-- airing two archives with the same rows -/
theorem air_cg {g g' : Hp} {a a' : Nat} {v : Int32} {x : Hp} {r : Int32} (q : Eqa a a' g g') (e : A_airReel g' a' r = some (v, x)) : ∃ y, A_airReel g a r = some (v, y) ∧ Eqa a a' y x := by
  obtain ⟨⟨w, y⟩, e1, e2, e3⟩ := airReel_R q r _ e
  dsimp only at e2 e3
  exact ⟨y, by rw [e1, e2], e3⟩
/-- looksIfAired, out of an airing of the archive itself -/
theorem looksIf_eq (I : Ary h 1) (eR : rd h 1 12 = nI R) (hR : R ≤ 4) {r : Nat} (hr : r < R) {v : Int32} {hA : Hp} {T : Int32} (ea : A_airReel h 1 (nI r) = some (v, hA)) (eT : A_allLooks hA 1 (nI r) = some T) : ∃ t, C_looksIfAired h (nI r) = some (T, t) ∧ ∀ k, (k < 12 ∨ 23 ≤ k) → rd t k = rd h k := by
  obtain ⟨h3, e3, f3, q3⟩ := copy_eqa h 12 1 (Or.inr (by decide))
  obtain ⟨t, et, qt⟩ := air_cg q3 ea
  have I3 : Ary h3 12 := Ary.eq q3 I
  obtain ⟨v', t', et', wx⟩ := airReel_x I3.1 (r := r) (by rw [q3.f12, eR, vn_nI (by omega)]; exact hr)
  rw [et] at et'
  have tt := (Prod.mk.inj (Option.some.inj et')).2
  rw [← tt] at wx
  refine ⟨t, ?_, fun k hk => by rw [wx.2 k (by omega), f3 k (by omega)]⟩
  unfold C_looksIfAired
  rw [needReel_eq eR hR hr, Option.bind_some, e3, Option.bind_some, et, Option.bind_some]
  dsimp only
  rw [allLooks_cg qt, eT, Option.bind_some]
theorem aired26 (eR : rd h 1 12 = nI R) (hR : R ≤ 4) {r m : Nat} (hr : r < R) (em : rd h (1 + 7) r = nI m) (hm : m ≤ 9) : L_isAired_L26 h (nI r) FU 0 0 = some (nI (cn (warm h 1 r) m)) := by
  obtain ⟨x, e, p⟩ := loop0 (fun k (s : Int32) v => L_isAired_L26 h (nI r) k s (nI v)) m (fun s v => s = nI (cn (warm h 1 r) v)) (fun x => x = nI (cn (warm h 1 r) m)) (by omega) (fun k s v hv j => by
    rw [L_isAired_L26, bedCount_eq eR hR hr, Option.bind_some, em]
    by_cases q : m ≤ v
    · obtain rfl : v = m := by omega
      exact Or.inl ⟨_, if_pos (nI_le q (by omega)), j⟩
    · rw [if_neg (nI_ge (by omega) (by omega)), bed_eq eR hR hr em hm (by omega), Option.bind_some, nI_1, i_add0]
      refine Or.inr ⟨by omega, ?_⟩
      by_cases z : rd h (1 + 8) (r * 9 + v) = -2
      · rw [if_pos z]
        refine ⟨s + 1, ?_, rfl⟩
        rw [cn_s, show warm h 1 r v = true from decide_eq_true z, if_pos rfl, j, nI_1]
      · rw [if_neg z]
        refine ⟨s, ?_, rfl⟩
        rw [cn_s, show warm h 1 r v = false from decide_eq_false z, if_neg (by decide), j, Nat.add_zero]) 0 rfl
  rw [← p]; exact e
theorem aired105 (I : Ary h 1) (en : rd h 1 5 = nI n) (hn : n ≤ 12) (eR : rd h 1 12 = nI R) (hR : R ≤ 4) {r m : Nat} (hr : r < R) (em : rd h (1 + 7) r = nI m) (hm : m ≤ 9) (vm : vn (rd h (1 + 7) r) = m) (nw : ∀ b, b < m → rd h (1 + 8) (r * 9 + b) ≠ -2) : ∀ (k : Nat) (s : Int32) (v : Nat) (T : Int32), v ≤ m → A_allLooks_L4 h 1 (nI r) k s (nI v) = some T → L_isAired_L105 h (nI r) k s (nI v) = some (.inl T)
  | 0, s, v, T, hv, e => by
    have e : (none : Option Int32) = some T := e
    cases e
  | k + 1, s, v, T, hv, e => by
    have Li := I.1.2.1
    unfold LieA at Li
    rw [en, vn_nI (by omega), eR, vn_nI (by omega)] at Li
    rw [A_allLooks_L4, r4 (by omega), Option.bind_some, em] at e
    rw [L_isAired_L105, bedCount_eq eR hR hr, Option.bind_some, em]
    by_cases q : m ≤ v
    · rw [if_pos (nI_le q (by omega))] at e ⊢
      rw [Option.some.inj e]
    · rw [if_neg (nI_ge (by omega) (by omega)), inBed_eq (by omega) (by omega), Option.bind_some, nI_1] at e
      rw [if_neg (nI_ge (by omega) (by omega)), bed_eq eR hR hr em hm (by omega), Option.bind_some, if_neg (nw v (by omega)), Option.bind_some, Option.bind_some, nI_1]
      rcases bed_cases I.1.1 (i := r * 9 + v) (by omega) with z | ⟨c, hc, ec⟩
      · rw [if_pos z] at e ⊢
        exact aired105 I en hn eR hR hr em hm vm nw k s (v + 1) T (by omega) e
      · obtain ⟨_, _, k', _, _, _, _, _, _, ek, _⟩ := looks_ok I.1.1 hc (show r < 4 by omega)
        have cn := (Li.1 r v c hr (by show v < vn (rd h (1 + 7) r); rw [vm]; omega) hc ec).1
        have el : C_looksFor h (nI c) (nI r) = some (nI k') := by
          unfold C_looksFor
          rw [needClip_eq en hn cn, Option.bind_some, needReel_eq eR hR hr, Option.bind_some, ek, Option.bind_some]
        rw [ec, if_neg (nI_pos (by omega)), ek, Option.bind_some] at e
        rw [ec, if_neg (nI_pos (by omega)), el, Option.bind_some]
        exact aired105 I en hn eR hR hr em hm vm nw k _ (v + 1) T (by omega) e
theorem cn_zero {p : Nat → Bool} : ∀ n, (∀ i, i < n → p i = false) → cn p n = 0
  | 0, _ => rfl
  | n + 1, h => by
    rw [cn_s, h n (by omega), cn_zero n (fun i hi => h i (by omega)), if_neg (by decide)]
/-- airing an aired reel: no bed was warm, and all is as before -/
theorem air_twice {hA g : Hp} (I : Ary h 1) (eR : rd h 1 12 = nI R) (en : rd h 1 5 = nI n) (hn : n ≤ 12) (hR : R ≤ 4) {r m S : Nat} {h1 : Hp} (hr : r < R) (em : rd h (1 + 7) r = nI m) (hm : m ≤ 9) (IA : Ary hA 1) (eS : A_sleepersIn h 1 (nI r) = some (nI S)) (eM : A_airReel_L54 1 (nI r) (nI S) FU 0 h1 = some hA) (fA : ∀ k, k ≠ 1 + 8 → k ≠ 1 + 4 → rd hA k = rd h k) (stA : ∀ i, rd hA (1 + 4) i = rd h (1 + 4) i) (f1 : ∀ k, k ≠ 1 + 8 → rd h1 k = rd h k) (b1 : ∀ i, rd h1 (1 + 8) i = if r * 9 ≤ i ∧ i < r * 9 + m then -1 else rd h (1 + 8) i) (oA : ∀ i, (i < r * 9 ∨ r * 9 + m ≤ i) → rd hA (1 + 8) i = rd h (1 + 8) i) (nw : ∀ b, b < m → rd hA (1 + 8) (r * 9 + b) ≠ -2) : ∃ y, A_airReel hA 1 (nI r) = some (0, y) ∧ Eqa 1 1 y hA := by
  have z1 : rd hA 1 = rd h 1 := fA 1 (by decide) (by decide)
  have z7 : rd hA (1 + 7) = rd h (1 + 7) := fA (1 + 7) (by decide) (by decide)
  have ro : ∀ c, c < n → C_reelOf hA (nI c) = C_reelOf h (nI c) := fun c hc => aired_reelOf I IA en hn eR hR hr em hm (fun k a b _ _ => fA k a b) stA oA hc
  have eSA := sleepers_same I IA en hn eR hR z1 z7 ro hr
  rw [eS] at eSA
  obtain ⟨h2, e2, A2, f2, b2⟩ := airL_cnt IA.1.1 (show r < 4 by omega) (by rw [z7]; exact em) hm
  have w0 : cn (warm hA 1 r) m = 0 := cn_zero m (fun b hb => decide_eq_false (nw b hb))
  rw [w0] at e2
  have q : Eqa 1 1 h2 h1 := by
    refine ⟨fun i _ => by rw [f2 1 (by decide), z1, f1 1 (by decide)], fun k k1 hk i hi => ?_⟩
    by_cases k8 : k = 8
    · subst k8
      rw [b2, b1]
      by_cases y : r * 9 ≤ i ∧ i < r * 9 + m
      · rw [if_pos y, if_pos y]
      · rw [if_neg y, if_neg y, oA i (by omega)]
    · rw [f2 (1 + k) (by omega), f1 (1 + k) (by omega)]
      by_cases k4 : k = 4
      · subst k4; exact stA i
      · rw [fA (1 + k) (by omega) (by omega)]
  obtain ⟨y, ey, qy⟩ := airM_R FU 0 h2 h1 q hA eM
  refine ⟨y, ?_, qy⟩
  unfold A_airReel
  rw [eSA, Option.bind_some, e2, Option.bind_some]
  dsimp only
  rw [ey, Option.bind_some]
  rfl
theorem lgc (x : Int64) : lg_cmp x x = 0 := by
  have n : ¬ x > x := fun w => by
    have w : x < x := w
    rw [Int64.lt_iff_toInt_lt] at w
    omega
  unfold lg_cmp
  rw [if_neg n, if_pos rfl]
set_option maxHeartbeats 4000000 in
theorem isAired_y (I : Ary h 1) (ring : Ring h e c0) (eR : rd h 1 12 = nI R) (hR : R ≤ 4) {r : Nat} (hr : r < R) : ∃ g c', L_isAired h (nI r) = some (true, g) ∧ Ary g 1 ∧ Ring g e c' := by
  obtain ⟨n, R', S', n1, hn, R1, hR', S1, hS, en, eR', eS', v5, v12, v15⟩ := I.nums
  obtain rfl : R' = R := nI_inj (by omega) (by omega) (eR'.symm.trans eR)
  obtain ⟨m, m1, hm, em, vm⟩ := I.cnt (r := r) (by rw [v12]; exact hr)
  obtain ⟨S, h1, hA, hS4, eS, eL, eM, eA, wA, fA, stA, f1, b1, oA, nw⟩ := air_full I.1 (r := r) (by rw [v12]; exact hr) em hm
  have XA : Ary hA 1 := by
    obtain ⟨v, h', e', w', -⟩ := airReel_y I (r := r) (by rw [v12]; exact hr)
    rw [eA] at e'
    rw [(Prod.mk.inj (Option.some.inj e')).2]
    exact w'.1
  obtain ⟨s1, es1⟩ := sum_ok I true
  obtain ⟨s2, es2⟩ := sum_ok I false
  obtain ⟨T, eT⟩ := allLooks_ok XA.1.1 (show r < 4 by omega)
  -- looksIfAired
  obtain ⟨h4, e4, f4⟩ := looksIf_eq I eR hR hr eA eT
  have q4 : Eqa 1 1 h4 h := (Eqa.rf 1 h).fr (fun k a b => f4 k (by omega))
  have I4 : Ary h4 1 := Ary.eq q4 I
  have z4 : rd h4 1 = rd h 1 := f4 1 (by omega)
  have z47 : rd h4 (1 + 7) = rd h (1 + 7) := f4 (1 + 7) (by omega)
  have z48 : rd h4 (1 + 8) = rd h (1 + 8) := f4 (1 + 8) (by omega)
  have ring4 : Ring h4 e c0 := by
    obtain ⟨a1, a2, a3, a4⟩ := ring
    exact ⟨a1, a2, by rw [f4 0 (by omega)]; exact a3, by rw [f4 0 (by omega)]; exact a4⟩
  have e26 := aired26 (h := h4) (by rw [z4]; exact eR) hR hr (by rw [z47]; exact em) hm
  have w4 : warm h4 1 r = warm h 1 r := by
    funext b
    unfold warm
    rw [z48]
  rw [w4] at e26
  -- air
  obtain ⟨v9, h9, e9, H9, I9, g9, eg9, fg9, F9⟩ := air_y I4 ring4 (by rw [z4]; exact eR) hR hr
  have qg9 : Eqa 1 1 g9 h := ((Eqa.rf 1 h4).fr (fun k a b => fg9 k a (by omega))).tr q4
  obtain ⟨y9, ey9, q9⟩ := air_cg qg9 eA
  rw [eg9] at ey9
  have ev9 := (Prod.mk.inj (Option.some.inj ey9)).1
  have eh9 := (Prod.mk.inj (Option.some.inj ey9)).2
  rw [← eh9] at q9
  have en9 : rd h9 1 5 = nI n := by rw [q9.f5, fA 1 (by decide) (by decide)]; exact en
  have eR9 : rd h9 1 12 = nI R' := by rw [q9.f12, fA 1 (by decide) (by decide)]; exact eR
  have em9 : rd h9 (1 + 7) r = nI m := by rw [q9.2 7 (by decide) (by decide) r (by show r < 4; omega), fA (1 + 7) (by decide) (by decide)]; exact em
  have nw9 : ∀ b, b < m → rd h9 (1 + 8) (r * 9 + b) ≠ -2 := fun b hb => by rw [q9.2 8 (by decide) (by decide) (r * 9 + b) (by show r * 9 + b < 36; omega)]; exact nw b hb
  have ro : ∀ c, c < n → C_reelOf hA (nI c) = C_reelOf h (nI c) := fun c hc => aired_reelOf I XA en hn eR hR hr em hm (fun k a b _ _ => fA k a b) stA oA hc
  have es9 : L_sum h9 false = some s2 := by
    rw [sum_cg q9, sum_aired I XA en hn eR hR (fun k a b _ _ => fA k a b) stA ro]; exact es2
  have eT9 : A_allLooks h9 1 (nI r) = some T := by rw [allLooks_cg q9]; exact eT
  have e105 : L_isAired_L105 h9 (nI r) FU 0 0 = some (.inl T) := by
    unfold A_allLooks at eT9
    cases q : A_allLooks_L4 h9 1 (nI r) FU 0 0 with
    | none => rw [q] at eT9; cases eT9
    | some T' =>
      rw [q, Option.bind_some] at eT9
      rw [Option.some.inj eT9] at q
      exact aired105 I9 en9 hn eR9 hR hr em9 hm (by rw [em9, vn_nI (by omega)]) nw9 FU 0 0 T (by omega) q
  -- once more
  obtain ⟨yA, eyA, qyA⟩ := air_twice (g := hA) I eR en hn hR hr em hm XA eS eM fA stA f1 b1 oA nw
  obtain ⟨x9, ex9, qx9⟩ := air_cg q9 eyA
  have eTx : A_allLooks x9 1 (nI r) = some T := by rw [allLooks_cg (qx9.tr qyA)]; exact eT
  obtain ⟨h23, e23, f23⟩ := looksIf_eq I9 eR9 hR hr ex9 eTx
  have q23 : Eqa 1 1 h23 h9 := (Eqa.rf 1 h9).fr (fun k a b => f23 k (by omega))
  have I23 : Ary h23 1 := Ary.eq q23 I9
  have ring23 : Ring h23 ((e + 1) % 8) (min (c0 + 1) 8) := by
    obtain ⟨a1, a2, a3, a4⟩ := H9.1
    exact ⟨a1, a2, by rw [f23 0 (by omega)]; exact a3, by rw [f23 0 (by omega)]; exact a4⟩
  obtain ⟨v25, h25, e25, H25, I25, g25, eg25, fg25, F25⟩ := air_y I23 ring23 (by rw [f23 1 (by omega)]; exact eR9) hR hr
  have qg25 : Eqa 1 1 g25 h9 := ((Eqa.rf 1 h23).fr (fun k a b => fg25 k a (by omega))).tr q23
  obtain ⟨y25, ey25, -⟩ := air_cg qg25 ex9
  rw [eg25] at ey25
  have ev25 := (Prod.mk.inj (Option.some.inj ey25)).1
  -- undone twice
  have he : e < 8 := ring.1
  obtain ⟨h18, e18, q18, ring18, f18, -⟩ := undo_y (h' := h25) (b := h23) (e := (e + 1) % 8) (c := min (min (c0 + 1) 8 + 1) 8) (Nat.mod_lt _ (by decide)) (by omega) H25.1 H25.2.1
  have q20 : Eqa (52 + 11 * e) 1 h18 h4 := by
    refine H9.2.1.fr (fun k a b => ?_)
    have ne : (e + 1) % 8 ≠ e := by omega
    rw [f18 k (by omega), H25.2.2.1 k (by omega) (by omega), f23 k (by omega)]
  obtain ⟨h20, e20, qq, ring20, f20, -⟩ := undo_y (h' := h18) (b := h4) (e := e) (c := min (min (c0 + 1) 8 + 1) 8 - 1) he (by omega) ring18 q20
  have es20 : L_sum h20 true = some s1 := by rw [sum_cg (qq.tr q4)]; exact es1
  refine ⟨h20, _, ?_, Ary.eq (qq.tr q4) I, ring20⟩
  have c1 : nI (cn (warm h 1 r) m) = nI (cn (warm h 1 r) m) := rfl
  have c2 : T = T := rfl
  have c3 : (0 : Int32) = 0 := rfl
  have bt1 : ¬ b2i true = 0 := by decide
  unfold L_isAired lt
  dsimp only
  rw [es1, Option.bind_some, es2, Option.bind_some, e4, Option.bind_some]
  dsimp only
  rw [e26, Option.bind_some, e9, Option.bind_some]
  dsimp only
  rw [ev9, if_pos c1, es9, Option.bind_some, lgc, if_pos c3, holds_true I9, Option.bind_some, if_neg bt1, e105, Option.bind_some]
  dsimp only
  rw [if_neg bt1, if_pos c2, e23, Option.bind_some]
  dsimp only
  rw [if_pos c2, e25, Option.bind_some]
  dsimp only
  rw [ev25, if_pos c3, e18, Option.bind_some]
  dsimp only
  rw [e20, Option.bind_some]
  dsimp only
  rw [if_neg bt1, es20, Option.bind_some, lgc, if_pos c3]
end
