/-! ===== the class's text and its tokens ===== -/
set_option maxRecDepth 16384 in
theorem acO_ok {x y : Nat} (hx : x < 7) (hy : y < 7) : acO (nI x) (nI y) = some (decide (x = y)) := by
  unfold acO
  rw [nI_clamp (by omega), nI_clamp (by omega), if_pos ⟨hx, hy⟩]
set_option maxRecDepth 16384 in
theorem acO_ok2 {x y : Nat} (hx : 10 ≤ x ∧ x < 22) (hy : 10 ≤ y ∧ y < 22) : acO (nI x) (nI y) = some (decide (x = y)) := by
  unfold acO
  rw [nI_clamp (by omega), nI_clamp (by omega), if_neg (by omega), if_pos ⟨hx, hy⟩]
def Tx (h : Hp) : Prop := Sc 600 (rd h 47 1) ∧ Sc 600 (rd h 47 2) ∧ Sc 6 (rd h 47 3) ∧ Sc 600 (rd h 47 4) ∧ (rd h 47 3 = 1 → Sc 99999999 (rd h 47 5))
/-- only the text's position, token and number change -/
def O47 (h h' : Hp) : Prop := (∀ k, k ≠ 47 → rd h' k = rd h k) ∧ rd h' 47 1 = rd h 47 1
set_option maxRecDepth 16384 in
theorem O47.rf (h : Hp) : O47 h h := ⟨fun _ _ => rfl, rfl⟩
set_option maxRecDepth 16384 in
theorem O47.tr {h0 h1 h2 : Hp} (x : O47 h0 h1) (y : O47 h1 h2) : O47 h0 h2 := ⟨fun k hk => (y.1 k hk).trans (x.1 k hk), y.2.trans x.2⟩
set_option maxRecDepth 16384 in
theorem O47.up {h0 h : Hp} (x : O47 h0 h) {i : Nat} (hi : i ≠ 1) {v : Int32} : O47 h0 (up2 h 47 i v) :=
  ⟨fun k hk => by rw [rd_up2_ne hk]; exact x.1 k hk, by rw [rd_up2_self, upd_ne (Ne.symm hi)]; exact x.2⟩
set_option maxRecDepth 16384 in
theorem up47 {h : Hp} {i j : Nat} {v : Int32} : rd (up2 h 47 i v) 47 j = if j = i then v else rd h 47 j := by
  rw [rd_up2_self]
  by_cases e : j = i
  · subst e; rw [upd_self, if_pos rfl]
  · rw [upd_ne e, if_neg e]
set_option maxRecDepth 16384 in
theorem readWord_ok {h : Hp} {z p : Nat} (hz : z ≤ 600) (ez : rd h 47 1 = nI z) (hp : p ≤ 600) (ep : rd h 47 2 = nI p) : ∃ h' p', T_readWord h = some h' ∧ O47 h h' ∧ p' ≤ 600 ∧ rd h' 47 2 = nI p' ∧ rd h' 47 3 = 0 ∧ rd h' 47 4 = rd h 47 4 := by
  obtain ⟨h', e, o, p', hp', ep', e3, e4⟩ := loop0 (fun n (s : Hp) _ => T_readWord_L7 n s) 600 (fun s v => O47 h s ∧ p + v ≤ 600 ∧ rd s 47 2 = nI (p + v) ∧ rd s 47 3 = 0 ∧ rd s 47 4 = rd h 47 4) (fun s => O47 h s ∧ ∃ p', p' ≤ 600 ∧ rd s 47 2 = nI p' ∧ rd s 47 3 = 0 ∧ rd s 47 4 = rd h 47 4) (by decide) (fun n s v hv hj => by
    obtain ⟨o, hpv, e2, e3, e4⟩ := hj
    have stop : O47 h s ∧ ∃ p', p' ≤ 600 ∧ rd s 47 2 = nI p' ∧ rd s 47 3 = 0 ∧ rd s 47 4 = rd h 47 4 := ⟨o, p + v, hpv, e2, e3, e4⟩
    rw [T_readWord_L7, o.2, ez, e2]
    by_cases q : z ≤ p + v
    · exact Or.inl ⟨_, if_pos (nI_le q (by omega)), stop⟩
    · rw [if_neg (nI_ge (by omega) (by omega)), rdO_in (by omega) (by decide), Option.bind_some, Option.bind_some]
      by_cases w1 : rd s 48 (p + v) < 97
      · exact Or.inl ⟨_, if_pos w1, stop⟩
      · rw [if_neg w1]
        by_cases w2 : 122 < rd s 48 (p + v)
        · exact Or.inl ⟨_, if_pos w2, stop⟩
        · unfold nm
          rw [if_neg w2, nI_1]
          exact Or.inr ⟨by omega, _, ⟨o.up (by decide), by omega, by rw [up47, if_pos rfl]; rfl, by rw [up47, if_neg (by decide)]; exact e3, by rw [up47, if_neg (by decide)]; exact e4⟩, rfl⟩) (up2 h 47 3 0) ⟨(O47.rf h).up (by decide), hp, by rw [up47, if_neg (by decide)]; exact ep, by rw [up47, if_pos rfl], by rw [up47, if_neg (by decide)]⟩
  refine ⟨h', p', ?_, o, hp', ep', e3, e4⟩
  have e : T_readWord_L7 FU (up2 h 47 3 0) = some h' := e
  unfold T_readWord nm
  dsimp only
  rw [e, Option.bind_some]
set_option maxRecDepth 16384 in
theorem readNumber_ok {h : Hp} {z p : Nat} (hz : z ≤ 600) (ez : rd h 47 1 = nI z) (hp : p ≤ 600) (ep : rd h 47 2 = nI p) (es : rd h 47 4 = nI p) : ∃ h' p', T_readNumber h = some h' ∧ O47 h h' ∧ p' ≤ 600 ∧ rd h' 47 2 = nI p' ∧ rd h' 47 4 = nI p ∧ ((rd h' 47 3 = 1 ∧ Sc 99999999 (rd h' 47 5)) ∨ rd h' 47 3 = 6) := by
  obtain ⟨h', e, o, w, hp', ep', e4, e5⟩ := loop0 (fun n (s : Hp) _ => T_readNumber_L10 n s) 600 (fun s v => O47 h s ∧ p + v ≤ 600 ∧ rd s 47 2 = nI (p + v) ∧ rd s 47 4 = nI p ∧ (v ≤ 8 → ∃ j, j < 10 ^ v ∧ rd s 47 5 = nI j)) (fun s => O47 h s ∧ ∃ v, p + v ≤ 600 ∧ rd s 47 2 = nI (p + v) ∧ rd s 47 4 = nI p ∧ (v ≤ 8 → ∃ j, j < 10 ^ v ∧ rd s 47 5 = nI j)) (by decide) (fun n s v hv hj => by
    obtain ⟨o, hpv, e2, e4, e5⟩ := hj
    have stop : O47 h s ∧ ∃ v, p + v ≤ 600 ∧ rd s 47 2 = nI (p + v) ∧ rd s 47 4 = nI p ∧ (v ≤ 8 → ∃ j, j < 10 ^ v ∧ rd s 47 5 = nI j) := ⟨o, v, hpv, e2, e4, e5⟩
    rw [T_readNumber_L10, o.2, ez, e2]
    by_cases q : z ≤ p + v
    · exact Or.inl ⟨_, if_pos (nI_le q (by omega)), stop⟩
    · rw [if_neg (nI_ge (by omega) (by omega)), rdO_in (by omega) (by decide), Option.bind_some, Option.bind_some, Option.bind_some]
      rcases range_or (rd s 48 (p + v)) 48 57 (by decide) (by decide) with (w1 | w2) | ⟨d, hd, ed⟩
      · exact Or.inl ⟨_, if_pos w1, stop⟩
      · by_cases w1 : rd s 48 (p + v) < 48
        · exact Or.inl ⟨_, if_pos w1, stop⟩
        · exact Or.inl ⟨_, by rw [if_neg w1, if_pos (show 57 < rd s 48 (p + v) from w2)], stop⟩
      · have w1 : ¬ rd s 48 (p + v) < 48 := by rw [ed]; exact nI_nlt (b := 48) (by omega) (by omega)
        have w2 : ¬ 57 < rd s 48 (p + v) := by rw [ed]; exact nI_nlt (a := 57) (by omega) (by decide)
        unfold nm lt
        rw [if_neg w1, if_neg w2]
        dsimp only
        obtain ⟨X, hX⟩ : ∃ X, X = 10 * rd s 47 5 + rd s 48 (p + v) - 48 := ⟨_, rfl⟩
        rw [← hX]
        have n5 : v + 1 ≤ 8 → ∃ j, j < 10 ^ (v + 1) ∧ X = nI j := fun hv8 => by
          obtain ⟨j, hj, ej⟩ := e5 (by omega)
          refine ⟨10 * j + d, ?_, ?_⟩
          · rw [Nat.pow_succ]; omega
          · rw [hX, ej, ed, show (10 : Int32) = nI 10 from rfl, pk_mul, nI_add, show (48 : Int32) = nI 48 from rfl, pk_sub (by omega)]
            congr 1; omega
        have next : ∀ b : Bool, ∃ s', (O47 h s' ∧ p + (v + 1) ≤ 600 ∧ rd s' 47 2 = nI (p + (v + 1)) ∧ rd s' 47 4 = nI p ∧ (v + 1 ≤ 8 → ∃ j, j < 10 ^ (v + 1) ∧ rd s' 47 5 = nI j)) ∧ T_readNumber_L10 n (up2 (up2 (up2 s 47 5 X) 47 6 (b2i b)) 47 2 (rd (up2 (up2 s 47 5 X) 47 6 (b2i b)) 47 2 + 1)) = T_readNumber_L10 n s' := fun b => by
          have r2 : rd (up2 (up2 s 47 5 X) 47 6 (b2i b)) 47 2 = nI (p + v) := by rw [up47, if_neg (by decide), up47, if_neg (by decide), e2]
          rw [r2, nI_1]
          refine ⟨_, ⟨((o.up (by decide)).up (by decide)).up (by decide), by omega, ?_, ?_, fun w => ?_⟩, rfl⟩
          · rw [up47, if_pos rfl]; rfl
          · rw [up47, if_neg (by decide), up47, if_neg (by decide), up47, if_neg (by decide)]; exact e4
          · obtain ⟨j, hj, ej⟩ := n5 w
            exact ⟨j, hj, by rw [up47, if_neg (by decide), up47, if_neg (by decide), up47, if_pos rfl]; exact ej⟩
        refine Or.inr ⟨by omega, ?_⟩
        have i6 : rd (up2 s 47 5 X) 47 2 = nI (p + v) := by rw [up47, if_neg (by decide)]; exact e2
        by_cases c1 : rd (up2 s 47 5 X) 47 6 = 0
        · rw [if_pos c1, i6, rdO_in (by omega) (by decide), Option.bind_some]
          by_cases c2 : rd (up2 s 47 5 X) 48 (p + v) = 48
          · rw [if_pos c2]; obtain ⟨s', a1, a2⟩ := next true; exact ⟨s', a1, a2⟩
          · rw [if_neg c2]; obtain ⟨s', a1, a2⟩ := next false; exact ⟨s', a1, a2⟩
        · rw [if_neg c1]; obtain ⟨s', a1, a2⟩ := next true; exact ⟨s', a1, a2⟩) (up2 (up2 h 47 5 0) 47 6 0) ⟨((O47.rf h).up (by decide)).up (by decide), hp, by rw [up47, if_neg (by decide), up47, if_neg (by decide)]; exact ep, by rw [up47, if_neg (by decide), up47, if_neg (by decide)]; exact es, fun _ => ⟨0, by decide, by rw [up47, if_neg (by decide), up47, if_pos rfl]; rfl⟩⟩
  have e : T_readNumber_L10 FU (up2 (up2 h 47 5 0) 47 6 0) = some h' := e
  have d8 : rd h' 47 2 - rd h' 47 4 = nI w := by
    rw [ep', e4, pk_sub (by omega)]; congr 1; omega
  by_cases q : w ≤ 8
  · refine ⟨up2 h' 47 3 1, p + w, ?_, o.up (by decide), hp', ?_, ?_, Or.inl ⟨?_, ?_⟩⟩
    · unfold T_readNumber nm
      dsimp only
      rw [e, Option.bind_some, d8, if_pos (show nI w ≤ 8 from nI_le (b := 8) q (by decide))]
    · rw [up47, if_neg (by decide)]; exact ep'
    · rw [up47, if_neg (by decide)]; exact e4
    · rw [up47, if_pos rfl]
    · obtain ⟨j, hj, ej⟩ := e5 q
      have : 10 ^ w ≤ 10 ^ 8 := Nat.pow_le_pow_right (by decide) q
      rw [up47, if_neg (by decide)]
      exact ⟨j, by omega, ej⟩
  · refine ⟨up2 h' 47 3 6, p + w, ?_, o.up (by decide), hp', ?_, ?_, Or.inr ?_⟩
    · unfold T_readNumber nm
      dsimp only
      rw [e, Option.bind_some, d8, if_neg (show ¬ nI w ≤ 8 from nI_ge (a := 8) (by omega) (by omega))]
    · rw [up47, if_neg (by decide)]; exact ep'
    · rw [up47, if_neg (by decide)]; exact e4
    · rw [up47, if_pos rfl]
set_option maxRecDepth 16384 in
theorem tokenOf_ok (x : Int32) : ∃ k, k < 7 ∧ k ≠ 1 ∧ T_tokenOf x = some (nI k) := by
  unfold T_tokenOf
  by_cases c1 : x = 40
  · exact ⟨2, by decide, by decide, if_pos c1⟩
  rw [if_neg c1]
  by_cases c2 : x = 41
  · exact ⟨3, by decide, by decide, if_pos c2⟩
  rw [if_neg c2]
  by_cases c3 : x = 59
  · exact ⟨4, by decide, by decide, if_pos c3⟩
  · exact ⟨6, by decide, by decide, if_neg c3⟩
set_option maxRecDepth 16384 in
theorem readToken_ok {h : Hp} (T : Tx h) : ∃ h', T_readToken h = some h' ∧ Tx h' ∧ O47 h h' := by
  obtain ⟨⟨z, hz, ez⟩, ⟨p, hp, ep⟩, t3, t4, t5⟩ := T
  obtain ⟨h1, e1, o1, p1, hp1, ep1⟩ := loop0 (fun n (s : Hp) _ => T_readToken_L0 n s) 600 (fun s v => O47 h s ∧ p + v ≤ 600 ∧ rd s 47 2 = nI (p + v)) (fun s => O47 h s ∧ ∃ p', p' ≤ 600 ∧ rd s 47 2 = nI p') (by decide) (fun n s v hv hj => by
    obtain ⟨o, hpv, e2⟩ := hj
    have stop : O47 h s ∧ ∃ p', p' ≤ 600 ∧ rd s 47 2 = nI p' := ⟨o, p + v, hpv, e2⟩
    rw [T_readToken_L0, o.2, ez, e2]
    by_cases q : z ≤ p + v
    · exact Or.inl ⟨_, if_pos (nI_le q (by omega)), stop⟩
    · unfold lt nm
      rw [if_neg (nI_ge (by omega) (by omega)), rdO_in (by omega) (by decide), Option.bind_some]
      dsimp only
      rw [Option.bind_some, nI_1]
      have next : ∃ s', (O47 h s' ∧ p + (v + 1) ≤ 600 ∧ rd s' 47 2 = nI (p + (v + 1))) ∧ T_readToken_L0 n (up2 s 47 2 (nI (p + v + 1))) = T_readToken_L0 n s' := ⟨_, ⟨o.up (by decide), by omega, by rw [up47, if_pos rfl]; rfl⟩, rfl⟩
      by_cases w1 : rd s 48 (p + v) = 32
      · rw [if_pos w1]; exact Or.inr ⟨by omega, next⟩
      · rw [if_neg w1]
        by_cases w2 : rd s 48 (p + v) = 10
        · rw [if_pos w2]; exact Or.inr ⟨by omega, next⟩
        · exact Or.inl ⟨_, if_neg w2, stop⟩) h ⟨O47.rf h, hp, ep⟩
  have e1 : T_readToken_L0 FU h = some h1 := e1
  obtain ⟨h5, e5⟩ : ∃ h5, h5 = up2 h1 47 4 (nI p1) := ⟨_, rfl⟩
  have o5 : O47 h h5 := by rw [e5]; exact o1.up (by decide)
  have r2 : rd h5 47 2 = nI p1 := by rw [e5, up47, if_neg (by decide)]; exact ep1
  have r4 : rd h5 47 4 = nI p1 := by rw [e5, up47, if_pos rfl]
  have r1 : rd h5 47 1 = nI z := by rw [o5.2, ez]
  unfold T_readToken
  rw [e1, Option.bind_some, ep1]
  unfold nm lt
  dsimp only
  rw [← e5, r1, r2]
  by_cases q : p1 < z
  · rw [if_pos (nI_lt q (by omega)), rdO_in (by omega) (by decide), Option.bind_some]
    obtain ⟨b, hb⟩ : ∃ b, b = rd h5 48 p1 := ⟨_, rfl⟩
    rw [← hb]
    have other : ∃ h', ((T_tokenOf b).bind fun t7 => some (up2 (up2 h5 47 3 t7) 47 2 (rd (up2 h5 47 3 t7) 47 2 + 1))) = some h' ∧ Tx h' ∧ O47 h h' := by
      obtain ⟨k, hk, hk1, ek⟩ := tokenOf_ok b
      have x2 : rd (up2 h5 47 3 (nI k)) 47 2 = nI p1 := by rw [up47, if_neg (by decide)]; exact r2
      rw [ek, Option.bind_some, x2, nI_1]
      refine ⟨_, rfl, ⟨?_, ?_, ?_, ?_, fun w => ?_⟩, (o5.up (by decide)).up (by decide)⟩
      · rw [up47, if_neg (by decide), up47, if_neg (by decide)]; exact ⟨z, hz, r1⟩
      · rw [up47, if_pos rfl]; exact ⟨p1 + 1, by omega, rfl⟩
      · rw [up47, if_neg (by decide), up47, if_pos rfl]; exact ⟨k, by omega, rfl⟩
      · rw [up47, if_neg (by decide), up47, if_neg (by decide)]; exact ⟨p1, hp1, r4⟩
      · rw [up47, if_neg (by decide), up47, if_pos rfl] at w
        exact absurd ((nI_eq (b := 1) (by omega) (by decide)).mp w) hk1
    have numb : ∃ h', ((T_readNumber h5).bind fun h11 => some h11) = some h' ∧ Tx h' ∧ O47 h h' := by
      obtain ⟨h', p', e, o, a1, a2, a3, a4⟩ := readNumber_ok hz r1 hp1 r2 r4
      refine ⟨h', by rw [e, Option.bind_some], ⟨⟨z, hz, by rw [o.2, r1]⟩, ⟨p', a1, a2⟩, ?_, ⟨p1, hp1, a3⟩, fun w => ?_⟩, o5.tr o⟩
      · rcases a4 with ⟨a, -⟩ | a
        · exact ⟨1, by decide, a⟩
        · exact ⟨6, by decide, a⟩
      · rcases a4 with ⟨-, a⟩ | a
        · exact a
        · rw [a] at w; exact absurd w (by decide)
    have word : ∃ h', ((T_readWord h5).bind fun h13 => some h13) = some h' ∧ Tx h' ∧ O47 h h' := by
      obtain ⟨h', p', e, o, a1, a2, a3, a4⟩ := readWord_ok hz r1 hp1 r2
      refine ⟨h', by rw [e, Option.bind_some], ⟨⟨z, hz, by rw [o.2, r1]⟩, ⟨p', a1, a2⟩, ⟨0, by decide, a3⟩, ⟨p1, hp1, by rw [a4, r4]⟩, fun w => ?_⟩, o5.tr o⟩
      rw [a3] at w; exact absurd w (by decide)
    have nonWord : ∃ h', (if b < 48 then ((T_tokenOf b).bind fun t7 => some (up2 (up2 h5 47 3 t7) 47 2 (rd (up2 h5 47 3 t7) 47 2 + 1))) else if 57 < b then ((T_tokenOf b).bind fun t7 => some (up2 (up2 h5 47 3 t7) 47 2 (rd (up2 h5 47 3 t7) 47 2 + 1))) else ((T_readNumber h5).bind fun h11 => some h11)) = some h' ∧ Tx h' ∧ O47 h h' := by
      by_cases c1 : b < 48
      · rw [if_pos c1]; exact other
      · rw [if_neg c1]
        by_cases c2 : 57 < b
        · rw [if_pos c2]; exact other
        · rw [if_neg c2]; exact numb
    by_cases c1 : b < 97
    · rw [if_pos c1]; exact nonWord
    · rw [if_neg c1]
      by_cases c2 : 122 < b
      · rw [if_pos c2]; exact nonWord
      · rw [if_neg c2]; exact word
  · rw [if_neg (nI_nlt (by omega) (by omega))]
    refine ⟨_, rfl, ⟨?_, ?_, ?_, ?_, fun w => ?_⟩, o5.up (by decide)⟩
    · rw [up47, if_neg (by decide)]; exact ⟨z, hz, r1⟩
    · rw [up47, if_neg (by decide)]; exact ⟨p1, hp1, r2⟩
    · rw [up47, if_pos rfl]; exact ⟨5, by decide, rfl⟩
    · rw [up47, if_neg (by decide)]; exact ⟨p1, hp1, r4⟩
    · rw [up47, if_pos rfl] at w; exact absurd w (by decide)
set_option maxRecDepth 16384 in
theorem slO_ok {c : Nat} (hc : 100 ≤ c ∧ c < 116) : slO (nI c) = some (nI (sx_len.getD (c - 100) 0)) := by
  unfold slO
  rw [nI_clamp (by omega), if_pos hc]
set_option maxRecDepth 16384 in
theorem sx_le : ∀ i, i < 16 → sx_len.getD i 0 ≤ 200 := by decide
set_option maxRecDepth 16384 in
theorem scO_ok {c i : Nat} (hc : 100 ≤ c ∧ c < 116) (hi : i < sx_len.getD (c - 100) 0) : ∃ x, scO (nI c) (nI i) = some x := by
  have := sx_le (c - 100) (by omega)
  unfold scO
  rw [nI_clamp (by omega), nI_clamp (by omega), if_pos ⟨hc.1, hc.2, fun q => by
    rcases q with q | q
    · exact nI_pos (by omega) q
    · omega⟩]
  exact ⟨_, rfl⟩
set_option maxRecDepth 16384 in
theorem isWord_ok {h : Hp} (T : Tx h) {c : Nat} (hc : 100 ≤ c ∧ c < 116) : ∃ b, T_isWord h (nI c) = some b := by
  obtain ⟨⟨z, hz, ez⟩, ⟨p, hp, ep⟩, ⟨t, ht, et⟩, ⟨s0, hs0, es0⟩, -⟩ := T
  have hl := sx_le (c - 100) (by omega)
  obtain ⟨r, e, -⟩ := loop0 (fun n (_ : Unit) v => T_isWord_L30 h (nI c) n (nI v)) 200 (fun _ _ => True) (fun _ => True) (by decide) (fun n s v hv _ => by
    rw [T_isWord_L30, slO_ok hc, Option.bind_some]
    by_cases q : sx_len.getD (c - 100) 0 ≤ v
    · exact Or.inl ⟨_, if_pos (nI_le q (by omega)), trivial⟩
    · rw [if_neg (nI_ge (by omega) (by omega)), es0, nI_add, ez]
      by_cases q2 : z ≤ s0 + v
      · exact Or.inl ⟨_, if_pos (nI_le q2 (by omega)), trivial⟩
      · obtain ⟨x, ex⟩ := scO_ok (i := v) hc (by omega)
        rw [if_neg (nI_ge (by omega) (by omega)), rdO_in (by omega) (by decide), Option.bind_some, ex, Option.bind_some, nI_1]
        by_cases q3 : rd h 48 (s0 + v) = x
        · rw [if_pos q3]; exact Or.inr ⟨by omega, (), trivial, rfl⟩
        · rw [if_neg q3]; exact Or.inl ⟨_, rfl, trivial⟩) () trivial
  have e : T_isWord_L30 h (nI c) FU 0 = some r := e
  have ea : acO (rd h 47 3) 0 = some (decide (t = 0)) := by rw [et]; exact acO_ok (y := 0) (by omega) (by decide)
  unfold T_isWord
  rw [ea, Option.bind_some, slO_ok hc, Option.bind_some, e, Option.bind_some]
  by_cases q : t = 0
  · rw [decide_eq_true q]
    show ∃ b, (if rd h 47 2 - rd h 47 4 = nI (sx_len.getD (c - 100) 0) then _ else _) = some b
    by_cases q2 : rd h 47 2 - rd h 47 4 = nI (sx_len.getD (c - 100) 0)
    · rw [if_pos q2]
      match r with
      | .inl () => exact ⟨_, rfl⟩
      | .inr y => exact ⟨_, rfl⟩
    · rw [if_neg q2]; exact ⟨_, rfl⟩
  · rw [decide_eq_false q]; exact ⟨_, rfl⟩
