/-! ===== the model's text ===== -/
/-- the text's length z, the token's start s and end e, its sort t -/
def Pt (h : Hp) (z s e t : Nat) : Prop := z ≤ 600 ∧ s ≤ e ∧ e ≤ z ∧ t < 7 ∧ rd h 140 10 = nI z ∧ rd h 140 17 = nI s ∧ rd h 140 18 = nI e ∧ rd h 140 16 = nI t
/-- what the parser may change: the token's fields, the error, the count of commands; the numbers -/
def Pf (h h' : Hp) : Prop := (∀ k, k ≠ 140 → k ≠ 141 → k ≠ 149 → rd h' k = rd h k) ∧ ∀ i, (i < 11 ∨ (12 < i ∧ i < 16)) → rd h' 140 i = rd h 140 i
set_option maxRecDepth 16384 in
theorem Pf.rf (h : Hp) : Pf h h := ⟨fun _ _ _ _ => rfl, fun _ _ => rfl⟩
set_option maxRecDepth 16384 in
theorem Pf.tr {h0 h1 h2 : Hp} (x : Pf h0 h1) (y : Pf h1 h2) : Pf h0 h2 := ⟨fun k a b c => (y.1 k a b c).trans (x.1 k a b c), fun i a => (y.2 i a).trans (x.2 i a)⟩
set_option maxRecDepth 16384 in
theorem Pf.up {h0 h : Hp} (x : Pf h0 h) {i : Nat} {v : Int32} (hi : ¬ (i < 11 ∨ (12 < i ∧ i < 16))) : Pf h0 (up2 h 140 i v) :=
  ⟨fun k a b c => by rw [rd_up2_ne a]; exact x.1 k a b c, fun j a => by rw [rd_up2_self, upd_ne (fun e => hi (by rw [← e]; exact a))]; exact x.2 j a⟩
set_option maxRecDepth 16384 in
theorem Pf.mk {h h' : Hp} (m : Mz h h') : Pf h h' := ⟨fun k _ b _ => m.2 k b, fun i _ => by rw [m.2 140 (by decide)]⟩
set_option maxRecDepth 16384 in
theorem u140 {h : Hp} {i j : Nat} {v : Int32} : rd (up2 h 140 i v) 140 j = if j = i then v else rd h 140 j := by
  rw [rd_up2_self]
  by_cases e : j = i
  · subst e; rw [upd_self, if_pos rfl]
  · rw [upd_ne e, if_neg e]
set_option maxRecDepth 16384 in
theorem sortOf_ok (x : Int32) : ∃ k, k < 7 ∧ k ≠ 0 ∧ M_sortOf x = some (nI k) := by
  unfold M_sortOf lt
  by_cases c1 : x = 59
  · exact ⟨1, by decide, by decide, if_pos c1⟩
  rw [if_neg c1]
  dsimp only
  have j42 : ∃ k, k < 7 ∧ k ≠ 0 ∧ (if x = 40 then some (4 : Int32) else if x = 41 then some 5 else some 6) = some (nI k) := by
    by_cases c2 : x = 40
    · exact ⟨4, by decide, by decide, if_pos c2⟩
    rw [if_neg c2]
    by_cases c3 : x = 41
    · exact ⟨5, by decide, by decide, if_pos c3⟩
    · exact ⟨6, by decide, by decide, if_neg c3⟩
  have j26 : ∃ k, k < 7 ∧ k ≠ 0 ∧ (if x < 48 then (if x = 40 then some (4 : Int32) else if x = 41 then some 5 else some 6) else if 57 < x then (if x = 40 then some (4 : Int32) else if x = 41 then some 5 else some 6) else some 3) = some (nI k) := by
    by_cases c2 : x < 48
    · rw [if_pos c2]; exact j42
    rw [if_neg c2]
    by_cases c3 : 57 < x
    · rw [if_pos c3]; exact j42
    · exact ⟨3, by decide, by decide, if_neg c3⟩
  by_cases c2 : x < 97
  · rw [if_pos c2]; exact j26
  rw [if_neg c2]
  by_cases c3 : 122 < x
  · rw [if_pos c3]; exact j26
  · exact ⟨2, by decide, by decide, if_neg c3⟩
set_option maxRecDepth 16384 in
theorem next_ok' {h : Hp} {z e : Nat} (hz : z ≤ 600) (hez : e ≤ z) (ez : rd h 140 10 = nI z) (ee : rd h 140 18 = nI e) : ∃ h' s' e' t', M_next h = some h' ∧ Pt h' z s' e' t' ∧ Pf h h' ∧ (∀ k, k ≠ 140 → rd h' k = rd h k) ∧ e ≤ e' ∧ (t' ≠ 0 → e + 1 ≤ e') := by
  obtain ⟨h1, e1⟩ : ∃ h1, h1 = up2 h 140 17 (nI e) := ⟨_, rfl⟩
  have A1 : ∀ i, rd h1 140 i = if i = 17 then nI e else rd h 140 i := fun i => by rw [e1, u140]
  have o1 : ∀ k, k ≠ 140 → rd h1 k = rd h k := fun k a => by rw [e1, rd_up2_ne a]
  obtain ⟨h5, e5, s', hs', hs'z, o5, f5, A5⟩ := loop0 (fun n (g : Hp) _ => M_next_L8 n g) 600 (fun g v => (∀ k, k ≠ 140 → rd g k = rd h k) ∧ Pf h g ∧ e + v ≤ z ∧ rd g 140 17 = nI (e + v) ∧ ∀ i, i ≠ 17 → rd g 140 i = rd h 140 i) (fun g => ∃ s', e ≤ s' ∧ s' ≤ z ∧ (∀ k, k ≠ 140 → rd g k = rd h k) ∧ Pf h g ∧ rd g 140 17 = nI s' ∧ ∀ i, i ≠ 17 → rd g 140 i = rd h 140 i) (by decide) (fun n g v hv hj => by
    obtain ⟨o, f, hev, e17, A⟩ := hj
    have stop : ∃ s', e ≤ s' ∧ s' ≤ z ∧ (∀ k, k ≠ 140 → rd g k = rd h k) ∧ Pf h g ∧ rd g 140 17 = nI s' ∧ ∀ i, i ≠ 17 → rd g 140 i = rd h 140 i := ⟨e + v, by omega, hev, o, f, e17, A⟩
    rw [M_next_L8, A 10 (by decide), ez, e17]
    by_cases q : z ≤ e + v
    · exact Or.inl ⟨_, if_pos (nI_le q (by omega)), stop⟩
    · unfold lt nm
      rw [if_neg (nI_ge (by omega) (by omega)), rdO_in (by omega) (by decide), Option.bind_some]
      dsimp only
      rw [Option.bind_some, nI_1]
      have go : ∃ g', ((∀ k, k ≠ 140 → rd g' k = rd h k) ∧ Pf h g' ∧ e + (v + 1) ≤ z ∧ rd g' 140 17 = nI (e + (v + 1)) ∧ ∀ i, i ≠ 17 → rd g' 140 i = rd h 140 i) ∧ M_next_L8 n (up2 g 140 17 (nI (e + v + 1))) = M_next_L8 n g' :=
        ⟨_, ⟨fun k a => by rw [rd_up2_ne a]; exact o k a, f.up (by omega), by omega, by rw [u140, if_pos rfl]; rfl, fun i hi => by rw [u140, if_neg hi]; exact A i hi⟩, rfl⟩
      by_cases w1 : rd g 147 (e + v) = 32
      · rw [if_pos w1]; exact Or.inr ⟨by omega, go⟩
      · rw [if_neg w1]
        by_cases w2 : rd g 147 (e + v) = 10
        · rw [if_pos w2]; exact Or.inr ⟨by omega, go⟩
        · exact Or.inl ⟨_, if_neg w2, stop⟩) h1 ⟨o1, by rw [e1]; exact (Pf.rf h).up (by omega), hez, by rw [A1, if_pos rfl]; rfl, fun i hi => by rw [A1, if_neg hi]⟩
  have e5 : M_next_L8 FU h1 = some h5 := e5
  obtain ⟨e17, A5⟩ := A5
  obtain ⟨h6, e6⟩ : ∃ h6, h6 = up2 h5 140 18 (nI s') := ⟨_, rfl⟩
  have A6 : ∀ i, rd h6 140 i = if i = 18 then nI s' else rd h5 140 i := fun i => by rw [e6, u140]
  have o6 : ∀ k, k ≠ 140 → rd h6 k = rd h k := fun k a => by rw [e6, rd_up2_ne a]; exact o5 k a
  have f6 : Pf h h6 := by rw [e6]; exact f5.up (by omega)
  unfold M_next nm lt
  dsimp only
  have r617 : rd h6 140 17 = nI s' := by rw [A6, if_neg (by decide), e17]
  have r610 : rd h6 140 10 = nI z := by rw [A6, if_neg (by decide), A5 10 (by decide), ez]
  rw [ee, ← e1, e5, Option.bind_some]
  rw [e17, ← e6, r617, r610]
  by_cases q : s' = z
  · rw [if_pos (by rw [q])]
    refine ⟨_, s', s', 0, rfl, ⟨hz, Nat.le_refl _, by omega, by decide, ?_, ?_, ?_, ?_⟩, f6.up (by omega), fun k a => by rw [rd_up2_ne a]; exact o6 k a, hs', fun w => absurd rfl w⟩
    · rw [u140, if_neg (by decide), A6, if_neg (by decide), A5 10 (by decide), ez]
    · rw [u140, if_neg (by decide), A6, if_neg (by decide), e17]
    · rw [u140, if_neg (by decide), A6, if_pos rfl]
    · rw [u140, if_pos rfl]; rfl
  · obtain ⟨k, hk, hk0, ek⟩ := sortOf_ok (rd h6 147 s')
    rw [if_neg (fun w => q ((nI_eq (by omega) (by omega)).mp w)), rdO_in (by omega) (by decide), Option.bind_some, ek, Option.bind_some]
    obtain ⟨h10, e10⟩ : ∃ h10, h10 = up2 h6 140 16 (nI k) := ⟨_, rfl⟩
    have A10 : ∀ i, rd h10 140 i = if i = 16 then nI k else rd h6 140 i := fun i => by rw [e10, u140]
    have r18 : rd h10 140 18 = nI s' := by rw [A10, if_neg (by decide), A6, if_pos rfl]
    rw [← e10, r18, nI_1]
    obtain ⟨h11, e11⟩ : ∃ h11, h11 = up2 h10 140 18 (nI (s' + 1)) := ⟨_, rfl⟩
    have o11 : ∀ k, k ≠ 140 → rd h11 k = rd h k := fun k a => by rw [e11, rd_up2_ne a, e10, rd_up2_ne a]; exact o6 k a
    have f11 : Pf h h11 := by rw [e11, e10]; exact (f6.up (by omega)).up (by omega)
    have A11 : ∀ i, rd h11 140 i = if i = 18 then nI (s' + 1) else if i = 16 then nI k else rd h6 140 i := fun i => by rw [e11, u140, A10]
    rw [← e11]
    obtain ⟨h15, e15, e', he', he'z, o15, f15, q18, A15⟩ := loop0 (fun n (g : Hp) _ => M_next_L111 n g) 600 (fun g v => (∀ k, k ≠ 140 → rd g k = rd h k) ∧ Pf h g ∧ s' + 1 + v ≤ z ∧ rd g 140 18 = nI (s' + 1 + v) ∧ ∀ i, i ≠ 18 → rd g 140 i = rd h11 140 i) (fun g => ∃ e', s' + 1 ≤ e' ∧ e' ≤ z ∧ (∀ k, k ≠ 140 → rd g k = rd h k) ∧ Pf h g ∧ rd g 140 18 = nI e' ∧ ∀ i, i ≠ 18 → rd g 140 i = rd h11 140 i) (by decide) (fun n g v hv hj => by
      obtain ⟨o, f, hev, e18, A⟩ := hj
      have stop : ∃ e', s' + 1 ≤ e' ∧ e' ≤ z ∧ (∀ k, k ≠ 140 → rd g k = rd h k) ∧ Pf h g ∧ rd g 140 18 = nI e' ∧ ∀ i, i ≠ 18 → rd g 140 i = rd h11 140 i := ⟨s' + 1 + v, by omega, hev, o, f, e18, A⟩
      have r10 : rd g 140 10 = nI z := by rw [A 10 (by decide), A11, if_neg (by decide), if_neg (by decide), A6, if_neg (by decide), A5 10 (by decide), ez]
      rw [M_next_L111]
      unfold lt nm
      dsimp only
      have step : (∃ r, (if rd g 140 10 ≤ rd g 140 18 then some g else (rdO 600 (rd g 147) (rd g 140 18)).bind fun t12 => (M_sortOf t12).bind fun t13 => if t13 = rd g 140 16 then M_next_L111 n (up2 g 140 18 (rd g 140 18 + 1)) else some g) = some r ∧ ∃ e', s' + 1 ≤ e' ∧ e' ≤ z ∧ (∀ k, k ≠ 140 → rd r k = rd h k) ∧ Pf h r ∧ rd r 140 18 = nI e' ∧ ∀ i, i ≠ 18 → rd r 140 i = rd h11 140 i) ∨ v < 600 ∧ ∃ g', ((∀ k, k ≠ 140 → rd g' k = rd h k) ∧ Pf h g' ∧ s' + 1 + (v + 1) ≤ z ∧ rd g' 140 18 = nI (s' + 1 + (v + 1)) ∧ ∀ i, i ≠ 18 → rd g' 140 i = rd h11 140 i) ∧ (if rd g 140 10 ≤ rd g 140 18 then some g else (rdO 600 (rd g 147) (rd g 140 18)).bind fun t12 => (M_sortOf t12).bind fun t13 => if t13 = rd g 140 16 then M_next_L111 n (up2 g 140 18 (rd g 140 18 + 1)) else some g) = M_next_L111 n g' := by
        rw [r10, e18]
        by_cases q : z ≤ s' + 1 + v
        · exact Or.inl ⟨_, if_pos (nI_le q (by omega)), stop⟩
        · obtain ⟨k', hk', -, ek'⟩ := sortOf_ok (rd g 147 (s' + 1 + v))
          rw [if_neg (nI_ge (by omega) (by omega)), rdO_in (by omega) (by decide), Option.bind_some, ek', Option.bind_some, nI_1]
          by_cases w : nI k' = rd g 140 16
          · rw [if_pos w]
            exact Or.inr ⟨by omega, _, ⟨fun k a => by rw [rd_up2_ne a]; exact o k a, f.up (by omega), by omega, by rw [u140, if_pos rfl]; rfl, fun i hi => by rw [u140, if_neg hi]; exact A i hi⟩, rfl⟩
          · exact Or.inl ⟨_, if_neg w, stop⟩
      by_cases w1 : rd g 140 16 = 2
      · rw [if_pos w1]; exact step
      · rw [if_neg w1]
        by_cases w2 : rd g 140 16 = 3
        · rw [if_pos w2]; exact step
        · exact Or.inl ⟨_, if_neg w2, stop⟩) h11 ⟨o11, f11, by omega, by rw [A11, if_pos rfl, Nat.add_zero], fun _ _ => rfl⟩
    have e15 : M_next_L111 FU h11 = some h15 := e15
    rw [e15, Option.bind_some]
    have r17 : ∀ i, i ≠ 16 → i ≠ 17 → i ≠ 18 → rd h15 140 i = rd h 140 i := fun i a b c => by rw [A15 i c, A11, if_neg c, if_neg a, A6, if_neg c, A5 i b]
    have r15s : rd h15 140 17 = nI s' := by rw [A15 17 (by decide), A11, if_neg (by decide), if_neg (by decide), A6, if_neg (by decide), e17]
    have r15t : rd h15 140 16 = nI k := by rw [A15 16 (by decide), A11, if_neg (by decide), if_pos rfl]
    have fin : ∀ (g : Hp) (t' : Nat), t' < 7 → (∀ k, k ≠ 140 → rd g k = rd h k) → Pf h g → rd g 140 10 = nI z → rd g 140 17 = nI s' → rd g 140 18 = nI e' → rd g 140 16 = nI t' → ∃ h' s' e' t', ((M_next_L208 FU (rd (up2 g 140 19 0) 140 17) (up2 g 140 19 0)).bind fun r19 => some r19) = some h' ∧ Pt h' z s' e' t' ∧ Pf h h' ∧ (∀ k, k ≠ 140 → rd h' k = rd h k) ∧ e ≤ e' ∧ (t' ≠ 0 → e + 1 ≤ e') := fun g t' ht' og fg g10 g17 g18 g16 => by
      have s17 : rd (up2 g 140 19 0) 140 17 = nI s' := by rw [u140, if_neg (by decide), g17]
      obtain ⟨h', e19, o19, f19, A19⟩ := loopI (fun n (u : Hp) v => M_next_L208 n (nI v) u) 600 (fun u _ => (∀ k, k ≠ 140 → rd u k = rd h k) ∧ Pf h u ∧ ∀ i, i ≠ 19 → rd u 140 i = rd g 140 i) (fun u => (∀ k, k ≠ 140 → rd u k = rd h k) ∧ Pf h u ∧ ∀ i, i ≠ 19 → rd u 140 i = rd g 140 i) (fun n u v hv hj => by
        obtain ⟨o, f, A⟩ := hj
        rw [M_next_L208, A 18 (by decide), g18]
        by_cases q : e' ≤ v
        · exact Or.inl ⟨_, if_pos (nI_le q (by omega)), o, f, A⟩
        · rw [if_neg (nI_ge (by omega) (by omega))]
          by_cases w : rd u 140 16 = 3
          · unfold nm
            rw [if_pos w, rdO_in (by omega) (by decide), Option.bind_some, nI_1]
            exact Or.inr ⟨by omega, _, ⟨fun k a => by rw [rd_up2_ne a]; exact o k a, f.up (by omega), fun i hi => by rw [u140, if_neg hi]; exact A i hi⟩, rfl⟩
          · exact Or.inl ⟨_, if_neg w, o, f, A⟩) FU (up2 g 140 19 0) s' (by omega) (by unfold FU; omega) ⟨fun k a => by rw [rd_up2_ne a]; exact og k a, fg.up (by omega), fun i hi => by rw [u140, if_neg hi]⟩
      have e19 : M_next_L208 FU (nI s') (up2 g 140 19 0) = some h' := e19
      rw [s17, e19, Option.bind_some]
      exact ⟨h', s', e', t', rfl, ⟨hz, by omega, he'z, ht', by rw [A19 10 (by decide), g10], by rw [A19 17 (by decide), g17], by rw [A19 18 (by decide), g18], by rw [A19 16 (by decide), g16]⟩, f19, o19, by omega, fun _ => by omega⟩
    have j198 := fin h15 k hk o15 f15 (by rw [r17 10 (by decide) (by decide) (by decide), ez]) r15s q18 r15t
    by_cases w : rd h15 140 16 = 3
    · rw [if_pos w]
      by_cases w2 : rd h15 140 18 - rd h15 140 17 ≤ 8
      · rw [if_pos w2]; exact j198
      · rw [if_neg w2]
        refine fin (up2 h15 140 16 6) 6 (by decide) (fun k a => by rw [rd_up2_ne a]; exact o15 k a) (f15.up (by omega)) ?_ ?_ ?_ ?_
        · rw [u140, if_neg (by decide), r17 10 (by decide) (by decide) (by decide), ez]
        · rw [u140, if_neg (by decide), r15s]
        · rw [u140, if_neg (by decide), q18]
        · rw [u140, if_pos rfl]; rfl
    · rw [if_neg w]; exact j198
set_option maxRecDepth 16384 in
theorem next_ok {h : Hp} {z s e t : Nat} (P : Pt h z s e t) : ∃ h' s' e' t', M_next h = some h' ∧ Pt h' z s' e' t' ∧ Pf h h' ∧ (∀ k, k ≠ 140 → rd h' k = rd h k) ∧ e ≤ e' ∧ (t' ≠ 0 → e + 1 ≤ e') :=
  next_ok' P.1 P.2.2.1 P.2.2.2.2.1 P.2.2.2.2.2.2.1
set_option maxRecDepth 16384 in
theorem says_ok {h : Hp} {z s e t : Nat} (P : Pt h z s e t) {c : Nat} (hc : 100 ≤ c ∧ c < 116) : ∃ b, M_says h (nI c) = some b ∧ (t ≠ 2 → b = false) := by
  obtain ⟨hz, hse, hez, ht, ez, es, ee, et⟩ := P
  have hl := sx_le (c - 100) (by omega)
  unfold M_says
  rw [et]
  by_cases q : nI t = 2
  · have t2 : t = 2 := (nI_eq (b := 2) (by omega) (by decide)).mp q
    rw [if_pos q, slO_ok hc, Option.bind_some]
    by_cases q2 : rd h 140 18 - rd h 140 17 = nI (sx_len.getD (c - 100) 0)
    · have len : e - s = sx_len.getD (c - 100) 0 := by
        rw [ee, es, pk_sub hse] at q2
        exact (nI_eq (by omega) (by omega)).mp q2
      rw [if_pos q2]
      obtain ⟨r, er, -⟩ := loop0 (fun n (_ : Unit) v => M_says_L28 h (nI c) n (nI v)) 200 (fun _ _ => True) (fun _ => True) (by decide) (fun n _ v hv _ => by
        rw [M_says_L28, slO_ok hc, Option.bind_some]
        by_cases w : sx_len.getD (c - 100) 0 ≤ v
        · exact Or.inl ⟨_, if_pos (nI_le w (by omega)), trivial⟩
        · obtain ⟨x, ex⟩ := scO_ok (i := v) hc (by omega)
          rw [if_neg (nI_ge (by omega) (by omega)), es, nI_add, rdO_in (by omega) (by decide), Option.bind_some, ex, Option.bind_some, nI_1]
          by_cases w2 : rd h 147 (s + v) = x
          · rw [if_pos w2]; exact Or.inr ⟨by omega, (), trivial, rfl⟩
          · rw [if_neg w2]; exact Or.inl ⟨_, rfl, trivial⟩) () trivial
      have er : M_says_L28 h (nI c) FU 0 = some r := er
      rw [er, Option.bind_some]
      match r with
      | .inl () => exact ⟨_, rfl, fun w => absurd t2 w⟩
      | .inr y => exact ⟨_, rfl, fun w => absurd t2 w⟩
    · rw [if_neg q2]; exact ⟨_, rfl, fun _ => rfl⟩
  · rw [if_neg q]; exact ⟨_, rfl, fun _ => rfl⟩
set_option maxRecDepth 16384 in
theorem Pt.cg {h h' : Hp} {z s e t : Nat} (P : Pt h z s e t) (q : ∀ i, (i = 10 ∨ i = 16 ∨ i = 17 ∨ i = 18) → rd h' 140 i = rd h 140 i) : Pt h' z s e t := by
  obtain ⟨hz, hse, hez, ht, ez, es, ee, et⟩ := P
  exact ⟨hz, hse, hez, ht, by rw [q 10 (by omega), ez], by rw [q 17 (by omega), es], by rw [q 18 (by omega), ee], by rw [q 16 (by omega), et]⟩
set_option maxRecDepth 16384 in
theorem mfail_ok {h : Hp} {z s e t : Nat} (P : Pt h z s e t) (x : Int32) : ∃ h', M_fail h x = some (false, h') ∧ Pt h' z s e t ∧ Pf h h' ∧ ∀ k, k ≠ 140 → rd h' k = rd h k := by
  unfold M_fail nm
  by_cases q : rd h 140 11 = 0
  · rw [if_pos q]
    refine ⟨_, rfl, P.cg fun i hi => ?_, ((Pf.rf h).up (by omega)).up (by omega), fun k a => ?_⟩
    · rw [u140, if_neg (by omega), u140, if_neg (by omega)]
    · rw [rd_up2_ne a, rd_up2_ne a]
  · rw [if_neg q]
    exact ⟨h, rfl, P, Pf.rf h, fun _ _ => rfl⟩
set_option maxRecDepth 16384 in
theorem mis_ok {h : Hp} {z s e t : Nat} (P : Pt h z s e t) {p : Nat} (hp : p < 7) : ∃ b h', M_is h (nI p) = some (b, h') ∧ Pt h' z s e t ∧ Pf h h' ∧ (∀ k, k ≠ 140 → rd h' k = rd h k) ∧ (b = true → t = p ∧ h' = h) := by
  unfold M_is
  rw [P.2.2.2.2.2.2.2]
  by_cases q : nI t = nI p
  · rw [if_pos q]
    exact ⟨true, h, rfl, P, Pf.rf h, fun _ _ => rfl, fun _ => ⟨(nI_eq (by have := P.2.2.2.1; omega) (by omega)).mp q, rfl⟩⟩
  · obtain ⟨h', e', P', f', o'⟩ := mfail_ok P 1
    rw [if_neg q, e', Option.bind_some]
    exact ⟨false, h', rfl, P', f', o', fun w => by cases w⟩
set_option maxRecDepth 16384 in
theorem mnumber_ok {h : Hp} {z s e t : Nat} (P : Pt h z s e t) {p : Nat} (hp : p < 3) (lo hi : Int32) : ∃ b h' s' e' t', M_number h (nI p) lo hi = some (b, h') ∧ Pt h' z s' e' t' ∧ Pf h h' ∧ rd h' 141 = rd h 141 ∧ e ≤ e' ∧ (∀ i, i ≠ p → rd h' 149 i = rd h 149 i) ∧ (b = true → t = 3 ∧ rd h' 149 p = rd h 140 19 ∧ ¬ rd h' 149 p < lo ∧ ¬ hi < rd h' 149 p) := by
  unfold M_number
  obtain ⟨b, h2, e2, P2, f2, o2, p2⟩ := mis_ok P (p := 3) (by decide)
  have e2 : M_is h 3 = some (b, h2) := e2
  rw [e2, Option.bind_some]
  match b, p2 with
  | false, _ => exact ⟨false, h2, s, e, t, rfl, P2, f2, o2 141 (by decide), Nat.le_refl _, fun i _ => by rw [o2 149 (by decide)], fun w => by cases w⟩
  | true, p2 =>
    obtain ⟨t3, rfl⟩ := p2 rfl
    dsimp only
    rw [if_neg (by decide)]
    unfold M_in
    have bad : ∃ b h' s' e' t', ((M_fail h2 2).bind fun x => some (x.1, x.2)) = some (b, h') ∧ Pt h' z s' e' t' ∧ Pf h2 h' ∧ rd h' 141 = rd h2 141 ∧ e ≤ e' ∧ (∀ i, i ≠ p → rd h' 149 i = rd h2 149 i) ∧ (b = true → t = 3 ∧ rd h' 149 p = rd h2 140 19 ∧ ¬ rd h' 149 p < lo ∧ ¬ hi < rd h' 149 p) := by
      obtain ⟨h5, e5, P5, f5, o5⟩ := mfail_ok P 2
      rw [e5, Option.bind_some]
      exact ⟨false, h5, s, e, t, rfl, P5, f5, o5 141 (by decide), Nat.le_refl _, fun i _ => by rw [o5 149 (by decide)], fun w => by cases w⟩
    by_cases q1 : rd h2 140 19 < lo
    · rw [if_pos q1]; exact bad
    rw [if_neg q1]
    by_cases q2 : hi < rd h2 140 19
    · rw [if_pos q2]; exact bad
    rw [if_neg q2, Option.bind_some, if_neg (by decide), wrO_in hp (by decide), Option.bind_some]
    obtain ⟨h6, e6⟩ : ∃ h6, h6 = up2 h2 149 p (rd h2 140 19) := ⟨_, rfl⟩
    have P6 : Pt h6 z s e t := P.cg fun i _ => by rw [e6, rd_up2_ne (by decide)]
    obtain ⟨h8, s8, e8, t8, eq8, P8, f8, o8, l8, -⟩ := next_ok P6
    rw [← e6, eq8, Option.bind_some]
    have r149 : rd h8 149 = upd (rd h2 149) p (rd h2 140 19) := by rw [o8 149 (by decide), e6, rd_up2_self]
    refine ⟨true, h8, s8, e8, t8, rfl, P8, ⟨fun k a b c => by rw [f8.1 k a b c, e6, rd_up2_ne c], fun i a => by rw [f8.2 i a, e6, rd_up2_ne (by decide)]⟩, by rw [o8 141 (by decide), e6, rd_up2_ne (by decide)], l8, fun i hi => by rw [r149, upd_ne hi], fun _ => ⟨t3, ?_, ?_, ?_⟩⟩
    · rw [r149, upd_self]
    · rw [r149, upd_self]; exact q1
    · rw [r149, upd_self]; exact q2
set_option maxRecDepth 16384 in
theorem mstops_ok {h : Hp} {z s e t : Nat} (P : Pt h z s e t) (p : Bool) : ∃ b h', M_stops h p = some (b, h') ∧ Pt h' z s e t ∧ Pf h h' ∧ (∀ k, k ≠ 140 → rd h' k = rd h k) ∧ (b = true → p = true ∧ h' = h) := by
  unfold M_stops
  obtain ⟨b, h2, e2, P2, f2, o2, p2⟩ := mis_ok P (p := 1) (by decide)
  have e2 : M_is h 1 = some (b, h2) := e2
  rw [e2, Option.bind_some]
  match b, p2 with
  | false, _ => exact ⟨false, h2, rfl, P2, f2, o2, fun w => by cases w⟩
  | true, p2 =>
    obtain ⟨-, rfl⟩ := p2 rfl
    dsimp only
    rw [if_neg (by decide)]
    match p with
    | false =>
      obtain ⟨h4, e4, P4, f4, o4⟩ := mfail_ok P 3
      rw [if_pos (by decide), e4, Option.bind_some]
      exact ⟨false, h4, rfl, P4, f4, o4, fun w => by cases w⟩
    | true =>
      rw [if_neg (by decide)]
      exact ⟨true, h2, rfl, P, Pf.rf _, fun _ _ => rfl, fun _ => ⟨rfl, rfl⟩⟩
