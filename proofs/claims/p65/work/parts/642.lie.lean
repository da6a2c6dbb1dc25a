/-! ===== who lies where: beds, ways and sleepers, of numbers alone ===== -/
/-- n clips, R reels; each bed with a clip has a sleeping clip; each sleeping clip lies in one bed, and no COLD bed comes before it on its way -/
def Lie (n R : Nat) (cnt hs : Nat → Nat) (as : Nat → Prop) (B : Nat → Int32) : Prop :=
  (∀ r b c, r < R → b < cnt r → c < 12 → B (r * 9 + b) = nI c → c < n ∧ as c) ∧
  ∀ c, c < n → as c → ∃ r k, r < R ∧ k < cnt r ∧ B (r * 9 + wb (hs c) (cnt r) k) = nI c ∧ (∀ j, j < k → B (r * 9 + wb (hs c) (cnt r) j) ≠ -1) ∧ ∀ r' b', r' < R → b' < cnt r' → B (r' * 9 + b') = nI c → r' = r ∧ b' = wb (hs c) (cnt r) k
theorem wb_in {q m k : Nat} (h : k < m) : wb q m k < m := by
  unfold wb
  rw [if_pos (show 1 ≤ m by omega)]
  exact Nat.mod_lt _ (by omega)
theorem ix9 {r b r' b' : Nat} (hb : b < 9) (hb' : b' < 9) (e : r * 9 + b = r' * 9 + b') : r = r' ∧ b = b' := by omega
theorem nI_inj {x y : Nat} (hx : x < 2 ^ 31) (hy : y < 2 ^ 31) (e : nI x = nI y) : x = y := by
  have h1 := nI_toInt hx
  have h2 := nI_toInt hy
  rw [e, h2] at h1
  omega
theorem nI_nm2 {k : Nat} (h : k < 2 ^ 31) : ¬ nI k = -2 := fun q => by
  have h1 := nI_toInt h
  rw [q] at h1
  have : ((-2 : Int32)).toInt = -2 := by decide
  omega
theorem nI_ge0 {k : Nat} (h : k < 2 ^ 31) : 0 ≤ nI k := by
  rw [Int32.le_iff_toInt_le, nI_toInt h]
  exact Int.natCast_nonneg k
section
variable {n R : Nat} {cnt hs : Nat → Nat} {as : Nat → Prop} {B : Nat → Int32}
theorem Lie.lay (hn : n ≤ 12) (hm : ∀ r, r < R → cnt r ≤ 9) (L : Lie n R cnt hs as B) {c r k : Nat} (hc : c < n) (na : ¬ as c) (hr : r < R) (hk : k < cnt r) (free : ¬ 0 ≤ B (r * 9 + wb (hs c) (cnt r) k)) (full : ∀ j, j < k → 0 ≤ B (r * 9 + wb (hs c) (cnt r) j)) : Lie n R cnt hs (fun x => as x ∨ x = c) (upd B (r * 9 + wb (hs c) (cnt r) k) (nI c)) := by
  have hb0 := wb_in (q := hs c) hk
  have h9 := hm r hr
  refine ⟨fun r' b' c' hr' hb' hc' e => ?_, fun c' hc' ha => ?_⟩
  · by_cases q : r' * 9 + b' = r * 9 + wb (hs c) (cnt r) k
    · rw [q, upd_self] at e
      have := nI_inj (by omega) (by omega) e
      subst this
      exact ⟨hc, Or.inr rfl⟩
    · rw [upd_ne q] at e
      obtain ⟨a, b⟩ := L.1 r' b' c' hr' hb' hc' e
      exact ⟨a, Or.inl b⟩
  · by_cases z : c' = c
    · subst z
      refine ⟨r, k, hr, hk, upd_self, fun j hj => ?_, fun r' b' hr' hb' e => ?_⟩
      · have f := full j hj
        by_cases q : r * 9 + wb (hs c') (cnt r) j = r * 9 + wb (hs c') (cnt r) k
        · rw [q] at f; exact absurd f free
        · rw [upd_ne q]
          intro g
          rw [g] at f
          exact absurd f (by decide)
      · by_cases q : r' * 9 + b' = r * 9 + wb (hs c') (cnt r) k
        · exact ix9 (by have := hm r' hr'; omega) (by omega) q
        · rw [upd_ne q] at e
          exact absurd (L.1 r' b' c' hr' hb' (by omega) e).2 na
    · have ha : as c' := ha.resolve_right z
      obtain ⟨r1, k1, h1, h2, h3, h4, h5⟩ := L.2 c' hc' ha
      have ne : r1 * 9 + wb (hs c') (cnt r1) k1 ≠ r * 9 + wb (hs c) (cnt r) k := fun q => by
        rw [q] at h3
        rw [h3] at free
        exact free (nI_ge0 (by omega))
      refine ⟨r1, k1, h1, h2, by rw [upd_ne ne]; exact h3, fun j hj => ?_, fun r' b' hr' hb' e => ?_⟩
      · by_cases q : r1 * 9 + wb (hs c') (cnt r1) j = r * 9 + wb (hs c) (cnt r) k
        · rw [q, upd_self]; exact nI_nm1 (by omega)
        · rw [upd_ne q]; exact h4 j hj
      · by_cases q : r' * 9 + b' = r * 9 + wb (hs c) (cnt r) k
        · rw [q, upd_self] at e
          exact absurd (nI_inj (by omega) (by omega) e).symm z
        · rw [upd_ne q] at e
          exact h5 r' b' hr' hb' e
theorem Lie.leave (hn : n ≤ 12) (hm : ∀ r, r < R → cnt r ≤ 9) (L : Lie n R cnt hs as B) {c r b : Nat} (hc : c < 12) (hr : r < R) (hb : b < cnt r) (eb : B (r * 9 + b) = nI c) : Lie n R cnt hs (fun x => as x ∧ x ≠ c) (upd B (r * 9 + b) (-2)) := by
  have h9 := hm r hr
  obtain ⟨cn, ca⟩ := L.1 r b c hr hb hc eb
  refine ⟨fun r' b' c' hr' hb' hc' e => ?_, fun c' hc' ha => ?_⟩
  · by_cases q : r' * 9 + b' = r * 9 + b
    · rw [q, upd_self] at e
      exact absurd e.symm (nI_nm2 (by omega))
    · rw [upd_ne q] at e
      obtain ⟨x, y⟩ := L.1 r' b' c' hr' hb' hc' e
      refine ⟨x, y, fun z => ?_⟩
      subst z
      obtain ⟨r1, k1, -, -, -, -, h5⟩ := L.2 c' cn ca
      have e1 := h5 r' b' hr' hb' e
      have e2 := h5 r b hr hb eb
      exact q (by rw [e1.1, e1.2, e2.1, e2.2])
  · obtain ⟨ha, z⟩ := ha
    obtain ⟨r1, k1, h1, h2, h3, h4, h5⟩ := L.2 c' hc' ha
    have ne : r1 * 9 + wb (hs c') (cnt r1) k1 ≠ r * 9 + b := fun q => by
      rw [q, eb] at h3
      exact z (nI_inj (by omega) (by omega) h3).symm
    refine ⟨r1, k1, h1, h2, by rw [upd_ne ne]; exact h3, fun j hj => ?_, fun r' b' hr' hb' e => ?_⟩
    · by_cases q : r1 * 9 + wb (hs c') (cnt r1) j = r * 9 + b
      · rw [q, upd_self]; decide
      · rw [upd_ne q]; exact h4 j hj
    · by_cases q : r' * 9 + b' = r * 9 + b
      · rw [q, upd_self] at e
        exact absurd e.symm (nI_nm2 (by omega))
      · rw [upd_ne q] at e
        exact h5 r' b' hr' hb' e
theorem Lie.away (L : Lie n R cnt hs as B) {c : Nat} (no : ∀ r b, r < R → b < cnt r → B (r * 9 + b) ≠ nI c) : Lie n R cnt hs (fun x => as x ∧ x ≠ c) B :=
  ⟨fun r b c' hr hb hc e => ⟨(L.1 r b c' hr hb hc e).1, (L.1 r b c' hr hb hc e).2, fun z => no r b hr hb (z ▸ e)⟩, fun c' hc ha => L.2 c' hc ha.1⟩
theorem Lie.cg (L : Lie n R cnt hs as B) {cnt' hs' : Nat → Nat} {as' : Nat → Prop} {B' : Nat → Int32} (ec : ∀ r, r < R → cnt' r = cnt r) (eh : ∀ c, c < n → as c → hs' c = hs c) (ea : ∀ c, c < n → (as' c ↔ as c)) (eB : ∀ r b, r < R → b < cnt r → B' (r * 9 + b) = B (r * 9 + b)) : Lie n R cnt' hs' as' B' := by
  refine ⟨fun r b c hr hb hc e => ?_, fun c hc ha => ?_⟩
  · rw [ec r hr] at hb
    rw [eB r b hr hb] at e
    obtain ⟨x, y⟩ := L.1 r b c hr hb hc e
    exact ⟨x, (ea c x).mpr y⟩
  · have ha := (ea c hc).mp ha
    obtain ⟨r, k, h1, h2, h3, h4, h5⟩ := L.2 c hc ha
    refine ⟨r, k, h1, by rw [ec r h1]; exact h2, ?_, fun j hj => ?_, fun r' b' hr' hb' e => ?_⟩
    · rw [ec r h1, eh c hc ha, eB r _ h1 (wb_in h2)]; exact h3
    · rw [ec r h1, eh c hc ha, eB r _ h1 (wb_in (by omega))]; exact h4 j hj
    · rw [ec r' hr'] at hb'
      rw [eB r' b' hr' hb'] at e
      rw [ec r h1, eh c hc ha]
      exact h5 r' b' hr' hb' e
theorem Lie.clip (L : Lie n R cnt hs as B) {hs' : Nat → Nat} {as' : Nat → Prop} (na : ¬ as' n) (ea : ∀ c, c < n → (as' c ↔ as c)) (eh : ∀ c, c < n → hs' c = hs c) : Lie (n + 1) R cnt hs' as' B := by
  refine ⟨fun r b c hr hb hc e => ?_, fun c hc ha => ?_⟩
  · obtain ⟨x, y⟩ := L.1 r b c hr hb hc e
    exact ⟨by omega, (ea c x).mpr y⟩
  · have hc2 : c < n := by
      by_cases z : c = n
      · subst z; exact absurd ha na
      · omega
    rw [eh c hc2]
    exact L.2 c hc2 ((ea c hc2).mp ha)
theorem Lie.reel (hn : n ≤ 12) (L : Lie n R cnt hs as B) {cnt' : Nat → Nat} {B' : Nat → Int32} (ec : ∀ r, r < R → cnt' r = cnt r) (eB : ∀ r b, r < R → b < cnt r → B' (r * 9 + b) = B (r * 9 + b)) (eN : ∀ b, b < cnt' R → B' (R * 9 + b) = -1) : Lie n (R + 1) cnt' hs as B' := by
  have L2 := L.cg ec (fun _ _ _ => rfl) (fun _ _ => Iff.rfl) eB
  have old : ∀ r b c, r < R + 1 → b < cnt' r → c < 12 → B' (r * 9 + b) = nI c → r < R := fun r b c hr hb hc e => by
    by_cases z : r = R
    · subst z
      rw [eN b hb] at e
      exact absurd e.symm (nI_nm1 (by omega))
    · omega
  refine ⟨fun r b c hr hb hc e => L2.1 r b c (old r b c hr hb hc e) hb hc e, fun c hc ha => ?_⟩
  obtain ⟨r, k, h1, h2, h3, h4, h5⟩ := L2.2 c hc ha
  exact ⟨r, k, by omega, h2, h3, h4, fun r' b' hr' hb' e => h5 r' b' (old r' b' c hr' hb' (by omega) e) hb' e⟩
theorem Lie.clear (hn : n ≤ 12) (L : Lie n R cnt hs as B) {r : Nat} (hr : r < R) {B' : Nat → Int32} (e1 : ∀ b, b < cnt r → B' (r * 9 + b) = -1) (e2 : ∀ r' b, r' < R → b < cnt r' → r' ≠ r → B' (r' * 9 + b) = B (r' * 9 + b)) : Lie n R cnt hs (fun c => as c ∧ ¬ ∃ b, b < cnt r ∧ B (r * 9 + b) = nI c) B' := by
  refine ⟨fun r' b c hr' hb hc e => ?_, fun c hc ha => ?_⟩
  · by_cases z : r' = r
    · subst z
      rw [e1 b hb] at e
      exact absurd e.symm (nI_nm1 (by omega))
    · rw [e2 r' b hr' hb z] at e
      obtain ⟨x, y⟩ := L.1 r' b c hr' hb hc e
      refine ⟨x, y, fun ⟨b2, q1, q2⟩ => ?_⟩
      obtain ⟨r1, k1, -, -, -, -, h5⟩ := L.2 c x y
      have f1 := h5 r' b hr' hb e
      have f2 := h5 r b2 hr q1 q2
      exact z (by rw [f1.1, f2.1])
  · obtain ⟨ha, no⟩ := ha
    obtain ⟨r1, k1, h1, h2, h3, h4, h5⟩ := L.2 c hc ha
    have z : r1 ≠ r := fun z => by
      subst z
      exact no ⟨_, wb_in h2, h3⟩
    refine ⟨r1, k1, h1, h2, by rw [e2 r1 _ h1 (wb_in h2) z]; exact h3, fun j hj => by rw [e2 r1 _ h1 (wb_in (by omega)) z]; exact h4 j hj, fun r' b' hr' hb' e => ?_⟩
    by_cases z2 : r' = r
    · subst z2
      rw [e1 b' hb'] at e
      exact absurd e.symm (nI_nm1 (by omega))
    · rw [e2 r' b' hr' hb' z2] at e
      exact h5 r' b' hr' hb' e
end
theorem Lie.none (cnt hs : Nat → Nat) (as : Nat → Prop) (B : Nat → Int32) : Lie 0 0 cnt hs as B :=
  ⟨fun r b c hr => absurd hr (Nat.not_lt_zero _), fun c hc => absurd hc (Nat.not_lt_zero _)⟩
/-! counting -/
def cn (p : Nat → Bool) : Nat → Nat
  | 0 => 0
  | k + 1 => cn p k + (if p k = true then 1 else 0)
theorem cn_true (m : Nat) : cn (fun _ => true) m = m := by
  induction m with
  | zero => rfl
  | succ m ih => show cn (fun _ => true) m + (if true = true then 1 else 0) = m + 1; rw [ih, if_pos rfl]
theorem cn_le {p q : Nat → Bool} : ∀ N, (∀ x, x < N → p x = true → q x = true) → cn p N ≤ cn q N
  | 0, _ => Nat.le_refl _
  | N + 1, h => by
    have ih := cn_le N (fun x hx => h x (by omega))
    show cn p N + (if p N = true then 1 else 0) ≤ cn q N + (if q N = true then 1 else 0)
    by_cases a : p N = true
    · rw [if_pos a, if_pos (h N (by omega) a)]; omega
    · rw [if_neg a]; omega
theorem cn_rm {q : Nat → Bool} {y : Nat} (hq : q y = true) : ∀ N, y < N → cn q N = cn (fun z => q z && decide (z ≠ y)) N + 1
  | 0, h => absurd h (Nat.not_lt_zero _)
  | N + 1, h => by
    show cn q N + (if q N = true then 1 else 0) = cn (fun z => q z && decide (z ≠ y)) N + (if (q N && decide (N ≠ y)) = true then 1 else 0) + 1
    by_cases e : N = y
    · subst e
      have h1 : cn q N = cn (fun z => q z && decide (z ≠ N)) N := by
        have f : ∀ x, x < N → (q x && decide (x ≠ N)) = q x := fun x hx => by
          rw [decide_eq_true (show x ≠ N by omega), Bool.and_true]
        exact Nat.le_antisymm (cn_le N fun x hx g => by show (q x && decide (x ≠ N)) = true; rw [f x hx]; exact g) (cn_le N fun x hx g => by rw [← f x hx]; exact g)
      rw [if_pos hq, ← h1, if_neg (by simp)]
    · have ih := cn_rm hq N (by omega)
      rw [ih, decide_eq_true e, Bool.and_true]
      omega
theorem cn_inj {N : Nat} {Rl : Nat → Nat → Prop} : ∀ (m : Nat) (p q : Nat → Bool), (∀ x, x < m → p x = true → ∃ y, y < N ∧ q y = true ∧ Rl x y) → (∀ x x' y, x < m → x' < m → Rl x y → Rl x' y → x = x') → cn p m ≤ cn q N
  | 0, _, _, _, _ => Nat.zero_le _
  | m + 1, p, q, h, i => by
    show cn p m + (if p m = true then 1 else 0) ≤ cn q N
    by_cases a : p m = true
    · obtain ⟨y, hy, hq, hr⟩ := h m (by omega) a
      rw [if_pos a, cn_rm hq N hy]
      refine Nat.add_le_add_right (cn_inj m p _ (fun x hx px => ?_) (fun x x' y hx hx' => i x x' y (by omega) (by omega))) 1
      obtain ⟨y', hy', hq', hr'⟩ := h x (by omega) px
      refine ⟨y', hy', ?_, hr'⟩
      have ne : y' ≠ y := fun e => by
        subst e
        have := i x m y' (by omega) (by omega) hr' hr
        omega
      show (q y' && decide (y' ≠ y)) = true
      rw [hq', decide_eq_true ne]; rfl
    · rw [if_neg a]
      exact cn_inj m p q (fun x hx => h x (by omega)) (fun x x' y hx hx' => i x x' y (by omega) (by omega))
/-- while the sleepers of a reel lie down again one after another, a bed is free for each -/
theorem lie_room {m v : Nat} {B0 B : Nat → Int32} {S : Nat → Bool} (hv : v < 12) (sv : S v = true) (h0 : ∀ c, c < 12 → S c = true → ∃ b, b < m ∧ B0 b = nI c) (h1 : ∀ b, b < m → ∃ c, c < v ∧ S c = true ∧ B b = nI c) (inj : ∀ b b' c, b < m → b' < m → c < v → B b = nI c → B b' = nI c → b = b') : False := by
  have a1 : cn (fun _ => true) m ≤ cn (fun z => S z && decide (z ≠ v)) 12 := cn_inj (Rl := fun b c => c < v ∧ B b = nI c) m _ _ (fun b hb _ => by
    obtain ⟨c, hc, sc, e⟩ := h1 b hb
    exact ⟨c, by omega, by show (S c && decide (c ≠ v)) = true; rw [sc, decide_eq_true (show c ≠ v by omega)]; rfl, hc, e⟩) (fun x x' y hx hx' e e' => inj x x' y hx hx' e.1 e.2 e'.2)
  have a2 : cn S 12 ≤ cn (fun _ => true) m := cn_inj (Rl := fun c b => c < 12 ∧ B0 b = nI c) 12 _ _ (fun c hc sc => by
    obtain ⟨b, hb, e⟩ := h0 c hc sc
    exact ⟨b, hb, rfl, hc, e⟩) (fun x x' y _ _ e e' => nI_inj (by omega) (by omega) (e.2.symm.trans e'.2))
  have a3 := cn_rm sv 12 hv
  omega
/-- every bed is on every way -/
theorem wb_all {q m b : Nat} (hb : b < m) : ∃ k, k < m ∧ wb q m k = b := by
  have hq : q % m < m := Nat.mod_lt _ (by omega)
  have hd : m * (q / m) + q % m = q := Nat.div_add_mod q m
  by_cases z : q % m ≤ b
  · refine ⟨b - q % m, by omega, ?_⟩
    unfold wb
    rw [if_pos (by omega), show q + (b - q % m) = b + m * (q / m) by omega, Nat.add_mul_mod_self_left, Nat.mod_eq_of_lt hb]
  · refine ⟨b + m - q % m, by omega, ?_⟩
    unfold wb
    rw [if_pos (by omega), show q + (b + m - q % m) = b + m * (q / m) + m by omega, Nat.add_mod_right, Nat.add_mul_mod_self_left, Nat.mod_eq_of_lt hb]
