/-! ===== colours: class and reference take the same numbers ===== -/
def aR : Nat → Nat → Bool
  | 0, _ => false
  | k + 1, j => if j % 10 = 0 then false else if j / 10 = 0 then true else aR k (j / 10)
def zr : Nat → Nat → Bool
  | 0, _ => false
  | k + 1, j => if j = 0 then false else if j % 10 = 0 then true else zr k (j / 10)
set_option maxRecDepth 16384 in
theorem zr_0 : ∀ k, zr k 0 = false
  | 0 => rfl
  | _ + 1 => rfl
set_option maxRecDepth 16384 in
theorem aRz : ∀ (k j : Nat), 1 ≤ j → aR k j = (decide (j < 10 ^ k) && !zr k j)
  | 0, j, hj => by
    have : ¬ j < 10 ^ 0 := by simp; omega
    rw [decide_eq_false this]; rfl
  | k + 1, j, hj => by
    have hp : 10 ^ (k + 1) = 10 * 10 ^ k := by rw [Nat.pow_succ, Nat.mul_comm]
    have h1 : 1 ≤ 10 ^ k := Nat.one_le_pow _ _ (by decide)
    by_cases h : j % 10 = 0
    · rw [aR, if_pos h, zr, if_neg (by omega), if_pos h]
      simp
    · by_cases h2 : j / 10 = 0
      · have : j < 10 ^ (k + 1) := by rw [hp]; omega
        rw [aR, if_neg h, if_pos h2, zr, if_neg (by omega), if_neg h, h2, zr_0, decide_eq_true this]; rfl
      · rw [aR, if_neg h, if_neg h2, zr, if_neg (by omega), if_neg h, aRz k (j / 10) (by omega)]
        have : (j / 10 < 10 ^ k) ↔ j < 10 ^ (k + 1) := by rw [hp]; omega
        simp only [this]
set_option maxRecDepth 16384 in
theorem nI_rem10 {j : Nat} (h : j < 2 ^ 31) : nI j - nI j / 10 * 10 = nI (j % 10) := pk_rem (d := 10) h (by decide) (by decide)
set_option maxRecDepth 16384 in
theorem nI_div10 {j : Nat} (h : j < 2 ^ 31) : nI j / 10 = nI (j / 10) := pk_div (d := 10) h (by decide) (by decide)
set_option maxRecDepth 16384 in
theorem aL : ∀ (n v j : Nat), v ≤ 8 → 1 ≤ j → j < 2 ^ 31 → 8 - v < n → ∃ r, A_areColours_L4 n (nI j) (nI v) = some r ∧ (match r with | .inr y => y | .inl () => false) = aR (8 - v) j
  | 0, v, j, _, _, _, hn => absurd hn (Nat.not_lt_zero _)
  | n + 1, v, j, hv, hj, hl, hn => by
    rw [A_areColours_L4]
    by_cases h8 : v = 8
    · subst h8
      exact ⟨.inl (), if_pos (by decide), rfl⟩
    · rw [if_neg (fun q => by have := (nI_leI (a := 8) (by decide) (by omega)).mp q; omega), if_neg (show ¬ nI j < 1 from nI_nlt (b := 1) hj hl), nI_rem10 hl, nI_div10 hl, show 8 - v = (8 - (v + 1)) + 1 by omega, aR]
      by_cases hz : j % 10 = 0
      · rw [if_pos (by rw [hz]; rfl), if_pos hz]
        exact ⟨_, rfl, rfl⟩
      · rw [if_neg (show ¬ nI (j % 10) = 0 from fun q => hz ((nI_eq (b := 0) (by omega) (by decide)).mp q)), if_neg hz]
        by_cases hd : j / 10 = 0
        · rw [if_pos (by rw [hd]; rfl), if_pos hd]
          exact ⟨_, rfl, rfl⟩
        · rw [if_neg (show ¬ nI (j / 10) = 0 from fun q => hd ((nI_eq (b := 0) (by omega) (by decide)).mp q)), if_neg hd, nI_1]
          exact aL n (v + 1) (j / 10) (by omega) (by omega) (by omega) (by omega)
set_option maxRecDepth 16384 in
theorem zL : ∀ (k n j : Nat), j < 10 ^ k → k < n → j < 2 ^ 31 → M_hasZero_L2 n (nI j) = some (if zr k j = true then .inr true else .inl ())
  | 0, n, j, hj, hn, _ => by
    obtain rfl : j = 0 := by simpa using hj
    obtain ⟨m, rfl⟩ : ∃ m, n = m + 1 := ⟨n - 1, by omega⟩
    rw [M_hasZero_L2, if_pos (by decide)]
    rfl
  | k + 1, n, j, hj, hn, hl => by
    obtain ⟨m, rfl⟩ : ∃ m, n = m + 1 := ⟨n - 1, by omega⟩
    have hp : 10 ^ (k + 1) = 10 * 10 ^ k := by rw [Nat.pow_succ, Nat.mul_comm]
    rw [M_hasZero_L2, zr]
    by_cases h0 : j = 0
    · subst h0
      rw [if_pos (by decide), if_pos rfl]
      rfl
    · rw [if_neg (nI_nle (by omega) hl), nI_rem10 hl, nI_div10 hl, if_neg h0]
      by_cases hz : j % 10 = 0
      · rw [if_pos (by rw [hz]; rfl), if_pos hz]
        rfl
      · rw [if_neg (show ¬ nI (j % 10) = 0 from fun q => hz ((nI_eq (b := 0) (by omega) (by decide)).mp q)), if_neg hz]
        exact zL k m (j / 10) (by rw [hp] at hj; omega) (by omega) (by omega)
set_option maxRecDepth 16384 in
theorem areCol (p : Int32) : ∃ b, A_areColours p = some b ∧ M_areColours p = some b ∧ (b = true → ∃ j, p = nI j ∧ 1 ≤ j ∧ j < 10 ^ 8) := by
  by_cases h1 : p < 1
  · refine ⟨false, ?_, ?_, fun q => by cases q⟩
    · have e : A_areColours_L4 FU p 0 = some (.inr false) := by
        rw [show FU = 1000002 + 1 from rfl, A_areColours_L4, if_neg (by decide), if_pos h1]
      unfold A_areColours
      rw [e]; rfl
    · have e : M_in p 1 99999999 = some false := in_out (Or.inl h1)
      unfold M_areColours
      rw [e, Option.bind_some, if_pos (by decide)]
  · obtain ⟨j, hl, rfl⟩ := nI_of (x := p) (fun q => h1 (by
      rw [Int32.lt_iff_toInt_lt] at q ⊢
      have a : (0 : Int32).toInt = 0 := by decide
      have b : (1 : Int32).toInt = 1 := by decide
      omega))
    have hj : 1 ≤ j := by
      by_cases h : j = 0
      · subst h; exact absurd (by decide) h1
      · omega
    obtain ⟨r, e1, e2⟩ := aL FU 0 j (by omega) hj hl (by unfold FU; omega)
    have eA : A_areColours (nI j) = some (aR 8 j) := by
      unfold A_areColours
      rw [show (0 : Int32) = nI 0 from rfl, e1, Option.bind_some]
      rw [show aR (8 - 0) j = aR 8 j from rfl] at e2
      rw [← e2]
      match r with
      | .inl () => rfl
      | .inr y => rfl
    rw [aRz 8 j hj] at eA
    by_cases h8 : j < 10 ^ 8
    · rw [decide_eq_true h8, Bool.true_and] at eA
      refine ⟨_, eA, ?_, fun _ => ⟨j, rfl, hj, h8⟩⟩
      have e : M_in (nI j) 1 99999999 = some true := in_in (nI_nlt (b := 1) hj hl) (nI_nlt (a := 99999999) (by omega) (by decide))
      have ez := zL 8 FU j h8 (by unfold FU; omega) hl
      have eh : M_hasZero (nI j) = some (zr 8 j) := by
        unfold M_hasZero
        rw [ez, Option.bind_some]
        cases zr 8 j <;> rfl
      unfold M_areColours
      rw [e, Option.bind_some, if_neg (by decide), eh, Option.bind_some]
      cases zr 8 j <;> rfl
    · rw [decide_eq_false h8, Bool.false_and] at eA
      refine ⟨false, eA, ?_, fun q => by cases q⟩
      have e : M_in (nI j) 1 99999999 = some false := in_out (Or.inr ((nI_ltI (a := 99999999) (by decide) hl).mpr (by omega)))
      unfold M_areColours
      rw [e, Option.bind_some, if_pos (by decide)]
/-! ===== a clip is put in ===== -/
set_option maxRecDepth 16384 in
theorem digits_L : ∀ (n v : Nat) (x : Int32), v ≤ 8 → 8 - v < n → ∃ d, v ≤ d ∧ d ≤ 8 ∧ A_digits_L7 n (nI v) x = some (nI d)
  | 0, v, x, _, hn => absurd hn (Nat.not_lt_zero _)
  | n + 1, v, x, hv, hn => by
    rw [A_digits_L7]
    by_cases h0 : x ≤ 0
    · exact ⟨v, Nat.le_refl _, hv, if_pos h0⟩
    · rw [if_neg h0]
      by_cases h8 : v = 8
      · subst h8
        exact ⟨8, Nat.le_refl _, hv, if_pos (by decide)⟩
      · rw [if_neg (fun q => by have := (nI_leI (a := 8) (by decide) (by omega)).mp q; omega), nI_1]
        obtain ⟨d, a, b, c⟩ := digits_L n (v + 1) (x / 10) (by omega) (by omega)
        exact ⟨d, by omega, b, c⟩
set_option maxRecDepth 16384 in
theorem digits_ok (x : Int32) : ∃ d, 1 ≤ d ∧ d ≤ 8 ∧ A_digits x = some (nI d) := by
  obtain ⟨d, a, b, c⟩ := digits_L FU 1 (x / 10) (by omega) (by unfold FU; omega)
  refine ⟨d, a, b, ?_⟩
  unfold A_digits
  rw [show (1 : Int32) = nI 1 from rfl, c]; rfl
set_option maxRecDepth 16384 in
theorem nI_ix8 (c d : Nat) : nI c * 8 + nI d = nI (c * 8 + d) := by
  rw [show (8 : Int32) = nI 8 from rfl, pk_mul, nI_add]
set_option maxRecDepth 16384 in
theorem i_m1 (x : Int32) : x + (-1) = x - 1 := (Int32.sub_eq_add_neg x 1).symm
/-- every number of a row's first n is 0 to m -/
def Sm (n m : Nat) (f : Nat → Int32) : Prop := ∀ i, i < n → ∃ k, k ≤ m ∧ f i = nI k
set_option maxRecDepth 16384 in
theorem Sm.upd {n m i k : Nat} {f : Nat → Int32} (h : Sm n m f) (hk : k ≤ m) : Sm n m (upd f i (nI k)) := fun j hj => by
  by_cases e : j = i
  · subst e; exact ⟨k, hk, upd_self⟩
  · rw [upd_ne e]; exact h j hj
set_option maxRecDepth 16384 in
theorem putCol_L (a c : Nat) (hc : c < 12) : ∀ (n d j : Nat) (h : Hp), d ≤ 8 → d < n → j < 2 ^ 31 → Sm 96 9 (rd h (a + 2)) → ∃ h', A_putClip_L37 a (nI c) n (nI j) (nI d - 1) h = some h' ∧ (∀ k, k ≠ a + 2 → rd h' k = rd h k) ∧ Sm 96 9 (rd h' (a + 2))
  | 0, d, j, h, _, hn, _, _ => absurd hn (Nat.not_lt_zero _)
  | n + 1, 0, j, h, _, _, _, hs => by
    refine ⟨h, ?_, fun _ _ => rfl, hs⟩
    rw [A_putClip_L37, if_pos (by decide)]
  | n + 1, d + 1, j, h, hd, hn, hl, hs => by
    rw [A_putClip_L37, nI_pred, if_neg (nI_pos (by omega)), nI_ix8, nI_rem10 hl, nI_div10 hl, wrO_in (by omega) (by decide), Option.bind_some, i_m1]
    obtain ⟨h', e, f, s⟩ := putCol_L a c hc n d (j / 10) (up2 h (a + 2) (c * 8 + d) (nI (j % 10))) (by omega) (by omega) (by omega) (by rw [rd_up2_self]; exact hs.upd (by omega))
    exact ⟨h', e, fun k hk => by rw [f k hk, rd_up2_ne hk], s⟩
set_option maxRecDepth 16384 in
theorem colourAt_ok {h : Hp} {a c i : Nat} (hs : Sm 96 9 (rd h (a + 2))) (hi : c * 8 + i < 96) : ∃ k, k ≤ 9 ∧ A_colourAt h a (nI c) (nI i) = some (nI k) := by
  obtain ⟨k, hk, e⟩ := hs _ hi
  refine ⟨k, hk, ?_⟩
  unfold A_colourAt
  rw [nI_ix8, rdO_in hi (by decide), Option.bind_some, e]
set_option maxRecDepth 16384 in
theorem renew_L {h : Hp} {a c l : Nat} (hc : c < 12) (hlen : rd h (a + 1) c = nI l) (hl : l ≤ 8) (hs : Sm 96 9 (rd h (a + 2))) : ∀ (n v q : Nat), v ≤ l → l - v < n → q < 997 → ∃ q', q' < 997 ∧ A_renewHash_L4 h a (nI c) n (nI q) (nI v) = some (nI q')
  | 0, v, q, _, hn, _ => absurd hn (Nat.not_lt_zero _)
  | n + 1, v, q, hv, hn, hq => by
    rw [A_renewHash_L4, rdO_in hc (by decide), Option.bind_some, hlen]
    by_cases e : l = v
    · subst e
      exact ⟨q, hq, if_pos (nI_le (Nat.le_refl _) (by omega))⟩
    · obtain ⟨k, hk, ek⟩ := colourAt_ok (c := c) (i := v) hs (by omega)
      rw [if_neg (nI_ge (by omega) (by omega)), ek, Option.bind_some, show (31 : Int32) = nI 31 from rfl, pk_mul, nI_add, show (997 : Int32) = nI 997 from rfl, pk_rem (by omega) (by decide) (by decide), nI_1]
      exact renew_L hc hlen hl hs n (v + 1) _ (by omega) (by omega) (Nat.mod_lt _ (by decide))
set_option maxRecDepth 16384 in
theorem renew_ok {h : Hp} {a c l : Nat} (hc : c < 12) (hlen : rd h (a + 1) c = nI l) (hl : l ≤ 8) (hs : Sm 96 9 (rd h (a + 2))) : ∃ q, q < 997 ∧ A_renewHash h a (nI c) = some (up2 h (a + 3) c (nI q)) := by
  obtain ⟨q, hq, e⟩ := renew_L hc hlen hl hs FU 0 0 (by omega) (by unfold FU; omega) (by decide)
  refine ⟨q, hq, ?_⟩
  unfold A_renewHash
  rw [show (0 : Int32) = nI 0 from rfl, e, Option.bind_some, wrO_in hc (by decide), Option.bind_some]
set_option maxRecDepth 16384 in
theorem putClip_ok {h : Hp} {a n j : Nat} (hn : rd h a 5 = nI n) (hl : n < 12) (hj : j < 2 ^ 31) (hs : Sm 96 9 (rd h (a + 2))) : ∃ h' d q, A_putClip h a (nI j) = some (nI n, h') ∧ 1 ≤ d ∧ d ≤ 8 ∧ q < 997 ∧ (∀ k, (k < a ∨ a + 7 ≤ k) → rd h' k = rd h k) ∧ rd h' a = upd (rd h a) 5 (nI (n + 1)) ∧ rd h' (a + 1) = upd (rd h (a + 1)) n (nI d) ∧ Sm 96 9 (rd h' (a + 2)) ∧ rd h' (a + 3) = upd (rd h (a + 3)) n (nI q) ∧ rd h' (a + 4) = upd (rd h (a + 4)) n 0 ∧ rd h' (a + 5) = upd (rd h (a + 5)) n 40 ∧ rd h' (a + 6) = upd (rd h (a + 6)) n (-1) := by
  obtain ⟨d, d1, d8, ed⟩ := digits_ok (nI j)
  obtain ⟨h1, e1⟩ : ∃ h1, h1 = up2 h a 5 (nI (n + 1)) := ⟨_, rfl⟩
  obtain ⟨h3, e3⟩ : ∃ h3, h3 = up2 h1 (a + 1) n (nI d) := ⟨_, rfl⟩
  have r3 : rd h3 (a + 1) n = nI d := by rw [e3, rd_up2_self, upd_self]
  obtain ⟨h6, e6, f6, s6⟩ := putCol_L a n hl FU d j h3 d8 (by unfold FU; omega) hj (by rw [e3, rd_up2_ne (by omega), e1, rd_up2_ne (by omega)]; exact hs)
  obtain ⟨h7, e7⟩ : ∃ h7, h7 = up2 h6 (a + 4) n 0 := ⟨_, rfl⟩
  obtain ⟨h8, e8⟩ : ∃ h8, h8 = up2 h7 (a + 5) n 40 := ⟨_, rfl⟩
  obtain ⟨h9, e9⟩ : ∃ h9, h9 = up2 h8 (a + 6) n (-1) := ⟨_, rfl⟩
  have k9 : ∀ k, k ≠ a + 4 → k ≠ a + 5 → k ≠ a + 6 → rd h9 k = rd h6 k := fun k x y z => by rw [e9, rd_up2_ne z, e8, rd_up2_ne y, e7, rd_up2_ne x]
  have k3 : ∀ k, k ≠ a → k ≠ a + 1 → rd h3 k = rd h k := fun k x y => by rw [e3, rd_up2_ne y, e1, rd_up2_ne x]
  obtain ⟨q, hq, e11⟩ := renew_ok (h := h9) (a := a) (c := n) (l := d) hl (by rw [k9 _ (by omega) (by omega) (by omega), f6 _ (by omega), r3]) d8 (by rw [k9 _ (by omega) (by omega) (by omega)]; exact s6)
  refine ⟨up2 h9 (a + 3) n (nI q), d, q, ?_, d1, d8, hq, fun k hk => ?_, ?_, ?_, ?_, ?_, ?_, ?_, ?_⟩
  · unfold A_putClip nm
    dsimp only
    rw [hn, nI_1, ← e1, ed, Option.bind_some, wrO_in hl (by decide), Option.bind_some, ← e3, rdO_in hl (by decide), Option.bind_some, r3, e6, Option.bind_some, wrO_in hl (by decide), Option.bind_some, ← e7, wrO_in hl (by decide), Option.bind_some, ← e8, wrO_in hl (by decide), Option.bind_some, ← e9, e11, Option.bind_some]
  · rw [rd_up2_ne (by omega), k9 _ (by omega) (by omega) (by omega), f6 _ (by omega), k3 _ (by omega) (by omega)]
  · rw [rd_up2_ne (by omega), k9 _ (by omega) (by omega) (by omega), f6 _ (by omega), e3, rd_up2_ne (by omega), e1, rd_up2_self]
  · rw [rd_up2_ne (by omega), k9 _ (by omega) (by omega) (by omega), f6 _ (by omega), e3, rd_up2_self, e1, rd_up2_ne (by omega)]
  · rw [rd_up2_ne (by omega), k9 _ (by omega) (by omega) (by omega)]; exact s6
  · rw [rd_up2_self, k9 _ (by omega) (by omega) (by omega), f6 _ (by omega), k3 _ (by omega) (by omega)]
  · rw [rd_up2_ne (by omega), e9, rd_up2_ne (by omega), e8, rd_up2_ne (by omega), e7, rd_up2_self, f6 _ (by omega), k3 _ (by omega) (by omega)]
  · rw [rd_up2_ne (by omega), e9, rd_up2_ne (by omega), e8, rd_up2_self, e7, rd_up2_ne (by omega), f6 _ (by omega), k3 _ (by omega) (by omega)]
  · rw [rd_up2_ne (by omega), e9, rd_up2_self, e8, rd_up2_ne (by omega), e7, rd_up2_ne (by omega), f6 _ (by omega), k3 _ (by omega) (by omega)]
set_option maxRecDepth 16384 in
theorem mto_ok {h : Hp} {c f : Nat} (hc : c < 12) (hf : f < 4) (x : Int32) : M_to h (nI c) (nI f) x = some (up2 h 141 (8 + 4 * c + f) x) := by
  unfold M_to
  rw [show (8 : Int32) = nI 8 from rfl, show (4 : Int32) = nI 4 from rfl, pk_mul, nI_add, nI_add, wrO_in (by omega) (by decide), Option.bind_some]
set_option maxRecDepth 16384 in
theorem mof_ok {h : Hp} {c f : Nat} (hc : c < 12) (hf : f < 4) : M_of h (nI c) (nI f) = some (rd h 141 (8 + 4 * c + f)) := by
  unfold M_of
  rw [show (8 : Int32) = nI 8 from rfl, show (4 : Int32) = nI 4 from rfl, pk_mul, nI_add, nI_add, rdO_in (by omega) (by decide), Option.bind_some]
set_option maxRecDepth 16384 in
theorem adds_ok {h : Hp} {n : Nat} (hn : rd h 141 2 = nI n) (hl : n < 12) (p : Int32) : ∃ h', M_adds h p = some (nI n, h') ∧ (∀ k, k ≠ 141 → rd h' k = rd h k) ∧ rd h' 141 = upd (upd (upd (upd (upd (rd h 141) 2 (nI (n + 1))) (8 + 4 * n) p) (8 + 4 * n + 1) 0) (8 + 4 * n + 2) 40) (8 + 4 * n + 3) (-1) := by
  have r : rdO 106 (rd h 141) 2 = some (nI n) := by rw [show (2 : Int32) = nI 2 from rfl, rdO_in (by decide) (by decide), hn]
  refine ⟨up2 (up2 (up2 (up2 (up2 h 141 2 (nI (n + 1))) 141 (8 + 4 * n + 0) p) 141 (8 + 4 * n + 1) 0) 141 (8 + 4 * n + 2) 40) 141 (8 + 4 * n + 3) (-1), ?_, fun k hk => ?_, ?_⟩
  · unfold M_adds
    have w : ∀ x, wrO h 141 106 2 x = some (up2 h 141 2 x) := fun x => wrO_in (v := 2) (by decide) (by decide)
    have t0 : ∀ (g : Hp) (x : Int32), M_to g (nI n) 0 x = some (up2 g 141 (8 + 4 * n + 0) x) := fun g x => mto_ok (f := 0) hl (by decide) x
    have t1 : ∀ (g : Hp) (x : Int32), M_to g (nI n) 1 x = some (up2 g 141 (8 + 4 * n + 1) x) := fun g x => mto_ok (f := 1) hl (by decide) x
    have t2 : ∀ (g : Hp) (x : Int32), M_to g (nI n) 2 x = some (up2 g 141 (8 + 4 * n + 2) x) := fun g x => mto_ok (f := 2) hl (by decide) x
    have t3 : ∀ (g : Hp) (x : Int32), M_to g (nI n) 3 x = some (up2 g 141 (8 + 4 * n + 3) x) := fun g x => mto_ok (f := 3) hl (by decide) x
    simp only [r, Option.bind_some, w, nI_1, t0, t1, t2, t3]
  · simp only [rd_up2_ne hk]
  · simp only [rd_up2_self, Nat.add_zero]
set_option maxRecDepth 16384 in
theorem ka_3 (a1 : Int32) : (K_3 HM a1).isSome = true := by
  obtain ⟨b, eA, eM, hb⟩ := areCol a1
  have m2 : rdO 106 (rd HM 141) 2 = some 5 := by decide +kernel
  match b with
  | false =>
    have hL : L_addClip HM a1 = some (1, HM) := by
      unfold L_addClip C_addClip
      rw [eA, Option.bind_some, if_pos (by decide)]
      rfl
    have hM : M_addClip HM a1 = some (0, HX 1) := by
      unfold M_addClip
      rw [eM, Option.bind_some]
      simp only [lt, bf, if_true, m2, Option.bind_some, show ¬ ((5 : Int32) = 12) by decide, if_false, th2a, bt]
    exact kT (L := L_addClip HM a1) (M := fun h => M_addClip h a1) hL hM (HX_t 1) (by decide)
  | true =>
    obtain ⟨j, rfl, j1, j8⟩ := hb rfl
    obtain ⟨HR, eR, fR⟩ := cremember_ok (h := HM) (i := 0) (by decide) HM06
    have c5 : rd HM 1 5 = nI 5 := by decide +kernel
    have s9 : Sm 96 9 (rd HM 3) := by
      have : ∀ i, i < 96 → ∃ k, k < 10 ∧ rd HM 3 i = nI k := by decide +kernel
      intro i hi
      obtain ⟨k, a, b⟩ := this i hi
      exact ⟨k, by omega, b⟩
    obtain ⟨h1, d, q, e1, -, -, -, f1, -⟩ := putClip_ok (h := HR) (a := 1) (n := 5) (j := j) (by rw [fR 1 (by decide) (by decide)]; exact c5) (by decide) (by omega) (by rw [fR 3 (by decide) (by decide)]; exact s9)
    have hr : A_hasRoomForClip HM 1 = some true := by decide +kernel
    have hL : L_addClip HM (nI j) = some (0, up2 h1 150 0 (nI 5)) := by
      simp only [L_addClip, C_addClip, eA, Option.bind_some, lt, bt, bf, if_false, if_true, hr, C_refuseIf, thB_r, eR, e1, caB_r, nm]
    obtain ⟨h2, e2⟩ : ∃ h2, h2 = up2 h1 150 0 (nI 5) := ⟨_, rfl⟩
    have g2 : ∀ k, 140 ≤ k → k ≠ 150 → rd h2 k = rd HM k := fun k x y => by
      rw [e2, rd_up2_ne y, f1 k (by omega)]; exact fR k (by omega) (Or.inr x)
    obtain ⟨h6, e6, f6⟩ := begins_ok (up2 h2 140 15 0)
    have w6 : rd h6 141 = rd HM 141 := by rw [f6 141 (by decide), rd_up2_ne (by decide), g2 141 (by decide) (by decide)]
    obtain ⟨h8, e8, f8, -⟩ := adds_ok (h := h6) (n := 5) (by rw [w6]; decide +kernel) (by decide) (nI j)
    have q8 : rd h8 140 5 = nI 0 := by
      rw [f8 140 (by decide), f6 140 (by decide), rd_up2_self, upd_ne (by decide), g2 140 (by decide) (by decide)]; decide +kernel
    obtain ⟨h10, e10, f10, g10⟩ := remember_ok (c := 0) (by decide) q8 (nI 5)
    have hM : M_addClip h2 (nI j) = some (nI 5, h10) := by
      simp only [M_addClip, eM, Option.bind_some, lt, bt, bf, if_false, if_true, g2 141 (by decide) (by decide), m2, show ¬ ((5 : Int32) = 12) by decide, th2c, e6, e8, e10]
    refine kV (L := L_addClip HM (nI j)) (M := fun h => M_addClip h (nI j)) (by rw [hL, e2]) hM ?_ ?_
    · rw [g10, upd_ne (by decide), f8 140 (by decide), f6 140 (by decide), rd_up2_self]; exact upd_self
    · rw [f10 150 (by decide) (by decide), f8 150 (by decide), f6 150 (by decide), rd_up2_ne (by decide), e2, rd_up2_self]; exact upd_self
