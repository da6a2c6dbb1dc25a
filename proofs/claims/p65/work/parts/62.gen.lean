/-! ===== facts that speak of no heap in particular ===== -/
def outR (a : Int32) (c : Int32) : Prop := a < 0 ∨ c ≤ a
set_option maxRecDepth 16384 in
theorem outR_or (a : Int32) (c : Nat) (hc : c < 2 ^ 31) : outR a (nI c) ∨ ∃ j, j < c ∧ a = nI j := by
  by_cases h0 : a < 0
  · exact Or.inl (Or.inl h0)
  by_cases h1 : nI c ≤ a
  · exact Or.inl (Or.inr h1)
  obtain ⟨j, hj, rfl⟩ := nI_of h0
  exact Or.inr ⟨j, by rw [nI_leI hc hj] at h1; omega, rfl⟩
set_option maxRecDepth 16384 in
theorem nlt_of_le {a b : Int32} (h : b ≤ a) : ¬ a < b := by
  rw [Int32.lt_iff_toInt_lt]; rw [Int32.le_iff_toInt_le] at h; omega
set_option maxRecDepth 16384 in
theorem range_or (a : Int32) (lo hi : Nat) (hh : hi < 2 ^ 31) (hl : lo ≤ hi) : (a < nI lo ∨ nI hi < a) ∨ ∃ j, j < hi - lo + 1 ∧ a = nI (lo + j) := by
  by_cases h0 : a < nI lo
  · exact Or.inl (Or.inl h0)
  by_cases h1 : nI hi < a
  · exact Or.inl (Or.inr h1)
  have hn : ¬ a < 0 := fun q => h0 (by
    rw [Int32.lt_iff_toInt_lt] at q ⊢
    rw [nI_toInt (by omega)]
    have : (0 : Int32).toInt = 0 := by decide
    omega)
  obtain ⟨j, hj, rfl⟩ := nI_of hn
  have e0 : ¬ j < lo := fun q => h0 ((nI_ltI hj (by omega : lo < 2 ^ 31)).mpr q)
  have e1 : ¬ hi < j := fun q => h1 ((nI_ltI hh hj).mpr q)
  exact Or.inr ⟨j - lo, by omega, by congr 1; omega⟩
set_option maxRecDepth 16384 in
theorem bf : (b2i false = 0) = True := by decide
set_option maxRecDepth 16384 in
theorem bt : (b2i true = 0) = False := by decide
set_option maxRecDepth 16384 in
theorem upd_ne {f : Nat → Int32} {i j : Nat} {x : Int32} (e : j ≠ i) : upd f i x j = f j := by simp [upd, e]
set_option maxRecDepth 16384 in
theorem upd_self {f : Nat → Int32} {i : Nat} {x : Int32} : upd f i x i = x := by simp [upd]
set_option maxRecDepth 16384 in
theorem rdO_in {N v : Nat} {f : Nat → Int32} (hv : v < N) (hN : N < 2 ^ 31) : rdO N f (nI v) = some (f v) := by
  unfold rdO
  rw [if_neg (nI_in hv hN), nI_clamp (by omega)]
set_option maxRecDepth 16384 in
theorem wrO_in {h : Hp} {k N v : Nat} {x : Int32} (hv : v < N) (hN : N < 2 ^ 31) : wrO h k N (nI v) x = some (up2 h k v x) := by
  unfold wrO
  rw [if_neg (nI_in hv hN), nI_clamp (by omega)]
def Fr (a n : Nat) (h h' : Hp) : Prop := ∀ k, (k < a ∨ a + n ≤ k) → rd h' k = rd h k
set_option maxRecDepth 16384 in
theorem fr_up {α : Type} {a n r i : Nat} {x : Int32} {h0 h : Hp} {F : Hp → Option α} {P : α → Prop} (hh : Fr a n h0 h) (hr : a ≤ r ∧ r < a + n) (k : ∀ h1, Fr a n h0 h1 → ∃ v, F h1 = some v ∧ P v) : ∃ v, nm (up2 h r i x) F = some v ∧ P v :=
  k _ (fun q hq => (rd_up2_ne (by omega)).trans (hh q hq))
set_option maxRecDepth 16384 in
theorem fr_acp {α : Type} {a n r s m : Nat} {h0 h : Hp} {F : Hp → Option α} {P : α → Prop} (hh : Fr a n h0 h) (hr : a ≤ r ∧ r < a + n) (k : ∀ h1, Fr a n h0 h1 → ∃ v, F h1 = some v ∧ P v) : ∃ v, nm (acp h r s m) F = some v ∧ P v :=
  k _ (fun q hq => (rd_acp_ne (by omega)).trans (hh q hq))
set_option maxRecDepth 16384 in
theorem copyFrom_ok (h : Hp) (a o : Nat) : ∃ h', A_copyFrom h a o = some h' ∧ Fr a 11 h h' := by
  unfold A_copyFrom
  have H0 : Fr a 11 h h := fun _ _ => rfl
  refine fr_up H0 (by omega) (fun h1 H1 => ?_)
  refine fr_up H1 (by omega) (fun h2 H2 => ?_)
  refine fr_up H2 (by omega) (fun h3 H3 => ?_)
  refine fr_up H3 (by omega) (fun h4 H4 => ?_)
  refine fr_up H4 (by omega) (fun h5 H5 => ?_)
  refine fr_up H5 (by omega) (fun h6 H6 => ?_)
  refine fr_acp H6 (by omega) (fun h7 H7 => ?_)
  refine fr_acp H7 (by omega) (fun h8 H8 => ?_)
  refine fr_acp H8 (by omega) (fun h9 H9 => ?_)
  refine fr_acp H9 (by omega) (fun h10 H10 => ?_)
  refine fr_acp H10 (by omega) (fun h11 H11 => ?_)
  refine fr_acp H11 (by omega) (fun h12 H12 => ?_)
  refine fr_up H12 (by omega) (fun h13 H13 => ?_)
  refine fr_acp H13 (by omega) (fun h14 H14 => ?_)
  refine fr_acp H14 (by omega) (fun h15 H15 => ?_)
  refine fr_up H15 (by omega) (fun h16 H16 => ?_)
  refine fr_acp H16 (by omega) (fun h17 H17 => ?_)
  refine fr_acp H17 (by omega) (fun h18 H18 => ?_)
  exact ⟨_, rfl, H18⟩
set_option maxRecDepth 16384 in
theorem add_ok {h : Hp} {s : Nat} (hs : rd h 47 1 = nI s) (hl : s < 600) (x : Int32) : ∃ h', T_add h x = some h' ∧ rd h' 47 1 = nI (s + 1) ∧ (∀ k, k ≠ 47 → k ≠ 48 → rd h' k = rd h k) ∧ ∀ i, i ≠ 1 → rd h' 47 i = rd h 47 i := by
  unfold T_add
  rw [hs, if_neg (fun q => by have := (nI_leI (a := 600) (by decide) (by omega)).mp q; omega), wrO_in (v := s) hl (by decide), Option.bind_some]
  refine ⟨_, rfl, ?_, fun k h1 h2 => ?_, fun i hi => ?_⟩
  · rw [rd_up2_self, upd_self, rd_up2_ne (by decide), hs, nI_1]
  · rw [rd_up2_ne h1, rd_up2_ne h2]
  · rw [rd_up2_self, upd_ne hi, rd_up2_ne (by decide)]
def aR : Nat → Nat → Bool
  | 0, _ => false
  | k + 1, j => if j % 10 = 0 then false else if j / 10 = 0 then true else aR k (j / 10)
def zr : Nat → Nat → Bool
  | 0, _ => false
  | k + 1, j => if j = 0 then false else if j % 10 = 0 then true else zr k (j / 10)
set_option maxRecDepth 16384 in
theorem zr_0 : ∀ k, zr k 0 = false
  | 0 => rfl
  | _ + 1 => rfl
set_option maxRecDepth 16384 in
theorem aRz : ∀ (k j : Nat), 1 ≤ j → aR k j = (decide (j < 10 ^ k) && !zr k j)
  | 0, j, hj => by
    have : ¬ j < 10 ^ 0 := by simp; omega
    rw [decide_eq_false this]; rfl
  | k + 1, j, hj => by
    have hp : 10 ^ (k + 1) = 10 * 10 ^ k := by rw [Nat.pow_succ, Nat.mul_comm]
    have h1 : 1 ≤ 10 ^ k := Nat.one_le_pow _ _ (by decide)
    by_cases h : j % 10 = 0
    · rw [aR, if_pos h, zr, if_neg (by omega), if_pos h]
      simp
    · by_cases h2 : j / 10 = 0
      · have : j < 10 ^ (k + 1) := by rw [hp]; omega
        rw [aR, if_neg h, if_pos h2, zr, if_neg (by omega), if_neg h, h2, zr_0, decide_eq_true this]; rfl
      · rw [aR, if_neg h, if_neg h2, zr, if_neg (by omega), if_neg h, aRz k (j / 10) (by omega)]
        have : (j / 10 < 10 ^ k) ↔ j < 10 ^ (k + 1) := by rw [hp]; omega
        simp only [this]
set_option maxRecDepth 16384 in
theorem nI_rem10 {j : Nat} (h : j < 2 ^ 31) : nI j - nI j / 10 * 10 = nI (j % 10) := pk_rem (d := 10) h (by decide) (by decide)
set_option maxRecDepth 16384 in
theorem nI_div10 {j : Nat} (h : j < 2 ^ 31) : nI j / 10 = nI (j / 10) := pk_div (d := 10) h (by decide) (by decide)
set_option maxRecDepth 16384 in
theorem aL : ∀ (n v j : Nat), v ≤ 8 → 1 ≤ j → j < 2 ^ 31 → 8 - v < n → ∃ r, A_areColours_L4 n (nI j) (nI v) = some r ∧ (match r with | .inr y => y | .inl () => false) = aR (8 - v) j
  | 0, v, j, _, _, _, hn => absurd hn (Nat.not_lt_zero _)
  | n + 1, v, j, hv, hj, hl, hn => by
    rw [A_areColours_L4]
    by_cases h8 : v = 8
    · subst h8
      exact ⟨.inl (), if_pos (by decide), rfl⟩
    · rw [if_neg (fun q => by have := (nI_leI (a := 8) (by decide) (by omega)).mp q; omega), if_neg (show ¬ nI j < 1 from nI_nlt (b := 1) hj hl), nI_rem10 hl, nI_div10 hl, show 8 - v = (8 - (v + 1)) + 1 by omega, aR]
      by_cases hz : j % 10 = 0
      · rw [if_pos (by rw [hz]; rfl), if_pos hz]
        exact ⟨_, rfl, rfl⟩
      · rw [if_neg (show ¬ nI (j % 10) = 0 from fun q => hz ((nI_eq (b := 0) (by omega) (by decide)).mp q)), if_neg hz]
        by_cases hd : j / 10 = 0
        · rw [if_pos (by rw [hd]; rfl), if_pos hd]
          exact ⟨_, rfl, rfl⟩
        · rw [if_neg (show ¬ nI (j / 10) = 0 from fun q => hd ((nI_eq (b := 0) (by omega) (by decide)).mp q)), if_neg hd, nI_1]
          exact aL n (v + 1) (j / 10) (by omega) (by omega) (by omega) (by omega)
set_option maxRecDepth 16384 in
theorem digits_L : ∀ (n v : Nat) (x : Int32), v ≤ 8 → 8 - v < n → ∃ d, v ≤ d ∧ d ≤ 8 ∧ A_digits_L7 n (nI v) x = some (nI d)
  | 0, v, x, _, hn => absurd hn (Nat.not_lt_zero _)
  | n + 1, v, x, hv, hn => by
    rw [A_digits_L7]
    by_cases h0 : x ≤ 0
    · exact ⟨v, Nat.le_refl _, hv, if_pos h0⟩
    · rw [if_neg h0]
      by_cases h8 : v = 8
      · subst h8
        exact ⟨8, Nat.le_refl _, hv, if_pos (by decide)⟩
      · rw [if_neg (fun q => by have := (nI_leI (a := 8) (by decide) (by omega)).mp q; omega), nI_1]
        obtain ⟨d, a, b, c⟩ := digits_L n (v + 1) (x / 10) (by omega) (by omega)
        exact ⟨d, by omega, b, c⟩
set_option maxRecDepth 16384 in
theorem digits_ok (x : Int32) : ∃ d, 1 ≤ d ∧ d ≤ 8 ∧ A_digits x = some (nI d) := by
  obtain ⟨d, a, b, c⟩ := digits_L FU 1 (x / 10) (by omega) (by unfold FU; omega)
  refine ⟨d, a, b, ?_⟩
  unfold A_digits
  rw [show (1 : Int32) = nI 1 from rfl, c]; rfl
set_option maxRecDepth 16384 in
theorem nI_ix8 (c d : Nat) : nI c * 8 + nI d = nI (c * 8 + d) := by
  rw [show (8 : Int32) = nI 8 from rfl, pk_mul, nI_add]
set_option maxRecDepth 16384 in
theorem i_m1 (x : Int32) : x + (-1) = x - 1 := (Int32.sub_eq_add_neg x 1).symm
def Sm (n m : Nat) (f : Nat → Int32) : Prop := ∀ i, i < n → ∃ k, k ≤ m ∧ f i = nI k
set_option maxRecDepth 16384 in
theorem Sm.upd {n m i k : Nat} {f : Nat → Int32} (h : Sm n m f) (hk : k ≤ m) : Sm n m (upd f i (nI k)) := fun j hj => by
  by_cases e : j = i
  · subst e; exact ⟨k, hk, upd_self⟩
  · rw [upd_ne e]; exact h j hj
set_option maxRecDepth 16384 in
theorem putCol_L (a c : Nat) (hc : c < 12) : ∀ (n d j : Nat) (h : Hp), d ≤ 8 → d < n → j < 2 ^ 31 → Sm 96 9 (rd h (a + 2)) → ∃ h', A_putClip_L37 a (nI c) n (nI j) (nI d - 1) h = some h' ∧ (∀ k, k ≠ a + 2 → rd h' k = rd h k) ∧ Sm 96 9 (rd h' (a + 2))
  | 0, d, j, h, _, hn, _, _ => absurd hn (Nat.not_lt_zero _)
  | n + 1, 0, j, h, _, _, _, hs => by
    refine ⟨h, ?_, fun _ _ => rfl, hs⟩
    rw [A_putClip_L37, if_pos (by decide)]
  | n + 1, d + 1, j, h, hd, hn, hl, hs => by
    rw [A_putClip_L37, nI_pred, if_neg (nI_pos (by omega)), nI_ix8, nI_rem10 hl, nI_div10 hl, wrO_in (by omega) (by decide), Option.bind_some, i_m1]
    obtain ⟨h', e, f, s⟩ := putCol_L a c hc n d (j / 10) (up2 h (a + 2) (c * 8 + d) (nI (j % 10))) (by omega) (by omega) (by omega) (by rw [rd_up2_self]; exact hs.upd (by omega))
    exact ⟨h', e, fun k hk => by rw [f k hk, rd_up2_ne hk], s⟩
set_option maxRecDepth 16384 in
theorem colourAt_ok {h : Hp} {a c i : Nat} (hs : Sm 96 9 (rd h (a + 2))) (hi : c * 8 + i < 96) : ∃ k, k ≤ 9 ∧ A_colourAt h a (nI c) (nI i) = some (nI k) := by
  obtain ⟨k, hk, e⟩ := hs _ hi
  refine ⟨k, hk, ?_⟩
  unfold A_colourAt
  rw [nI_ix8, rdO_in hi (by decide), Option.bind_some, e]
set_option maxRecDepth 16384 in
theorem renew_L {h : Hp} {a c l : Nat} (hc : c < 12) (hlen : rd h (a + 1) c = nI l) (hl : l ≤ 8) (hs : Sm 96 9 (rd h (a + 2))) : ∀ (n v q : Nat), v ≤ l → l - v < n → q < 997 → ∃ q', q' < 997 ∧ A_renewHash_L4 h a (nI c) n (nI q) (nI v) = some (nI q')
  | 0, v, q, _, hn, _ => absurd hn (Nat.not_lt_zero _)
  | n + 1, v, q, hv, hn, hq => by
    rw [A_renewHash_L4, rdO_in hc (by decide), Option.bind_some, hlen]
    by_cases e : l = v
    · subst e
      exact ⟨q, hq, if_pos (nI_le (Nat.le_refl _) (by omega))⟩
    · obtain ⟨k, hk, ek⟩ := colourAt_ok (c := c) (i := v) hs (by omega)
      rw [if_neg (nI_ge (by omega) (by omega)), ek, Option.bind_some, show (31 : Int32) = nI 31 from rfl, pk_mul, nI_add, show (997 : Int32) = nI 997 from rfl, pk_rem (by omega) (by decide) (by decide), nI_1]
      exact renew_L hc hlen hl hs n (v + 1) _ (by omega) (by omega) (Nat.mod_lt _ (by decide))
set_option maxRecDepth 16384 in
theorem renew_ok {h : Hp} {a c l : Nat} (hc : c < 12) (hlen : rd h (a + 1) c = nI l) (hl : l ≤ 8) (hs : Sm 96 9 (rd h (a + 2))) : ∃ q, q < 997 ∧ A_renewHash h a (nI c) = some (up2 h (a + 3) c (nI q)) := by
  obtain ⟨q, hq, e⟩ := renew_L hc hlen hl hs FU 0 0 (by omega) (by unfold FU; omega) (by decide)
  refine ⟨q, hq, ?_⟩
  unfold A_renewHash
  rw [show (0 : Int32) = nI 0 from rfl, e, Option.bind_some, wrO_in hc (by decide), Option.bind_some]
set_option maxRecDepth 16384 in
theorem putClip_ok {h : Hp} {a n j : Nat} (hn : rd h a 5 = nI n) (hl : n < 12) (hj : j < 2 ^ 31) (hs : Sm 96 9 (rd h (a + 2))) : ∃ h' d q, A_putClip h a (nI j) = some (nI n, h') ∧ 1 ≤ d ∧ d ≤ 8 ∧ q < 997 ∧ (∀ k, (k < a ∨ a + 7 ≤ k) → rd h' k = rd h k) ∧ rd h' a = upd (rd h a) 5 (nI (n + 1)) ∧ rd h' (a + 1) = upd (rd h (a + 1)) n (nI d) ∧ Sm 96 9 (rd h' (a + 2)) ∧ rd h' (a + 3) = upd (rd h (a + 3)) n (nI q) ∧ rd h' (a + 4) = upd (rd h (a + 4)) n 0 ∧ rd h' (a + 5) = upd (rd h (a + 5)) n 40 ∧ rd h' (a + 6) = upd (rd h (a + 6)) n (-1) := by
  obtain ⟨d, d1, d8, ed⟩ := digits_ok (nI j)
  obtain ⟨h1, e1⟩ : ∃ h1, h1 = up2 h a 5 (nI (n + 1)) := ⟨_, rfl⟩
  obtain ⟨h3, e3⟩ : ∃ h3, h3 = up2 h1 (a + 1) n (nI d) := ⟨_, rfl⟩
  have r3 : rd h3 (a + 1) n = nI d := by rw [e3, rd_up2_self, upd_self]
  obtain ⟨h6, e6, f6, s6⟩ := putCol_L a n hl FU d j h3 d8 (by unfold FU; omega) hj (by rw [e3, rd_up2_ne (by omega), e1, rd_up2_ne (by omega)]; exact hs)
  obtain ⟨h7, e7⟩ : ∃ h7, h7 = up2 h6 (a + 4) n 0 := ⟨_, rfl⟩
  obtain ⟨h8, e8⟩ : ∃ h8, h8 = up2 h7 (a + 5) n 40 := ⟨_, rfl⟩
  obtain ⟨h9, e9⟩ : ∃ h9, h9 = up2 h8 (a + 6) n (-1) := ⟨_, rfl⟩
  have k9 : ∀ k, k ≠ a + 4 → k ≠ a + 5 → k ≠ a + 6 → rd h9 k = rd h6 k := fun k x y z => by rw [e9, rd_up2_ne z, e8, rd_up2_ne y, e7, rd_up2_ne x]
  have k3 : ∀ k, k ≠ a → k ≠ a + 1 → rd h3 k = rd h k := fun k x y => by rw [e3, rd_up2_ne y, e1, rd_up2_ne x]
  obtain ⟨q, hq, e11⟩ := renew_ok (h := h9) (a := a) (c := n) (l := d) hl (by rw [k9 _ (by omega) (by omega) (by omega), f6 _ (by omega), r3]) d8 (by rw [k9 _ (by omega) (by omega) (by omega)]; exact s6)
  refine ⟨up2 h9 (a + 3) n (nI q), d, q, ?_, d1, d8, hq, fun k hk => ?_, ?_, ?_, ?_, ?_, ?_, ?_, ?_⟩
  · unfold A_putClip nm
    dsimp only
    rw [hn, nI_1, ← e1, ed, Option.bind_some, wrO_in hl (by decide), Option.bind_some, ← e3, rdO_in hl (by decide), Option.bind_some, r3, e6, Option.bind_some, wrO_in hl (by decide), Option.bind_some, ← e7, wrO_in hl (by decide), Option.bind_some, ← e8, wrO_in hl (by decide), Option.bind_some, ← e9, e11, Option.bind_some]
  · rw [rd_up2_ne (by omega), k9 _ (by omega) (by omega) (by omega), f6 _ (by omega), k3 _ (by omega) (by omega)]
  · rw [rd_up2_ne (by omega), k9 _ (by omega) (by omega) (by omega), f6 _ (by omega), e3, rd_up2_ne (by omega), e1, rd_up2_self]
  · rw [rd_up2_ne (by omega), k9 _ (by omega) (by omega) (by omega), f6 _ (by omega), e3, rd_up2_self, e1, rd_up2_ne (by omega)]
  · rw [rd_up2_ne (by omega), k9 _ (by omega) (by omega) (by omega)]; exact s6
  · rw [rd_up2_self, k9 _ (by omega) (by omega) (by omega), f6 _ (by omega), k3 _ (by omega) (by omega)]
  · rw [rd_up2_ne (by omega), e9, rd_up2_ne (by omega), e8, rd_up2_ne (by omega), e7, rd_up2_self, f6 _ (by omega), k3 _ (by omega) (by omega)]
  · rw [rd_up2_ne (by omega), e9, rd_up2_ne (by omega), e8, rd_up2_self, e7, rd_up2_ne (by omega), f6 _ (by omega), k3 _ (by omega) (by omega)]
  · rw [rd_up2_ne (by omega), e9, rd_up2_self, e8, rd_up2_ne (by omega), e7, rd_up2_ne (by omega), f6 _ (by omega), k3 _ (by omega) (by omega)]
set_option maxRecDepth 16384 in
theorem feedClip_eq {h : Hp} {a c : Nat} (hc : c < 12) (x : Int32) : A_feedClip h a (nI c) x = some (rd h (a + 5) c + x, up2 (up2 (up2 h (a + 5) c (rd h (a + 5) c + x)) a 1 (rd h a 1 - x)) a 2 (rd h a 2 + x)) := by
  unfold A_feedClip nm
  dsimp only
  have e1 : rd (up2 h (a + 5) c (rd h (a + 5) c + x)) a 1 = rd h a 1 := by rw [rd_up2_ne (by omega)]
  have e2 : rd (up2 (up2 h (a + 5) c (rd h (a + 5) c + x)) a 1 (rd h a 1 - x)) a 2 = rd h a 2 := by rw [rd_up2_self, upd_ne (by decide), rd_up2_ne (by omega)]
  rw [rdO_in hc (by decide), Option.bind_some, wrO_in hc (by decide), Option.bind_some, e1, e2, rdO_in hc (by decide), Option.bind_some]
  have e3 : ∀ y z : Int32, rd (up2 (up2 (up2 h (a + 5) c (rd h (a + 5) c + x)) a 1 y) a 2 z) (a + 5) c = rd h (a + 5) c + x := fun y z => by
    rw [rd_up2_ne (by omega), rd_up2_ne (by omega), rd_up2_self, upd_self]
  rw [e3]
set_option maxRecDepth 16384 in
theorem paintClip_eq {h : Hp} {a c i : Nat} {x q : Int32} (hc : c < 12) (hi : c * 8 + i < 96) (e : A_renewHash_L4 (up2 h (a + 2) (c * 8 + i) x) a (nI c) FU 0 0 = some q) : A_paintClip h a (nI c) (nI i) x = some (q, up2 (up2 h (a + 2) (c * 8 + i) x) (a + 3) c q) := by
  unfold A_paintClip A_renewHash
  rw [nI_ix8, wrO_in hi (by decide), Option.bind_some, e, Option.bind_some, wrO_in hc (by decide), Option.bind_some, Option.bind_some, rdO_in hc (by decide), Option.bind_some, rd_up2_self, upd_self]
