/-! ===== the class's writes of an archive keep it whole ===== -/
set_option maxRecDepth 16384 in
theorem sm_updS {n m i : Nat} {f : Nat → Int32} {x : Int32} (h : Sm n m f) (hx : Sc m x) : Sm n m (upd f i x) := by
  obtain ⟨k, hk, rfl⟩ := hx
  exact h.upd hk
set_option maxRecDepth 16384 in
theorem bd_upd {f : Nat → Int32} {i : Nat} {x : Int32} (h : Bd f) (hx : Bv x) : Bd (upd f i x) := fun j hj => by
  by_cases e : j = i
  · subst e; rw [upd_self]; exact hx
  · rw [upd_ne e]; exact h j hj
section
variable {h : Hp} {a : Nat}
set_option maxRecDepth 16384 in
theorem Arc.fld (I : Arc h a) {i : Nat} {x : Int32} (h1 : i ≠ 5) (h2 : i ≠ 12) (h3 : i ≠ 15) : Arc (up2 h a i x) a := by
  unfold Arc
  rw [rd_up2_self, upd_ne (Ne.symm h1), upd_ne (Ne.symm h2), upd_ne (Ne.symm h3), rd_up2_ne (by omega), rd_up2_ne (by omega), rd_up2_ne (by omega), rd_up2_ne (by omega), rd_up2_ne (by omega), rd_up2_ne (by omega)]
  exact I
set_option maxRecDepth 16384 in
theorem Arc.cnt (I : Arc h a) {i : Nat} {x : Int32} (h1 : i = 5 → Sc 12 x) (h2 : i = 12 → Sc 4 x) (h3 : i = 15 → Sc 5 x) : Arc (up2 h a i x) a := by
  unfold Arc
  rw [rd_up2_self, rd_up2_ne (by omega), rd_up2_ne (by omega), rd_up2_ne (by omega), rd_up2_ne (by omega), rd_up2_ne (by omega), rd_up2_ne (by omega)]
  refine ⟨?_, ?_, ?_, I.2.2.2⟩
  · by_cases e : 5 = i
    · subst e; rw [upd_self]; exact h1 rfl
    · rw [upd_ne e]; exact I.1
  · by_cases e : 12 = i
    · subst e; rw [upd_self]; exact h2 rfl
    · rw [upd_ne e]; exact I.2.1
  · by_cases e : 15 = i
    · subst e; rw [upd_self]; exact h3 rfl
    · rw [upd_ne e]; exact I.2.2.1
set_option maxRecDepth 16384 in
theorem Arc.any (I : Arc h a) {k i : Nat} {x : Int32} (hk : k = 4 ∨ k = 6 ∨ k = 9 ∨ k = 10) : Arc (up2 h (a + k) i x) a := by
  unfold Arc
  rw [rd_up2_ne (by omega), rd_up2_ne (by omega), rd_up2_ne (by omega), rd_up2_ne (by omega), rd_up2_ne (by omega), rd_up2_ne (by omega), rd_up2_ne (by omega)]
  exact I
set_option maxRecDepth 16384 in
theorem Arc.out (I : Arc h a) {k i : Nat} {x : Int32} (hk : k < a ∨ a + 11 ≤ k) : Arc (up2 h k i x) a := by
  unfold Arc
  rw [rd_up2_ne (by omega), rd_up2_ne (by omega), rd_up2_ne (by omega), rd_up2_ne (by omega), rd_up2_ne (by omega), rd_up2_ne (by omega), rd_up2_ne (by omega)]
  exact I
set_option maxRecDepth 16384 in
theorem Arc.wlen (I : Arc h a) {i : Nat} {x : Int32} (hx : Sc 8 x) : Arc (up2 h (a + 1) i x) a := by
  unfold Arc
  rw [rd_up2_ne (by omega), rd_up2_self, rd_up2_ne (by omega), rd_up2_ne (by omega), rd_up2_ne (by omega), rd_up2_ne (by omega), rd_up2_ne (by omega)]
  exact ⟨I.1, I.2.1, I.2.2.1, sm_updS I.len hx, I.2.2.2.2⟩
set_option maxRecDepth 16384 in
theorem Arc.wcol (I : Arc h a) {i : Nat} {x : Int32} (hx : Sc 9 x) : Arc (up2 h (a + 2) i x) a := by
  unfold Arc
  rw [rd_up2_ne (by omega), rd_up2_ne (by omega), rd_up2_self, rd_up2_ne (by omega), rd_up2_ne (by omega), rd_up2_ne (by omega), rd_up2_ne (by omega)]
  exact ⟨I.1, I.2.1, I.2.2.1, I.len, sm_updS I.cols hx, I.2.2.2.2.2⟩
set_option maxRecDepth 16384 in
theorem Arc.whash (I : Arc h a) {i : Nat} {x : Int32} (hx : Sc 996 x) : Arc (up2 h (a + 3) i x) a := by
  unfold Arc
  rw [rd_up2_ne (by omega), rd_up2_ne (by omega), rd_up2_ne (by omega), rd_up2_self, rd_up2_ne (by omega), rd_up2_ne (by omega), rd_up2_ne (by omega)]
  exact ⟨I.1, I.2.1, I.2.2.1, I.len, I.cols, sm_updS I.hash hx, I.2.2.2.2.2.2⟩
set_option maxRecDepth 16384 in
theorem Arc.wfat (I : Arc h a) {i : Nat} {x : Int32} (hx : Sc 99 x) : Arc (up2 h (a + 5) i x) a := by
  unfold Arc
  rw [rd_up2_ne (by omega), rd_up2_ne (by omega), rd_up2_ne (by omega), rd_up2_ne (by omega), rd_up2_self, rd_up2_ne (by omega), rd_up2_ne (by omega)]
  exact ⟨I.1, I.2.1, I.2.2.1, I.len, I.cols, I.hash, sm_updS I.fats hx, I.2.2.2.2.2.2.2⟩
set_option maxRecDepth 16384 in
theorem Arc.wcnt (I : Arc h a) {i : Nat} {x : Int32} (hx : Sc 9 x) : Arc (up2 h (a + 7) i x) a := by
  unfold Arc
  rw [rd_up2_ne (by omega), rd_up2_ne (by omega), rd_up2_ne (by omega), rd_up2_ne (by omega), rd_up2_ne (by omega), rd_up2_self, rd_up2_ne (by omega)]
  exact ⟨I.1, I.2.1, I.2.2.1, I.len, I.cols, I.hash, I.fats, sm_updS I.beds hx, I.2.2.2.2.2.2.2.2⟩
set_option maxRecDepth 16384 in
theorem Arc.wbed (I : Arc h a) {i : Nat} {x : Int32} (hx : Bv x) : Arc (up2 h (a + 8) i x) a := by
  unfold Arc
  rw [rd_up2_ne (by omega), rd_up2_ne (by omega), rd_up2_ne (by omega), rd_up2_ne (by omega), rd_up2_ne (by omega), rd_up2_ne (by omega), rd_up2_self]
  exact ⟨I.1, I.2.1, I.2.2.1, I.len, I.cols, I.hash, I.fats, I.beds, bd_upd I.bed hx⟩
def Wk (h0 : Hp) (a : Nat) (h' : Hp) : Prop := Arc h' a ∧ Fr a 11 h0 h'
set_option maxRecDepth 16384 in
theorem Fr.rf (a n : Nat) (h : Hp) : Fr a n h h := fun _ _ => rfl
set_option maxRecDepth 16384 in
theorem Fr.up {a n k i : Nat} {h0 h : Hp} {x : Int32} (f : Fr a n h0 h) (hk : a ≤ k ∧ k < a + n) : Fr a n h0 (up2 h k i x) := fun q hq => by
  rw [rd_up2_ne (by omega)]; exact f q hq
set_option maxRecDepth 16384 in
theorem Fr.tr {a n : Nat} {h0 h1 h2 : Hp} (f : Fr a n h0 h1) (g : Fr a n h1 h2) : Fr a n h0 h2 := fun q hq => (g q hq).trans (f q hq)
set_option maxRecDepth 16384 in
theorem Wk.rf (I : Arc h a) : Wk h a h := ⟨I, Fr.rf _ _ _⟩
set_option maxRecDepth 16384 in
theorem Wk.tr {h0 h1 h2 : Hp} (x : Wk h0 a h1) (y : Wk h1 a h2) : Wk h0 a h2 := ⟨y.1, x.2.tr y.2⟩
/-- the bed exists -/
def Ex (h : Hp) (a r b : Nat) : Prop := r < 4 ∧ b < 9 ∧ nI r < rd h a 12 ∧ nI b < rd h (a + 7) r
set_option maxRecDepth 16384 in
theorem placeOf_ok (I : Arc h a) (x : Int32) : ∃ v, A_placeOf h a x = some v ∧ ((v = -1 ∧ ∀ r b, Ex h a r b → rd h (a + 8) (r * 9 + b) ≠ x) ∨ ∃ r b, Ex h a r b ∧ v = nI (r * 9 + b) ∧ rd h (a + 8) (r * 9 + b) = x) := by
  obtain ⟨t, ht, et⟩ := I.reels
  have inner : ∀ r, r < t → ∃ y, A_placeOf_L12 h a x (nI r) FU 0 = some y ∧ ((y = .inl () ∧ ∀ b, Ex h a r b → rd h (a + 8) (r * 9 + b) ≠ x) ∨ ∃ b, Ex h a r b ∧ y = .inr (nI (r * 9 + b)) ∧ rd h (a + 8) (r * 9 + b) = x) := fun r hr => by
    obtain ⟨m, hm, em⟩ := I.beds r (by omega)
    obtain ⟨y, e, p⟩ := loop0 (fun n (_ : Unit) v => A_placeOf_L12 h a x (nI r) n (nI v)) 9 (fun _ v => ∀ b, b < v → rd h (a + 8) (r * 9 + b) ≠ x) (fun y => (y = .inl () ∧ ∀ b, Ex h a r b → rd h (a + 8) (r * 9 + b) ≠ x) ∨ ∃ b, Ex h a r b ∧ y = .inr (nI (r * 9 + b)) ∧ rd h (a + 8) (r * 9 + b) = x) (by decide) (fun n s v hv hj => by
      rw [A_placeOf_L12, r4 (by omega), Option.bind_some, em]
      by_cases w : m ≤ v
      · refine Or.inl ⟨_, if_pos (nI_le w (by omega)), Or.inl ⟨rfl, fun b hb => hj b ?_⟩⟩
        have := hb.2.2.2
        rw [em] at this
        have := (nI_ltI (by have := hb.2.1; omega) (by omega)).mp this
        omega
      · rw [if_neg (nI_ge (by omega) (by omega)), nI_ix9, rdO_in (by omega) (by decide), Option.bind_some, nI_1]
        by_cases w2 : rd h (a + 8) (r * 9 + v) = x
        · rw [if_pos w2]
          exact Or.inl ⟨_, rfl, Or.inr ⟨v, ⟨by omega, by omega, by rw [et]; exact nI_lt hr (by omega), by rw [em]; exact nI_lt (by omega) (by omega)⟩, rfl, w2⟩⟩
        · rw [if_neg w2]
          refine Or.inr ⟨by omega, (), fun b hb => ?_, rfl⟩
          by_cases e : b = v
          · subst e; exact w2
          · exact hj b (by omega)) () (fun b hb => absurd hb (Nat.not_lt_zero _))
    exact ⟨y, e, p⟩
  obtain ⟨y, e, p⟩ := loop0 (fun n (_ : Unit) v => A_placeOf_L2 h a x n (nI v)) 4 (fun _ v => ∀ r, r < v → ∀ b, Ex h a r b → rd h (a + 8) (r * 9 + b) ≠ x) (fun y => (y = .inl () ∧ ∀ r b, Ex h a r b → rd h (a + 8) (r * 9 + b) ≠ x) ∨ ∃ r b, Ex h a r b ∧ y = .inr (nI (r * 9 + b)) ∧ rd h (a + 8) (r * 9 + b) = x) (by decide) (fun n s v hv hj => by
    rw [A_placeOf_L2, et]
    by_cases w : t ≤ v
    · refine Or.inl ⟨_, if_pos (nI_le w (by omega)), Or.inl ⟨rfl, fun r b hb => hj r ?_ b hb⟩⟩
      have := hb.2.2.1
      rw [et] at this
      have := (nI_ltI (by have := hb.1; omega) (by omega)).mp this
      omega
    · obtain ⟨y, ey, py⟩ := inner v (by omega)
      rw [if_neg (nI_ge (by omega) (by omega)), ey, Option.bind_some, nI_1]
      rcases py with ⟨rfl, py⟩ | ⟨b, hb, rfl, eb⟩
      · refine Or.inr ⟨by omega, (), fun r hr => ?_, rfl⟩
        by_cases e : r = v
        · subst e; exact py
        · exact hj r (by omega)
      · exact Or.inl ⟨_, rfl, Or.inr ⟨v, b, hb, rfl, eb⟩⟩) () (fun r hr => absurd hr (Nat.not_lt_zero _))
  have e : A_placeOf_L2 h a x FU 0 = some y := e
  unfold A_placeOf
  rw [e, Option.bind_some]
  rcases p with ⟨rfl, p⟩ | ⟨r, b, hb, rfl, eb⟩
  · exact ⟨-1, rfl, Or.inl ⟨rfl, p⟩⟩
  · exact ⟨_, rfl, Or.inr ⟨r, b, hb, rfl, eb⟩⟩
set_option maxRecDepth 16384 in
theorem leaveBed_eq (I : Arc h a) (x : Int32) : (A_leaveBed h a x = some (-1, h) ∧ ∀ r b, Ex h a r b → rd h (a + 8) (r * 9 + b) ≠ x) ∨ ∃ r b, Ex h a r b ∧ rd h (a + 8) (r * 9 + b) = x ∧ A_leaveBed h a x = some (nI r, up2 h (a + 8) (r * 9 + b) (-2)) := by
  obtain ⟨v, ev, p⟩ := placeOf_ok I x
  unfold A_leaveBed
  rw [ev, Option.bind_some]
  rcases p with ⟨rfl, p⟩ | ⟨r, b, hb, rfl, eb⟩
  · exact Or.inl ⟨by rw [if_pos rfl], p⟩
  · have h1 := hb.1
    have h2 := hb.2.1
    refine Or.inr ⟨r, b, hb, eb, ?_⟩
    rw [if_neg (nI_nm1 (by omega)), wrO_in (by omega) (by decide), Option.bind_some, show (9 : Int32) = nI 9 from rfl, pk_div (by omega) (by decide) (by decide)]
    congr 3
    omega
set_option maxRecDepth 16384 in
theorem leaveBed_ok (I : Arc h a) (x : Int32) : ∃ v h', A_leaveBed h a x = some (v, h') ∧ Wk h a h' := by
  rcases leaveBed_eq I x with ⟨e, -⟩ | ⟨r, b, -, -, e⟩
  · exact ⟨_, _, e, Wk.rf I⟩
  · exact ⟨_, _, e, I.wbed (Or.inr (Or.inl rfl)), (Fr.rf _ _ _).up (by omega)⟩
set_option maxRecDepth 16384 in
theorem rouse_ok (I : Arc h a) {c : Nat} (hc : c < 12) : ∃ v h', A_rouse h a (nI c) = some (v, h') ∧ Wk h a h' := by
  have I1 : Arc (up2 h (a + 4) c 0) a := I.any (by omega)
  obtain ⟨v, h', e, w⟩ := leaveBed_ok I1 (nI c)
  refine ⟨v, h', ?_, w.1, ((Fr.rf _ _ _).up (by omega)).tr w.2⟩
  unfold A_rouse
  rw [wrO_in hc (by decide), Option.bind_some, e, Option.bind_some]
set_option maxRecDepth 16384 in
theorem layDown_eq (I : Arc h a) {c r : Nat} (hc : c < 12) (hr : r < 4) : (A_layDown h a (nI c) (nI r) = some (-1, h) ∧ A_passedBeds h a (nI c) (nI r) = some (-1)) ∨ ∃ q m k, q ≤ 996 ∧ m ≤ 9 ∧ rd h (a + 3) c = nI q ∧ rd h (a + 7) r = nI m ∧ k < m ∧ ¬ 0 ≤ rd h (a + 8) (r * 9 + wb q m k) ∧ (∀ j, j < k → 0 ≤ rd h (a + 8) (r * 9 + wb q m j)) ∧ A_passedBeds h a (nI c) (nI r) = some (nI k) ∧ A_layDown h a (nI c) (nI r) = some (nI (wb q m k), up2 (up2 h (a + 8) (r * 9 + wb q m k) (nI c)) (a + 4) c 1) := by
  obtain ⟨q, m, v, hq, hm, eq, em, ev, p⟩ := passedBeds_ok I hc hr
  rcases p with ⟨rfl, p⟩ | ⟨k, hk, rfl, p1, p2⟩
  · refine Or.inl ⟨?_, ev⟩
    unfold A_layDown
    rw [ev, Option.bind_some, if_pos rfl]
  · refine Or.inr ⟨q, m, k, hq, hm, eq, em, hk, p1, p2, ev, ?_⟩
    unfold A_layDown
    rw [ev, Option.bind_some, if_neg (nI_nm1 (by omega)), wayBed_eq hc hr eq hq em hm (by omega), Option.bind_some, setBed_eq hr (wb_lt hm), Option.bind_some, wrO_in hc (by decide), Option.bind_some]
set_option maxRecDepth 16384 in
theorem layDown_ok (I : Arc h a) {c r : Nat} (hc : c < 12) (hr : r < 4) : ∃ v h', A_layDown h a (nI c) (nI r) = some (v, h') ∧ Wk h a h' := by
  rcases layDown_eq I hc hr with ⟨e, -⟩ | ⟨q, m, k, -, -, -, -, -, -, -, -, e⟩
  · exact ⟨_, _, e, Wk.rf I⟩
  · exact ⟨_, _, e, (I.wbed (Or.inr (Or.inr ⟨c, hc, rfl⟩))).any (by omega), ((Fr.rf _ _ _).up (by omega)).up (by omega)⟩
/-! sets of clips -/
set_option maxRecDepth 16384 in
theorem nI_or (x y : Nat) : nI x ||| nI y = nI (x ||| y) := by
  apply Int32.toBitVec_inj.mp
  show BitVec.ofNat 32 x ||| BitVec.ofNat 32 y = BitVec.ofNat 32 (x ||| y)
  exact (BitVec.ofNat_or).symm
set_option maxRecDepth 16384 in
theorem shl_c : ∀ c, c < 12 → (1 : Int32) <<< (nI c &&& 31) = nI (2 ^ c) := by decide +kernel
set_option maxRecDepth 16384 in
theorem or_c {S c : Nat} (hc : c < 12) : nI S ||| (1 <<< (nI c &&& 31)) = nI (S ||| 2 ^ c) := by
  rw [shl_c c hc, nI_or]
set_option maxRecDepth 16384 in
theorem smod_c : ∀ c, c < 12 → ((nI c &&& 31).toBitVec.smod 32).toNat = c := by decide +kernel
set_option maxRecDepth 16384 in
theorem bit_c {S c : Nat} (hS : S < 2 ^ 31) (hc : c < 12) : ((nI S >>> (nI c &&& 31)) &&& 1) = 1 ↔ S.testBit c = true := by
  rw [pk_shrN hS _ c (smod_c c hc), pk_andN (m := 1) (Nat.lt_of_le_of_lt (Nat.div_le_self _ _) (by omega)) 1 (by decide), Nat.testBit_eq_decide_div_mod_eq]
  rw [show (1 : Int32) = nI 1 from rfl, nI_eq (Nat.lt_of_lt_of_le (Nat.mod_lt _ (by decide)) (by decide)) (by decide)]
  simp
set_option maxRecDepth 16384 in
theorem or_lt {S c : Nat} (hS : S < 4096) (hc : c < 12) : S ||| 2 ^ c < 4096 := by
  have : (2 : Nat) ^ c < 2 ^ 12 := Nat.pow_lt_pow_right (by decide) hc
  exact Nat.or_lt_two_pow (n := 12) hS this
set_option maxRecDepth 16384 in
theorem sleepersIn_ok (I : Arc h a) {r : Nat} (hr : r < 4) : ∃ S, S < 4096 ∧ A_sleepersIn h a (nI r) = some (nI S) ∧ ∀ c, c < 12 → (S.testBit c = true ↔ ∃ b, b < 9 ∧ nI b < rd h (a + 7) r ∧ rd h (a + 8) (r * 9 + b) = nI c) := by
  obtain ⟨m, hm, em⟩ := I.beds r hr
  obtain ⟨x, e, S, hS, rfl, p⟩ := loop0 (fun n s v => A_sleepersIn_L4 h a (nI r) n s (nI v)) 9 (fun s v => v ≤ m ∧ ∃ S, S < 4096 ∧ s = nI S ∧ ∀ c, c < 12 → (S.testBit c = true ↔ ∃ b, b < v ∧ rd h (a + 8) (r * 9 + b) = nI c)) (fun x => ∃ S, S < 4096 ∧ x = nI S ∧ ∀ c, c < 12 → (S.testBit c = true ↔ ∃ b, b < 9 ∧ nI b < rd h (a + 7) r ∧ rd h (a + 8) (r * 9 + b) = nI c)) (by decide) (fun n s v hv hj => by
    obtain ⟨hvm, S, hS, rfl, p⟩ := hj
    rw [A_sleepersIn_L4, r4 hr, Option.bind_some, em]
    by_cases w : m ≤ v
    · refine Or.inl ⟨_, if_pos (nI_le w (by omega)), S, hS, rfl, fun c hc => (p c hc).trans ⟨?_, ?_⟩⟩
      · rintro ⟨b, hb, eb⟩
        exact ⟨b, by omega, nI_lt (by omega) (by omega), eb⟩
      · rintro ⟨b, hb, hb2, eb⟩
        have := (nI_ltI (by omega) (by omega)).mp hb2
        exact ⟨b, by omega, eb⟩
    · rw [if_neg (nI_ge (by omega) (by omega)), inBed_eq hr (by omega), Option.bind_some, nI_1]
      refine Or.inr ⟨by omega, ?_⟩
      rcases bed_cases I (i := r * 9 + v) (by omega) with q | ⟨d, hd, ed⟩
      · rw [if_pos q]
        refine ⟨_, ⟨by omega, S, hS, rfl, fun c hc => (p c hc).trans ⟨?_, ?_⟩⟩, rfl⟩
        · rintro ⟨b, hb, eb⟩; exact ⟨b, by omega, eb⟩
        · rintro ⟨b, hb, eb⟩
          by_cases e : b = v
          · subst e; rw [eb] at q; exact absurd q (nI_pos (by omega))
          · exact ⟨b, by omega, eb⟩
      · rw [ed, if_neg (nI_pos (by omega)), or_c hd]
        refine ⟨_, ⟨by omega, S ||| 2 ^ d, or_lt hS hd, rfl, fun c hc => ?_⟩, rfl⟩
        rw [Nat.testBit_or, Nat.testBit_two_pow, Bool.or_eq_true, p c hc, decide_eq_true_iff]
        constructor
        · rintro (⟨b, hb, eb⟩ | rfl)
          · exact ⟨b, by omega, eb⟩
          · exact ⟨v, by omega, ed⟩
        · rintro ⟨b, hb, eb⟩
          by_cases e : b = v
          · subst e
            rw [ed] at eb
            exact Or.inr ((nI_eq (by omega) (by omega)).mp eb)
          · exact Or.inl ⟨b, by omega, eb⟩) 0 ⟨Nat.zero_le _, 0, by decide, rfl, fun c _ => by simp⟩
  refine ⟨S, hS, ?_, p⟩
  unfold A_sleepersIn
  exact bO e _
set_option maxRecDepth 16384 in
theorem airL_ok (I : Arc h a) {r : Nat} (hr : r < 4) : ∃ x h', A_airReel_L11 a (nI r) FU 0 0 h = some (x, h') ∧ Wk h a h' := by
  obtain ⟨m, hm, em⟩ := I.beds r hr
  obtain ⟨⟨x, h'⟩, e, p⟩ := loop0 (fun n (s : Int32 × Hp) v => A_airReel_L11 a (nI r) n s.1 (nI v) s.2) 9 (fun s _ => Wk h a s.2 ∧ rd s.2 (a + 7) r = nI m) (fun s => Wk h a s.2) (by decide) (fun n s v hv hj => by
    obtain ⟨w, em⟩ := hj
    rw [A_airReel_L11, r4 hr, Option.bind_some, em]
    by_cases q : m ≤ v
    · exact Or.inl ⟨_, if_pos (nI_le q (by omega)), w⟩
    · rw [if_neg (nI_ge (by omega) (by omega)), inBed_eq hr (by omega), Option.bind_some]
      unfold lt
      dsimp only
      rw [setBed_eq hr (by omega), Option.bind_some, nI_1]
      have w' : Wk h a (up2 s.2 (a + 8) (r * 9 + v) (-1)) ∧ rd (up2 s.2 (a + 8) (r * 9 + v) (-1)) (a + 7) r = nI m := ⟨⟨w.1.wbed (Or.inl (by decide)), w.2.up (by omega)⟩, by rw [rd_up2_ne (by omega)]; exact em⟩
      refine Or.inr ⟨by omega, ?_⟩
      by_cases z : rd s.2 (a + 8) (r * 9 + v) = -2
      · rw [if_pos z]; exact ⟨(_, _), w', rfl⟩
      · rw [if_neg z]; exact ⟨(_, _), w', rfl⟩) (0, h) ⟨Wk.rf I, em⟩
  exact ⟨x, h', e, p⟩
set_option maxRecDepth 16384 in
theorem airM_ok (I : Arc h a) {r : Nat} (hr : r < 4) (S : Int32) : ∃ h', A_airReel_L54 a (nI r) S FU 0 h = some h' ∧ Wk h a h' := by
  obtain ⟨h', e, p⟩ := loop0 (fun n (s : Hp) v => A_airReel_L54 a (nI r) S n (nI v) s) 12 (fun s _ => Wk h a s) (fun s => Wk h a s) (by decide) (fun n s v hv w => by
    obtain ⟨t, ht, et⟩ := w.1.clips
    rw [A_airReel_L54, et]
    by_cases q : t ≤ v
    · exact Or.inl ⟨_, if_pos (nI_le q (by omega)), w⟩
    · rw [if_neg (nI_ge (by omega) (by omega)), nI_1]
      refine Or.inr ⟨by omega, ?_⟩
      by_cases z : (S >>> (nI v &&& 31)) &&& 1 = 1
      · obtain ⟨x, h1, e1, w1⟩ := layDown_ok w.1 (by omega : v < 12) hr
        rw [if_pos z, e1, Option.bind_some]
        exact ⟨h1, w.tr w1, rfl⟩
      · rw [if_neg z]; exact ⟨_, w, rfl⟩) h (Wk.rf I)
  exact ⟨h', e, p⟩
set_option maxRecDepth 16384 in
theorem airReel_ok (I : Arc h a) {r : Nat} (hr : r < 4) : ∃ v h', A_airReel h a (nI r) = some (v, h') ∧ Wk h a h' := by
  obtain ⟨S, -, eS, -⟩ := sleepersIn_ok I hr
  obtain ⟨x, h1, e1, w1⟩ := airL_ok I hr
  obtain ⟨h2, e2, w2⟩ := airM_ok w1.1 hr (nI S)
  refine ⟨x, h2, ?_, w1.tr w2⟩
  unfold A_airReel
  rw [eS, Option.bind_some, e1, Option.bind_some]
  dsimp only
  rw [e2, Option.bind_some]
set_option maxRecDepth 16384 in
theorem cutScene_ok (I : Arc h a) {s : Nat} (hs : s < 5) (x : Int32) : ∃ v h', A_cutScene h a (nI s) x = some (v, h') ∧ Wk h a h' := by
  have inner : ∀ (r : Nat) (hr : r < 4) (y : Int32) (g : Hp), Wk h a g → ∃ z g', A_cutScene_L17 a (nI s) x (nI r) FU y 0 g = some (z, g') ∧ Wk h a g' := fun r hr y g wg => by
    obtain ⟨⟨z, g'⟩, e, p⟩ := loop0 (fun n (u : Int32 × Hp) v => A_cutScene_L17 a (nI s) x (nI r) n u.1 (nI v) u.2) 9 (fun u _ => Wk h a u.2) (fun u => Wk h a u.2) (by decide) (fun n u v hv w => by
      obtain ⟨m, hm, em⟩ := w.1.beds r hr
      rw [A_cutScene_L17, r4 hr, Option.bind_some, em]
      by_cases q : m ≤ v
      · exact Or.inl ⟨_, if_pos (nI_le q (by omega)), w⟩
      · rw [if_neg (nI_ge (by omega) (by omega)), inBed_eq hr (by omega), Option.bind_some, r5 hs, Option.bind_some, Option.bind_some, nI_1]
        refine Or.inr ⟨by omega, ?_⟩
        by_cases z1 : rd u.2 (a + 10) s ≤ 0
        · rw [if_pos z1]; exact ⟨u, w, rfl⟩
        rw [if_neg z1]
        rcases bed_cases w.1 (i := r * 9 + v) (by omega) with b0 | ⟨c, hc, ec⟩
        · rw [if_pos b0]; exact ⟨u, w, rfl⟩
        · obtain ⟨y, ey⟩ := findPattern_ok w.1 hc x
          rw [ec, if_neg (nI_pos (by omega)), ey, Option.bind_some]
          by_cases z2 : y = -1
          · rw [if_pos z2]; exact ⟨u, w, rfl⟩
          · unfold nm
            rw [if_neg z2, wrO_in hs (by decide), Option.bind_some]
            dsimp only
            rw [wrO_in hc (by decide), Option.bind_some, wrO_in hc (by decide), Option.bind_some, setBed_eq hr (by omega), Option.bind_some]
            have W : ∀ X Y : Int32, Wk h a (up2 (up2 (up2 (up2 (up2 u.2 (a + 10) s X) a 4 Y) (a + 6) c (nI s)) (a + 4) c 0) (a + 8) (r * 9 + v) (-2)) := fun X Y => by
              refine ⟨((((w.1.any (by omega)).fld (by decide) (by decide) (by decide)).any (by omega)).any (by omega)).wbed (Or.inr (Or.inl rfl)), ?_⟩
              refine Fr.up (Fr.up (Fr.up (Fr.up (Fr.up w.2 ?_) ?_) ?_) ?_) ?_ <;> omega
            exact ⟨(_, _), W _ _, rfl⟩) (y, g) wg
    exact ⟨z, g', e, p⟩
  obtain ⟨⟨z, h'⟩, e, p⟩ := loop0 (fun n (u : Int32 × Hp) v => A_cutScene_L5 a (nI s) x n u.1 (nI v) u.2) 4 (fun u _ => Wk h a u.2) (fun u => Wk h a u.2) (by decide) (fun n u v hv w => by
    obtain ⟨t, ht, et⟩ := w.1.reels
    rw [A_cutScene_L5, et]
    by_cases q : t ≤ v
    · exact Or.inl ⟨_, if_pos (nI_le q (by omega)), w⟩
    · obtain ⟨y, g, ey, wy⟩ := inner v (by omega) u.1 u.2 w
      rw [if_neg (nI_ge (by omega) (by omega)), ey, Option.bind_some, nI_1]
      exact Or.inr ⟨by omega, (y, g), wy, rfl⟩) (0, h) (Wk.rf I)
  refine ⟨z, h', ?_, p⟩
  have e : A_cutScene_L5 a (nI s) x FU 0 0 h = some (z, h') := e
  unfold A_cutScene
  rw [e, Option.bind_some]
end
