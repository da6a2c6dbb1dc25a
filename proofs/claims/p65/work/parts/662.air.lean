/-! ===== airing, cutting, adding, feeding, weeks: the stronger keeping ===== -/
section
variable {h : Hp} {a : Nat}
theorem airL_eq (I : Arc h a) {r m : Nat} (hr : r < 4) (em : rd h (a + 7) r = nI m) (hm : m ≤ 9) : ∃ x h', A_airReel_L11 a (nI r) FU 0 0 h = some (x, h') ∧ Arc h' a ∧ (∀ k, k ≠ a + 8 → rd h' k = rd h k) ∧ ∀ i, rd h' (a + 8) i = if r * 9 ≤ i ∧ i < r * 9 + m then -1 else rd h (a + 8) i := by
  obtain ⟨⟨x, h'⟩, e, p⟩ := loop0 (fun n (s : Int32 × Hp) v => A_airReel_L11 a (nI r) n s.1 (nI v) s.2) 9 (fun s v => v ≤ m ∧ Arc s.2 a ∧ (∀ k, k ≠ a + 8 → rd s.2 k = rd h k) ∧ ∀ i, rd s.2 (a + 8) i = if r * 9 ≤ i ∧ i < r * 9 + v then -1 else rd h (a + 8) i) (fun s => Arc s.2 a ∧ (∀ k, k ≠ a + 8 → rd s.2 k = rd h k) ∧ ∀ i, rd s.2 (a + 8) i = if r * 9 ≤ i ∧ i < r * 9 + m then -1 else rd h (a + 8) i) (by decide) (fun n s v hv hj => by
    obtain ⟨hvm, A, f, b⟩ := hj
    have em' : rd s.2 (a + 7) r = nI m := by rw [f _ (by omega)]; exact em
    rw [A_airReel_L11, r4 hr, Option.bind_some, em']
    by_cases q : m ≤ v
    · obtain rfl : v = m := by omega
      exact Or.inl ⟨_, if_pos (nI_le q (by omega)), A, f, b⟩
    · rw [if_neg (nI_ge (by omega) (by omega)), inBed_eq hr (by omega), Option.bind_some]
      unfold lt
      dsimp only
      rw [setBed_eq hr (by omega), Option.bind_some, nI_1]
      have w' : v + 1 ≤ m ∧ Arc (up2 s.2 (a + 8) (r * 9 + v) (-1)) a ∧ (∀ k, k ≠ a + 8 → rd (up2 s.2 (a + 8) (r * 9 + v) (-1)) k = rd h k) ∧ ∀ i, rd (up2 s.2 (a + 8) (r * 9 + v) (-1)) (a + 8) i = if r * 9 ≤ i ∧ i < r * 9 + (v + 1) then -1 else rd h (a + 8) i := by
        refine ⟨by omega, A.wbed (Or.inl (by decide)), fun k hk => by rw [rd_up2_ne hk]; exact f k hk, fun i => ?_⟩
        rw [rd_up2_self]
        by_cases z : i = r * 9 + v
        · subst z; rw [upd_self, if_pos (by omega)]
        · rw [upd_ne z, b]
          by_cases y : r * 9 ≤ i ∧ i < r * 9 + v
          · rw [if_pos y, if_pos (by omega)]
          · rw [if_neg y, if_neg (by omega)]
      refine Or.inr ⟨by omega, ?_⟩
      by_cases z : rd s.2 (a + 8) (r * 9 + v) = -2
      · rw [if_pos z]; exact ⟨(_, _), w', rfl⟩
      · rw [if_neg z]; exact ⟨(_, _), w', rfl⟩) (0, h) ⟨Nat.zero_le _, I, fun _ _ => rfl, fun i => by rw [if_neg (by omega)]⟩
  exact ⟨x, h', e, p⟩
theorem airReel_x (I : Arx h a) {r : Nat} (hr : r < vn (rd h a 12)) : ∃ v h', A_airReel h a (nI r) = some (v, h') ∧ Wx h a h' := by
  have n12 := I.1.n12
  have R4 := I.1.R4
  have r4' : r < 4 := by omega
  obtain ⟨t, ht, et⟩ := I.1.clips
  have tn : vn (rd h a 5) = t := by rw [et, vn_nI (by omega)]
  obtain ⟨m, hm, em⟩ := I.1.beds r r4'
  have mn : vn (rd h (a + 7) r) = m := by rw [em, vn_nI (by omega)]
  have mb : ∀ b, b < m → b < vn (rd h (a + 7) r) := fun b hb => by rw [mn]; exact hb
  obtain ⟨S, hS, eS, pS0⟩ := sleepersIn_ok I.1 r4'
  have pS : ∀ c, c < 12 → (S.testBit c = true ↔ ∃ b, b < m ∧ rd h (a + 8) (r * 9 + b) = nI c) := fun c hc => (pS0 c hc).trans (by
    constructor
    · rintro ⟨b, hb, hb2, eb⟩
      rw [em] at hb2
      exact ⟨b, (nI_ltI (by omega) (by omega)).mp hb2, eb⟩
    · rintro ⟨b, hb, eb⟩
      exact ⟨b, by omega, by rw [em]; exact nI_lt hb (by omega), eb⟩)
  obtain ⟨x, h1, e1, A1, f1, b1⟩ := airL_eq I.1 r4' em hm
  have as0 : ∀ c, c < 12 → S.testBit c = true → c < t ∧ rd h (a + 4) c = 1 := fun c hc sc => by
    obtain ⟨b, hb, eb⟩ := (pS c hc).mp sc
    have := I.2.1.1 r b c hr (mb b hb) hc eb
    rw [tn] at this
    exact this
  have L1 : Lie t (vn (rd h a 12)) (fun r => vn (rd h (a + 7) r)) (fun c => vn (rd h (a + 3) c)) (fun c => rd h (a + 4) c = 1 ∧ (S.testBit c = true → c < 0)) (rd h1 (a + 8)) := by
    have L := Lie.clear (B' := rd h1 (a + 8)) I.1.n12 I.2.1 hr (fun b hb => by rw [b1, if_pos (by rw [mn] at hb; omega)]) (fun r' b hr' hb ne => by
      have := I.1.m9 r' hr'
      rw [b1, if_neg (by omega)])
    rw [tn] at L
    refine L.cg (fun _ _ => rfl) (fun _ _ _ => rfl) (fun c hc => ?_) (fun _ _ _ _ => rfl)
    show (rd h (a + 4) c = 1 ∧ (S.testBit c = true → c < 0)) ↔ rd h (a + 4) c = 1 ∧ ¬ ∃ b, b < vn (rd h (a + 7) r) ∧ rd h (a + 8) (r * 9 + b) = nI c
    rw [mn, ← pS c (by omega)]
    exact ⟨fun z => ⟨z.1, fun y => absurd (z.2 y) (Nat.not_lt_zero _)⟩, fun z => ⟨z.1, fun y => absurd y z.2⟩⟩
  obtain ⟨h2, e2, A2, f2, s2, L2⟩ := loop0 (fun n (s : Hp) v => A_airReel_L54 a (nI r) (nI S) n (nI v) s) 12
    (fun s v => v ≤ t ∧ Arc s a ∧ (∀ k, k ≠ a + 8 → k ≠ a + 4 → rd s k = rd h k) ∧ (∀ i, rd s (a + 4) i = rd h (a + 4) i) ∧ Lie t (vn (rd h a 12)) (fun r => vn (rd h (a + 7) r)) (fun c => vn (rd h (a + 3) c)) (fun c => rd h (a + 4) c = 1 ∧ (S.testBit c = true → c < v)) (rd s (a + 8)) ∧ ∀ b, b < m → 0 ≤ rd s (a + 8) (r * 9 + b) → ∃ c, c < v ∧ S.testBit c = true ∧ rd s (a + 8) (r * 9 + b) = nI c)
    (fun s => Arc s a ∧ (∀ k, k ≠ a + 8 → k ≠ a + 4 → rd s k = rd h k) ∧ (∀ i, rd s (a + 4) i = rd h (a + 4) i) ∧ Lie t (vn (rd h a 12)) (fun r => vn (rd h (a + 7) r)) (fun c => vn (rd h (a + 3) c)) (fun c => rd h (a + 4) c = 1) (rd s (a + 8))) (by decide) (fun n s v hv hj => by
    obtain ⟨hvt, A, f, s4, L, occ⟩ := hj
    rw [A_airReel_L54, f a (by omega) (by omega), et]
    by_cases q : t ≤ v
    · obtain rfl : v = t := by omega
      exact Or.inl ⟨_, if_pos (nI_le q (by omega)), A, f, s4, L.cg (fun _ _ => rfl) (fun _ _ _ => rfl) (fun c hc => ⟨fun z => ⟨z, fun _ => hc⟩, fun z => z.1⟩) (fun _ _ _ _ => rfl)⟩
    · rw [if_neg (nI_ge (by omega) (by omega)), nI_1]
      refine Or.inr ⟨by omega, ?_⟩
      by_cases z : (nI S >>> (nI v &&& 31)) &&& 1 = 1
      · have sv : S.testBit v = true := (bit_c (by omega) (by omega)).mp z
        have asv := as0 v (by omega) sv
        rw [if_pos z]
        have m9 : ∀ r, r < vn (rd h a 12) → vn (rd h (a + 7) r) ≤ 9 := I.1.m9
        rcases layDown_eq A (show v < 12 by omega) r4' with ⟨-, e⟩ | ⟨q', m', k, hq', hm', eq', em', hk, free, full, -, e⟩
        · exfalso
          obtain ⟨q', m', w, hq', hm', eq', em', ew, pw⟩ := passedBeds_ok A (show v < 12 by omega) r4'
          rw [e] at ew
          have ew := Option.some.inj ew
          rw [f _ (by omega) (by omega), em] at em'
          obtain rfl : m = m' := (nI_eq (by omega) (by omega)).mp em'
          rcases pw with ⟨-, full⟩ | ⟨k, hk, ek, -⟩
          · refine lie_room (m := m) (v := v) (B0 := fun b => rd h (a + 8) (r * 9 + b)) (B := fun b => rd s (a + 8) (r * 9 + b)) (S := fun c => S.testBit c) (by omega) sv (fun c hc sc => (pS c hc).mp sc) (fun b hb => ?_) (fun b b' c hb hb' hc e1 e2 => ?_)
            · obtain ⟨k, hk, ek⟩ := wb_all (q := q') hb
              have := full k hk
              rw [ek] at this
              exact occ b hb this
            · obtain ⟨hct, hca⟩ := L.1 r b c hr (mb b hb) (by omega) e1
              obtain ⟨r1, k1, -, -, -, -, u⟩ := L.2 c hct hca
              rw [(u r b hr (mb b hb) e1).2, (u r b' hr (mb b' hb') e2).2]
          · rw [ek] at ew
            exact nI_nm1 (by omega) ew.symm
        · rw [e, Option.bind_some]
          have eh : vn (rd h (a + 3) v) = q' := by rw [← f (a + 3) (by omega) (by omega), eq', vn_nI (by omega)]
          have em2 : m' = m := by
            rw [f _ (by omega) (by omega), em] at em'
            exact ((nI_eq (by omega) (by omega)).mp em').symm
          rw [em2] at hk free full e ⊢
          have LL := Lie.lay (c := v) (r := r) (k := k) (by omega) m9 L (by omega) (fun y => absurd (y.2 sv) (Nat.lt_irrefl _)) hr (mb k hk) (by rw [eh, mn]; exact free) (fun j hj => by rw [eh, mn]; exact full j hj)
          rw [eh, mn] at LL
          refine ⟨_, ⟨by omega, (A.wbed (Or.inr (Or.inr ⟨v, by omega, rfl⟩))).any (by omega), fun k0 a8 a4 => by rw [rd_up2_ne a4, rd_up2_ne a8]; exact f k0 a8 a4, fun i => ?_, ?_, fun b hb ge => ?_⟩, rfl⟩
          · rw [rd_up2_self, rd_up2_ne (show a + 4 ≠ a + 8 by omega)]
            by_cases y : i = v
            · subst y; rw [upd_self]; exact asv.2.symm
            · rw [upd_ne y]; exact s4 i
          · rw [rd_up2_ne (show a + 8 ≠ a + 4 by omega), rd_up2_self]
            refine LL.cg (fun _ _ => rfl) (fun _ _ _ => rfl) (fun c hc => ?_) (fun _ _ _ _ => rfl)
            constructor
            · rintro ⟨y1, y2⟩
              by_cases y : c = v
              · exact Or.inr y
              · exact Or.inl ⟨y1, fun sc => by have := y2 sc; omega⟩
            · rintro (⟨y1, y2⟩ | y)
              · exact ⟨y1, fun sc => by have := y2 sc; omega⟩
              · subst y; exact ⟨asv.2, fun _ => by omega⟩
          · rw [rd_up2_ne (show a + 8 ≠ a + 4 by omega), rd_up2_self] at ge ⊢
            by_cases y : r * 9 + b = r * 9 + wb q' m k
            · rw [y, upd_self]; exact ⟨v, by omega, sv, rfl⟩
            · rw [upd_ne y] at ge ⊢
              obtain ⟨c, hc, sc, ec⟩ := occ b hb ge
              exact ⟨c, by omega, sc, ec⟩
      · have sv : ¬ S.testBit v = true := fun y => z ((bit_c (by omega) (by omega)).mpr y)
        rw [if_neg z]
        refine ⟨s, ⟨by omega, A, f, s4, ?_, fun b hb ge => ?_⟩, rfl⟩
        · refine L.cg (fun _ _ => rfl) (fun _ _ _ => rfl) (fun c hc => ?_) (fun _ _ _ _ => rfl)
          constructor
          · rintro ⟨y1, y2⟩
            refine ⟨y1, fun sc => ?_⟩
            have := y2 sc
            by_cases y : c = v
            · subst y; exact absurd sc sv
            · omega
          · rintro ⟨y1, y2⟩
            exact ⟨y1, fun sc => by have := y2 sc; omega⟩
        · obtain ⟨c, hc, sc, ec⟩ := occ b hb ge
          exact ⟨c, by omega, sc, ec⟩) h1 ⟨Nat.zero_le _, A1, fun k h8 _ => f1 k h8, fun i => by rw [f1 _ (by omega)], L1, fun b hb ge => by
      rw [b1, if_pos (by omega)] at ge
      exact absurd ge (by decide)⟩
  have e2 : A_airReel_L54 a (nI r) (nI S) FU 0 h1 = some h2 := e2
  refine ⟨x, h2, ?_, ⟨A2, ?_, ?_⟩, fun k hk => f2 k (by omega) (by omega)⟩
  · unfold A_airReel
    rw [eS, Option.bind_some, e1, Option.bind_some]
    dsimp only
    rw [e2, Option.bind_some]
  · unfold LieA
    rw [f2 a (by omega) (by omega), f2 (a + 3) (by omega) (by omega), f2 (a + 7) (by omega) (by omega), tn]
    exact L2.cg (fun _ _ => rfl) (fun _ _ _ => rfl) (fun c _ => by rw [s2 c]) (fun _ _ _ _ => rfl)
  · exact I.2.2.of (by rw [f2 a (by omega) (by omega)]) (by rw [f2 a (by omega) (by omega)]) (by rw [f2 a (by omega) (by omega)]) (f2 _ (by omega) (by omega))
end
