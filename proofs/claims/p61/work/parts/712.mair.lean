/-! ===== the model: airing, cutting, adding, feeding, painting, weeks ===== -/
section
variable {h : Hp}
theorem mairs_x (w : Wfx (rd h 141)) {r : Nat} (hr : r < vn (rd h 141 3)) : ∃ v h', M_airs h (nI r) = some (v, h') ∧ Mz h h' := by
  have n12 := w.1.n12
  have R4 := w.1.R4
  have m9 := w.1.m9
  have r4' : r < 4 := by omega
  obtain ⟨t, ht, et⟩ := w.1.1
  have tn : vn (rd h 141 2) = t := by rw [et, vn_nI (by omega)]
  obtain ⟨m, hm, em⟩ := w.1.2.2.2.2.2.1 r r4'
  have mn : vn (rd h 141 (56 + r)) = m := by rw [em, vn_nI (by omega)]
  have mb : ∀ b, b < m → b < vn (rd h 141 (56 + r)) := fun b hb => by rw [mn]; exact hb
  obtain ⟨S, hS, eS, -, pS0⟩ := msleepersIn_ok w.1 r4' hm em
  have pS : ∀ c, c < 12 → (S.testBit c = true ↔ ∃ b, b < m ∧ rd h 141 (60 + (r * 9 + b)) = nI c) := fun c hc => (pS0 c hc).trans (by
    constructor
    · rintro ⟨b, hb, eb⟩; exact ⟨b, hb, by rw [show r * 9 + b = 9 * r + b by omega]; exact eb⟩
    · rintro ⟨b, hb, eb⟩; exact ⟨b, hb, by rw [show 9 * r + b = r * 9 + b by omega]; exact eb⟩)
  obtain ⟨⟨x, h1⟩, e1, A1, f1, b1⟩ := loop0 (fun n (s : Int32 × Hp) v => M_airs_L11 (nI r) n s.1 (nI v) s.2) 9 (fun s v => v ≤ m ∧ Mk h s.2 ∧ (∀ i, i < 60 ∨ 96 ≤ i → rd s.2 141 i = rd h 141 i) ∧ ∀ i, rd s.2 141 (60 + i) = if r * 9 ≤ i ∧ i < r * 9 + v then -1 else rd h 141 (60 + i)) (fun s => Mk h s.2 ∧ (∀ i, i < 60 ∨ 96 ≤ i → rd s.2 141 i = rd h 141 i) ∧ ∀ i, rd s.2 141 (60 + i) = if r * 9 ≤ i ∧ i < r * 9 + m then -1 else rd h 141 (60 + i)) (by decide) (fun n s v hv hj => by
    obtain ⟨hvm, A, f, b⟩ := hj
    have em' : rd s.2 141 (56 + r) = nI m := by rw [f _ (by omega)]; exact em
    rw [M_airs_L11, mbeds_ok r4', Option.bind_some, em']
    by_cases q : m ≤ v
    · obtain rfl : v = m := by omega
      exact Or.inl ⟨_, if_pos (nI_le q (by omega)), A, f, b⟩
    · rw [if_neg (nI_ge (by omega) (by omega)), minBed_ok r4' (by omega), Option.bind_some]
      unfold lt
      dsimp only
      rw [msetBed_eq r4' (by omega), Option.bind_some, nI_1]
      have w' : v + 1 ≤ m ∧ Mk h (up2 s.2 141 (60 + (9 * r + v)) (-1)) ∧ (∀ i, i < 60 ∨ 96 ≤ i → rd (up2 s.2 141 (60 + (9 * r + v)) (-1)) 141 i = rd h 141 i) ∧ ∀ i, rd (up2 s.2 141 (60 + (9 * r + v)) (-1)) 141 (60 + i) = if r * 9 ≤ i ∧ i < r * 9 + (v + 1) then -1 else rd h 141 (60 + i) := by
        refine ⟨by omega, mk_up A (wf_bed A.1 (by omega) (Or.inl rfl)), fun i hi => by rw [rd_up2_self, upd_ne (by omega)]; exact f i hi, fun i => ?_⟩
        rw [rd_up2_self]
        by_cases z : i = 9 * r + v
        · subst z; rw [upd_self, if_pos (by omega)]
        · rw [upd_ne (by omega), b]
          by_cases y : r * 9 ≤ i ∧ i < r * 9 + v
          · rw [if_pos y, if_pos (by omega)]
          · rw [if_neg y, if_neg (by omega)]
      refine Or.inr ⟨by omega, ?_⟩
      by_cases z : rd s.2 141 (60 + (9 * r + v)) = -2
      · rw [if_pos z]; exact ⟨(_, _), w', rfl⟩
      · rw [if_neg z]; exact ⟨(_, _), w', rfl⟩) (0, h) ⟨Nat.zero_le _, Mk.rf w.1, fun _ _ => rfl, fun i => by rw [if_neg (by omega)]⟩
  have e1 : M_airs_L11 (nI r) FU 0 0 h = some (x, h1) := e1
  dsimp only at A1 f1 b1
  have as0 : ∀ c, c < 12 → S.testBit c = true → c < t ∧ rd h 141 (8 + 4 * c + 1) = 1 := fun c hc sc => by
    obtain ⟨b, hb, eb⟩ := (pS c hc).mp sc
    have := w.2.1.1 r b c hr (mb b hb) hc eb
    rw [tn] at this
    exact this
  have L1 : Lie t (vn (rd h 141 3)) (fun r => vn (rd h 141 (56 + r))) (fun c => hx (rd h 141 (8 + 4 * c))) (fun c => rd h 141 (8 + 4 * c + 1) = 1 ∧ (S.testBit c = true → c < 0)) (fun i => rd h1 141 (60 + i)) := by
    have L := Lie.clear (B' := fun i => rd h1 141 (60 + i)) w.1.n12 w.2.1 hr (fun b hb => by rw [b1, if_pos (by rw [mn] at hb; omega)]) (fun r' b hr' hb ne => by
      have := m9 r' hr'
      rw [b1, if_neg (by omega)])
    rw [tn] at L
    refine L.cg (fun _ _ => rfl) (fun _ _ _ => rfl) (fun c hc => ?_) (fun _ _ _ _ => rfl)
    show (rd h 141 (8 + 4 * c + 1) = 1 ∧ (S.testBit c = true → c < 0)) ↔ rd h 141 (8 + 4 * c + 1) = 1 ∧ ¬ ∃ b, b < vn (rd h 141 (56 + r)) ∧ rd h 141 (60 + (r * 9 + b)) = nI c
    rw [mn, ← pS c (by omega)]
    exact ⟨fun z => ⟨z.1, fun y => absurd (z.2 y) (Nat.not_lt_zero _)⟩, fun z => ⟨z.1, fun y => absurd y z.2⟩⟩
  obtain ⟨h2, e2, A2, f2, L2⟩ := loop0 (fun n (s : Hp) v => M_airs_L58 (nI r) (nI S) n (nI v) s) 12
    (fun s v => v ≤ t ∧ Mk h s ∧ (∀ i, i < 60 ∨ 96 ≤ i → rd s 141 i = rd h 141 i) ∧ Lie t (vn (rd h 141 3)) (fun r => vn (rd h 141 (56 + r))) (fun c => hx (rd h 141 (8 + 4 * c))) (fun c => rd h 141 (8 + 4 * c + 1) = 1 ∧ (S.testBit c = true → c < v)) (fun i => rd s 141 (60 + i)) ∧ ∀ b, b < m → 0 ≤ rd s 141 (60 + (r * 9 + b)) → ∃ c, c < v ∧ S.testBit c = true ∧ rd s 141 (60 + (r * 9 + b)) = nI c)
    (fun s => Mk h s ∧ (∀ i, i < 60 ∨ 96 ≤ i → rd s 141 i = rd h 141 i) ∧ Lie t (vn (rd h 141 3)) (fun r => vn (rd h 141 (56 + r))) (fun c => hx (rd h 141 (8 + 4 * c))) (fun c => rd h 141 (8 + 4 * c + 1) = 1) (fun i => rd s 141 (60 + i))) (by decide) (fun n s v hv hj => by
    obtain ⟨hvt, A, f, L, occ⟩ := hj
    rw [M_airs_L58, m2, Option.bind_some, f 2 (by omega), et]
    by_cases q : t ≤ v
    · obtain rfl : v = t := by omega
      exact Or.inl ⟨_, if_pos (nI_le q (by omega)), A, f, L.cg (fun _ _ => rfl) (fun _ _ _ => rfl) (fun c hc => ⟨fun z => ⟨z, fun _ => hc⟩, fun z => z.1⟩) (fun _ _ _ _ => rfl)⟩
    · rw [if_neg (nI_ge (by omega) (by omega)), nI_1]
      refine Or.inr ⟨by omega, ?_⟩
      have hv12 : v < 12 := by omega
      by_cases z : (nI S >>> (nI v &&& 31)) &&& 1 = 1
      · have sv : S.testBit v = true := (bit_c (by omega) hv12).mp z
        have asv := as0 v hv12 sv
        have ems : rd s 141 (56 + r) = nI m := by rw [f _ (by omega)]; exact em
        have hu : ∃ u, M_passedBy s (nI v) (nI r) = some u ∧ u ≠ -1 := by
          obtain ⟨q', m', u, hq', hm', eq', em', eu, p⟩ := mpassedBy_ok A.1 hv12 r4'
          rw [ems] at em'
          obtain rfl : m = m' := (nI_eq (by omega) (by omega)).mp em'
          refine ⟨u, eu, ?_⟩
          rcases p with ⟨-, full⟩ | ⟨k, hk, rfl, -⟩
          · exfalso
            refine lie_room (m := m) (v := v) (B0 := fun b => rd h 141 (60 + (r * 9 + b))) (B := fun b => rd s 141 (60 + (r * 9 + b))) (S := fun c => S.testBit c) hv12 sv (fun c hc sc => (pS c hc).mp sc) (fun b hb => ?_) (fun b b' c hb hb' hc e1 e2 => ?_)
            · obtain ⟨k, hk, ek⟩ := way_all (q := q') hb
              have := full k hk
              rw [ek, show 9 * r + b = r * 9 + b by omega] at this
              exact occ b hb this
            · obtain ⟨hct, hca⟩ := L.1 r b c hr (mb b hb) (by omega) e1
              obtain ⟨r1, k1, -, -, -, -, u⟩ := L.2 c hct hca
              rw [(u r b hr (mb b hb) e1).2, (u r b' hr (mb b' hb') e2).2]
          · exact nI_nm1 (by omega)
        obtain ⟨q', m', k, hq', hm', eq', em', hk, free, full, e3, m3'⟩ := mliesDown_eq A.1 hv12 r4' hu
        rw [ems] at em'
        obtain rfl : m = m' := (nI_eq (by omega) (by omega)).mp em'
        have hb := Nat.mod_lt (q' + k) (show 0 < m by omega)
        have wbe : ∀ j, wb q' m j = (q' + j) % m := fun j => by unfold wb; rw [if_pos (by omega)]
        have eh : hx (rd h 141 (8 + 4 * v)) = q' := by rw [← f _ (by omega)]; exact hx_eq hv12 hq' eq'
        rw [if_pos z, e3, Option.bind_some]
        have LL := Lie.lay (c := v) (r := r) (k := k) (by omega) m9 L (by omega) (fun y => absurd (y.2 sv) (Nat.lt_irrefl _)) hr (mb k hk) (by rw [eh, mn, wbe, show r * 9 + (q' + k) % m = 9 * r + (q' + k) % m by omega]; exact free) (fun j hj => by rw [eh, mn, wbe, show r * 9 + (q' + j) % m = 9 * r + (q' + j) % m by omega]; exact full j hj)
        rw [eh, mn, wbe] at LL
        have rB : ∀ i, rd (up2 (up2 s 141 (60 + (9 * r + (q' + k) % m)) (nI v)) 141 (8 + 4 * v + 1) 1) 141 (60 + i) = upd (fun i => rd s 141 (60 + i)) (r * 9 + (q' + k) % m) (nI v) i := fun i => by
          rw [rd_up2_self, rd_up2_self, upd_ne (by omega)]
          by_cases y : i = r * 9 + (q' + k) % m
          · subst y
            rw [upd_self, show 60 + (r * 9 + (q' + k) % m) = 60 + (9 * r + (q' + k) % m) by omega, upd_self]
          · rw [upd_ne y, upd_ne (by omega)]
        refine ⟨_, ⟨by omega, ⟨m3'.1, fun k0 hk0 => by rw [m3'.2 k0 hk0, A.2 k0 hk0]⟩, fun i hi => ?_, ?_, fun b hb ge => ?_⟩, rfl⟩
        · rw [rd_up2_self, rd_up2_self]
          by_cases y : i = 8 + 4 * v + 1
          · subst y; rw [upd_self]; exact asv.2.symm
          · rw [upd_ne y, upd_ne (by omega)]; exact f i hi
        · refine LL.cg (fun _ _ => rfl) (fun _ _ _ => rfl) (fun c hc => ?_) (fun r' b' _ _ => rB _)
          constructor
          · rintro ⟨y1, y2⟩
            by_cases y : c = v
            · exact Or.inr y
            · exact Or.inl ⟨y1, fun sc => by have := y2 sc; omega⟩
          · rintro (⟨y1, y2⟩ | y)
            · exact ⟨y1, fun sc => by have := y2 sc; omega⟩
            · subst y; exact ⟨asv.2, fun _ => by omega⟩
        · rw [rB] at ge ⊢
          by_cases y : r * 9 + b = r * 9 + (q' + k) % m
          · rw [y, upd_self]; exact ⟨v, by omega, sv, rfl⟩
          · rw [upd_ne y] at ge ⊢
            obtain ⟨c, hc, sc, ec⟩ := occ b hb ge
            exact ⟨c, by omega, sc, ec⟩
      · have sv : ¬ S.testBit v = true := fun y => z ((bit_c (by omega) hv12).mpr y)
        rw [if_neg z]
        refine ⟨s, ⟨by omega, A, f, ?_, fun b hb ge => ?_⟩, rfl⟩
        · refine L.cg (fun _ _ => rfl) (fun _ _ _ => rfl) (fun c hc => ?_) (fun _ _ _ _ => rfl)
          constructor
          · rintro ⟨y1, y2⟩
            refine ⟨y1, fun sc => ?_⟩
            have := y2 sc
            by_cases y : c = v
            · subst y; exact absurd sc sv
            · omega
          · rintro ⟨y1, y2⟩
            exact ⟨y1, fun sc => by have := y2 sc; omega⟩
        · obtain ⟨c, hc, sc, ec⟩ := occ b hb ge
          exact ⟨c, by omega, sc, ec⟩) h1 ⟨Nat.zero_le _, A1, f1, L1, fun b hb ge => by
      rw [b1, if_pos (by omega)] at ge
      exact absurd ge (by decide)⟩
  have e2 : M_airs_L58 (nI r) (nI S) FU 0 h1 = some h2 := e2
  refine ⟨x, h2, ?_, ⟨A2.1, ?_, ?_⟩, A2.2⟩
  · unfold M_airs
    rw [eS, Option.bind_some, e1, Option.bind_some]
    dsimp only
    rw [e2, Option.bind_some]
  · unfold LieM
    rw [f2 2 (by omega), f2 3 (by omega), tn]
    exact L2.cg (fun r _ => by rw [f2 (56 + r) (by have : r < 4 := by omega
                                                   omega)]) (fun c _ _ => by rw [f2 (8 + 4 * c) (by omega)]) (fun c _ => by rw [f2 (8 + 4 * c + 1) (by omega)]) (fun _ _ _ _ => rfl)
  · exact w.2.2.of w.1 (f2 2 (by omega)) (f2 6 (by omega)) (f2 5 (by omega)) (fun c _ => f2 _ (by omega))
end
