/-! ===== no faults ===== -/
section
variable {h : Hp} {a : Nat}
theorem isum_fsum {f : Nat → Int32} (hf : Sm 12 99 f) : ∀ n, n ≤ 12 → isum f n = nI (fsum f n)
  | 0, _ => rfl
  | n + 1, hn => by
    obtain ⟨k, hk, ek⟩ := hf n (by omega)
    show isum f n + f n = nI (fsum f n + (f n).toNatClampNeg)
    rw [isum_fsum hf n (by omega), ek, nI_add, nI_clamp (by omega)]
theorem bedsWith_x (I : Arc h a) {c r0 b0 : Nat} (hr0 : r0 < vn (rd h a 12)) (hb0 : b0 < vn (rd h (a + 7) r0)) (e0 : rd h (a + 8) (r0 * 9 + b0) = nI c) (u : ∀ r b, r < vn (rd h a 12) → b < vn (rd h (a + 7) r) → rd h (a + 8) (r * 9 + b) = nI c → r = r0 ∧ b = b0) : A_bedsWith h a (nI c) = some 1 := by
  obtain ⟨t, ht, et⟩ := I.reels
  have vt : vn (rd h a 12) = t := by rw [et, vn_nI (by omega)]
  rw [vt] at hr0 u
  have inner : ∀ r, r < t → ∀ s : Int32, A_bedsWith_L15 h a (nI c) (nI r) FU s 0 = some (if r = r0 then s + 1 else s) := fun r hrt s => by
    have hr : r < 4 := by omega
    obtain ⟨m, hm, em⟩ := I.beds r hr
    have vm : vn (rd h (a + 7) r) = m := by rw [em, vn_nI (by omega)]
    obtain ⟨y, e, rfl⟩ := loop0 (fun n s v => A_bedsWith_L15 h a (nI c) (nI r) n s (nI v)) 9 (fun s' v => v ≤ m ∧ s' = if r = r0 ∧ b0 < v then s + 1 else s) (fun y => y = if r = r0 then s + 1 else s) (by decide) (fun n s' v hv hj => by
      obtain ⟨hvm, hj⟩ := hj
      rw [A_bedsWith_L15, r4 hr, Option.bind_some, em]
      by_cases q : m ≤ v
      · refine Or.inl ⟨_, if_pos (nI_le q (by omega)), ?_⟩
        rw [hj]
        by_cases z : r = r0
        · subst z
          rw [vm] at hb0
          rw [if_pos ⟨rfl, by omega⟩, if_pos rfl]
        · rw [if_neg (fun y => z y.1), if_neg z]
      · rw [if_neg (nI_ge (by omega) (by omega)), inBed_eq hr (by omega), Option.bind_some, nI_1]
        refine Or.inr ⟨by omega, ?_⟩
        by_cases z : rd h (a + 8) (r * 9 + v) = nI c
        · obtain ⟨z1, z2⟩ := u r v hrt (by rw [vm]; omega) z
          have nb : ¬ (r = r0 ∧ b0 < v) := fun y => by omega
          rw [if_pos z, hj, if_neg nb]
          exact ⟨_, ⟨by omega, by rw [if_pos ⟨z1, by omega⟩]⟩, rfl⟩
        · rw [if_neg z]
          refine ⟨_, ⟨by omega, ?_⟩, rfl⟩
          rw [hj]
          by_cases y : r = r0 ∧ b0 < v
          · rw [if_pos y, if_pos ⟨y.1, by omega⟩]
          · rw [if_neg y, if_neg (fun w => by
              obtain ⟨w1, w2⟩ := w
              by_cases w3 : b0 = v
              · subst w1 w3; exact z e0
              · exact y ⟨w1, by omega⟩)]) s ⟨Nat.zero_le _, by rw [if_neg (fun y => absurd y.2 (Nat.not_lt_zero _))]⟩
    exact e
  obtain ⟨y, e, rfl⟩ := loop0 (fun n s v => A_bedsWith_L4 h a (nI c) n s (nI v)) 4 (fun s v => v ≤ t ∧ s = if r0 < v then 1 else 0) (fun y => y = 1) (by decide) (fun n s v hv hj => by
    obtain ⟨hvt, hj⟩ := hj
    rw [A_bedsWith_L4, et]
    by_cases q : t ≤ v
    · exact Or.inl ⟨_, if_pos (nI_le q (by omega)), by rw [hj, if_pos (by omega)]⟩
    · rw [if_neg (nI_ge (by omega) (by omega)), inner v (by omega) s, Option.bind_some, nI_1]
      refine Or.inr ⟨by omega, _, ⟨by omega, ?_⟩, rfl⟩
      rw [hj]
      by_cases z : v = r0
      · subst z
        rw [if_pos rfl, if_neg (Nat.lt_irrefl _), if_pos (by omega)]; rfl
      · rw [if_neg z]
        by_cases y : r0 < v
        · rw [if_pos y, if_pos (by omega)]
        · rw [if_neg y, if_neg (by omega)]) 0 ⟨Nat.zero_le _, by rw [if_neg (Nat.not_lt_zero _)]⟩
  unfold A_bedsWith
  exact bO e _
theorem isFound_x (I : Arx h a) {c : Nat} (hc : c < vn (rd h a 5)) (ha : rd h (a + 4) c = 1) : A_isFound h a (nI c) = some true := by
  have n12 := I.1.n12
  have R4 := I.1.R4
  have c12 : c < 12 := by omega
  obtain ⟨r0, k0, hr0, hk0, e0, before, u⟩ := I.2.1.2 c hc ha
  have hk0 : k0 < vn (rd h (a + 7) r0) := hk0
  have e0 : rd h (a + 8) (r0 * 9 + wb (vn (rd h (a + 3) c)) (vn (rd h (a + 7) r0)) k0) = nI c := e0
  have before : ∀ j, j < k0 → rd h (a + 8) (r0 * 9 + wb (vn (rd h (a + 3) c)) (vn (rd h (a + 7) r0)) j) ≠ -1 := before
  obtain ⟨v, ev, p⟩ := placeOf_ok I.1 (nI c)
  unfold A_isFound
  rw [ev, Option.bind_some]
  rcases p with ⟨rfl, no⟩ | ⟨r, b, hb, rfl, eb⟩
  · exact absurd e0 (no r0 _ ((Ex_vn I.1).mpr ⟨hr0, wb_in hk0⟩))
  · have h1 := hb.1
    have h2 := hb.2.1
    obtain ⟨hrR, hbm⟩ := (Ex_vn I.1).mp hb
    obtain ⟨rr, -⟩ := u r b hrR hbm eb
    subst rr
    have d9 : nI (r * 9 + b) / 9 = nI r := by
      rw [show (9 : Int32) = nI 9 from rfl, pk_div (by omega) (by decide) (by decide)]
      congr 1; omega
    obtain ⟨q, m, k, hq, hm, eq, em, hk, hk1, ek, pre, stop⟩ := looks_ok I.1 c12 h1
    have vq : vn (rd h (a + 3) c) = q := by rw [eq, vn_nI (by omega)]
    have vm : vn (rd h (a + 7) r) = m := by rw [em, vn_nI (by omega)]
    rw [vm] at hk0
    rw [vq, vm] at e0 before
    have hk2 := hk1 (by omega)
    have hle : k ≤ k0 + 1 := by
      by_cases z : k0 + 1 < k
      · exact absurd e0 (pre k0 z).1
      · omega
    have found : rd h (a + 8) (r * 9 + wb q m (k - 1)) = nI c := by
      by_cases z : k - 1 = k0
      · rw [z]; exact e0
      · rcases stop (by omega) with y | y
        · exact y
        · exact absurd y (before (k - 1) (by omega))
    rw [if_neg (nI_nm1 (by omega)), d9, ek, Option.bind_some, show nI k - 1 = nI (k - 1) from pk_sub (b := 1) hk2, wayBed_eq c12 h1 eq hq em hm (by omega), Option.bind_some, inBed_eq h1 (wb_lt hm), Option.bind_some, if_pos found]
theorem and_not {S T : Nat} (hs : ∀ c, S.testBit c = true → T.testBit c = true) : nI S &&& (nI T ^^^ (-1)) = 0 := by
  apply Int32.toBitVec_inj.mp
  show BitVec.ofNat 32 S &&& (BitVec.ofNat 32 T ^^^ BitVec.allOnes 32) = 0#32
  apply BitVec.eq_of_getLsbD_eq
  intro i hi
  rw [BitVec.getLsbD_and, BitVec.getLsbD_xor, BitVec.getLsbD_ofNat, BitVec.getLsbD_ofNat, BitVec.getLsbD_allOnes, BitVec.getLsbD_zero, decide_eq_true hi, Bool.true_and, Bool.true_and]
  have := hs i
  cases hS : S.testBit i
  · rfl
  · rw [this hS]; rfl
theorem faults_x (I : Arx h a) : A_faults h a = some 0 := by
  obtain ⟨t, ht, et⟩ := I.1.clips
  obtain ⟨w, hw, ew⟩ := I.1.reels
  have vt : vn (rd h a 5) = t := by rw [et, vn_nI (by omega)]
  have vw : vn (rd h a 12) = w := by rw [ew, vn_nI (by omega)]
  have acc : (((40 * (rd h a 5)) + (rd h a 2)) - (nI (fsum (rd h (a + 5)) t))) - (rd h a 3) = 0 := by
    have A := I.2.2
    unfold AccA at A
    rw [A, vt, isum_fsum I.1.fats t ht, Int32.add_comm (nI _) (rd h a 3), Int32.add_sub_cancel, Int32.sub_self]
  obtain ⟨x, e1, rfl⟩ := loop0 (fun n s v => A_faults_L28 h a n s (nI v)) 12 (fun s _ => s = 0) (fun x => x = 0) (by decide) (fun n s v hv hj => by
    rw [A_faults_L28, et]
    by_cases q : t ≤ v
    · exact Or.inl ⟨_, if_pos (nI_le q (by omega)), hj⟩
    · rw [if_neg (nI_ge (by omega) (by omega)), r12 (by omega), Option.bind_some, nI_1]
      refine Or.inr ⟨by omega, ?_⟩
      by_cases z1 : rd h (a + 4) v = 1
      · obtain ⟨r0, k0, hr0, hk0, e0, -, u⟩ := I.2.1.2 v (by rw [vt]; omega) z1
        rw [if_pos z1, bedsWith_x I.1 hr0 (wb_in hk0) e0 u, Option.bind_some, if_pos rfl, isFound_x I (by rw [vt]; omega) z1, Option.bind_some, if_neg (by decide)]
        exact ⟨_, hj, rfl⟩
      · rw [if_neg z1]; exact ⟨_, hj, rfl⟩) 0 rfl
  obtain ⟨y, e2, rfl⟩ := loop0 (fun n s v => A_faults_L74 h a n s (nI v)) 4 (fun s _ => s = 0) (fun x => x = 0) (by decide) (fun n s v hv hj => by
    rw [A_faults_L74, ew]
    by_cases q : w ≤ v
    · exact Or.inl ⟨_, if_pos (nI_le q (by omega)), hj⟩
    · obtain ⟨S, hS, eS, pS⟩ := sleepersIn_ok I.1 (by omega : v < 4)
      obtain ⟨T, -, eT, pT⟩ := inState_ok I.1 1 et ht
      have sub : ∀ c, S.testBit c = true → T.testBit c = true := fun c sc => by
        have hc : c < 12 := by
          by_cases z : c < 12
          · exact z
          · have := Nat.testBit_lt_two_pow (x := S) (i := c) (Nat.lt_of_lt_of_le hS (Nat.pow_le_pow_right (n := 2) (i := 12) (j := c) (by decide) (by omega)))
            rw [this] at sc; cases sc
        obtain ⟨b, hb, hb2, eb⟩ := (pS c hc).mp sc
        obtain ⟨m, hm, em⟩ := I.1.beds v (by omega)
        rw [em] at hb2
        have hbm : b < vn (rd h (a + 7) v) := by rw [em, vn_nI (by omega)]; exact (nI_ltI (by omega) (by omega)).mp hb2
        obtain ⟨y1, y2⟩ := I.2.1.1 v b c (by rw [vw]; omega) hbm hc eb
        rw [vt] at y1
        exact (pT c).mpr ⟨y1, y2⟩
      have z0 : J_bitCount 0 = some 0 := by decide +kernel
      rw [if_neg (nI_ge (by omega) (by omega)), eS, Option.bind_some, eT, Option.bind_some, and_not sub, z0, Option.bind_some, nI_1]
      exact Or.inr ⟨by omega, _, by rw [hj]; rfl, rfl⟩) 0 rfl
  have e1 : A_faults_L28 h a FU 0 0 = some 0 := e1
  have e2 : A_faults_L74 h a FU 0 0 = some 0 := e2
  unfold A_faults
  rw [allFat_ok I.1 et ht, Option.bind_some, acc, show abI 0 = 0 by decide +kernel, e1, Option.bind_some, e2, Option.bind_some]
end
