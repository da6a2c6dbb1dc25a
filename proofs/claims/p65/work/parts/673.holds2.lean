/-! ===== p65: holds, all of it ===== -/
/-- the beds in which a clip lies, by reel * 9 + bed -/
noncomputable def occ (h : Hp) (R : Nat) (i : Nat) : Bool := decide (i / 9 < R ∧ i % 9 < vn (rd h (1 + 7) (i / 9)) ∧ 0 ≤ rd h (1 + 8) i)
noncomputable def asl (h : Hp) (c : Nat) : Bool := decide (rd h (1 + 4) c = 1)
theorem cn_flat {p : Nat → Bool} {a : Nat} : ∀ d, (∀ i, a ≤ i → i < a + d → p i = false) → cn p (a + d) = cn p a
  | 0, _ => rfl
  | d + 1, h => by
    show cn p (a + d) + (if p (a + d) = true then 1 else 0) = cn p a
    rw [cn_flat d (fun i h1 h2 => h i h1 (by omega)), h (a + d) (by omega) (by omega), if_neg (by decide), Nat.add_zero]
theorem cn_lt {p : Nat → Bool} : ∀ n, cn p n ≤ n
  | 0 => Nat.le_refl _
  | n + 1 => by
    have := cn_lt (p := p) n
    show cn p n + (if p n = true then 1 else 0) ≤ n + 1
    by_cases e : p n = true
    · rw [if_pos e]; omega
    · rw [if_neg e]; omega
theorem cn_s {p : Nat → Bool} (n : Nat) : cn p (n + 1) = cn p n + (if p n = true then 1 else 0) := rfl
section
variable {h : Hp}
theorem bf0 : (b2i false = b2i false) = True := by decide
theorem bt0 : (b2i true = b2i true) = True := by decide
theorem b10 : ((1 : Int32) = b2i true) = True := by decide
theorem b00 : ((0 : Int32) = b2i false) = True := by decide
theorem holds52_step (I : Ary h 1) {n R S v F a : Nat} (k : Nat) (en : rd h 1 5 = nI n) (hn : n ≤ 12) (eR : rd h 1 12 = nI R) (hR : R ≤ 4) (eS : rd h 1 15 = nI S) (hS : S ≤ 5) (hv : v < n) (hF : F < 4096) : L_holds_L52 h (k + 1) (nI a) (nI F) (nI v) = L_holds_L52 h k (nI (a + (if asl h v = true then 1 else 0))) (nI (if rd h (1 + 4) v = 2 then F ||| 2 ^ v else F)) (nI (v + 1)) := by
  have v15 : vn (rd h 1 15) = S := by rw [eS, vn_nI (by omega)]
  have v5 : vn (rd h 1 5) = n := by rw [en, vn_nI (by omega)]
  obtain ⟨-, -, xc, -⟩ := I.2
  obtain ⟨st, ff, -, sc⟩ := xc v (by rw [v5]; exact hv)
  obtain ⟨f, hf, ef⟩ := I.1.1.fats v (by omega)
  have h67 := holds67_eq I en hn eR hR hv
  have est := state_eq en hn hv
  have efat : C_fat h (nI v) = some (nI f) := by rw [fat_eq en hn hv, ef]
  have esc := sceneOf_eq en hn hv
  have eC : C_clipCount h = some (nI n) := by unfold C_clipCount; rw [en]
  have eSc : C_sceneCount h = some (nI S) := by unfold C_sceneCount; rw [eS]
  have q0 : (nI n ≤ nI v) = False := eq_false (nI_ge hv (by omega))
  have q1 : (nI f < 0) = False := eq_false (nI_pos (by omega))
  have q2 : (99 < nI f) = False := eq_false (nI_nlt (a := 99) (by omega) (by decide))
  have q3 : (rd h (1 + 6) v < -1) = False := by
    rcases sc with e | ⟨s, hs, e⟩
    · rw [e]; decide
    · rw [e]
      refine eq_false fun w => nI_pos (n := s) (by omega) ?_
      rw [Int32.lt_iff_toInt_lt] at w ⊢
      have h1 : (-1 : Int32).toInt = -1 := by decide
      have h0 : (0 : Int32).toInt = 0 := by decide
      omega
  have q4 : (rd h (1 + 6) v < nI S) = True := by
    rcases sc with e | ⟨s, hs, e⟩
    · rw [e]
      refine eq_true ?_
      rw [Int32.lt_iff_toInt_lt, nI_toInt (by omega)]
      have h1 : (-1 : Int32).toInt = -1 := by decide
      omega
    · rw [e]; exact eq_true (nI_lt (by omega) (by omega))
  have i12 : ((1 : Int32) = 2) = False := by decide
  have i01 : ((0 : Int32) = 1) = False := by decide
  have i02 : ((0 : Int32) = 2) = False := by decide
  have i21 : ((2 : Int32) = 1) = False := by decide
  have o0 : nI F ||| 0 = nI F := by
    have := nI_or F 0
    rw [Nat.or_zero] at this
    exact this
  rw [ef] at ff
  rcases st with s0 | s1 | s2
  · -- awake
    have fz : (nI f = 0) = False := eq_false fun w => by
      have := ff.mp w
      rw [s0] at this
      exact absurd this (by decide)
    rcases where_eq I en hn eR hR hv with ⟨-, er, eb, -⟩ | ⟨w, -⟩
    · have a0 : asl h v = false := by unfold asl; rw [s0]; decide
      rw [s0] at est h67
      rw [if_neg (by decide)] at h67
      rw [L_holds_L52, a0, s0]
      simp only [eC, h67, est, efat, esc, eSc, er, eb, Option.bind_some, lt, q0, q1, q2, q3, q4, fz, i01, i02, bf0, b00, o0, i_add0, nI_1, if_true, if_false, eq_self_iff_true]
      all_goals rfl
    · rw [s0] at w; exact absurd w (by decide)
  · -- asleep
    have fz : (nI f = 0) = False := eq_false fun w => by
      have := ff.mp w
      rw [s1] at this
      exact absurd this (by decide)
    rcases where_eq I en hn eR hR hv with ⟨w, -⟩ | ⟨-, r, k0, hr, hk, e0, cold, -, er, eb⟩
    · exact absurd s1 w
    · have a1 : asl h v = true := by unfold asl; rw [s1]; decide
      have eF := isFound_true I en hn eR hR hv hr hk e0 cold
      rw [s1] at est h67
      rw [if_pos rfl] at h67
      rw [L_holds_L52, a1, s1]
      simp only [eC, h67, est, efat, esc, eSc, er, eF, Option.bind_some, lt, q0, q1, q2, q3, q4, fz, i12, bf0, b10, bt, o0, nI_1, if_true, if_false, eq_self_iff_true]
      all_goals rfl
  · -- faded
    have fz : (nI f = 0) = True := eq_true (ff.mpr s2)
    rcases where_eq I en hn eR hR hv with ⟨-, er, eb, -⟩ | ⟨w, -⟩
    · have a0 : asl h v = false := by unfold asl; rw [s2]; decide
      rw [s2] at est h67
      rw [if_neg (by decide)] at h67
      rw [L_holds_L52, a0, s2]
      simp only [eC, h67, est, efat, esc, eSc, er, eb, Option.bind_some, lt, q0, q1, q2, q3, q4, fz, i21, i01, b00, bt0, i_add0, nI_1, if_true, if_false, eq_self_iff_true, or_c (S := F) (show v < 12 by omega)]
      all_goals rfl
    · rw [s2] at w; exact absurd w (by decide)
theorem holds52_eq (I : Ary h 1) {n R S : Nat} (en : rd h 1 5 = nI n) (hn : n ≤ 12) (eR : rd h 1 12 = nI R) (hR : R ≤ 4) (eS : rd h 1 15 = nI S) (hS : S ≤ 5) : ∃ F, F < 4096 ∧ L_holds_L52 h FU 0 0 0 = some (.inl (nI (cn (asl h) n), nI F)) ∧ ∀ c, F.testBit c = true ↔ c < n ∧ rd h (1 + 4) c = 2 := by
  obtain ⟨x, e, F, hF, ex, pF⟩ := loop0 (fun k (s : Int32 × Int32) v => L_holds_L52 h k s.1 s.2 (nI v)) n (fun s v => ∃ F, F < 4096 ∧ s = (nI (cn (asl h) v), nI F) ∧ ∀ c, F.testBit c = true ↔ c < v ∧ rd h (1 + 4) c = 2) (fun x => ∃ F, F < 4096 ∧ x = .inl (nI (cn (asl h) n), nI F) ∧ ∀ c, F.testBit c = true ↔ c < n ∧ rd h (1 + 4) c = 2) (by omega) (fun k s v hv j => by
    obtain ⟨F, hF, es, pF⟩ := j
    subst es
    dsimp only
    by_cases q : n ≤ v
    · obtain rfl : v = n := by omega
      refine Or.inl ⟨.inl (nI (cn (asl h) v), nI F), ?_, F, hF, rfl, pF⟩
      have eC : C_clipCount h = some (nI v) := by unfold C_clipCount; rw [en]
      rw [L_holds_L52, eC, Option.bind_some, if_pos (nI_le (Nat.le_refl _) (by omega))]
    · refine Or.inr ⟨by omega, (nI (cn (asl h) (v + 1)), nI (if rd h (1 + 4) v = 2 then F ||| 2 ^ v else F)), ⟨_, ?_, rfl, fun c => ?_⟩, ?_⟩
      · by_cases z : rd h (1 + 4) v = 2
        · rw [if_pos z]; exact or_lt hF (by omega)
        · rw [if_neg z]; exact hF
      · by_cases z : rd h (1 + 4) v = 2
        · rw [if_pos z, Nat.testBit_or, Nat.testBit_two_pow]
          by_cases y : c = v
          · subst y
            simp only [decide_true, Bool.or_true, true_iff]
            exact ⟨Nat.lt_succ_self _, z⟩
          · rw [show decide (v = c) = false from decide_eq_false (fun w => y w.symm), Bool.or_false, pF c]
            constructor
            · rintro ⟨a, b⟩; exact ⟨by omega, b⟩
            · rintro ⟨a, b⟩; exact ⟨by omega, b⟩
        · rw [if_neg z, pF c]
          constructor
          · rintro ⟨a, b⟩; exact ⟨by omega, b⟩
          · rintro ⟨a, b⟩
            refine ⟨?_, b⟩
            by_cases y : c = v
            · subst y; exact absurd b z
            · omega
      · exact holds52_step I k en hn eR hR eS hS (by omega) hF) (0, 0) ⟨0, by decide, rfl, fun c => by simp⟩
  refine ⟨F, hF, ?_, pF⟩
  rw [← ex]; exact e
theorem occ_eq (A : Arc h 1) {R r m b : Nat} (hr : r < R) (em : vn (rd h (1 + 7) r) = m) (hm : m ≤ 9) (hb : b < 9) : occ h R (r * 9 + b) = decide (b < m ∧ 0 ≤ rd h (1 + 8) (r * 9 + b)) := by
  unfold occ
  have e1 : (r * 9 + b) / 9 = r := by omega
  have e2 : (r * 9 + b) % 9 = b := by omega
  rw [e1, e2, em]
  by_cases z : b < m ∧ 0 ≤ rd h (1 + 8) (r * 9 + b)
  · rw [decide_eq_true z, decide_eq_true ⟨hr, z⟩]
  · rw [decide_eq_false z, decide_eq_false (fun w => z w.2)]
theorem holds341_eq (I : Ary h 1) {R r : Nat} (eR : rd h 1 12 = nI R) (hR : R ≤ 4) (hr : r < R) : L_holds_L341 h (nI r) FU (nI (cn (occ h R) (r * 9))) 0 = some (nI (cn (occ h R) ((r + 1) * 9))) := by
  have vR : vn (rd h 1 12) = R := by rw [eR, vn_nI (by omega)]
  obtain ⟨m, m1, hm, em, vm⟩ := I.cnt (r := r) (by rw [vR]; omega)
  have flat : cn (occ h R) ((r + 1) * 9) = cn (occ h R) (r * 9 + m) := by
    rw [show (r + 1) * 9 = (r * 9 + m) + (9 - m) by omega]
    refine cn_flat _ (fun i h1 h2 => ?_)
    obtain ⟨b, rfl⟩ : ∃ b, i = r * 9 + b := ⟨i - r * 9, by omega⟩
    rw [occ_eq I.1.1 hr vm hm (by omega)]
    exact decide_eq_false (fun w => by omega)
  obtain ⟨x, e, p⟩ := loop0 (fun k (s : Int32) v => L_holds_L341 h (nI r) k s (nI v)) m (fun s v => s = nI (cn (occ h R) (r * 9 + v))) (fun x => x = nI (cn (occ h R) (r * 9 + m))) (by omega) (fun k s v hv j => by
    rw [L_holds_L341, bedCount_eq eR hR hr, Option.bind_some, em]
    by_cases w : m ≤ v
    · obtain rfl : v = m := by omega
      exact Or.inl ⟨_, if_pos (nI_le w (by omega)), j⟩
    · rw [if_neg (nI_ge (by omega) (by omega)), bed_eq eR hR hr em hm (by omega), Option.bind_some, nI_1, i_add0]
      refine Or.inr ⟨by omega, ?_⟩
      have oc := occ_eq (R := R) I.1.1 hr vm hm (show v < 9 by omega)
      by_cases z : rd h (1 + 8) (r * 9 + v) < 0
      · rw [if_pos z]
        refine ⟨s, ?_, rfl⟩
        have np : ¬ (v < m ∧ 0 ≤ rd h (1 + 8) (r * 9 + v)) := fun w => by
          have w2 := w.2
          rw [Int32.le_iff_toInt_le] at w2
          rw [Int32.lt_iff_toInt_lt] at z
          omega
        rw [j, show r * 9 + (v + 1) = (r * 9 + v) + 1 from rfl, cn_s, oc, decide_eq_false np, if_neg (by decide), Nat.add_zero]
      · rw [if_neg z]
        refine ⟨s + 1, ?_, rfl⟩
        have np : v < m ∧ 0 ≤ rd h (1 + 8) (r * 9 + v) := ⟨by omega, by
          rw [Int32.le_iff_toInt_le]
          rw [Int32.lt_iff_toInt_lt] at z
          omega⟩
        rw [j, nI_1, show r * 9 + (v + 1) = (r * 9 + v) + 1 from rfl, cn_s, oc, decide_eq_true np, if_pos rfl]) (nI (cn (occ h R) (r * 9))) rfl
  rw [flat, ← p]; exact e
theorem holds329_eq (I : Ary h 1) {R : Nat} (eR : rd h 1 12 = nI R) (hR : R ≤ 4) : L_holds_L329 h FU 0 0 = some (nI (cn (occ h R) 36)) := by
  have flat : cn (occ h R) 36 = cn (occ h R) (R * 9) := by
    rw [show 36 = R * 9 + (36 - R * 9) by omega]
    refine cn_flat _ (fun i h1 h2 => ?_)
    unfold occ
    exact decide_eq_false (fun w => by omega)
  obtain ⟨x, e, p⟩ := loop0 (fun k (s : Int32) v => L_holds_L329 h k s (nI v)) R (fun s v => s = nI (cn (occ h R) (v * 9))) (fun x => x = nI (cn (occ h R) (R * 9))) (by omega) (fun k s v hv j => by
    rw [L_holds_L329]
    unfold C_reelCount
    rw [Option.bind_some, eR]
    by_cases w : R ≤ v
    · obtain rfl : v = R := by omega
      exact Or.inl ⟨_, if_pos (nI_le w (by omega)), j⟩
    · rw [if_neg (nI_ge (by omega) (by omega)), j, holds341_eq I eR hR (by omega), Option.bind_some, nI_1]
      exact Or.inr ⟨by omega, _, rfl, rfl⟩) 0 (by rw [Nat.zero_mul]; rfl)
  rw [flat, ← p]; exact e
/-- as many beds with a clip as clips asleep -/
theorem occ_asl (I : Ary h 1) {n R : Nat} (en : rd h 1 5 = nI n) (hn : n ≤ 12) (eR : rd h 1 12 = nI R) (hR : R ≤ 4) : cn (occ h R) 36 = cn (asl h) n := by
  have Li := I.1.2.1
  have m9 := I.1.1.m9
  unfold LieA at Li
  rw [en, vn_nI (by omega), eR, vn_nI (by omega)] at Li
  rw [eR, vn_nI (by omega)] at m9
  refine Nat.le_antisymm (cn_inj (N := n) (Rl := fun i c => i / 9 < R ∧ i % 9 < vn (rd h (1 + 7) (i / 9)) ∧ c < n ∧ rd h (1 + 4) c = 1 ∧ rd h (1 + 8) i = nI c) 36 _ _ (fun i hi p => ?_) (fun i i' c hi hi' x y => ?_)) (cn_inj (N := 36) (Rl := fun c i => c < n ∧ rd h (1 + 8) i = nI c) n _ _ (fun c hc p => ?_) (fun c c' i hc hc' x y => ?_))
  · obtain ⟨h1, h2, h3⟩ := of_decide_eq_true p
    rcases bed_cases I.1.1 hi with q | ⟨c, hc, ec⟩
    · exfalso
      rw [Int32.le_iff_toInt_le] at h3
      rw [Int32.lt_iff_toInt_lt] at q
      omega
    · have e9 : i / 9 * 9 + i % 9 = i := by omega
      obtain ⟨y1, y2⟩ := Li.1 (i / 9) (i % 9) c h1 h2 hc (by rw [e9]; exact ec)
      have y2 : rd h (1 + 4) c = 1 := y2
      exact ⟨c, y1, decide_eq_true y2, h1, h2, y1, y2, ec⟩
  · obtain ⟨x1, x2, x3, x4, x5⟩ := x
    obtain ⟨y1, y2, -, -, y5⟩ := y
    obtain ⟨r, k, -, -, -, -, u⟩ := Li.2 c x3 x4
    have u : ∀ r' b', r' < R → b' < vn (rd h (1 + 7) r') → rd h (1 + 8) (r' * 9 + b') = nI c → r' = r ∧ b' = wb (vn (rd h (1 + 3) c)) (vn (rd h (1 + 7) r)) k := u
    have e1 := u (i / 9) (i % 9) x1 x2 (by rw [show i / 9 * 9 + i % 9 = i by omega]; exact x5)
    have e2 := u (i' / 9) (i' % 9) y1 y2 (by rw [show i' / 9 * 9 + i' % 9 = i' by omega]; exact y5)
    omega
  · obtain ⟨r, k, h1, h2, h3, -, -⟩ := Li.2 c hc (of_decide_eq_true p)
    have h2 : k < vn (rd h (1 + 7) r) := h2
    have h3 : rd h (1 + 8) (r * 9 + wb (vn (rd h (1 + 3) c)) (vn (rd h (1 + 7) r)) k) = nI c := h3
    have w := wb_in (q := vn (rd h (1 + 3) c)) h2
    have := m9 r h1
    refine ⟨_, by omega, ?_, hc, h3⟩
    rw [occ_eq I.1.1 h1 rfl this (by omega)]
    exact decide_eq_true ⟨w, by rw [h3]; exact nI_ge0 (by omega)⟩
  · exact nI_inj (by omega) (by omega) (x.2.symm.trans y.2)
theorem holds386_eq (I : Ary h 1) {S : Nat} (eS : rd h 1 15 = nI S) (hS : S ≤ 5) : L_holds_L386 h FU 0 = some (.inl ()) := by
  obtain ⟨-, -, -, xs, -⟩ := I.2
  rw [eS, vn_nI (by omega)] at xs
  obtain ⟨x, e, p⟩ := loop0 (fun k (_ : Unit) v => L_holds_L386 h k (nI v)) S (fun _ _ => True) (fun x => x = .inl ()) (by omega) (fun k s v hv _ => by
    rw [L_holds_L386]
    unfold C_sceneCount
    rw [Option.bind_some, eS]
    by_cases w : S ≤ v
    · exact Or.inl ⟨_, if_pos (nI_le w (by omega)), rfl⟩
    · obtain ⟨g, hg, eg⟩ := (xs v (by omega)).2
      rw [if_neg (nI_ge (by omega) (by omega)), springs_eq eS hS (by omega), Option.bind_some, eg, if_neg (nI_pos (by omega)), Option.bind_some, if_pos (show nI g ≤ 9 from nI_le (b := 9) hg (by decide)), nI_1]
      exact Or.inr ⟨by omega, (), trivial, rfl⟩) () trivial
  rw [← p]; exact e
theorem holds_true (I : Ary h 1) : L_holds h = some true := by
  obtain ⟨n, R, S, n1, hn, R1, hR, S1, hS, en, eR, eS, v5, v12, v15⟩ := I.nums
  obtain ⟨w, hw, ew⟩ := I.2.1
  obtain ⟨f, hf, ef⟩ := I.2.2.1
  obtain ⟨F, hF, e52, pF⟩ := holds52_eq I en hn eR hR eS hS
  obtain ⟨T, hT, eT, pT⟩ := inState_ok I.1.1 2 en hn
  have e329 := holds329_eq I eR hR
  rw [occ_asl I en hn eR hR] at e329
  have eFT : T = F := Nat.eq_of_testBit_eq fun c => by
    by_cases z : T.testBit c = true
    · rw [z]; exact ((pF c).mpr ((pT c).mp z)).symm
    · by_cases y : F.testBit c = true
      · exact absurd ((pT c).mpr ((pF c).mp y)) z
      · rw [Bool.eq_false_iff.mpr z, Bool.eq_false_iff.mpr y]
  have eV : C_violations h = some 0 := by unfold C_violations; rw [faults_x I.1, Option.bind_some]
  have eW : C_week h = some (nI w) := by unfold C_week; rw [ew]
  have eFo : C_food h = some (nI f) := by unfold C_food; rw [ef]
  have eFd : C_fadedClips h = some (nI F) := by unfold C_fadedClips; rw [eT, Option.bind_some, eFT]
  have z0 : (0 : Int32) = 0 := rfl
  have c1 : nI (cn (asl h) n) = nI (cn (asl h) n) := rfl
  have c2 : nI F = nI F := rfl
  unfold L_holds
  rw [eV, Option.bind_some, if_pos z0, eW, Option.bind_some, if_neg (nI_pos (by omega)), Option.bind_some, if_neg (show ¬ (999 : Int32) < nI w from nI_nlt (a := 999) hw (by decide)), eFo, Option.bind_some, if_neg (nI_pos (by omega)), Option.bind_some, if_pos (show nI f ≤ 9999 from nI_le (b := 9999) hf (by decide)), e52, Option.bind_some]
  dsimp only
  rw [e329, Option.bind_some, holds386_eq I eS hS, Option.bind_some]
  dsimp only
  rw [if_pos c1, eFd, Option.bind_some, if_pos c2]
end
