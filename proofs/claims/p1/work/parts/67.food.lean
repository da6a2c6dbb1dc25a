set_option maxRecDepth 16384 in
theorem kV {L : Option (Int32 × Hp)} {M : Hp → Option (Int32 × Hp)} {v : Int32} {h2 h4 : Hp} (hL : L = some (0, h2)) (hM : M h2 = some (v, h4)) (ht : rd h4 140 15 = 0) (hv : rd h4 150 0 = v) : (Kf L M).isSome = true := by
  unfold Kf
  rw [hL, Option.bind_some]
  dsimp only
  rw [hM, Option.bind_some]
  dsimp only
  unfold M_thrown
  rw [ht, Option.bind_some, if_pos rfl, if_pos rfl, if_pos ((lg_cmp_eq _ _).mpr (by rw [hv]))]
  rfl
set_option maxRecDepth 16384 in
theorem upd_ne {f : Nat → Int32} {i j : Nat} {x : Int32} (e : j ≠ i) : upd f i x j = f j := by simp [upd, e]
set_option maxRecDepth 16384 in
theorem upd_self {f : Nat → Int32} {i : Nat} {x : Int32} : upd f i x i = x := by simp [upd]
set_option maxRecDepth 16384 in
theorem in_in {a lo hi : Int32} (h1 : ¬ a < lo) (h2 : ¬ hi < a) : M_in a lo hi = some true := by
  unfold M_in
  rw [if_neg h1, if_neg h2]
set_option maxRecDepth 16384 in
theorem range_in {h : Hp} {a lo hi : Int32} (h1 : ¬ a < lo) (h2 : ¬ hi < a) : C_needRange h a lo hi = some (.inr h) := by
  unfold C_needRange
  rw [if_neg h1, if_pos]
  rw [Int32.lt_iff_toInt_lt] at h2; rw [Int32.le_iff_toInt_le]; omega
set_option maxRecDepth 16384 in
theorem th2c (h : Hp) : M_throwsOne2 h false false = some (false, up2 h 140 15 0) := by
  simp only [M_throwsOne2, bf, if_true, nm, lt]
set_option maxRecDepth 16384 in
theorem HM06 : rd HM 0 6 = nI 0 := by decide +kernel
set_option maxRecDepth 16384 in
theorem ki_11 {i : Nat} (hi : i < 999) : (K_11 HM (nI (1 + i))).isSome = true := by
  have n1 : ¬ nI (1 + i) < 1 := nI_nlt (b := 1) (by omega) (by omega)
  have n2 : ¬ (999 : Int32) < nI (1 + i) := nI_nlt (a := 999) (by omega) (by decide)
  have f0 : rd HM 1 1 = nI 80 := by decide +kernel
  have m0 : rd HM 141 1 = nI 80 := by decide +kernel
  have c0 : rd HM 140 5 = nI 0 := by decide +kernel
  obtain ⟨HR, eR, fR⟩ := cremember_ok (h := HM) (i := 0) (by decide) HM06
  have v1 : rd HR 1 1 = nI 80 := by rw [fR 1 (by decide) (by decide)]; exact f0
  have sum : nI 80 + nI (1 + i) = nI (80 + (1 + i)) := nI_add _ _
  have hL : L_addFood HM (nI (1 + i)) = some (0, up2 (up2 HR 1 1 (nI (80 + (1 + i)))) 150 0 (nI (80 + (1 + i)))) := by
    have e2 : A_mayStore HM 1 (nI (1 + i)) = some true := by
      unfold A_mayStore
      have l0 : ¬ (9999 : Int32) < nI (80 + (1 + i)) := nI_nlt (a := 9999) (by omega) (by decide)
      rw [f0, sum, if_neg l0]
    simp only [L_addFood, C_addFood, range_in n1 n2, thB_r, e2, Option.bind_some, lt, bt, if_false, C_refuseIf, bf, if_true, eR, A_store, nm, v1, sum, rd_up2_self, upd_self, caB_r]
  obtain ⟨h2, e2⟩ : ∃ h2, h2 = up2 (up2 HR 1 1 (nI (80 + (1 + i)))) 150 0 (nI (80 + (1 + i))) := ⟨_, rfl⟩
  have g2 : ∀ k, 140 ≤ k → k ≠ 150 → rd h2 k = rd HM k := fun k h1 h3 => by
    rw [e2, rd_up2_ne h3, rd_up2_ne (by omega)]; exact fR k (by omega) (Or.inr h1)
  have g150 : rd h2 150 0 = nI (80 + (1 + i)) := by rw [e2, rd_up2_self]; exact upd_self
  obtain ⟨h6, e6, f6⟩ := begins_ok (up2 h2 140 15 0)
  have p6 : rd h6 141 1 = nI 80 := by rw [f6 141 (by decide), rd_up2_ne (by decide), g2 141 (by decide) (by decide)]; exact m0
  have q6 : rd (up2 h6 141 1 (nI (80 + (1 + i)))) 140 5 = nI 0 := by
    rw [rd_up2_ne (by decide), f6 140 (by decide), rd_up2_self, upd_ne (by decide), g2 140 (by decide) (by decide)]; exact c0
  obtain ⟨h10, e10, f10, g10⟩ := remember_ok (c := 0) (by decide) q6 (nI (80 + (1 + i)))
  have hM : M_addFood h2 (nI (1 + i)) = some (nI (80 + (1 + i)), h10) := by
    have r1 : rdO 106 (rd h2 141) 1 = some (nI 80) := by
      rw [show (1 : Int32) = nI 1 from rfl, rdO_in (by decide) (by decide), g2 141 (by decide) (by decide), m0]
    have r2 : rdO 106 (rd h6 141) 1 = some (nI 80) := by
      rw [show (1 : Int32) = nI 1 from rfl, rdO_in (by decide) (by decide), p6]
    have w1 : ∀ x, wrO h6 141 106 1 x = some (up2 h6 141 1 x) := fun x => wrO_in (v := 1) (by decide) (by decide)
    have r3 : rdO 106 (rd (up2 h6 141 1 (nI (80 + (1 + i)))) 141) 1 = some (nI (80 + (1 + i))) := by
      rw [show (1 : Int32) = nI 1 from rfl, rdO_in (by decide) (by decide), rd_up2_self]; exact congrArg some upd_self
    have l1 : nI (80 + (1 + i)) ≤ 9999 := nI_le (b := 9999) (by omega) (by decide)
    simp only [M_addFood, in_in n1 n2, Option.bind_some, lt, bt, bf, if_false, if_true, r1, sum, l1, th2c, e6, r2, w1, r3, e10]
  refine kV (L := L_addFood HM (nI (1 + i))) (M := fun h => M_addFood h (nI (1 + i))) (by rw [hL, e2]) hM ?_ ?_
  · rw [g10, upd_ne (by decide), rd_up2_ne (by decide), f6 140 (by decide), rd_up2_self]; exact upd_self
  · rw [f10 150 (by decide) (by decide), rd_up2_ne (by decide), f6 150 (by decide), rd_up2_ne (by decide)]; exact g150
