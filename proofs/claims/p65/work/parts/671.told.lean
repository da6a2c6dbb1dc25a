/-! ===== p65: what the class tells of its archive (place 1); the law's sum ===== -/
section
variable {h : Hp}
theorem Ary.nums {a : Nat} (I : Ary h a) : ∃ n R S, 1 ≤ n ∧ n ≤ 12 ∧ 1 ≤ R ∧ R ≤ 4 ∧ 1 ≤ S ∧ S ≤ 5 ∧ rd h a 5 = nI n ∧ rd h a 12 = nI R ∧ rd h a 15 = nI S ∧ vn (rd h a 5) = n ∧ vn (rd h a 12) = R ∧ vn (rd h a 15) = S := by
  obtain ⟨n, hn, en⟩ := I.1.1.clips
  obtain ⟨R, hR, eR⟩ := I.1.1.reels
  obtain ⟨S, hS, eS⟩ := I.1.1.scenes
  obtain ⟨-, -, -, -, -, x5, x12, x15⟩ := I.2
  have vn5 : vn (rd h a 5) = n := by rw [en, vn_nI (by omega)]
  have vn12 : vn (rd h a 12) = R := by rw [eR, vn_nI (by omega)]
  have vn15 : vn (rd h a 15) = S := by rw [eS, vn_nI (by omega)]
  exact ⟨n, R, S, by omega, hn, by omega, hR, by omega, hS, en, eR, eS, vn5, vn12, vn15⟩
theorem Ary.cnt {a : Nat} (I : Ary h a) {r : Nat} (hr : r < vn (rd h a 12)) : ∃ m, 1 ≤ m ∧ m ≤ 9 ∧ rd h (a + 7) r = nI m ∧ vn (rd h (a + 7) r) = m := by
  have R4 := I.1.1.R4
  obtain ⟨m, hm, em⟩ := I.1.1.beds r (by omega)
  obtain ⟨-, -, -, -, x7, -⟩ := I.2
  have := x7 r hr
  rw [em] at this
  refine ⟨m, ?_, hm, em, by rw [em, vn_nI (by omega)]⟩
  by_cases z : m = 0
  · subst z; exact absurd rfl this
  · omega
theorem needClip_eq {n c : Nat} (e : rd h 1 5 = nI n) (hn : n ≤ 12) (hc : c < n) : C_needClip h (nI c) = some () := by
  unfold C_needClip
  rw [if_neg (nI_pos (by omega)), e, if_pos (nI_lt hc (by omega))]
theorem needReel_eq {n c : Nat} (e : rd h 1 12 = nI n) (hn : n ≤ 4) (hc : c < n) : C_needReel h (nI c) = some () := by
  unfold C_needReel
  rw [if_neg (nI_pos (by omega)), e, if_pos (nI_lt hc (by omega))]
theorem needScene_eq {n c : Nat} (e : rd h 1 15 = nI n) (hn : n ≤ 5) (hc : c < n) : C_needScene h (nI c) = some () := by
  unfold C_needScene
  rw [if_neg (nI_pos (by omega)), e, if_pos (nI_lt hc (by omega))]
theorem state_eq {n c : Nat} (e : rd h 1 5 = nI n) (hn : n ≤ 12) (hc : c < n) : C_state h (nI c) = some (rd h (1 + 4) c) := by
  unfold C_state
  rw [needClip_eq e hn hc, Option.bind_some, r12 (by omega), Option.bind_some]
theorem fat_eq {n c : Nat} (e : rd h 1 5 = nI n) (hn : n ≤ 12) (hc : c < n) : C_fat h (nI c) = some (rd h (1 + 5) c) := by
  unfold C_fat
  rw [needClip_eq e hn hc, Option.bind_some, r12 (by omega), Option.bind_some]
theorem length_eq {n c : Nat} (e : rd h 1 5 = nI n) (hn : n ≤ 12) (hc : c < n) : C_length h (nI c) = some (rd h (1 + 1) c) := by
  unfold C_length
  rw [needClip_eq e hn hc, Option.bind_some, r12 (by omega), Option.bind_some]
theorem sceneOf_eq {n c : Nat} (e : rd h 1 5 = nI n) (hn : n ≤ 12) (hc : c < n) : C_sceneOf h (nI c) = some (rd h (1 + 6) c) := by
  unfold C_sceneOf
  rw [needClip_eq e hn hc, Option.bind_some, r12 (by omega), Option.bind_some]
theorem springs_eq {n c : Nat} (e : rd h 1 15 = nI n) (hn : n ≤ 5) (hc : c < n) : C_springs h (nI c) = some (rd h (1 + 10) c) := by
  unfold C_springs
  rw [needScene_eq e hn hc, Option.bind_some, r5 (by omega), Option.bind_some]
theorem bedCount_eq {n r : Nat} (e : rd h 1 12 = nI n) (hn : n ≤ 4) (hr : r < n) : C_bedCount h (nI r) = some (rd h (1 + 7) r) := by
  unfold C_bedCount
  rw [needReel_eq e hn hr, Option.bind_some, r4 (by omega), Option.bind_some]
theorem bed_eq {n r m b : Nat} (e : rd h 1 12 = nI n) (hn : n ≤ 4) (hr : r < n) (em : rd h (1 + 7) r = nI m) (hm : m ≤ 9) (hb : b < m) : C_bed h (nI r) (nI b) = some (rd h (1 + 8) (r * 9 + b)) := by
  unfold C_bed
  rw [needReel_eq e hn hr, Option.bind_some, if_neg (nI_pos (by omega)), r4 (by omega), Option.bind_some, em, if_pos (nI_lt hb (by omega)), inBed_eq (by omega) (by omega), Option.bind_some]
/-- where a clip lies, as the class tells it -/
theorem where_eq (I : Ary h 1) {n R c : Nat} (en : rd h 1 5 = nI n) (hn : n ≤ 12) (eR : rd h 1 12 = nI R) (hR : R ≤ 4) (hc : c < n) :
    (rd h (1 + 4) c ≠ 1 ∧ C_reelOf h (nI c) = some (-1) ∧ C_bedOf h (nI c) = some (-1) ∧ ∀ r b, r < R → b < vn (rd h (1 + 7) r) → rd h (1 + 8) (r * 9 + b) ≠ nI c) ∨
    (rd h (1 + 4) c = 1 ∧ ∃ r k, r < R ∧ k < vn (rd h (1 + 7) r) ∧ rd h (1 + 8) (r * 9 + wb (vn (rd h (1 + 3) c)) (vn (rd h (1 + 7) r)) k) = nI c ∧ (∀ j, j < k → rd h (1 + 8) (r * 9 + wb (vn (rd h (1 + 3) c)) (vn (rd h (1 + 7) r)) j) ≠ -1) ∧ (∀ r' b', r' < R → b' < vn (rd h (1 + 7) r') → rd h (1 + 8) (r' * 9 + b') = nI c → r' = r ∧ b' = wb (vn (rd h (1 + 3) c)) (vn (rd h (1 + 7) r)) k) ∧ C_reelOf h (nI c) = some (nI r) ∧ C_bedOf h (nI c) = some (nI (wb (vn (rd h (1 + 3) c)) (vn (rd h (1 + 7) r)) k))) := by
  obtain ⟨⟨A, Li, -⟩, -⟩ := I
  unfold LieA at Li
  rw [en, vn_nI (by omega), eR, vn_nI (by omega)] at Li
  have ex : ∀ r b, Ex h 1 r b ↔ r < R ∧ b < vn (rd h (1 + 7) r) := fun r b => by rw [Ex_vn A, eR, vn_nI (by omega)]
  obtain ⟨v, ev, p⟩ := placeOf_ok A (nI c)
  rcases p with ⟨rfl, p⟩ | ⟨r, b, x, rfl, p⟩
  · refine Or.inl ⟨fun z => ?_, ?_, ?_, fun r b hr hb => p r b ((ex r b).mpr ⟨hr, hb⟩)⟩
    · obtain ⟨r, k, h1, h2, h3, -⟩ := Li.2 c hc z
      exact p r _ ((ex _ _).mpr ⟨h1, wb_in h2⟩) h3
    · unfold C_reelOf
      rw [needClip_eq en hn hc, Option.bind_some, ev, Option.bind_some, if_pos rfl]
    · unfold C_bedOf
      rw [needClip_eq en hn hc, Option.bind_some, ev, Option.bind_some, if_pos rfl]
  · obtain ⟨hr, hb⟩ := (ex r b).mp x
    have b9 : b < 9 := x.2.1
    have r4' : r < 4 := x.1
    have ac := (Li.1 r b c hr hb (by omega) p).2
    obtain ⟨r1, k, h1, h2, h3, h4, h5⟩ := Li.2 c hc ac
    have h5 : ∀ r' b', r' < R → b' < vn (rd h (1 + 7) r') → rd h (1 + 8) (r' * 9 + b') = nI c → r' = r1 ∧ b' = wb (vn (rd h (1 + 3) c)) (vn (rd h (1 + 7) r1)) k := h5
    have e1 := h5 r b hr hb p
    refine Or.inr ⟨ac, r1, k, h1, h2, h3, h4, h5, ?_, ?_⟩
    · unfold C_reelOf
      rw [needClip_eq en hn hc, Option.bind_some, ev, Option.bind_some, if_neg (nI_nm1 (by omega)), ← e1.1, show (9 : Int32) = nI 9 from rfl, pk_div (by omega) (by decide) (by decide)]
      congr 2
      omega
    · unfold C_bedOf
      rw [needClip_eq en hn hc, Option.bind_some, ev, Option.bind_some, if_neg (nI_nm1 (by omega)), ← e1.2, show (9 : Int32) = nI 9 from rfl, pk_rem (by omega) (by decide) (by decide)]
      congr 2
      omega
end
/-! the sum speaks of the archive's rows alone -/
section
variable {h h' : Hp}
theorem cNeedClip_cg (e : Eqa 1 1 h h') (p : Int32) : C_needClip h p = C_needClip h' p := by unfold C_needClip; rw [e.f5]
theorem cNeedReel_cg (e : Eqa 1 1 h h') (p : Int32) : C_needReel h p = C_needReel h' p := by unfold C_needReel; rw [e.f12]
theorem cNeedScene_cg (e : Eqa 1 1 h h') (p : Int32) : C_needScene h p = C_needScene h' p := by unfold C_needScene; rw [e.f15]
theorem cWeek_cg (e : Eqa 1 1 h h') : C_week h = C_week h' := by unfold C_week; rw [e.1 0 (Or.inl (by decide))]
theorem cFood_cg (e : Eqa 1 1 h h') : C_food h = C_food h' := by unfold C_food; rw [e.1 1 (Or.inl (by decide))]
theorem cBurned_cg (e : Eqa 1 1 h h') : C_burnedFat h = C_burnedFat h' := by unfold C_burnedFat; rw [e.1 3 (Or.inl (by decide))]
theorem cWakings_cg (e : Eqa 1 1 h h') : C_wakings h = C_wakings h' := by unfold C_wakings; rw [e.1 4 (Or.inl (by decide))]
theorem cClips_cg (e : Eqa 1 1 h h') : C_clipCount h = C_clipCount h' := by unfold C_clipCount; rw [e.f5]
theorem cReels_cg (e : Eqa 1 1 h h') : C_reelCount h = C_reelCount h' := by unfold C_reelCount; rw [e.f12]
theorem cScenes_cg (e : Eqa 1 1 h h') : C_sceneCount h = C_sceneCount h' := by unfold C_sceneCount; rw [e.f15]
theorem cState_cg (e : Eqa 1 1 h h') (p : Int32) : C_state h p = C_state h' p := by unfold C_state; rw [cNeedClip_cg e, e.r4]
theorem cFat_cg (e : Eqa 1 1 h h') (p : Int32) : C_fat h p = C_fat h' p := by unfold C_fat; rw [cNeedClip_cg e, e.r5]
theorem cSceneOf_cg (e : Eqa 1 1 h h') (p : Int32) : C_sceneOf h p = C_sceneOf h' p := by unfold C_sceneOf; rw [cNeedClip_cg e, e.r6]
theorem cColours_cg (e : Eqa 1 1 h h') (p : Int32) : C_colours h p = C_colours h' p := by unfold C_colours; rw [cNeedClip_cg e, coloursOf_cg e]
theorem cReelOf_cg (e : Eqa 1 1 h h') (p : Int32) : C_reelOf h p = C_reelOf h' p := by unfold C_reelOf; rw [cNeedClip_cg e, placeOf_cg e]
theorem cSprings_cg (e : Eqa 1 1 h h') (p : Int32) : C_springs h p = C_springs h' p := by unfold C_springs; rw [cNeedScene_cg e, e.r10]
theorem cBedCount_cg (e : Eqa 1 1 h h') (p : Int32) : C_bedCount h p = C_bedCount h' p := by unfold C_bedCount; rw [cNeedReel_cg e, e.r7]
theorem cBed_cg (e : Eqa 1 1 h h') (p q : Int32) : C_bed h p q = C_bed h' p q := by unfold C_bed; rw [cNeedReel_cg e, e.r7, inBed_cg e]
theorem cSleepers_cg (e : Eqa 1 1 h h') (p : Int32) : C_sleepers h p = C_sleepers h' p := by unfold C_sleepers; rw [cNeedReel_cg e, sleepersIn_cg e]
theorem sumC_cg (e : Eqa 1 1 h h') : ∀ (n : Nat) (v : Int64) (w : Int32), L_sum_L39 h n v w = L_sum_L39 h' n v w
  | 0, _, _ => rfl
  | n + 1, v, w => by simp only [L_sum_L39, cClips_cg e, cColours_cg e, cState_cg e, cFat_cg e, cSceneOf_cg e, cReelOf_cg e, sumC_cg e n]
theorem sumS_cg (e : Eqa 1 1 h h') : ∀ (n : Nat) (v : Int64) (w : Int32), L_sum_L121 h n v w = L_sum_L121 h' n v w
  | 0, _, _ => rfl
  | n + 1, v, w => by simp only [L_sum_L121, cScenes_cg e, cSprings_cg e, sumS_cg e n]
theorem sumB_cg (e : Eqa 1 1 h h') (b : Bool) (r : Int32) : ∀ (n : Nat) (v : Int64) (w : Int32), L_sum_L191 h b r n v w = L_sum_L191 h' b r n v w
  | 0, _, _ => rfl
  | n + 1, v, w => by simp only [L_sum_L191, cBedCount_cg e, cBed_cg e, sumB_cg e b r n]
theorem sumR_cg (e : Eqa 1 1 h h') (b : Bool) : ∀ (n : Nat) (v : Int64) (w : Int32), L_sum_L153 h b n v w = L_sum_L153 h' b n v w
  | 0, _, _ => rfl
  | n + 1, v, w => by simp only [L_sum_L153, cReels_cg e, cBedCount_cg e, cSleepers_cg e, sumB_cg e, sumR_cg e b n]
theorem sum_cg (e : Eqa 1 1 h h') (b : Bool) : L_sum h b = L_sum h' b := by
  unfold L_sum
  rw [cWeek_cg e, cFood_cg e, cBurned_cg e, cWakings_cg e]
  simp only [sumC_cg e, sumS_cg e, sumR_cg e]
/-- the sum comes to an end -/
theorem sum_ok (I : Ary h 1) (b : Bool) : ∃ v, L_sum h b = some v := by
  obtain ⟨n, R, S, n1, hn, R1, hR, S1, hS, en, eR, eS, v5, v12, v15⟩ := I.nums
  have c1 : ∀ s : Int64, ∃ v, L_sum_L39 h FU s 0 = some v := fun s => by
    obtain ⟨r, e, -⟩ := loop0 (fun k (s : Int64) v => L_sum_L39 h k s (nI v)) n (fun _ _ => True) (fun _ => True) (by omega) (fun k s v hv _ => by
      rw [L_sum_L39]
      unfold C_clipCount
      rw [Option.bind_some, en]
      by_cases q : n ≤ v
      · exact Or.inl ⟨_, if_pos (nI_le q (by omega)), trivial⟩
      · rw [if_neg (nI_ge (by omega) (by omega))]
        obtain ⟨x, ex⟩ := coloursOf_ok I.1.1 (show v < 12 by omega)
        have e1 : C_colours h (nI v) = some x := by
          unfold C_colours
          rw [needClip_eq en hn (by omega), Option.bind_some, ex, Option.bind_some]
        obtain ⟨y, ey⟩ : ∃ y, C_reelOf h (nI v) = some y := by
          rcases where_eq I en hn eR hR (show v < n by omega) with ⟨-, p, -⟩ | ⟨-, r, k, -, -, -, -, -, p, -⟩
          · exact ⟨_, p⟩
          · exact ⟨_, p⟩
        unfold nm
        rw [e1, Option.bind_some, state_eq en hn (by omega), Option.bind_some]
        dsimp only
        rw [fat_eq en hn (by omega), Option.bind_some, sceneOf_eq en hn (by omega), Option.bind_some, ey, Option.bind_some, nI_1]
        exact Or.inr ⟨by omega, _, trivial, rfl⟩) s trivial
    exact ⟨r, e⟩
  have c2 : ∀ s : Int64, ∃ v, L_sum_L121 h FU s 0 = some v := fun s => by
    obtain ⟨r, e, -⟩ := loop0 (fun k (s : Int64) v => L_sum_L121 h k s (nI v)) S (fun _ _ => True) (fun _ => True) (by omega) (fun k s v hv _ => by
      rw [L_sum_L121]
      unfold C_sceneCount
      rw [Option.bind_some, eS]
      by_cases q : S ≤ v
      · exact Or.inl ⟨_, if_pos (nI_le q (by omega)), trivial⟩
      · rw [if_neg (nI_ge (by omega) (by omega)), springs_eq eS hS (by omega), Option.bind_some, nI_1]
        exact Or.inr ⟨by omega, _, trivial, rfl⟩) s trivial
    exact ⟨r, e⟩
  have c3 : ∀ (r : Nat), r < R → ∀ s : Int64, ∃ v, L_sum_L191 h b (nI r) FU s 0 = some v := fun r hr s => by
    obtain ⟨m, m1, hm, em, vm⟩ := I.cnt (by rw [v12]; exact hr)
    obtain ⟨x, e, -⟩ := loop0 (fun k (s : Int64) v => L_sum_L191 h b (nI r) k s (nI v)) m (fun _ _ => True) (fun _ => True) (by omega) (fun k s v hv _ => by
      rw [L_sum_L191]
      by_cases z : b2i b = 0
      · exact Or.inl ⟨_, if_pos z, trivial⟩
      · rw [if_neg z, bedCount_eq eR hR hr, Option.bind_some, em]
        by_cases q : m ≤ v
        · exact Or.inl ⟨_, if_pos (nI_le q (by omega)), trivial⟩
        · rw [if_neg (nI_ge (by omega) (by omega)), bed_eq eR hR hr em hm (by omega), Option.bind_some, nI_1]
          exact Or.inr ⟨by omega, _, trivial, rfl⟩) s trivial
    exact ⟨x, e⟩
  have c4 : ∀ s : Int64, ∃ v, L_sum_L153 h b FU s 0 = some v := fun s => by
    obtain ⟨r, e, -⟩ := loop0 (fun k (s : Int64) v => L_sum_L153 h b k s (nI v)) R (fun _ _ => True) (fun _ => True) (by omega) (fun k s v hv _ => by
      rw [L_sum_L153]
      unfold C_reelCount
      rw [Option.bind_some, eR]
      by_cases q : R ≤ v
      · exact Or.inl ⟨_, if_pos (nI_le q (by omega)), trivial⟩
      · obtain ⟨T, hT, eT, -⟩ := sleepersIn_ok I.1.1 (show v < 4 by omega)
        have e1 : C_sleepers h (nI v) = some (nI T) := by
          unfold C_sleepers
          rw [needReel_eq eR hR (by omega), Option.bind_some, eT, Option.bind_some]
        rw [if_neg (nI_ge (by omega) (by omega)), bedCount_eq eR hR (by omega), Option.bind_some, e1, Option.bind_some]
        unfold nm
        dsimp only
        obtain ⟨x, ex⟩ := c3 v (by omega) (31 * s + (rd h (1 + 7) v).toInt64 + 100 * (nI T).toInt64)
        rw [ex, Option.bind_some, nI_1]
        exact Or.inr ⟨by omega, _, trivial, rfl⟩) s trivial
    exact ⟨r, e⟩
  unfold L_sum C_week C_food C_burnedFat C_wakings nm
  simp only [Option.bind_some]
  obtain ⟨v1, e1⟩ := c1 ((rd h 1 0).toInt64 + 1000 * (rd h 1 1).toInt64 + 7 * (rd h 1 3).toInt64 + 11 * (rd h 1 4).toInt64)
  obtain ⟨v2, e2⟩ := c2 v1
  obtain ⟨v3, e3⟩ := c4 v2
  exact ⟨v3, by rw [e1, Option.bind_some, e2, Option.bind_some, e3, Option.bind_some]⟩
end
