/-! ===== p1: one call on the fresh objects; arguments out of range ===== -/
theorem thB_l {ρ σ : Type} (e : Nat × Hp) (F : ρ → Option ((Nat × Hp) ⊕ σ)) : thB (some (.inl e)) F = some (.inl e) := rfl
theorem thB_r {ρ σ : Type} (v : ρ) (F : ρ → Option ((Nat × Hp) ⊕ σ)) : thB (some (.inr v)) F = F v := rfl
theorem caB_l {ρ σ : Type} (e : Nat × Hp) (E : Nat → Hp → Option σ) (F : ρ → Option σ) : caB (some (.inl e)) E F = E e.1 e.2 := rfl
theorem caB_r {ρ σ : Type} (v : ρ) (E : Nat → Hp → Option σ) (F : ρ → Option σ) : caB (some (.inr v)) E F = F v := rfl
def outR (a : Int32) (c : Int32) : Prop := a < 0 ∨ c ≤ a
theorem outR_or (a : Int32) (c : Nat) (hc : c < 2 ^ 31) : outR a (nI c) ∨ ∃ j, j < c ∧ a = nI j := by
  by_cases h0 : a < 0
  · exact Or.inl (Or.inl h0)
  by_cases h1 : nI c ≤ a
  · exact Or.inl (Or.inr h1)
  obtain ⟨j, hj, rfl⟩ := nI_of h0
  exact Or.inr ⟨j, by rw [nI_leI hc hj] at h1; omega, rfl⟩
theorem nlt_of_le {a b : Int32} (h : b ≤ a) : ¬ a < b := by
  rw [Int32.lt_iff_toInt_lt]; rw [Int32.le_iff_toInt_le] at h; omega
theorem in_out {a lo hi : Int32} (h : a < lo ∨ hi < a) : M_in a lo hi = some false := by
  unfold M_in
  rcases h with h | h
  · rw [if_pos h]
  · by_cases h0 : a < lo
    · rw [if_pos h0]
    · rw [if_neg h0, if_pos h]
theorem in_some (a lo hi : Int32) : ∃ b, M_in a lo hi = some b := by
  unfold M_in
  by_cases h : a < lo
  · exact ⟨_, if_pos h⟩
  · rw [if_neg h]
    by_cases h2 : hi < a
    · exact ⟨_, if_pos h2⟩
    · exact ⟨_, if_neg h2⟩
theorem range_out {h : Hp} {a lo hi : Int32} (ho : a < lo ∨ hi < a) : C_needRange h a lo hi = some (.inl (1, h)) := by
  unfold C_needRange
  by_cases h0 : a < lo
  · rw [if_pos h0]
  · rw [if_neg h0, if_neg]
    have := ho.resolve_left h0
    rw [Int32.lt_iff_toInt_lt] at this; rw [Int32.le_iff_toInt_le]; omega
/-- an int is out of lo .. hi, or is one of them -/
theorem range_or (a : Int32) (lo hi : Nat) (hh : hi < 2 ^ 31) (hl : lo ≤ hi) : (a < nI lo ∨ nI hi < a) ∨ ∃ j, j < hi - lo + 1 ∧ a = nI (lo + j) := by
  by_cases h0 : a < nI lo
  · exact Or.inl (Or.inl h0)
  by_cases h1 : nI hi < a
  · exact Or.inl (Or.inr h1)
  have hn : ¬ a < 0 := fun q => h0 (by
    rw [Int32.lt_iff_toInt_lt] at q ⊢
    rw [nI_toInt (by omega)]
    have : (0 : Int32).toInt = 0 := by decide
    omega)
  obtain ⟨j, hj, rfl⟩ := nI_of hn
  have e0 : ¬ j < lo := fun q => h0 ((nI_ltI hj (by omega : lo < 2 ^ 31)).mpr q)
  have e1 : ¬ hi < j := fun q => h1 ((nI_ltI hh hj).mpr q)
  exact Or.inr ⟨j - lo, by omega, by congr 1; omega⟩
noncomputable def HX (i : Int32) : Hp := up2 HM 140 15 i
theorem HX_t (i : Int32) : M_thrown (HX i) = some i := by
  unfold M_thrown HX
  rw [rd_up2_self]
  rfl
theorem bf : (b2i false = 0) = True := by decide
theorem bt : (b2i true = 0) = False := by decide
theorem th1 : M_throwsOne HM true = some (true, HX 1) := by
  simp only [M_throwsOne, bt, if_false, nm]; rfl
theorem th2a (b : Bool) : M_throwsOne2 HM true b = some (true, HX 1) := by
  simp only [M_throwsOne2, bt, if_false, nm, lt]; rfl
theorem th2b : M_throwsOne2 HM false true = some (true, HX 2) := by
  simp only [M_throwsOne2, bt, bf, if_false, if_true, nm, lt]; rfl
theorem th3a (b c : Bool) : M_throwsOne3 HM true b c = some (true, HX 1) := by
  simp only [M_throwsOne3, bt, if_false, nm, lt]; rfl
theorem th3b (c : Bool) : M_throwsOne3 HM false true c = some (true, HX 2) := by
  simp only [M_throwsOne3, bt, bf, if_false, if_true, nm, lt]; rfl
noncomputable def Kf (L : Option (Int32 × Hp)) (M : Hp → Option (Int32 × Hp)) : Option Hp :=
  L.bind fun (t1, h2) =>
  (M h2).bind fun (t3, h4) =>
  (M_thrown h4).bind fun t5 =>
  if t5 = t1 then
  if t1 = 0 then
  if (lg_cmp (((rd h4 150 0) : Int32)).toInt64 ((t3 : Int32)).toInt64) = 0 then
  some h4
  else
  none
  else
  some h4
  else
  none
theorem kT {L : Option (Int32 × Hp)} {M : Hp → Option (Int32 × Hp)} {t v : Int32} {h2 h4 : Hp} (hL : L = some (t, h2)) (hM : M h2 = some (v, h4)) (ht : M_thrown h4 = some t) (h0 : t ≠ 0) : (Kf L M).isSome = true := by
  unfold Kf
  rw [hL, Option.bind_some]
  dsimp only
  rw [hM, Option.bind_some]
  dsimp only
  rw [ht, Option.bind_some, if_pos rfl, if_neg h0]
  rfl
theorem cntClip : rd HM 1 5 = nI 5 := by decide +kernel
theorem cntMClip : rdO 106 (rd HM 141) 2 = some (nI 5) := by decide +kernel
theorem needClip_out {a : Int32} (h : outR a (nI 5)) : C_needClip HM a = some (.inl (3, HM)) := by
  unfold C_needClip
  rw [cntClip]
  rcases h with h | h
  · rw [if_pos h]
  · by_cases h0 : a < 0
    · rw [if_pos h0]
    · rw [if_neg h0, if_neg (nlt_of_le h)]
theorem isClip_out {a : Int32} (h : outR a (nI 5)) : M_isClip HM a = some false := by
  unfold M_isClip
  rw [cntMClip, Option.bind_some, in_out]
  · rfl
  · rcases h with h | h
    · exact Or.inl h
    · refine Or.inr ?_
      rw [Int32.lt_iff_toInt_lt]; rw [Int32.le_iff_toInt_le] at h
      have h3 : (nI 5).toInt = 5 := by decide
      have h2 : (nI 5 - 1).toInt = 4 := by decide
      omega
theorem needClip_in {j : Nat} (h : j < 5) : C_needClip HM (nI j) = some (.inr HM) := by
  unfold C_needClip
  rw [cntClip, if_neg (nI_pos (by omega)), if_pos (nI_lt h (by decide))]
theorem isClip_in {j : Nat} (h : j < 5) : M_isClip HM (nI j) = some true := by
  have : ∀ j, j < 5 → M_isClip HM (nI j) = some true := by decide +kernel
  exact this j h
theorem isClip_any (a : Int32) : ∃ b, M_isClip HM a = some b := by
  rcases outR_or a 5 (by decide) with h | ⟨j, h, rfl⟩
  · exact ⟨_, isClip_out h⟩
  · exact ⟨_, isClip_in h⟩
theorem cntReel : rd HM 1 12 = nI 2 := by decide +kernel
theorem cntMReel : rdO 106 (rd HM 141) 3 = some (nI 2) := by decide +kernel
theorem needReel_out {a : Int32} (h : outR a (nI 2)) : C_needReel HM a = some (.inl (3, HM)) := by
  unfold C_needReel
  rw [cntReel]
  rcases h with h | h
  · rw [if_pos h]
  · by_cases h0 : a < 0
    · rw [if_pos h0]
    · rw [if_neg h0, if_neg (nlt_of_le h)]
theorem isReel_out {a : Int32} (h : outR a (nI 2)) : M_isReel HM a = some false := by
  unfold M_isReel
  rw [cntMReel, Option.bind_some, in_out]
  · rfl
  · rcases h with h | h
    · exact Or.inl h
    · refine Or.inr ?_
      rw [Int32.lt_iff_toInt_lt]; rw [Int32.le_iff_toInt_le] at h
      have h3 : (nI 2).toInt = 2 := by decide
      have h2 : (nI 2 - 1).toInt = 1 := by decide
      omega
theorem needReel_in {j : Nat} (h : j < 2) : C_needReel HM (nI j) = some (.inr HM) := by
  unfold C_needReel
  rw [cntReel, if_neg (nI_pos (by omega)), if_pos (nI_lt h (by decide))]
theorem isReel_in {j : Nat} (h : j < 2) : M_isReel HM (nI j) = some true := by
  have : ∀ j, j < 2 → M_isReel HM (nI j) = some true := by decide +kernel
  exact this j h
theorem isReel_any (a : Int32) : ∃ b, M_isReel HM a = some b := by
  rcases outR_or a 2 (by decide) with h | ⟨j, h, rfl⟩
  · exact ⟨_, isReel_out h⟩
  · exact ⟨_, isReel_in h⟩
theorem cntScene : rd HM 1 15 = nI 2 := by decide +kernel
theorem cntMScene : rdO 106 (rd HM 141) 4 = some (nI 2) := by decide +kernel
theorem needScene_out {a : Int32} (h : outR a (nI 2)) : C_needScene HM a = some (.inl (3, HM)) := by
  unfold C_needScene
  rw [cntScene]
  rcases h with h | h
  · rw [if_pos h]
  · by_cases h0 : a < 0
    · rw [if_pos h0]
    · rw [if_neg h0, if_neg (nlt_of_le h)]
theorem isScene_out {a : Int32} (h : outR a (nI 2)) : M_isScene HM a = some false := by
  unfold M_isScene
  rw [cntMScene, Option.bind_some, in_out]
  · rfl
  · rcases h with h | h
    · exact Or.inl h
    · refine Or.inr ?_
      rw [Int32.lt_iff_toInt_lt]; rw [Int32.le_iff_toInt_le] at h
      have h3 : (nI 2).toInt = 2 := by decide
      have h2 : (nI 2 - 1).toInt = 1 := by decide
      omega
theorem needScene_in {j : Nat} (h : j < 2) : C_needScene HM (nI j) = some (.inr HM) := by
  unfold C_needScene
  rw [cntScene, if_neg (nI_pos (by omega)), if_pos (nI_lt h (by decide))]
theorem isScene_in {j : Nat} (h : j < 2) : M_isScene HM (nI j) = some true := by
  have : ∀ j, j < 2 → M_isScene HM (nI j) = some true := by decide +kernel
  exact this j h
theorem isScene_any (a : Int32) : ∃ b, M_isScene HM a = some b := by
  rcases outR_or a 2 (by decide) with h | ⟨j, h, rfl⟩
  · exact ⟨_, isScene_out h⟩
  · exact ⟨_, isScene_in h⟩

theorem ko_6 {a1 a2 : Int32} (h : outR a1 (nI 5)) : (K_6 HM a1 a2).isSome = true := by
  have hL : L_sleep HM a1 a2 = some (1, HM) := by
    unfold L_sleep C_sleep; rw [needClip_out h]; rfl
  obtain ⟨b, hb⟩ := isReel_any a2
  have hM : M_sleep HM a1 a2 = some (0, HX 1) := by
    simp only [M_sleep, isClip_out h, Option.bind_some, lt, nm, bf, bt, if_true, if_false, th1, th2a, th2b, th3a, th3b, M_clipTold, M_throwsPair, hb]
    try (cases b <;> simp only [Option.bind_some, lt, nm, bf, bt, if_true, if_false, th1, th2a, th2b, th3a, th3b])
  exact kT (L := L_sleep HM a1 a2) (M := fun h => M_sleep h a1 a2) hL hM (HX_t 1) (by decide)
theorem kp_6 {j : Nat} (hj : j < 5) {a2 : Int32} (h : outR a2 (nI 2)) : (K_6 HM (nI j) a2).isSome = true := by
  have hL : L_sleep HM (nI j) a2 = some (1, HM) := by
    unfold L_sleep C_sleep; rw [needClip_in hj, thB_r, needReel_out h]; rfl
  have hM : M_sleep HM (nI j) a2 = some (0, HX 1) := by
    simp only [M_sleep, isClip_in hj, isReel_out h, Option.bind_some, lt, nm, bf, bt, if_true, if_false, th1, th2a, th2b, th3a, th3b, M_clipTold, M_throwsPair]
  exact kT (L := L_sleep HM (nI j) a2) (M := fun h => M_sleep h (nI j) a2) hL hM (HX_t 1) (by decide)
theorem ko_7 {a1 : Int32} (h : outR a1 (nI 5)) : (K_7 HM a1).isSome = true := by
  have hL : L_wake HM a1 = some (1, HM) := by
    unfold L_wake C_wake; rw [needClip_out h]; rfl
  have hM : M_wake HM a1 = some (0, HX 1) := by
    simp only [M_wake, isClip_out h, Option.bind_some, lt, nm, bf, bt, if_true, if_false, th1, th2a, th2b, th3a, th3b, M_clipTold, M_throwsPair]
  exact kT (L := L_wake HM a1) (M := fun h => M_wake h a1) hL hM (HX_t 1) (by decide)
theorem ko_8 {a1 a2 : Int32} (h : outR a1 (nI 2)) : (K_8 HM a1 a2).isSome = true := by
  have hL : L_cut HM a1 a2 = some (1, HM) := by
    unfold L_cut C_cut; rw [needScene_out h]; rfl
  obtain ⟨b, hb⟩ := in_some a2 1 9999
  have hM : M_cut HM a1 a2 = some (0, HX 1) := by
    simp only [M_cut, isScene_out h, Option.bind_some, lt, nm, bf, bt, if_true, if_false, th1, th2a, th2b, th3a, th3b, M_clipTold, M_throwsPair, M_isPattern, hb]
    try (cases b <;> simp only [Option.bind_some, lt, nm, bf, bt, if_true, if_false, th1, th2a, th2b, th3a, th3b])
  exact kT (L := L_cut HM a1 a2) (M := fun h => M_cut h a1 a2) hL hM (HX_t 1) (by decide)
theorem kp_8 {j : Nat} (hj : j < 2) {a2 : Int32} (h : a2 < nI 1 ∨ nI 9999 < a2) : (K_8 HM (nI j) a2).isSome = true := by
  have hL : L_cut HM (nI j) a2 = some (2, HM) := by
    have e : C_needRange HM a2 1 9999 = some (.inl (1, HM)) := range_out h
    simp only [L_cut, C_cut, needScene_in hj, thB_r, C_needPattern, e, thB_l, caB_l]; rfl
  have hM : M_cut HM (nI j) a2 = some (0, HX 2) := by
    have e : M_in a2 1 9999 = some false := in_out h
    simp only [M_cut, M_isPattern, isScene_in hj, e, Option.bind_some, lt, nm, bf, bt, if_true, if_false, th1, th2a, th2b, th3a, th3b, M_clipTold, M_throwsPair]
  exact kT (L := L_cut HM (nI j) a2) (M := fun h => M_cut h (nI j) a2) hL hM (HX_t 2) (by decide)
theorem ko_9 {a1 : Int32} (h : outR a1 (nI 2)) : (K_9 HM a1).isSome = true := by
  have hL : L_air HM a1 = some (1, HM) := by
    unfold L_air C_air; rw [needReel_out h]; rfl
  have hM : M_air HM a1 = some (0, HX 1) := by
    simp only [M_air, isReel_out h, Option.bind_some, lt, nm, bf, bt, if_true, if_false, th1, th2a, th2b, th3a, th3b, M_clipTold, M_throwsPair]
  exact kT (L := L_air HM a1) (M := fun h => M_air h a1) hL hM (HX_t 1) (by decide)
theorem ko_10 {a1 a2 : Int32} (h : outR a1 (nI 5)) : (K_10 HM a1 a2).isSome = true := by
  have hL : L_feed HM a1 a2 = some (1, HM) := by
    unfold L_feed C_feed; rw [needClip_out h]; rfl
  obtain ⟨b, hb⟩ := in_some a2 1 50
  have hM : M_feed HM a1 a2 = some (0, HX 1) := by
    simp only [M_feed, isClip_out h, Option.bind_some, lt, nm, bf, bt, if_true, if_false, th1, th2a, th2b, th3a, th3b, M_clipTold, M_throwsPair, hb]
    try (cases b <;> simp only [Option.bind_some, lt, nm, bf, bt, if_true, if_false, th1, th2a, th2b, th3a, th3b])
  exact kT (L := L_feed HM a1 a2) (M := fun h => M_feed h a1 a2) hL hM (HX_t 1) (by decide)
theorem kp_10 {j : Nat} (hj : j < 5) {a2 : Int32} (h : a2 < nI 1 ∨ nI 50 < a2) : (K_10 HM (nI j) a2).isSome = true := by
  have hL : L_feed HM (nI j) a2 = some (2, HM) := by
    have e : C_needRange HM a2 1 50 = some (.inl (1, HM)) := range_out h
    simp only [L_feed, C_feed, needClip_in hj, thB_r, e, thB_l, caB_l]; rfl
  have hM : M_feed HM (nI j) a2 = some (0, HX 2) := by
    have e : M_in a2 1 50 = some false := in_out h
    simp only [M_feed, M_isPattern, isClip_in hj, e, Option.bind_some, lt, nm, bf, bt, if_true, if_false, th1, th2a, th2b, th3a, th3b, M_clipTold, M_throwsPair]
  exact kT (L := L_feed HM (nI j) a2) (M := fun h => M_feed h (nI j) a2) hL hM (HX_t 2) (by decide)
theorem ko_12 {a1 a2 a3 : Int32} (h : outR a1 (nI 5)) : (K_12 HM a1 a2 a3).isSome = true := by
  have hL : L_paint HM a1 a2 a3 = some (1, HM) := by
    unfold L_paint C_paint; rw [needClip_out h]; rfl
  obtain ⟨b, hb⟩ := in_some a3 1 9
  have hM : M_paint HM a1 a2 a3 = some (0, HX 1) := by
    simp only [M_paint, isClip_out h, Option.bind_some, lt, nm, bf, bt, if_true, if_false, th1, th2a, th2b, th3a, th3b, M_clipTold, M_throwsPair, hb]
    try (cases b <;> simp only [Option.bind_some, lt, nm, bf, bt, if_true, if_false, th1, th2a, th2b, th3a, th3b])
  exact kT (L := L_paint HM a1 a2 a3) (M := fun h => M_paint h a1 a2 a3) hL hM (HX_t 1) (by decide)
theorem ko_25 {a1 : Int32} (h : outR a1 (nI 2)) : (K_25 HM a1).isSome = true := by
  have hL : L_springs HM a1 = some (1, HM) := by
    unfold L_springs C_springs; rw [needScene_out h]; rfl
  have hM : M_springs HM a1 = some (0, HX 1) := by
    simp only [M_springs, isScene_out h, Option.bind_some, lt, nm, bf, bt, if_true, if_false, th1, th2a, th2b, th3a, th3b, M_clipTold, M_throwsPair]
  exact kT (L := L_springs HM a1) (M := fun h => M_springs h a1) hL hM (HX_t 1) (by decide)
theorem ko_26 {a1 : Int32} (h : outR a1 (nI 5)) : (K_26 HM a1).isSome = true := by
  have hL : L_state HM a1 = some (1, HM) := by
    unfold L_state C_state; rw [needClip_out h]; rfl
  have hM : M_state HM a1 = some (0, HX 1) := by
    simp only [M_state, isClip_out h, Option.bind_some, lt, nm, bf, bt, if_true, if_false, th1, th2a, th2b, th3a, th3b, M_clipTold, M_throwsPair]
  exact kT (L := L_state HM a1) (M := fun h => M_state h a1) hL hM (HX_t 1) (by decide)
theorem ko_27 {a1 : Int32} (h : outR a1 (nI 5)) : (K_27 HM a1).isSome = true := by
  have hL : L_colours HM a1 = some (1, HM) := by
    unfold L_colours C_colours; rw [needClip_out h]; rfl
  have hM : M_colours HM a1 = some (0, HX 1) := by
    simp only [M_colours, isClip_out h, Option.bind_some, lt, nm, bf, bt, if_true, if_false, th1, th2a, th2b, th3a, th3b, M_clipTold, M_throwsPair]
  exact kT (L := L_colours HM a1) (M := fun h => M_colours h a1) hL hM (HX_t 1) (by decide)
theorem ko_28 {a1 : Int32} (h : outR a1 (nI 5)) : (K_28 HM a1).isSome = true := by
  have hL : L_length HM a1 = some (1, HM) := by
    unfold L_length C_length; rw [needClip_out h]; rfl
  have hM : M_length HM a1 = some (0, HX 1) := by
    simp only [M_length, isClip_out h, Option.bind_some, lt, nm, bf, bt, if_true, if_false, th1, th2a, th2b, th3a, th3b, M_clipTold, M_throwsPair]
  exact kT (L := L_length HM a1) (M := fun h => M_length h a1) hL hM (HX_t 1) (by decide)
theorem ko_29 {a1 : Int32} (h : outR a1 (nI 5)) : (K_29 HM a1).isSome = true := by
  have hL : L_hash HM a1 = some (1, HM) := by
    unfold L_hash C_hash; rw [needClip_out h]; rfl
  have hM : M_hash HM a1 = some (0, HX 1) := by
    simp only [M_hash, isClip_out h, Option.bind_some, lt, nm, bf, bt, if_true, if_false, th1, th2a, th2b, th3a, th3b, M_clipTold, M_throwsPair]
  exact kT (L := L_hash HM a1) (M := fun h => M_hash h a1) hL hM (HX_t 1) (by decide)
theorem ko_30 {a1 : Int32} (h : outR a1 (nI 5)) : (K_30 HM a1).isSome = true := by
  have hL : L_fat HM a1 = some (1, HM) := by
    unfold L_fat C_fat; rw [needClip_out h]; rfl
  have hM : M_fat HM a1 = some (0, HX 1) := by
    simp only [M_fat, isClip_out h, Option.bind_some, lt, nm, bf, bt, if_true, if_false, th1, th2a, th2b, th3a, th3b, M_clipTold, M_throwsPair]
  exact kT (L := L_fat HM a1) (M := fun h => M_fat h a1) hL hM (HX_t 1) (by decide)
theorem ko_31 {a1 : Int32} (h : outR a1 (nI 5)) : (K_31 HM a1).isSome = true := by
  have hL : L_reelOf HM a1 = some (1, HM) := by
    unfold L_reelOf C_reelOf; rw [needClip_out h]; rfl
  have hM : M_reelOf HM a1 = some (0, HX 1) := by
    simp only [M_reelOf, isClip_out h, Option.bind_some, lt, nm, bf, bt, if_true, if_false, th1, th2a, th2b, th3a, th3b, M_clipTold, M_throwsPair]
  exact kT (L := L_reelOf HM a1) (M := fun h => M_reelOf h a1) hL hM (HX_t 1) (by decide)
theorem ko_32 {a1 : Int32} (h : outR a1 (nI 5)) : (K_32 HM a1).isSome = true := by
  have hL : L_bedOf HM a1 = some (1, HM) := by
    unfold L_bedOf C_bedOf; rw [needClip_out h]; rfl
  have hM : M_bedOf HM a1 = some (0, HX 1) := by
    simp only [M_bedOf, isClip_out h, Option.bind_some, lt, nm, bf, bt, if_true, if_false, th1, th2a, th2b, th3a, th3b, M_clipTold, M_throwsPair]
  exact kT (L := L_bedOf HM a1) (M := fun h => M_bedOf h a1) hL hM (HX_t 1) (by decide)
theorem ko_33 {a1 : Int32} (h : outR a1 (nI 5)) : (K_33 HM a1).isSome = true := by
  have hL : L_sceneOf HM a1 = some (1, HM) := by
    unfold L_sceneOf C_sceneOf; rw [needClip_out h]; rfl
  have hM : M_sceneOf HM a1 = some (0, HX 1) := by
    simp only [M_sceneOf, isClip_out h, Option.bind_some, lt, nm, bf, bt, if_true, if_false, th1, th2a, th2b, th3a, th3b, M_clipTold, M_throwsPair]
  exact kT (L := L_sceneOf HM a1) (M := fun h => M_sceneOf h a1) hL hM (HX_t 1) (by decide)
theorem ko_34 {a1 a2 : Int32} (h : outR a1 (nI 5)) : (K_34 HM a1 a2).isSome = true := by
  have hL : L_commonRun HM a1 a2 = some (1, HM) := by
    unfold L_commonRun C_commonRun; rw [needClip_out h]; rfl
  obtain ⟨b, hb⟩ := isClip_any a2
  have hM : M_commonRun HM a1 a2 = some (0, HX 1) := by
    simp only [M_commonRun, isClip_out h, Option.bind_some, lt, nm, bf, bt, if_true, if_false, th1, th2a, th2b, th3a, th3b, M_clipTold, M_throwsPair, hb]
    try (cases b <;> simp only [Option.bind_some, lt, nm, bf, bt, if_true, if_false, th1, th2a, th2b, th3a, th3b])
  exact kT (L := L_commonRun HM a1 a2) (M := fun h => M_commonRun h a1 a2) hL hM (HX_t 1) (by decide)
theorem kp_34 {j : Nat} (hj : j < 5) {a2 : Int32} (h : outR a2 (nI 5)) : (K_34 HM (nI j) a2).isSome = true := by
  have hL : L_commonRun HM (nI j) a2 = some (1, HM) := by
    unfold L_commonRun C_commonRun; rw [needClip_in hj, thB_r, needClip_out h]; rfl
  have hM : M_commonRun HM (nI j) a2 = some (0, HX 1) := by
    simp only [M_commonRun, isClip_in hj, isClip_out h, Option.bind_some, lt, nm, bf, bt, if_true, if_false, th1, th2a, th2b, th3a, th3b, M_clipTold, M_throwsPair]
  exact kT (L := L_commonRun HM (nI j) a2) (M := fun h => M_commonRun h (nI j) a2) hL hM (HX_t 1) (by decide)
theorem ko_35 {a1 : Int32} (h : outR a1 (nI 5)) : (K_35 HM a1).isSome = true := by
  have hL : L_nearestClip HM a1 = some (1, HM) := by
    unfold L_nearestClip C_nearestClip; rw [needClip_out h]; rfl
  have hM : M_nearestClip HM a1 = some (0, HX 1) := by
    simp only [M_nearestClip, isClip_out h, Option.bind_some, lt, nm, bf, bt, if_true, if_false, th1, th2a, th2b, th3a, th3b, M_clipTold, M_throwsPair]
  exact kT (L := L_nearestClip HM a1) (M := fun h => M_nearestClip h a1) hL hM (HX_t 1) (by decide)
theorem ko_36 {a1 : Int32} (h : outR a1 (nI 5)) : (K_36 HM a1).isSome = true := by
  have hL : L_twinsOf HM a1 = some (1, HM) := by
    unfold L_twinsOf C_twinsOf; rw [needClip_out h]; rfl
  have hM : M_twinsOf HM a1 = some (0, HX 1) := by
    simp only [M_twinsOf, isClip_out h, Option.bind_some, lt, nm, bf, bt, if_true, if_false, th1, th2a, th2b, th3a, th3b, M_clipTold, M_throwsPair]
  exact kT (L := L_twinsOf HM a1) (M := fun h => M_twinsOf h a1) hL hM (HX_t 1) (by decide)
theorem ko_37 {a1 : Int32} (h : outR a1 (nI 5)) : (K_37 HM a1).isSome = true := by
  have hL : L_weeksToFade HM a1 = some (1, HM) := by
    unfold L_weeksToFade C_weeksToFade; rw [needClip_out h]; rfl
  have hM : M_weeksToFade HM a1 = some (0, HX 1) := by
    simp only [M_weeksToFade, isClip_out h, Option.bind_some, lt, nm, bf, bt, if_true, if_false, th1, th2a, th2b, th3a, th3b, M_clipTold, M_throwsPair]
  exact kT (L := L_weeksToFade HM a1) (M := fun h => M_weeksToFade h a1) hL hM (HX_t 1) (by decide)
theorem ko_38 {a1 : Int32} (h : outR a1 (nI 2)) : (K_38 HM a1).isSome = true := by
  have hL : L_bedCount HM a1 = some (1, HM) := by
    unfold L_bedCount C_bedCount; rw [needReel_out h]; rfl
  have hM : M_bedCount HM a1 = some (0, HX 1) := by
    simp only [M_bedCount, isReel_out h, Option.bind_some, lt, nm, bf, bt, if_true, if_false, th1, th2a, th2b, th3a, th3b, M_clipTold, M_throwsPair]
  exact kT (L := L_bedCount HM a1) (M := fun h => M_bedCount h a1) hL hM (HX_t 1) (by decide)
theorem ko_39 {a1 a2 : Int32} (h : outR a1 (nI 2)) : (K_39 HM a1 a2).isSome = true := by
  have hL : L_bed HM a1 a2 = some (1, HM) := by
    unfold L_bed C_bed; rw [needReel_out h]; rfl
  have hM : M_bed HM a1 a2 = some (0, HX 1) := by
    simp only [M_bed, isReel_out h, Option.bind_some, lt, nm, bf, bt, if_true, if_false, th1, th2a, th2b, th3a, th3b, M_clipTold, M_throwsPair]
  exact kT (L := L_bed HM a1 a2) (M := fun h => M_bed h a1 a2) hL hM (HX_t 1) (by decide)
theorem ko_40 {a1 : Int32} (h : outR a1 (nI 2)) : (K_40 HM a1).isSome = true := by
  have hL : L_sleepers HM a1 = some (1, HM) := by
    unfold L_sleepers C_sleepers; rw [needReel_out h]; rfl
  have hM : M_sleepers HM a1 = some (0, HX 1) := by
    simp only [M_sleepers, isReel_out h, Option.bind_some, lt, nm, bf, bt, if_true, if_false, th1, th2a, th2b, th3a, th3b, M_clipTold, M_throwsPair]
  exact kT (L := L_sleepers HM a1) (M := fun h => M_sleepers h a1) hL hM (HX_t 1) (by decide)
theorem ko_41 {a1 a2 : Int32} (h : outR a1 (nI 5)) : (K_41 HM a1 a2).isSome = true := by
  have hL : L_home HM a1 a2 = some (1, HM) := by
    unfold L_home C_home; rw [needClip_out h]; rfl
  obtain ⟨b, hb⟩ := isReel_any a2
  have hM : M_home HM a1 a2 = some (0, HX 1) := by
    simp only [M_home, isClip_out h, Option.bind_some, lt, nm, bf, bt, if_true, if_false, th1, th2a, th2b, th3a, th3b, M_clipTold, M_throwsPair, hb]
    try (cases b <;> simp only [Option.bind_some, lt, nm, bf, bt, if_true, if_false, th1, th2a, th2b, th3a, th3b])
  exact kT (L := L_home HM a1 a2) (M := fun h => M_home h a1 a2) hL hM (HX_t 1) (by decide)
theorem kp_41 {j : Nat} (hj : j < 5) {a2 : Int32} (h : outR a2 (nI 2)) : (K_41 HM (nI j) a2).isSome = true := by
  have hL : L_home HM (nI j) a2 = some (1, HM) := by
    unfold L_home C_home; rw [needClip_in hj, thB_r, needReel_out h]; rfl
  have hM : M_home HM (nI j) a2 = some (0, HX 1) := by
    simp only [M_home, isClip_in hj, isReel_out h, Option.bind_some, lt, nm, bf, bt, if_true, if_false, th1, th2a, th2b, th3a, th3b, M_clipTold, M_throwsPair]
  exact kT (L := L_home HM (nI j) a2) (M := fun h => M_home h (nI j) a2) hL hM (HX_t 1) (by decide)
theorem ko_42 {a1 a2 : Int32} (h : outR a1 (nI 5)) : (K_42 HM a1 a2).isSome = true := by
  have hL : L_whyNoSleep HM a1 a2 = some (1, HM) := by
    unfold L_whyNoSleep C_whyNoSleep; rw [needClip_out h]; rfl
  obtain ⟨b, hb⟩ := isReel_any a2
  have hM : M_whyNoSleep HM a1 a2 = some (0, HX 1) := by
    simp only [M_whyNoSleep, isClip_out h, Option.bind_some, lt, nm, bf, bt, if_true, if_false, th1, th2a, th2b, th3a, th3b, M_clipTold, M_throwsPair, hb]
    try (cases b <;> simp only [Option.bind_some, lt, nm, bf, bt, if_true, if_false, th1, th2a, th2b, th3a, th3b])
  exact kT (L := L_whyNoSleep HM a1 a2) (M := fun h => M_whyNoSleep h a1 a2) hL hM (HX_t 1) (by decide)
theorem kp_42 {j : Nat} (hj : j < 5) {a2 : Int32} (h : outR a2 (nI 2)) : (K_42 HM (nI j) a2).isSome = true := by
  have hL : L_whyNoSleep HM (nI j) a2 = some (1, HM) := by
    unfold L_whyNoSleep C_whyNoSleep; rw [needClip_in hj, thB_r, needReel_out h]; rfl
  have hM : M_whyNoSleep HM (nI j) a2 = some (0, HX 1) := by
    simp only [M_whyNoSleep, isClip_in hj, isReel_out h, Option.bind_some, lt, nm, bf, bt, if_true, if_false, th1, th2a, th2b, th3a, th3b, M_clipTold, M_throwsPair]
  exact kT (L := L_whyNoSleep HM (nI j) a2) (M := fun h => M_whyNoSleep h (nI j) a2) hL hM (HX_t 1) (by decide)
theorem ko_43 {a1 a2 : Int32} (h : outR a1 (nI 5)) : (K_43 HM a1 a2).isSome = true := by
  have hL : L_bedFor HM a1 a2 = some (1, HM) := by
    unfold L_bedFor C_bedFor; rw [needClip_out h]; rfl
  obtain ⟨b, hb⟩ := isReel_any a2
  have hM : M_bedFor HM a1 a2 = some (0, HX 1) := by
    simp only [M_bedFor, isClip_out h, Option.bind_some, lt, nm, bf, bt, if_true, if_false, th1, th2a, th2b, th3a, th3b, M_clipTold, M_throwsPair, hb]
    try (cases b <;> simp only [Option.bind_some, lt, nm, bf, bt, if_true, if_false, th1, th2a, th2b, th3a, th3b])
  exact kT (L := L_bedFor HM a1 a2) (M := fun h => M_bedFor h a1 a2) hL hM (HX_t 1) (by decide)
theorem kp_43 {j : Nat} (hj : j < 5) {a2 : Int32} (h : outR a2 (nI 2)) : (K_43 HM (nI j) a2).isSome = true := by
  have hL : L_bedFor HM (nI j) a2 = some (1, HM) := by
    unfold L_bedFor C_bedFor; rw [needClip_in hj, thB_r, needReel_out h]; rfl
  have hM : M_bedFor HM (nI j) a2 = some (0, HX 1) := by
    simp only [M_bedFor, isClip_in hj, isReel_out h, Option.bind_some, lt, nm, bf, bt, if_true, if_false, th1, th2a, th2b, th3a, th3b, M_clipTold, M_throwsPair]
  exact kT (L := L_bedFor HM (nI j) a2) (M := fun h => M_bedFor h (nI j) a2) hL hM (HX_t 1) (by decide)
theorem ko_44 {a1 a2 : Int32} (h : outR a1 (nI 5)) : (K_44 HM a1 a2).isSome = true := by
  have hL : L_looksFor HM a1 a2 = some (1, HM) := by
    unfold L_looksFor C_looksFor; rw [needClip_out h]; rfl
  obtain ⟨b, hb⟩ := isReel_any a2
  have hM : M_looksFor HM a1 a2 = some (0, HX 1) := by
    simp only [M_looksFor, isClip_out h, Option.bind_some, lt, nm, bf, bt, if_true, if_false, th1, th2a, th2b, th3a, th3b, M_clipTold, M_throwsPair, hb]
    try (cases b <;> simp only [Option.bind_some, lt, nm, bf, bt, if_true, if_false, th1, th2a, th2b, th3a, th3b])
  exact kT (L := L_looksFor HM a1 a2) (M := fun h => M_looksFor h a1 a2) hL hM (HX_t 1) (by decide)
theorem kp_44 {j : Nat} (hj : j < 5) {a2 : Int32} (h : outR a2 (nI 2)) : (K_44 HM (nI j) a2).isSome = true := by
  have hL : L_looksFor HM (nI j) a2 = some (1, HM) := by
    unfold L_looksFor C_looksFor; rw [needClip_in hj, thB_r, needReel_out h]; rfl
  have hM : M_looksFor HM (nI j) a2 = some (0, HX 1) := by
    simp only [M_looksFor, isClip_in hj, isReel_out h, Option.bind_some, lt, nm, bf, bt, if_true, if_false, th1, th2a, th2b, th3a, th3b, M_clipTold, M_throwsPair]
  exact kT (L := L_looksFor HM (nI j) a2) (M := fun h => M_looksFor h (nI j) a2) hL hM (HX_t 1) (by decide)
theorem ko_45 {a1 : Int32} (h : outR a1 (nI 2)) : (K_45 HM a1).isSome = true := by
  have hL : L_longestLook HM a1 = some (1, HM) := by
    unfold L_longestLook C_longestLook; rw [needReel_out h]; rfl
  have hM : M_longestLook HM a1 = some (0, HX 1) := by
    simp only [M_longestLook, isReel_out h, Option.bind_some, lt, nm, bf, bt, if_true, if_false, th1, th2a, th2b, th3a, th3b, M_clipTold, M_throwsPair]
  exact kT (L := L_longestLook HM a1) (M := fun h => M_longestLook h a1) hL hM (HX_t 1) (by decide)
theorem ko_46 {a1 : Int32} (h : outR a1 (nI 2)) : (K_46 HM a1).isSome = true := by
  have hL : L_looksIfAired HM a1 = some (1, HM) := by
    unfold L_looksIfAired C_looksIfAired; rw [needReel_out h]; rfl
  have hM : M_looksIfAired HM a1 = some (0, HX 1) := by
    simp only [M_looksIfAired, isReel_out h, Option.bind_some, lt, nm, bf, bt, if_true, if_false, th1, th2a, th2b, th3a, th3b, M_clipTold, M_throwsPair]
  exact kT (L := L_looksIfAired HM a1) (M := fun h => M_looksIfAired h a1) hL hM (HX_t 1) (by decide)
theorem ko_47 {a1 : Int32} (h : outR a1 (nI 2)) : (K_47 HM a1).isSome = true := by
  have hL : L_longestCluster HM a1 = some (1, HM) := by
    unfold L_longestCluster C_longestCluster; rw [needReel_out h]; rfl
  have hM : M_longestCluster HM a1 = some (0, HX 1) := by
    simp only [M_longestCluster, isReel_out h, Option.bind_some, lt, nm, bf, bt, if_true, if_false, th1, th2a, th2b, th3a, th3b, M_clipTold, M_throwsPair]
  exact kT (L := L_longestCluster HM a1) (M := fun h => M_longestCluster h a1) hL hM (HX_t 1) (by decide)
theorem ko_48 {a1 : Int32} (h : outR a1 (nI 5)) : (K_48 HM a1).isSome = true := by
  have hL : L_bestReel HM a1 = some (1, HM) := by
    unfold L_bestReel C_bestReel; rw [needClip_out h]; rfl
  have hM : M_bestReel HM a1 = some (0, HX 1) := by
    simp only [M_bestReel, isClip_out h, Option.bind_some, lt, nm, bf, bt, if_true, if_false, th1, th2a, th2b, th3a, th3b, M_clipTold, M_throwsPair]
  exact kT (L := L_bestReel HM a1) (M := fun h => M_bestReel h a1) hL hM (HX_t 1) (by decide)
theorem ko_51 {a1 a2 : Int32} (h : outR a1 (nI 2)) : (K_51 HM a1 a2).isSome = true := by
  have hL : L_wokenBy HM a1 a2 = some (1, HM) := by
    unfold L_wokenBy C_wokenBy; rw [needScene_out h]; rfl
  obtain ⟨b, hb⟩ := in_some a2 1 9999
  have hM : M_wokenBy HM a1 a2 = some (0, HX 1) := by
    simp only [M_wokenBy, isScene_out h, Option.bind_some, lt, nm, bf, bt, if_true, if_false, th1, th2a, th2b, th3a, th3b, M_clipTold, M_throwsPair, M_isPattern, hb]
    try (cases b <;> simp only [Option.bind_some, lt, nm, bf, bt, if_true, if_false, th1, th2a, th2b, th3a, th3b])
  exact kT (L := L_wokenBy HM a1 a2) (M := fun h => M_wokenBy h a1 a2) hL hM (HX_t 1) (by decide)
theorem kp_51 {j : Nat} (hj : j < 2) {a2 : Int32} (h : a2 < nI 1 ∨ nI 9999 < a2) : (K_51 HM (nI j) a2).isSome = true := by
  have hL : L_wokenBy HM (nI j) a2 = some (2, HM) := by
    have e : C_needRange HM a2 1 9999 = some (.inl (1, HM)) := range_out h
    simp only [L_wokenBy, C_wokenBy, needScene_in hj, thB_r, C_needPattern, e, thB_l, caB_l]; rfl
  have hM : M_wokenBy HM (nI j) a2 = some (0, HX 2) := by
    have e : M_in a2 1 9999 = some false := in_out h
    simp only [M_wokenBy, M_isPattern, isScene_in hj, e, Option.bind_some, lt, nm, bf, bt, if_true, if_false, th1, th2a, th2b, th3a, th3b, M_clipTold, M_throwsPair]
  exact kT (L := L_wokenBy HM (nI j) a2) (M := fun h => M_wokenBy h (nI j) a2) hL hM (HX_t 2) (by decide)
theorem ko_52 {a1 a2 : Int32} (h : outR a1 (nI 5)) : (K_52 HM a1 a2).isSome = true := by
  have hL : L_firstMatch HM a1 a2 = some (1, HM) := by
    unfold L_firstMatch C_firstMatch; rw [needClip_out h]; rfl
  obtain ⟨b, hb⟩ := in_some a2 1 9999
  have hM : M_firstMatch HM a1 a2 = some (0, HX 1) := by
    simp only [M_firstMatch, isClip_out h, Option.bind_some, lt, nm, bf, bt, if_true, if_false, th1, th2a, th2b, th3a, th3b, M_clipTold, M_throwsPair, M_isPattern, hb]
    try (cases b <;> simp only [Option.bind_some, lt, nm, bf, bt, if_true, if_false, th1, th2a, th2b, th3a, th3b])
  exact kT (L := L_firstMatch HM a1 a2) (M := fun h => M_firstMatch h a1 a2) hL hM (HX_t 1) (by decide)
theorem kp_52 {j : Nat} (hj : j < 5) {a2 : Int32} (h : a2 < nI 1 ∨ nI 9999 < a2) : (K_52 HM (nI j) a2).isSome = true := by
  have hL : L_firstMatch HM (nI j) a2 = some (2, HM) := by
    have e : C_needRange HM a2 1 9999 = some (.inl (1, HM)) := range_out h
    simp only [L_firstMatch, C_firstMatch, needClip_in hj, thB_r, C_needPattern, e, thB_l, caB_l]; rfl
  have hM : M_firstMatch HM (nI j) a2 = some (0, HX 2) := by
    have e : M_in a2 1 9999 = some false := in_out h
    simp only [M_firstMatch, M_isPattern, isClip_in hj, e, Option.bind_some, lt, nm, bf, bt, if_true, if_false, th1, th2a, th2b, th3a, th3b, M_clipTold, M_throwsPair]
  exact kT (L := L_firstMatch HM (nI j) a2) (M := fun h => M_firstMatch h (nI j) a2) hL hM (HX_t 2) (by decide)
theorem ko_53 {a1 : Int32} (h : outR a1 (nI 5)) : (K_53 HM a1).isSome = true := by
  have hL : L_bestPattern HM a1 = some (1, HM) := by
    unfold L_bestPattern C_bestPattern; rw [needClip_out h]; rfl
  have hM : M_bestPattern HM a1 = some (0, HX 1) := by
    simp only [M_bestPattern, isClip_out h, Option.bind_some, lt, nm, bf, bt, if_true, if_false, th1, th2a, th2b, th3a, th3b, M_clipTold, M_throwsPair]
  exact kT (L := L_bestPattern HM a1) (M := fun h => M_bestPattern h a1) hL hM (HX_t 1) (by decide)
theorem ko_60 {a1 : Int32} (h : outR a1 (nI 2)) : (K_60 HM a1).isSome = true := by
  have hL : L_writeReel HM a1 = some (1, HM) := by
    unfold L_writeReel C_writeReel; rw [needReel_out h]; rfl
  have hM : M_writeReel HM a1 = some (0, HX 1) := by
    simp only [M_writeReel, isReel_out h, Option.bind_some, lt, nm, bf, bt, if_true, if_false, th1, th2a, th2b, th3a, th3b, M_clipTold, M_throwsPair]
  exact kT (L := L_writeReel HM a1) (M := fun h => M_writeReel h a1) hL hM (HX_t 1) (by decide)
theorem ko_4 {a1 : Int32} (h : a1 < nI 1 ∨ nI 9 < a1) : (K_4 HM a1).isSome = true := by
  have hL : L_addReel HM a1 = some (1, HM) := by
    have e : C_needRange HM a1 1 9 = some (.inl (1, HM)) := range_out h
    simp only [L_addReel, C_addReel, C_needPattern, e, thB_l, caB_l]; rfl
  have hM : M_addReel HM a1 = some (0, HX 1) := by
    have e : M_in a1 1 9 = some false := in_out h
    simp only [M_addReel, M_isPattern, e, cntMReel, cntMScene, Option.bind_some, lt, nm, bf, bt, if_true, if_false, th1, th2a, th2b, th3a, th3b, M_clipTold, M_throwsPair]
    try rfl
  exact kT (L := L_addReel HM a1) (M := fun h => M_addReel h a1) hL hM (HX_t 1) (by decide)
theorem ko_5 {a1 : Int32} (h : a1 < nI 1 ∨ nI 9 < a1) : (K_5 HM a1).isSome = true := by
  have hL : L_addScene HM a1 = some (1, HM) := by
    have e : C_needRange HM a1 1 9 = some (.inl (1, HM)) := range_out h
    simp only [L_addScene, C_addScene, C_needPattern, e, thB_l, caB_l]; rfl
  have hM : M_addScene HM a1 = some (0, HX 1) := by
    have e : M_in a1 1 9 = some false := in_out h
    simp only [M_addScene, M_isPattern, e, cntMReel, cntMScene, Option.bind_some, lt, nm, bf, bt, if_true, if_false, th1, th2a, th2b, th3a, th3b, M_clipTold, M_throwsPair]
    try rfl
  exact kT (L := L_addScene HM a1) (M := fun h => M_addScene h a1) hL hM (HX_t 1) (by decide)
theorem ko_11 {a1 : Int32} (h : a1 < nI 1 ∨ nI 999 < a1) : (K_11 HM a1).isSome = true := by
  have hL : L_addFood HM a1 = some (1, HM) := by
    have e : C_needRange HM a1 1 999 = some (.inl (1, HM)) := range_out h
    simp only [L_addFood, C_addFood, C_needPattern, e, thB_l, caB_l]; rfl
  have hM : M_addFood HM a1 = some (0, HX 1) := by
    have e : M_in a1 1 999 = some false := in_out h
    simp only [M_addFood, M_isPattern, e, cntMReel, cntMScene, Option.bind_some, lt, nm, bf, bt, if_true, if_false, th1, th2a, th2b, th3a, th3b, M_clipTold, M_throwsPair]
    try rfl
  exact kT (L := L_addFood HM a1) (M := fun h => M_addFood h a1) hL hM (HX_t 1) (by decide)
theorem ko_13 {a1 : Int32} (h : a1 < nI 1 ∨ nI 50 < a1) : (K_13 HM a1).isSome = true := by
  have hL : L_passWeeks HM a1 = some (1, HM) := by
    have e : C_needRange HM a1 1 50 = some (.inl (1, HM)) := range_out h
    simp only [L_passWeeks, C_passWeeks, C_needPattern, e, thB_l, caB_l]; rfl
  have hM : M_passWeeks HM a1 = some (0, HX 1) := by
    have e : M_in a1 1 50 = some false := in_out h
    simp only [M_passWeeks, M_isPattern, e, cntMReel, cntMScene, Option.bind_some, lt, nm, bf, bt, if_true, if_false, th1, th2a, th2b, th3a, th3b, M_clipTold, M_throwsPair]
    try rfl
  exact kT (L := L_passWeeks HM a1) (M := fun h => M_passWeeks h a1) hL hM (HX_t 1) (by decide)
theorem ko_50 {a1 : Int32} (h : a1 < nI 1 ∨ nI 9999 < a1) : (K_50 HM a1).isSome = true := by
  have hL : L_matchingSleepers HM a1 = some (1, HM) := by
    have e : C_needRange HM a1 1 9999 = some (.inl (1, HM)) := range_out h
    simp only [L_matchingSleepers, C_matchingSleepers, C_needPattern, e, thB_l, caB_l]; rfl
  have hM : M_matchingSleepers HM a1 = some (0, HX 1) := by
    have e : M_in a1 1 9999 = some false := in_out h
    simp only [M_matchingSleepers, M_isPattern, e, cntMReel, cntMScene, Option.bind_some, lt, nm, bf, bt, if_true, if_false, th1, th2a, th2b, th3a, th3b, M_clipTold, M_throwsPair]
    try rfl
  exact kT (L := L_matchingSleepers HM a1) (M := fun h => M_matchingSleepers h a1) hL hM (HX_t 1) (by decide)
