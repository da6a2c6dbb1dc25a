/-! ===== the class's other writes, weeks, checks ===== -/
section
variable {h : Hp} {a : Nat}
set_option maxRecDepth 16384 in
theorem putReel_ok (I : Arc h a) {n b : Nat} (hn : rd h a 12 = nI n) (hl : n < 4) (hb : b ≤ 9) : ∃ h', A_putReel h a (nI b) = some (nI n, h') ∧ Wk h a h' ∧ rd h' a = upd (rd h a) 12 (nI (n + 1)) ∧ rd h' (a + 7) = upd (rd h (a + 7)) n (nI b) ∧ (∀ i, rd h' (a + 8) i = if n * 9 ≤ i ∧ i < n * 9 + b then -1 else rd h (a + 8) i) ∧ ∀ k, k ≠ a → k ≠ a + 7 → k ≠ a + 8 → rd h' k = rd h k := by
  obtain ⟨h1, e1⟩ : ∃ h1, h1 = up2 h a 12 (nI (n + 1)) := ⟨_, rfl⟩
  obtain ⟨h2, e2⟩ : ∃ h2, h2 = up2 h1 (a + 7) n (nI b) := ⟨_, rfl⟩
  have I1 : Arc h1 a := by rw [e1]; exact I.cnt (fun q => by cases q) (fun _ => ⟨n + 1, by omega, rfl⟩) (fun q => by cases q)
  have I2 : Arc h2 a := by rw [e2]; exact I1.wcnt ⟨b, hb, rfl⟩
  obtain ⟨h', e, p1, p2, p3⟩ := loop0 (fun m (s : Hp) v => A_putReel_L24 a (nI b) (nI n) m (nI v) s) 9 (fun s v => v ≤ b ∧ Arc s a ∧ (∀ i, rd s (a + 8) i = if n * 9 ≤ i ∧ i < n * 9 + v then -1 else rd h2 (a + 8) i) ∧ ∀ k, k ≠ a + 8 → rd s k = rd h2 k) (fun s => Arc s a ∧ (∀ i, rd s (a + 8) i = if n * 9 ≤ i ∧ i < n * 9 + b then -1 else rd h2 (a + 8) i) ∧ ∀ k, k ≠ a + 8 → rd s k = rd h2 k) (by decide) (fun m s v hv hj => by
    obtain ⟨hvb, hj⟩ := hj
    by_cases q : b = v
    · rw [A_putReel_L24, if_pos (nI_le (by omega) (by omega))]
      exact Or.inl ⟨_, rfl, by rw [q]; exact hj⟩
    · rw [A_putReel_L24, if_neg (nI_ge (by omega) (by omega)), setBed_eq hl (by omega), Option.bind_some, nI_1]
      refine Or.inr ⟨by omega, _, ⟨by omega, hj.1.wbed (Or.inl (by decide)), fun i => ?_, fun k hk => ?_⟩, rfl⟩
      · rw [rd_up2_self]
        by_cases c : i = n * 9 + v
        · subst c; rw [upd_self, if_pos (by omega)]
        · rw [upd_ne c, hj.2.1]
          by_cases d : n * 9 ≤ i ∧ i < n * 9 + v
          · rw [if_pos d, if_pos (by omega)]
          · rw [if_neg d, if_neg (by omega)]
      · rw [rd_up2_ne hk]; exact hj.2.2 k hk) h2 ⟨Nat.zero_le _, I2, fun i => by rw [if_neg (by omega)], fun _ _ => rfl⟩
  have e : A_putReel_L24 a (nI b) (nI n) FU 0 h2 = some h' := e
  refine ⟨h', ?_, ⟨p1, fun k hk => ?_⟩, ?_, ?_, fun i => ?_, fun k k0 k7 k8 => ?_⟩
  · unfold A_putReel nm
    dsimp only
    rw [hn, nI_1, ← e1, wrO_in hl (by decide), Option.bind_some, ← e2, e, Option.bind_some]
  · rw [p3 k (by omega), e2, rd_up2_ne (by omega), e1, rd_up2_ne (by omega)]
  · rw [p3 a (by omega), e2, rd_up2_ne (by omega), e1, rd_up2_self]
  · rw [p3 _ (by omega), e2, rd_up2_self, e1, rd_up2_ne (by omega)]
  · rw [p2 i, e2, rd_up2_ne (by omega), e1, rd_up2_ne (by omega)]
  · rw [p3 k k8, e2, rd_up2_ne k7, e1, rd_up2_ne k0]
set_option maxRecDepth 16384 in
theorem putScene_ok (I : Arc h a) {n : Nat} (hn : rd h a 15 = nI n) (hl : n < 5) (x : Int32) : ∃ h', A_putScene h a x = some (nI n, h') ∧ Wk h a h' ∧ ∀ k, k ≠ a → k ≠ a + 9 → k ≠ a + 10 → rd h' k = rd h k := by
  refine ⟨up2 (up2 (up2 h a 15 (nI (n + 1))) (a + 9) n x) (a + 10) n x, ?_, ⟨?_, ?_⟩, fun k k0 k9 k10 => ?_⟩
  · unfold A_putScene nm
    dsimp only
    rw [hn, nI_1, wrO_in hl (by decide), Option.bind_some, wrO_in hl (by decide), Option.bind_some]
  · exact ((I.cnt (fun q => by cases q) (fun q => by cases q) (fun _ => ⟨n + 1, by omega, rfl⟩)).any (by omega)).any (by omega)
  · refine Fr.up (Fr.up (Fr.up (Fr.rf _ _ _) ?_) ?_) ?_ <;> omega
  · rw [rd_up2_ne k10, rd_up2_ne k9, rd_up2_ne k0]
set_option maxRecDepth 16384 in
theorem putClip_wk (I : Arc h a) {n j : Nat} (hn : rd h a 5 = nI n) (hl : n < 12) (hj : j < 2 ^ 31) : ∃ h', A_putClip h a (nI j) = some (nI n, h') ∧ Wk h a h' := by
  obtain ⟨h', d, q, e, d1, d8, q9, f, r0, r1, r2, r3, r4, r5, r6⟩ := putClip_ok hn hl hj I.cols
  refine ⟨h', e, ⟨?_, ?_, ?_, ?_, r2, ?_, ?_, ?_, ?_⟩, fun k hk => f k (by omega)⟩
  · rw [r0, upd_self]; exact ⟨n + 1, by omega, rfl⟩
  · rw [r0, upd_ne (by decide)]; exact I.2.1
  · rw [r0, upd_ne (by decide)]; exact I.2.2.1
  · rw [r1]; exact sm_updS I.len ⟨d, d8, rfl⟩
  · rw [r3]; exact sm_updS I.hash ⟨q, by omega, rfl⟩
  · rw [r5]; exact sm_updS I.fats ⟨40, by decide, rfl⟩
  · rw [f (a + 7) (by omega)]; exact I.beds
  · rw [f (a + 8) (by omega)]; exact I.bed
set_option maxRecDepth 16384 in
theorem renew_wk (I : Arc h a) {c : Nat} (hc : c < 12) : ∃ q, q < 997 ∧ A_renewHash h a (nI c) = some (up2 h (a + 3) c (nI q)) := by
  obtain ⟨l, hl, el⟩ := I.len c hc
  exact renew_ok hc el hl I.cols
set_option maxRecDepth 16384 in
theorem paintClip_wk (I : Arc h a) {c i x : Nat} (hc : c < 12) (hi : i < 8) (hx : x ≤ 9) : ∃ q h', A_paintClip h a (nI c) (nI i) (nI x) = some (nI q, h') ∧ Wk h a h' ∧ h' = up2 (up2 h (a + 2) (c * 8 + i) (nI x)) (a + 3) c (nI q) := by
  have I1 : Arc (up2 h (a + 2) (c * 8 + i) (nI x)) a := I.wcol ⟨x, hx, rfl⟩
  obtain ⟨q, hq, e⟩ := renew_wk I1 hc
  refine ⟨q, _, ?_, ⟨I1.whash ⟨q, by omega, rfl⟩, Fr.up (Fr.up (Fr.rf _ _ _) (by omega)) (by omega)⟩, rfl⟩
  unfold A_paintClip
  rw [nI_ix8, wrO_in (by omega) (by decide), Option.bind_some, e, Option.bind_some, rdO_in hc (by decide), Option.bind_some, rd_up2_self, upd_self]
set_option maxRecDepth 16384 in
theorem mayFeed_ok {c : Nat} (hc : c < 12) (x : Int32) : ∃ b, A_mayFeed h a (nI c) x = some b ∧ (b = true → rd h (a + 4) c = 0 ∧ ¬ rd h a 1 < x ∧ ¬ 99 < rd h (a + 5) c + x) := by
  unfold A_mayFeed
  rw [r12 hc, Option.bind_some, r12 hc, Option.bind_some]
  by_cases e1 : rd h (a + 4) c = 0
  · rw [if_pos e1]
    by_cases e2 : rd h a 1 < x
    · rw [if_pos e2]; exact ⟨_, rfl, fun q => by cases q⟩
    · rw [if_neg e2]
      by_cases e3 : 99 < rd h (a + 5) c + x
      · rw [if_pos e3]; exact ⟨_, rfl, fun q => by cases q⟩
      · rw [if_neg e3]; exact ⟨_, rfl, fun _ => ⟨e1, e2, e3⟩⟩
  · rw [if_neg e1]; exact ⟨_, rfl, fun q => by cases q⟩
set_option maxRecDepth 16384 in
theorem feedClip_wk (I : Arc h a) {c x : Nat} (hc : c < 12) (hx : x ≤ 50) (hm : ¬ 99 < rd h (a + 5) c + nI x) : ∃ v h', A_feedClip h a (nI c) (nI x) = some (v, h') ∧ Wk h a h' := by
  obtain ⟨f, hf, ef⟩ := I.fats c hc
  refine ⟨_, _, feedClip_eq hc (nI x), ?_, ?_⟩
  · refine ((I.wfat ?_).fld (by decide) (by decide) (by decide)).fld (by decide) (by decide) (by decide)
    rw [ef, nI_add] at hm ⊢
    refine ⟨f + x, ?_, rfl⟩
    by_cases w : 99 < f + x
    · exact absurd (nI_lt (a := 99) w (by omega)) hm
    · omega
  · refine Fr.up (Fr.up (Fr.up (Fr.rf _ _ _) ?_) ?_) ?_ <;> omega
set_option maxRecDepth 16384 in
theorem mayStore_ok (x : Int32) : ∃ b, A_mayStore h a x = some b := by
  unfold A_mayStore
  by_cases e : 9999 < rd h a 1 + x
  · exact ⟨_, if_pos e⟩
  · exact ⟨_, if_neg e⟩
set_option maxRecDepth 16384 in
theorem mayPass_ok (x : Int32) : ∃ b, A_mayPass h a x = some b := by
  unfold A_mayPass
  by_cases e : 999 < rd h a 0 + x
  · exact ⟨_, if_pos e⟩
  · exact ⟨_, if_neg e⟩
set_option maxRecDepth 16384 in
theorem store_ok (I : Arc h a) (x : Int32) : ∃ v h', A_store h a x = some (v, h') ∧ Wk h a h' :=
  ⟨_, _, rfl, I.fld (by decide) (by decide) (by decide), Fr.up (Fr.rf _ _ _) (by omega)⟩
/-- what a week burns of a clip's fat f -/
def loss (st : Int32) (f : Nat) : Nat := min f (if st = 1 then 1 else 4)
set_option maxRecDepth 16384 in
theorem burn_eq (I : Arc h a) {c : Nat} (hc : c < 12) : (rd h (a + 4) c = 2 ∧ A_burn h a (nI c) = some (0, h)) ∨ ∃ f h6, rd h (a + 4) c ≠ 2 ∧ f ≤ 99 ∧ rd h (a + 5) c = nI f ∧ h6 = up2 (up2 h (a + 5) c (nI (f - loss (rd h (a + 4) c) f))) a 3 (rd h a 3 + nI (loss (rd h (a + 4) c) f)) ∧ Wk h a h6 ∧ ((f - loss (rd h (a + 4) c) f ≠ 0 ∧ A_burn h a (nI c) = some (0, h6)) ∨ (f - loss (rd h (a + 4) c) f = 0 ∧ ∃ t h9, A_leaveBed h6 a (nI c) = some (t, h9) ∧ Wk h a h9 ∧ A_burn h a (nI c) = some (1, up2 h9 (a + 4) c 2))) := by
  obtain ⟨f, hf, ef⟩ := I.fats c hc
  by_cases e1 : rd h (a + 4) c = 2
  · refine Or.inl ⟨e1, ?_⟩
    unfold A_burn
    rw [r12 hc, Option.bind_some, if_pos e1]
  · obtain ⟨l, hl⟩ : ∃ l, l = loss (rd h (a + 4) c) f := ⟨_, rfl⟩
    have hlf : l ≤ f := by rw [hl]; exact Nat.min_le_left _ _
    obtain ⟨h6, e6⟩ : ∃ h6, h6 = up2 (up2 h (a + 5) c (nI (f - l))) a 3 (rd h a 3 + nI l) := ⟨_, rfl⟩
    have W6 : Wk h a h6 := by
      rw [e6]
      exact ⟨(I.wfat ⟨f - l, by omega, rfl⟩).fld (by decide) (by decide) (by decide), Fr.up (Fr.up (Fr.rf _ _ _) (by omega)) (by omega)⟩
    have z : ∀ w : Nat, w = (if rd h (a + 4) c = 1 then 1 else 4) → mnI (nI f) (nI w) = nI l := fun w hw => by
      rw [mn_nI (by omega) (by rw [hw]; by_cases q : rd h (a + 4) c = 1 <;> simp [q]), hl, loss, hw]
    have key : (A_burn h a (nI c)) = if nI (f - l) ≤ 0 then (A_leaveBed h6 a (nI c)).bind fun (t8, h9) => (wrO h9 (a + 4) 12 (nI c) 2).bind fun h10 => some ((1 : Int32), h10) else some (0, h6) := by
      unfold A_burn lt nm
      dsimp only
      rw [r12 hc, Option.bind_some, if_neg e1, r12 hc, Option.bind_some, Option.bind_some, ef]
      have s1 : rd (up2 h (a + 5) c (nI (f - l))) a 3 = rd h a 3 := by rw [rd_up2_ne (by omega)]
      have s2 : rd h6 (a + 5) c = nI (f - l) := by rw [e6, rd_up2_ne (by omega), rd_up2_self, upd_self]
      by_cases q : rd h (a + 4) c = 1
      · have z1 := z 1 (by rw [if_pos q])
        rw [show nI 1 = (1 : Int32) from rfl] at z1
        rw [if_pos q, Option.bind_some, z1, sub_nI hlf, wrO_in hc (by decide), Option.bind_some, s1, ← e6, r12 hc, Option.bind_some, s2]
      · have z1 := z 4 (by rw [if_neg q])
        rw [show nI 4 = (4 : Int32) from rfl] at z1
        rw [if_neg q, Option.bind_some, z1, sub_nI hlf, wrO_in hc (by decide), Option.bind_some, s1, ← e6, r12 hc, Option.bind_some, s2]
    refine Or.inr ⟨f, h6, e1, hf, ef, by rw [← hl]; exact e6, W6, ?_⟩
    rw [← hl, key]
    by_cases q : f - l = 0
    · obtain ⟨t, h9, e9, w9⟩ := leaveBed_ok W6.1 (nI c)
      refine Or.inr ⟨q, t, h9, e9, W6.tr w9, ?_⟩
      rw [q, if_pos (by decide), e9, Option.bind_some]
      dsimp only
      rw [wrO_in hc (by decide), Option.bind_some]
    · exact Or.inl ⟨q, if_neg (nI_nle (by omega) (by omega))⟩
set_option maxRecDepth 16384 in
theorem burn_ok (I : Arc h a) {c : Nat} (hc : c < 12) : ∃ v h', A_burn h a (nI c) = some (v, h') ∧ Wk h a h' := by
  rcases burn_eq I hc with ⟨-, e⟩ | ⟨f, h6, -, -, -, -, w6, ⟨-, e⟩ | ⟨-, t, h9, -, w9, e⟩⟩
  · exact ⟨_, _, e, Wk.rf I⟩
  · exact ⟨_, _, e, w6⟩
  · exact ⟨_, _, e, w9.1.any (by omega), w9.2.up (by omega)⟩
set_option maxRecDepth 16384 in
theorem refill_ok (I : Arc h a) : ∃ h', A_refillSprings h a = some h' ∧ Wk h a h' ∧ ∀ k, k ≠ a + 10 → rd h' k = rd h k := by
  obtain ⟨h', e, p⟩ := loop0 (fun n (s : Hp) v => A_refillSprings_L2 a n (nI v) s) 5 (fun s _ => Wk h a s ∧ ∀ k, k ≠ a + 10 → rd s k = rd h k) (fun s => Wk h a s ∧ ∀ k, k ≠ a + 10 → rd s k = rd h k) (by decide) (fun n s v hv w => by
    obtain ⟨t, ht, et⟩ := w.1.1.scenes
    rw [A_refillSprings_L2, et]
    by_cases q : t ≤ v
    · exact Or.inl ⟨_, if_pos (nI_le q (by omega)), w⟩
    · rw [if_neg (nI_ge (by omega) (by omega)), r5 (by omega), Option.bind_some, r5 (by omega), Option.bind_some, wrO_in (by omega) (by decide), Option.bind_some, nI_1]
      exact Or.inr ⟨by omega, _, ⟨⟨w.1.1.any (by omega), w.1.2.up (by omega)⟩, fun k hk => by rw [rd_up2_ne hk]; exact w.2 k hk⟩, rfl⟩) h ⟨Wk.rf I, fun _ _ => rfl⟩
  refine ⟨h', ?_, p⟩
  unfold A_refillSprings
  exact bO e _
set_option maxRecDepth 16384 in
theorem passM_ok (I : Arc h a) (x : Int32) : ∃ v h', A_pass_L22 a FU x 0 h = some (v, h') ∧ Wk h a h' := by
  obtain ⟨⟨v, h'⟩, e, p⟩ := loop0 (fun n (s : Int32 × Hp) v => A_pass_L22 a n s.1 (nI v) s.2) 12 (fun s _ => Wk h a s.2) (fun s => Wk h a s.2) (by decide) (fun n s v hv w => by
    obtain ⟨t, ht, et⟩ := w.1.clips
    rw [A_pass_L22, et]
    by_cases q : t ≤ v
    · exact Or.inl ⟨_, if_pos (nI_le q (by omega)), w⟩
    · obtain ⟨y, g, ey, wy⟩ := burn_ok w.1 (by omega : v < 12)
      rw [if_neg (nI_ge (by omega) (by omega)), ey, Option.bind_some, nI_1]
      exact Or.inr ⟨by omega, (_, g), w.tr wy, rfl⟩) (x, h) (Wk.rf I)
  exact ⟨v, h', e, p⟩
set_option maxRecDepth 16384 in
theorem pass_ok (I : Arc h a) {w : Nat} (hw : w ≤ 50) : ∃ v h', A_pass h a (nI w) = some (v, h') ∧ Wk h a h' := by
  obtain ⟨⟨v, h'⟩, e, p⟩ := loop0 (fun n (s : Int32 × Hp) v => A_pass_L4 a (nI w) n s.1 (nI v) s.2) 50 (fun s _ => Wk h a s.2) (fun s => Wk h a s.2) (by decide) (fun n s v hv k => by
    rw [A_pass_L4]
    by_cases q : w ≤ v
    · exact Or.inl ⟨_, if_pos (nI_le q (by omega)), k⟩
    · have I1 : Wk h a (up2 s.2 a 0 (rd s.2 a 0 + 1)) := ⟨k.1.fld (by decide) (by decide) (by decide), k.2.up (by omega)⟩
      obtain ⟨y, g, ey, wy⟩ := passM_ok I1.1 s.1
      obtain ⟨g2, e2, w2, -⟩ := refill_ok wy.1
      unfold nm
      rw [if_neg (nI_ge (by omega) (by omega))]
      dsimp only
      rw [ey, Option.bind_some]
      dsimp only
      rw [e2, Option.bind_some, nI_1]
      exact Or.inr ⟨by omega, (y, g2), (I1.tr wy).tr w2, rfl⟩) (0, h) (Wk.rf I)
  refine ⟨v, h', ?_, p⟩
  have e : A_pass_L4 a (nI w) FU 0 0 h = some (v, h') := e
  unfold A_pass
  rw [e, Option.bind_some]
/-! the rest of the reads -/
/-- the sum of the first n fats -/
def fsum (f : Nat → Int32) : Nat → Nat
  | 0 => 0
  | n + 1 => fsum f n + (f n).toNatClampNeg
set_option maxRecDepth 16384 in
theorem fsum_le {f : Nat → Int32} (hf : Sm 12 99 f) : ∀ n, n ≤ 12 → fsum f n ≤ 99 * n
  | 0, _ => Nat.le_refl _
  | n + 1, hn => by
    obtain ⟨k, hk, ek⟩ := hf n (by omega)
    have := fsum_le hf n (by omega)
    rw [fsum, ek, nI_clamp (by omega)]
    omega
set_option maxRecDepth 16384 in
theorem allFat_ok (I : Arc h a) {t : Nat} (et : rd h a 5 = nI t) (ht : t ≤ 12) : A_allFat h a = some (nI (fsum (rd h (a + 5)) t)) := by
  obtain ⟨x, e, p⟩ := loop0 (fun n s v => A_allFat_L4 h a n s (nI v)) 12 (fun s v => v ≤ t ∧ s = nI (fsum (rd h (a + 5)) v)) (fun x => x = nI (fsum (rd h (a + 5)) t)) (by decide) (fun n s v hv hj => by
    rw [A_allFat_L4, et]
    by_cases q : t ≤ v
    · obtain rfl : v = t := by omega
      exact Or.inl ⟨_, if_pos (nI_le q (by omega)), hj.2⟩
    · obtain ⟨k, hk, ek⟩ := I.fats v (by omega)
      rw [if_neg (nI_ge (by omega) (by omega)), r12 (by omega), Option.bind_some, nI_1, hj.2, ek, nI_add]
      exact Or.inr ⟨by omega, _, ⟨by omega, by rw [fsum, ek, nI_clamp (by omega)]⟩, rfl⟩) 0 ⟨Nat.zero_le _, rfl⟩
  unfold A_allFat
  rw [← p]
  exact bO e _
set_option maxRecDepth 16384 in
theorem inState_ok (I : Arc h a) (x : Int32) {t : Nat} (et : rd h a 5 = nI t) (ht : t ≤ 12) : ∃ S, S < 4096 ∧ A_clipsInState h a x = some (nI S) ∧ ∀ c, S.testBit c = true ↔ c < t ∧ rd h (a + 4) c = x := by
  obtain ⟨y, e, S, hS, rfl, p⟩ := loop0 (fun n s v => A_clipsInState_L4 h a x n s (nI v)) 12 (fun s v => v ≤ t ∧ ∃ S, S < 4096 ∧ s = nI S ∧ ∀ c, S.testBit c = true ↔ c < v ∧ rd h (a + 4) c = x) (fun y => ∃ S, S < 4096 ∧ y = nI S ∧ ∀ c, S.testBit c = true ↔ c < t ∧ rd h (a + 4) c = x) (by decide) (fun n s v hv hj => by
    obtain ⟨hvt, S, hS, rfl, p⟩ := hj
    rw [A_clipsInState_L4, et]
    by_cases q : t ≤ v
    · obtain rfl : v = t := by omega
      exact Or.inl ⟨_, if_pos (nI_le q (by omega)), S, hS, rfl, p⟩
    · rw [if_neg (nI_ge (by omega) (by omega)), r12 (by omega), Option.bind_some, nI_1]
      refine Or.inr ⟨by omega, ?_⟩
      by_cases z : rd h (a + 4) v = x
      · rw [if_pos z, or_c (by omega)]
        refine ⟨_, ⟨by omega, _, or_lt hS (by omega), rfl, fun c => ?_⟩, rfl⟩
        rw [Nat.testBit_or, Nat.testBit_two_pow, Bool.or_eq_true, p c, decide_eq_true_iff]
        constructor
        · rintro (⟨b, eb⟩ | rfl)
          · exact ⟨by omega, eb⟩
          · exact ⟨by omega, z⟩
        · rintro ⟨b, eb⟩
          by_cases e : v = c
          · exact Or.inr e
          · exact Or.inl ⟨by omega, eb⟩
      · rw [if_neg z]
        refine ⟨_, ⟨by omega, S, hS, rfl, fun c => (p c).trans ⟨fun q => ⟨by omega, q.2⟩, fun q => ⟨?_, q.2⟩⟩⟩, rfl⟩
        by_cases e : c = v
        · subst e; exact absurd q.2 z
        · omega) 0 ⟨Nat.zero_le _, 0, by decide, rfl, fun c => by simp⟩
  refine ⟨S, hS, ?_, p⟩
  unfold A_clipsInState
  exact bO e _
set_option maxRecDepth 16384 in
theorem bitCount_ok (x : Int32) : ∃ k, k < 64 ∧ J_bitCount x = some (nI k) := by
  unfold J_bitCount nm
  dsimp only
  obtain ⟨j, hj, e⟩ := pk_andE ((((((x - ((iush x 1) &&& 1431655765)) &&& 858993459) + ((iush (x - ((iush x 1) &&& 1431655765)) 2) &&& 858993459)) + (iush (((x - ((iush x 1) &&& 1431655765)) &&& 858993459) + ((iush (x - ((iush x 1) &&& 1431655765)) 2) &&& 858993459)) 4)) &&& 252645135) + (iush (((((x - ((iush x 1) &&& 1431655765)) &&& 858993459) + ((iush (x - ((iush x 1) &&& 1431655765)) 2) &&& 858993459)) + (iush (((x - ((iush x 1) &&& 1431655765)) &&& 858993459) + ((iush (x - ((iush x 1) &&& 1431655765)) 2) &&& 858993459)) 4)) &&& 252645135) 8) + (iush ((((((x - ((iush x 1) &&& 1431655765)) &&& 858993459) + ((iush (x - ((iush x 1) &&& 1431655765)) 2) &&& 858993459)) + (iush (((x - ((iush x 1) &&& 1431655765)) &&& 858993459) + ((iush (x - ((iush x 1) &&& 1431655765)) 2) &&& 858993459)) 4)) &&& 252645135) + (iush (((((x - ((iush x 1) &&& 1431655765)) &&& 858993459) + ((iush (x - ((iush x 1) &&& 1431655765)) 2) &&& 858993459)) + (iush (((x - ((iush x 1) &&& 1431655765)) &&& 858993459) + ((iush (x - ((iush x 1) &&& 1431655765)) 2) &&& 858993459)) 4)) &&& 252645135) 8)) 16)) (m := 63) 6 (by decide)
  exact ⟨j, hj, congrArg some e⟩
set_option maxRecDepth 16384 in
theorem bedsWith_ok (I : Arc h a) (x : Int32) : ∃ v, A_bedsWith h a x = some v := by
  obtain ⟨t, ht, et⟩ := I.reels
  have inner : ∀ r, r < 4 → ∀ s : Int32, ∃ y, A_bedsWith_L15 h a x (nI r) FU s 0 = some y := fun r hr s => by
    obtain ⟨m, hm, em⟩ := I.beds r hr
    obtain ⟨y, e, -⟩ := loop0 (fun n s v => A_bedsWith_L15 h a x (nI r) n s (nI v)) 9 (fun _ _ => True) (fun _ => True) (by decide) (fun n s v hv _ => by
      rw [A_bedsWith_L15, r4 hr, Option.bind_some, em]
      by_cases q : m ≤ v
      · exact Or.inl ⟨_, if_pos (nI_le q (by omega)), trivial⟩
      · rw [if_neg (nI_ge (by omega) (by omega)), inBed_eq hr (by omega), Option.bind_some, nI_1]
        refine Or.inr ⟨by omega, ?_⟩
        by_cases z : rd h (a + 8) (r * 9 + v) = x
        · rw [if_pos z]; exact ⟨_, trivial, rfl⟩
        · rw [if_neg z]; exact ⟨_, trivial, rfl⟩) s trivial
    exact ⟨y, e⟩
  obtain ⟨y, e, -⟩ := loop0 (fun n s v => A_bedsWith_L4 h a x n s (nI v)) 4 (fun _ _ => True) (fun _ => True) (by decide) (fun n s v hv _ => by
    rw [A_bedsWith_L4, et]
    by_cases q : t ≤ v
    · exact Or.inl ⟨_, if_pos (nI_le q (by omega)), trivial⟩
    · obtain ⟨y, ey⟩ := inner v (by omega) s
      rw [if_neg (nI_ge (by omega) (by omega)), ey, Option.bind_some, nI_1]
      exact Or.inr ⟨by omega, _, trivial, rfl⟩) 0 trivial
  exact ⟨y, by unfold A_bedsWith; exact bO e _⟩
set_option maxRecDepth 16384 in
theorem isFound_ok (I : Arc h a) {c : Nat} (hc : c < 12) : ∃ b, A_isFound h a (nI c) = some b := by
  obtain ⟨v, ev, p⟩ := placeOf_ok I (nI c)
  unfold A_isFound
  rw [ev, Option.bind_some]
  rcases p with ⟨rfl, -⟩ | ⟨r, b, hb, rfl, -⟩
  · exact ⟨_, if_pos rfl⟩
  · have h1 := hb.1
    have h2 := hb.2.1
    have d9 : nI (r * 9 + b) / 9 = nI r := by
      rw [show (9 : Int32) = nI 9 from rfl, pk_div (by omega) (by decide) (by decide)]
      congr 1; omega
    obtain ⟨q, m, k, hq, hm, eq, em, hk, hk1, ek, -⟩ := looks_ok I hc h1
    have hm1 : 1 ≤ m := by
      have := hb.2.2.2
      rw [em] at this
      have := (nI_ltI (by omega) (by omega)).mp this
      omega
    have hk2 := hk1 hm1
    rw [if_neg (nI_nm1 (by omega)), d9, ek, Option.bind_some, show nI k - 1 = nI (k - 1) from pk_sub (b := 1) hk2, wayBed_eq hc h1 eq hq em hm (by omega), Option.bind_some, inBed_eq h1 (wb_lt hm), Option.bind_some]
    by_cases z : rd h (a + 8) (r * 9 + wb q m (k - 1)) = nI c
    · exact ⟨_, if_pos z⟩
    · exact ⟨_, if_neg z⟩
set_option maxRecDepth 16384 in
theorem faults_ok (I : Arc h a) : ∃ v, A_faults h a = some v := by
  obtain ⟨t, ht, et⟩ := I.clips
  obtain ⟨u, hu, eu⟩ := I.reels
  obtain ⟨x, e1, -⟩ := loop0 (fun n s v => A_faults_L28 h a n s (nI v)) 12 (fun _ _ => True) (fun _ => True) (by decide) (fun n s v hv _ => by
    rw [A_faults_L28, et]
    by_cases q : t ≤ v
    · exact Or.inl ⟨_, if_pos (nI_le q (by omega)), trivial⟩
    · obtain ⟨y, ey⟩ := bedsWith_ok I (nI v)
      obtain ⟨b, eb⟩ := isFound_ok I (by omega : v < 12)
      rw [if_neg (nI_ge (by omega) (by omega)), r12 (by omega), Option.bind_some, ey, Option.bind_some, eb, Option.bind_some, nI_1]
      refine Or.inr ⟨by omega, ?_⟩
      by_cases z1 : rd h (a + 4) v = 1
      · rw [if_pos z1]
        by_cases z2 : y = 1
        · rw [if_pos z2]
          by_cases z3 : b2i b = 0
          · rw [if_pos z3]; exact ⟨_, trivial, rfl⟩
          · rw [if_neg z3]; exact ⟨_, trivial, rfl⟩
        · rw [if_neg z2]; exact ⟨_, trivial, rfl⟩
      · rw [if_neg z1]; exact ⟨_, trivial, rfl⟩) (abI ((((40 * (rd h a 5)) + (rd h a 2)) - (nI (fsum (rd h (a + 5)) t))) - (rd h a 3))) trivial
  obtain ⟨y, e2, -⟩ := loop0 (fun n s v => A_faults_L74 h a n s (nI v)) 4 (fun _ _ => True) (fun _ => True) (by decide) (fun n s v hv _ => by
    rw [A_faults_L74, eu]
    by_cases q : u ≤ v
    · exact Or.inl ⟨_, if_pos (nI_le q (by omega)), trivial⟩
    · obtain ⟨S, -, eS, -⟩ := sleepersIn_ok I (by omega : v < 4)
      obtain ⟨T, -, eT, -⟩ := inState_ok I 1 et ht
      obtain ⟨k, -, ek⟩ := bitCount_ok (nI S &&& (nI T ^^^ (-1)))
      rw [if_neg (nI_ge (by omega) (by omega)), eS, Option.bind_some, eT, Option.bind_some, ek, Option.bind_some, nI_1]
      exact Or.inr ⟨by omega, _, trivial, rfl⟩) x trivial
  refine ⟨y, ?_⟩
  have e1 : A_faults_L28 h a FU (abI ((((40 * (rd h a 5)) + (rd h a 2)) - (nI (fsum (rd h (a + 5)) t))) - (rd h a 3))) 0 = some x := e1
  have e2 : A_faults_L74 h a FU x 0 = some y := e2
  unfold A_faults
  rw [allFat_ok I et ht, Option.bind_some, e1, Option.bind_some, e2, Option.bind_some]
set_option maxRecDepth 16384 in
theorem empty_ok (I : Arc h a) : ∃ h', A_empty h a = some h' ∧ Wk h a h' ∧ (∀ k, k ≠ a → rd h' k = rd h k) ∧ rd h' a = upd (upd (upd (upd (upd (upd (upd (upd (rd h a) 0 0) 1 100) 2 0) 3 0) 4 0) 5 0) 12 0) 15 0 := by
  refine ⟨_, rfl, ⟨?_, ?_⟩, fun k hk => ?_, ?_⟩
  · refine Arc.cnt (Arc.cnt (Arc.cnt (Arc.fld (Arc.fld (Arc.fld (Arc.fld (Arc.fld I ?_ ?_ ?_) ?_ ?_ ?_) ?_ ?_ ?_) ?_ ?_ ?_) ?_ ?_ ?_) ?_ ?_ ?_) ?_ ?_ ?_) ?_ ?_ ?_ <;> first | decide | (intro q; exact ⟨0, by decide, rfl⟩)
  · refine Fr.up (Fr.up (Fr.up (Fr.up (Fr.up (Fr.up (Fr.up (Fr.up (Fr.rf _ _ _) ?_) ?_) ?_) ?_) ?_) ?_) ?_) ?_ <;> omega
  · simp only [rd_up2_ne hk]
  · simp only [rd_up2_self]
end
