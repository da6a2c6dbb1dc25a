/-! ===== p65: a deed is a change, or nothing ===== -/
section
variable {h : Hp} {e c0 n R S : Nat}
theorem rmO_eq {a d : Nat} (ha : a < 2 ^ 31) (h1 : 1 ≤ d) (hd : d < 2 ^ 31) : rmO (nI a) (nI d) = some (nI (a % d)) := by
  unfold rmO
  rw [if_neg (nI_ne0 h1 hd), pk_rem ha h1 hd]
theorem one_rem {x d : Nat} (hx : x < 2 ^ 31) (h1 : 1 ≤ d) (hd : d < 2 ^ 31) : 1 + (nI x - nI x / nI d * nI d) = nI (1 + x % d) := by
  rw [pk_rem hx h1 hd, show (1 : Int32) = nI 1 from rfl, nI_add]
theorem nearest_x (I : Ary h 1) (eR : rd h 1 12 = nI R) (hR : R ≤ 4) {c : Nat} (hc : c < 12) : ∃ v, A_nearestReel h 1 (nI c) = some v ∧ (v = -1 ∨ ∃ r, r < R ∧ v = nI r ∧ A_refusal h 1 (nI c) (nI r) = some 0) := by
  obtain ⟨x, e, p⟩ := loop0 (fun n (s : Int32 × Int32) v => A_nearestReel_L8 h 1 (nI c) n s.1 s.2 (nI v)) R (fun s _ => s.1 = -1 ∨ ∃ r, r < R ∧ s.1 = nI r ∧ A_refusal h 1 (nI c) (nI r) = some 0) (fun x => x = -1 ∨ ∃ r, r < R ∧ x = nI r ∧ A_refusal h 1 (nI c) (nI r) = some 0) (by omega) (fun n s v hv j => by
    rw [A_nearestReel_L8, eR]
    by_cases w : R ≤ v
    · exact Or.inl ⟨_, if_pos (nI_le w (by omega)), j⟩
    · obtain ⟨y, ey, -⟩ := refusal_ok I.1.1 hc (show v < 4 by omega)
      obtain ⟨_, _, z, _, _, _, _, ez, _⟩ := passedBeds_ok I.1.1 hc (show v < 4 by omega)
      rw [if_neg (nI_ge (by omega) (by omega)), ey, Option.bind_some, ez, Option.bind_some, Option.bind_some, nI_1]
      refine Or.inr ⟨by omega, ?_⟩
      by_cases q : y = 0
      · rw [if_pos q]
        by_cases q2 : s.2 ≤ z
        · rw [if_pos q2]; exact ⟨s, j, rfl⟩
        · rw [if_neg q2]; exact ⟨(nI v, z), Or.inr ⟨v, by omega, rfl, by rw [ey, q]⟩, rfl⟩
      · rw [if_neg q]; exact ⟨s, j, rfl⟩) (-1, 9) (Or.inl rfl)
  have e : A_nearestReel_L8 h 1 (nI c) FU (-1) 9 0 = some x := e
  exact ⟨x, by unfold A_nearestReel; rw [e, Option.bind_some], p⟩
theorem aR_s : ∀ (k j : Nat), aR k j = true → aR (k + 1) j = true
  | 0, j, h => by cases h
  | k + 1, j, h => by
    rw [aR] at h ⊢
    by_cases z : j % 10 = 0
    · rw [if_pos z] at h; cases h
    · rw [if_neg z] at h ⊢
      by_cases y : j / 10 = 0
      · rw [if_pos y]
      · rw [if_neg y] at h ⊢; exact aR_s k _ h
theorem aR_le {k j : Nat} (d : Nat) (h : aR k j = true) : aR (k + d) j = true := by
  induction d with
  | zero => exact h
  | succ d ih => exact aR_s _ _ ih
theorem areC {j : Nat} (h1 : 1 ≤ j) (hj : j < 2 ^ 31) (ha : aR 8 j = true) : A_areColours (nI j) = some true := by
  obtain ⟨r, er, p⟩ := aL FU 0 j (by omega) h1 hj (by unfold FU; omega)
  have er : A_areColours_L4 FU (nI j) 0 = some r := er
  rw [Nat.sub_zero, ha] at p
  unfold A_areColours
  rw [er, Option.bind_some]
  match r, p with
  | .inr y, p => rw [show y = true from p]
  | .inl (), p => cases p
theorem colours_x (x : Int32) {m : Nat} (m1 : 1 ≤ m) (hm : m ≤ 8) : ∃ j, 1 ≤ j ∧ j < 10 ^ 8 ∧ L_colours x (nI m) = some (nI j) ∧ aR 8 j = true := by
  obtain ⟨r, e, j, j1, jl, ej, ja⟩ := loop0 (fun n (s : Int32) v => L_colours_L4 x (nI m) n s (nI v)) m (fun s v => ∃ j, s = nI j ∧ j < 10 ^ v ∧ ((v = 0 ∧ j = 0) ∨ (1 ≤ j ∧ aR v j = true))) (fun s => ∃ j, 1 ≤ j ∧ j < 10 ^ 8 ∧ s = nI j ∧ aR 8 j = true) (by omega) (fun n s v hv i => by
    obtain ⟨j, ej, jl, jc⟩ := i
    have p8 : 10 ^ v ≤ 10 ^ 8 := Nat.pow_le_pow_right (by decide) (by omega)
    rw [L_colours_L4]
    by_cases w : m ≤ v
    · obtain rfl : v = m := by omega
      rcases jc with ⟨q, -⟩ | ⟨j1, ja⟩
      · omega
      · refine Or.inl ⟨s, if_pos (nI_le w (by omega)), j, j1, by omega, ej, ?_⟩
        have := aR_le (8 - v) ja
        rw [show v + (8 - v) = 8 by omega] at this
        exact this
    · obtain ⟨d, hd, ed⟩ := and_lt (x >>> ((2 * nI v) &&& 31)) 3 (by decide)
      have ed : (x >>> ((2 * nI v) &&& 31)) &&& 3 = nI d := ed
      have p7 : 10 ^ v ≤ 10 ^ 7 := Nat.pow_le_pow_right (by decide) (by omega)
      rw [if_neg (nI_ge (by omega) (by omega)), ed, ej, show (10 : Int32) = nI 10 from rfl, pk_mul, nI_1, nI_1, nI_add]
      have g : aR (v + 1) (10 * j + 1 + d) = true := by
        rw [aR, if_neg (by omega), show (10 * j + 1 + d) / 10 = j by omega]
        rcases jc with ⟨-, q⟩ | ⟨j1, ja⟩
        · rw [if_pos q]
        · rw [if_neg (by omega)]; exact ja
      refine Or.inr ⟨by omega, _, ⟨10 * j + 1 + d, rfl, ?_, Or.inr ⟨by omega, g⟩⟩, rfl⟩
      rw [Nat.pow_succ]
      omega) 0 ⟨0, rfl, by decide, Or.inl ⟨rfl, rfl⟩⟩
  have e : L_colours_L4 x (nI m) FU 0 0 = some r := e
  exact ⟨j, j1, jl, by unfold L_colours; rw [e, Option.bind_some, ej], ja⟩
theorem i_assoc (a b c : Int32) : a + b + c = a + (b + c) := Int32.add_assoc a b c
set_option maxHeartbeats 4000000 in
theorem deed_y (I : Ary h 1) (ring : Ring h e c0) (p : Int32) : ∃ h', L_deed h p = some h' ∧ (h' = h ∨ (Chg h h' e c0 ∧ Ary h' 1)) := by
  obtain ⟨n, R, S, n1, hn, R1, hR, S1, hS, en, eR, eS, v5, v12, v15⟩ := I.nums
  obtain ⟨a1, ha1, ea1⟩ := and_lt (iush p 4) 15 (by decide)
  obtain ⟨a2, ha2, ea2⟩ := and_lt (iush p 8) 3 (by decide)
  obtain ⟨a3, ha3, ea3⟩ := and_lt (iush p 10) 7 (by decide)
  obtain ⟨x, hx, ex⟩ := and_lt (iush p 13) 65535 (by decide)
  obtain ⟨k, hk, ek⟩ := and_lt p 15 (by decide)
  have ea1 : (iush p 4) &&& 15 = nI a1 := ea1
  have ea2 : (iush p 8) &&& 3 = nI a2 := ea2
  have ea3 : (iush p 10) &&& 7 = nI a3 := ea3
  have ex : (iush p 13) &&& 65535 = nI x := ex
  have ek : p &&& 15 = nI k := ek
  obtain ⟨c, ec⟩ : ∃ c, c = a1 % n := ⟨_, rfl⟩
  obtain ⟨r, er⟩ : ∃ r, r = a2 % R := ⟨_, rfl⟩
  obtain ⟨s, es⟩ : ∃ s, s = a3 % S := ⟨_, rfl⟩
  have hc : c < n := by rw [ec]; exact Nat.mod_lt _ n1
  have hr : r < R := by rw [er]; exact Nat.mod_lt _ R1
  have hs : s < S := by rw [es]; exact Nat.mod_lt _ S1
  have q9 : 1 + (nI x - nI x / 9 * 9) = nI (1 + x % 9) := one_rem (d := 9) (by omega) (by decide) (by decide)
  have q20 : 1 + (nI x - nI x / 20 * 20) = nI (1 + x % 20) := one_rem (d := 20) (by omega) (by decide) (by decide)
  have q50 : 1 + (nI x - nI x / 50 * 50) = nI (1 + x % 50) := one_rem (d := 50) (by omega) (by decide) (by decide)
  have q99 : 1 + (nI x - nI x / 99 * 99) = nI (1 + x % 99) := one_rem (d := 99) (by omega) (by decide) (by decide)
  have q999 : 1 + (nI x - nI x / 999 * 999) = nI (1 + x % 999) := one_rem (d := 999) (by omega) (by decide) (by decide)
  have eC : C_clipCount h = some (nI n) := by unfold C_clipCount; rw [en]
  have eRc : C_reelCount h = some (nI R) := by unfold C_reelCount; rw [eR]
  have eSc : C_sceneCount h = some (nI S) := by unfold C_sceneCount; rw [eS]
  have m1 : rmO ((iush p 4) &&& 15) (nI n) = some (nI c) := by rw [ea1, rmO_eq (by omega) n1 (by omega), ec]
  have m2 : rmO ((iush p 8) &&& 3) (nI R) = some (nI r) := by rw [ea2, rmO_eq (by omega) R1 (by omega), er]
  have m3 : rmO ((iush p 10) &&& 7) (nI S) = some (nI s) := by rw [ea3, rmO_eq (by omega) S1 (by omega), es]
  unfold L_deed
  rw [eC, Option.bind_some, m1, Option.bind_some, eRc, Option.bind_some, m2, Option.bind_some, eSc, Option.bind_some, m3, Option.bind_some, ek, ex]
  have hk16 : k = 0 ∨ k = 1 ∨ k = 2 ∨ k = 3 ∨ k = 4 ∨ k = 5 ∨ k = 6 ∨ k = 7 ∨ k = 8 ∨ k = 9 ∨ k = 10 ∨ k = 11 ∨ k = 12 ∨ k = 13 ∨ k = 14 ∨ k = 15 := by omega
  rcases hk16 with rfl | rfl | rfl | rfl | rfl | rfl | rfl | rfl | rfl | rfl | rfl | rfl | rfl | rfl | rfl | rfl
  · rw [if_pos (show nI 0 = 0 from rfl)]
    obtain ⟨v0, e0, -⟩ := refusal_ok I.1.1 (show c < 12 by omega) (show r < 4 by omega)
    have ew : C_whyNoSleep h (nI c) (nI r) = some v0 := by
      unfold C_whyNoSleep
      rw [needClip_eq en hn hc, Option.bind_some, needReel_eq eR hR hr, Option.bind_some, e0, Option.bind_some]
    rw [ew, Option.bind_some]
    by_cases z : v0 = 0
    · obtain ⟨v, h', eo, H, A⟩ := sleep_y I ring en hn eR hR hc hr (by rw [e0, z])
      rw [if_pos z, eo, Option.bind_some]
      exact ⟨h', rfl, Or.inr ⟨H, A⟩⟩
    · rw [if_neg z]
      exact ⟨h, rfl, Or.inl rfl⟩
  · rw [if_neg (show ¬ nI 1 = 0 by decide), if_pos (show nI 1 = 1 from rfl)]
    obtain ⟨v0, e0, -⟩ := refusal_ok I.1.1 (show c < 12 by omega) (show r < 4 by omega)
    have ew : C_whyNoSleep h (nI c) (nI r) = some v0 := by
      unfold C_whyNoSleep
      rw [needClip_eq en hn hc, Option.bind_some, needReel_eq eR hR hr, Option.bind_some, e0, Option.bind_some]
    rw [ew, Option.bind_some]
    by_cases z : v0 = 0
    · obtain ⟨v, h', eo, H, A⟩ := sleep_y I ring en hn eR hR hc hr (by rw [e0, z])
      rw [if_pos z, eo, Option.bind_some]
      exact ⟨h', rfl, Or.inr ⟨H, A⟩⟩
    · rw [if_neg z]
      exact ⟨h, rfl, Or.inl rfl⟩
  · rw [if_neg (show ¬ nI 2 = 0 by decide), if_neg (show ¬ nI 2 = 1 by decide), if_pos (show nI 2 = 2 from rfl)]
    obtain ⟨v0, e0, -⟩ := refusal_ok I.1.1 (show c < 12 by omega) (show r < 4 by omega)
    have ew : C_whyNoSleep h (nI c) (nI r) = some v0 := by
      unfold C_whyNoSleep
      rw [needClip_eq en hn hc, Option.bind_some, needReel_eq eR hR hr, Option.bind_some, e0, Option.bind_some]
    rw [ew, Option.bind_some]
    by_cases z : v0 = 0
    · obtain ⟨v, h', eo, H, A⟩ := sleep_y I ring en hn eR hR hc hr (by rw [e0, z])
      rw [if_pos z, eo, Option.bind_some]
      exact ⟨h', rfl, Or.inr ⟨H, A⟩⟩
    · rw [if_neg z]
      exact ⟨h, rfl, Or.inl rfl⟩
  · rw [if_neg (show ¬ nI 3 = 0 by decide), if_neg (show ¬ nI 3 = 1 by decide), if_neg (show ¬ nI 3 = 2 by decide), if_pos (show nI 3 = 3 from rfl)]
    obtain ⟨v0, e0, p0⟩ := nearest_x I eR hR (show c < 12 by omega)
    have eb : C_bestReel h (nI c) = some v0 := by
      unfold C_bestReel
      rw [needClip_eq en hn hc, Option.bind_some, e0, Option.bind_some]
    rw [eb, Option.bind_some]
    by_cases z : v0 = -1
    · rw [if_pos z]
      exact ⟨h, rfl, Or.inl rfl⟩
    · rcases p0 with q | ⟨r1, hr1, er1, ref⟩
      · exact absurd q z
      · obtain ⟨v, h', eo, H, A⟩ := sleep_y I ring en hn eR hR hc hr1 ref
        rw [if_neg z, Option.bind_some, er1, eo, Option.bind_some]
        exact ⟨h', rfl, Or.inr ⟨H, A⟩⟩
  · rw [if_neg (show ¬ nI 4 = 0 by decide), if_neg (show ¬ nI 4 = 1 by decide), if_neg (show ¬ nI 4 = 2 by decide), if_neg (show ¬ nI 4 = 3 by decide), if_pos (show nI 4 = 4 from rfl)]
    rw [state_eq en hn hc, Option.bind_some]
    by_cases z : rd h (1 + 4) c = 1
    · obtain ⟨v, h', eo, H, A⟩ := wake_y I ring en hn hc z
      rw [if_pos z, eo, Option.bind_some]
      exact ⟨h', rfl, Or.inr ⟨H, A⟩⟩
    · rw [if_neg z]
      exact ⟨h, rfl, Or.inl rfl⟩
  · rw [if_neg (show ¬ nI 5 = 0 by decide), if_neg (show ¬ nI 5 = 1 by decide), if_neg (show ¬ nI 5 = 2 by decide), if_neg (show ¬ nI 5 = 3 by decide), if_neg (show ¬ nI 5 = 4 by decide), if_pos (show nI 5 = 5 from rfl)]
    by_cases z1 : nI x - nI x / 3 * 3 = 0
    · obtain ⟨v, h', eo, H, A⟩ := cut_y I ring eS hS hs (show 1 ≤ 1 + x % 9 by omega) (show 1 + x % 9 ≤ 9999 by omega)
      rw [if_pos z1, q9, eo, Option.bind_some]
      exact ⟨h', rfl, Or.inr ⟨H, A⟩⟩
    rw [if_neg z1]
    by_cases z2 : nI x - nI x / 3 * 3 = 1
    · obtain ⟨v, h', eo, H, A⟩ := cut_y I ring eS hS hs (show 1 ≤ 1 + x % 50 by omega) (show 1 + x % 50 ≤ 9999 by omega)
      rw [if_pos z2, q50, eo, Option.bind_some]
      exact ⟨h', rfl, Or.inr ⟨H, A⟩⟩
    · obtain ⟨v, h', eo, H, A⟩ := cut_y I ring eS hS hs (show 1 ≤ 1 + x % 999 by omega) (show 1 + x % 999 ≤ 9999 by omega)
      rw [if_neg z2, q999, eo, Option.bind_some]
      exact ⟨h', rfl, Or.inr ⟨H, A⟩⟩
  · rw [if_neg (show ¬ nI 6 = 0 by decide), if_neg (show ¬ nI 6 = 1 by decide), if_neg (show ¬ nI 6 = 2 by decide), if_neg (show ¬ nI 6 = 3 by decide), if_neg (show ¬ nI 6 = 4 by decide), if_neg (show ¬ nI 6 = 5 by decide), if_pos (show nI 6 = 6 from rfl)]
    by_cases z1 : nI x - nI x / 3 * 3 = 0
    · obtain ⟨v, h', eo, H, A⟩ := cut_y I ring eS hS hs (show 1 ≤ 1 + x % 9 by omega) (show 1 + x % 9 ≤ 9999 by omega)
      rw [if_pos z1, q9, eo, Option.bind_some]
      exact ⟨h', rfl, Or.inr ⟨H, A⟩⟩
    rw [if_neg z1]
    by_cases z2 : nI x - nI x / 3 * 3 = 1
    · obtain ⟨v, h', eo, H, A⟩ := cut_y I ring eS hS hs (show 1 ≤ 1 + x % 50 by omega) (show 1 + x % 50 ≤ 9999 by omega)
      rw [if_pos z2, q50, eo, Option.bind_some]
      exact ⟨h', rfl, Or.inr ⟨H, A⟩⟩
    · obtain ⟨v, h', eo, H, A⟩ := cut_y I ring eS hS hs (show 1 ≤ 1 + x % 999 by omega) (show 1 + x % 999 ≤ 9999 by omega)
      rw [if_neg z2, q999, eo, Option.bind_some]
      exact ⟨h', rfl, Or.inr ⟨H, A⟩⟩
  · rw [if_neg (show ¬ nI 7 = 0 by decide), if_neg (show ¬ nI 7 = 1 by decide), if_neg (show ¬ nI 7 = 2 by decide), if_neg (show ¬ nI 7 = 3 by decide), if_neg (show ¬ nI 7 = 4 by decide), if_neg (show ¬ nI 7 = 5 by decide), if_neg (show ¬ nI 7 = 6 by decide), if_pos (show nI 7 = 7 from rfl)]
    obtain ⟨v, h', eo, H, A, -⟩ := air_y I ring eR hR hr
    rw [eo, Option.bind_some]
    exact ⟨h', rfl, Or.inr ⟨H, A⟩⟩
  · rw [if_neg (show ¬ nI 8 = 0 by decide), if_neg (show ¬ nI 8 = 1 by decide), if_neg (show ¬ nI 8 = 2 by decide), if_neg (show ¬ nI 8 = 3 by decide), if_neg (show ¬ nI 8 = 4 by decide), if_neg (show ¬ nI 8 = 5 by decide), if_neg (show ¬ nI 8 = 6 by decide), if_neg (show ¬ nI 8 = 7 by decide), if_pos (show nI 8 = 8 from rfl)]
    rw [state_eq en hn hc, Option.bind_some]
    by_cases z : rd h (1 + 4) c = 0
    · rw [if_pos z]
      unfold C_food
      rw [Option.bind_some, q20]
      by_cases z1 : rd h 1 1 < nI (1 + x % 20)
      · rw [if_pos z1]
        exact ⟨h, rfl, Or.inl rfl⟩
      · rw [if_neg z1, fat_eq en hn hc, Option.bind_some]
        have q20' : rd h (1 + 5) c + 1 + (nI x - nI x / 20 * 20) = rd h (1 + 5) c + nI (1 + x % 20) := by rw [← q20, i_assoc]
        rw [q20']
        by_cases z2 : 99 < rd h (1 + 5) c + nI (1 + x % 20)
        · rw [if_pos z2]
          exact ⟨h, rfl, Or.inl rfl⟩
        · obtain ⟨v, h', eo, H, A⟩ := feed_y I ring en hn hc (show 1 ≤ 1 + x % 20 by omega) (show 1 + x % 20 ≤ 50 by omega) z z1 z2
          rw [if_neg z2, eo, Option.bind_some]
          exact ⟨h', rfl, Or.inr ⟨H, A⟩⟩
    · rw [if_neg z]
      exact ⟨h, rfl, Or.inl rfl⟩
  · rw [if_neg (show ¬ nI 9 = 0 by decide), if_neg (show ¬ nI 9 = 1 by decide), if_neg (show ¬ nI 9 = 2 by decide), if_neg (show ¬ nI 9 = 3 by decide), if_neg (show ¬ nI 9 = 4 by decide), if_neg (show ¬ nI 9 = 5 by decide), if_neg (show ¬ nI 9 = 6 by decide), if_neg (show ¬ nI 9 = 7 by decide), if_neg (show ¬ nI 9 = 8 by decide), if_pos (show nI 9 = 9 from rfl)]
    unfold C_food
    rw [Option.bind_some]
    have q99' : rd h 1 1 + 1 + (nI x - nI x / 99 * 99) = rd h 1 1 + nI (1 + x % 99) := by rw [← q99, i_assoc]
    rw [q99']
    by_cases z1 : 9999 < rd h 1 1 + nI (1 + x % 99)
    · rw [if_pos z1]
      exact ⟨h, rfl, Or.inl rfl⟩
    · obtain ⟨v, h', eo, H, A⟩ := addFood_y I ring (show 1 ≤ 1 + x % 99 by omega) (show 1 + x % 99 ≤ 999 by omega) z1
      rw [if_neg z1, q99, eo, Option.bind_some]
      exact ⟨h', rfl, Or.inr ⟨H, A⟩⟩
  · rw [if_neg (show ¬ nI 10 = 0 by decide), if_neg (show ¬ nI 10 = 1 by decide), if_neg (show ¬ nI 10 = 2 by decide), if_neg (show ¬ nI 10 = 3 by decide), if_neg (show ¬ nI 10 = 4 by decide), if_neg (show ¬ nI 10 = 5 by decide), if_neg (show ¬ nI 10 = 6 by decide), if_neg (show ¬ nI 10 = 7 by decide), if_neg (show ¬ nI 10 = 8 by decide), if_neg (show ¬ nI 10 = 9 by decide), if_pos (show nI 10 = 10 from rfl)]
    rw [state_eq en hn hc, Option.bind_some]
    by_cases z : rd h (1 + 4) c = 0
    · obtain ⟨l, hl, el⟩ := I.1.1.len c (by omega)
      have l1 : 1 ≤ l := by
        have := (I.2.2.2.1 c (by rw [v5]; exact hc)).2.2.1
        by_cases y : l = 0
        · subst y; exact absurd el this
        · omega
      have hil : x % l < l := Nat.mod_lt _ l1
      have q16 : (1 : Int32) + (nI x >>> (4 &&& 31) - nI x >>> (4 &&& 31) / 9 * 9) = nI (1 + x / 16 % 9) := by
        rw [pk_shrN (n := x) (by omega) (4 &&& 31) 4 (by decide)]
        exact one_rem (d := 9) (by omega) (by decide) (by decide)
      rw [if_pos z, length_eq en hn hc, Option.bind_some, el, rmO_eq (by omega) l1 (by omega), Option.bind_some, q16]
      obtain ⟨v, h', eo, H, A⟩ := paint_y I ring en hn hc el hl hil (show 1 ≤ 1 + x / 16 % 9 by omega) (show 1 + x / 16 % 9 ≤ 9 by omega) z
      rw [eo, Option.bind_some]
      exact ⟨h', rfl, Or.inr ⟨H, A⟩⟩
    · rw [if_neg z]
      exact ⟨h, rfl, Or.inl rfl⟩
  · rw [if_neg (show ¬ nI 11 = 0 by decide), if_neg (show ¬ nI 11 = 1 by decide), if_neg (show ¬ nI 11 = 2 by decide), if_neg (show ¬ nI 11 = 3 by decide), if_neg (show ¬ nI 11 = 4 by decide), if_neg (show ¬ nI 11 = 5 by decide), if_neg (show ¬ nI 11 = 6 by decide), if_neg (show ¬ nI 11 = 7 by decide), if_neg (show ¬ nI 11 = 8 by decide), if_neg (show ¬ nI 11 = 9 by decide), if_neg (show ¬ nI 11 = 10 by decide), if_pos (show nI 11 = 11 from rfl)]
    rw [state_eq en hn hc, Option.bind_some]
    by_cases z : rd h (1 + 4) c = 0
    · obtain ⟨l, hl, el⟩ := I.1.1.len c (by omega)
      have l1 : 1 ≤ l := by
        have := (I.2.2.2.1 c (by rw [v5]; exact hc)).2.2.1
        by_cases y : l = 0
        · subst y; exact absurd el this
        · omega
      have hil : x % l < l := Nat.mod_lt _ l1
      have q16 : (1 : Int32) + (nI x >>> (4 &&& 31) - nI x >>> (4 &&& 31) / 9 * 9) = nI (1 + x / 16 % 9) := by
        rw [pk_shrN (n := x) (by omega) (4 &&& 31) 4 (by decide)]
        exact one_rem (d := 9) (by omega) (by decide) (by decide)
      rw [if_pos z, length_eq en hn hc, Option.bind_some, el, rmO_eq (by omega) l1 (by omega), Option.bind_some, q16]
      obtain ⟨v, h', eo, H, A⟩ := paint_y I ring en hn hc el hl hil (show 1 ≤ 1 + x / 16 % 9 by omega) (show 1 + x / 16 % 9 ≤ 9 by omega) z
      rw [eo, Option.bind_some]
      exact ⟨h', rfl, Or.inr ⟨H, A⟩⟩
    · rw [if_neg z]
      exact ⟨h, rfl, Or.inl rfl⟩
  · rw [if_neg (show ¬ nI 12 = 0 by decide), if_neg (show ¬ nI 12 = 1 by decide), if_neg (show ¬ nI 12 = 2 by decide), if_neg (show ¬ nI 12 = 3 by decide), if_neg (show ¬ nI 12 = 4 by decide), if_neg (show ¬ nI 12 = 5 by decide), if_neg (show ¬ nI 12 = 6 by decide), if_neg (show ¬ nI 12 = 7 by decide), if_neg (show ¬ nI 12 = 8 by decide), if_neg (show ¬ nI 12 = 9 by decide), if_neg (show ¬ nI 12 = 10 by decide), if_neg (show ¬ nI 12 = 11 by decide), if_pos (show nI 12 = 12 from rfl)]
    rw [Option.bind_some]
    by_cases z : 12 ≤ n
    · rw [if_pos (show (12 : Int32) ≤ nI n from nI_le (a := 12) z (by omega))]
      exact ⟨h, rfl, Or.inl rfl⟩
    · obtain ⟨m, hm, em⟩ := and_lt (iush p 4) 7 (by decide)
      have em : (iush p 4) &&& 7 = nI m := em
      obtain ⟨j, j1, jl, ej, ja⟩ := colours_x (nI x) (m := 1 + m) (by omega) (by omega)
      obtain ⟨v, h', eo, H, A⟩ := addClip_y I ring en (by omega) (j := j) (by omega) (areC j1 (by omega) ja)
      rw [if_neg (show ¬ (12 : Int32) ≤ nI n from nI_ge (b := 12) (by omega) (by decide)), em, show (1 : Int32) + nI m = nI (1 + m) from nI_add 1 m, ej, Option.bind_some, eo, Option.bind_some]
      exact ⟨h', rfl, Or.inr ⟨H, A⟩⟩
  · rw [if_neg (show ¬ nI 13 = 0 by decide), if_neg (show ¬ nI 13 = 1 by decide), if_neg (show ¬ nI 13 = 2 by decide), if_neg (show ¬ nI 13 = 3 by decide), if_neg (show ¬ nI 13 = 4 by decide), if_neg (show ¬ nI 13 = 5 by decide), if_neg (show ¬ nI 13 = 6 by decide), if_neg (show ¬ nI 13 = 7 by decide), if_neg (show ¬ nI 13 = 8 by decide), if_neg (show ¬ nI 13 = 9 by decide), if_neg (show ¬ nI 13 = 10 by decide), if_neg (show ¬ nI 13 = 11 by decide), if_neg (show ¬ nI 13 = 12 by decide), if_pos (show nI 13 = 13 from rfl)]
    rw [Option.bind_some]
    by_cases z : 4 ≤ R
    · rw [if_pos (show (4 : Int32) ≤ nI R from nI_le (a := 4) z (by omega))]
      exact ⟨h, rfl, Or.inl rfl⟩
    · obtain ⟨v, h', eo, H, A⟩ := addReel_y I ring eR (by omega) (show 1 ≤ 1 + x % 9 by omega) (show 1 + x % 9 ≤ 9 by omega)
      rw [if_neg (show ¬ (4 : Int32) ≤ nI R from nI_ge (b := 4) (by omega) (by decide)), q9, eo, Option.bind_some]
      exact ⟨h', rfl, Or.inr ⟨H, A⟩⟩
  · rw [if_neg (show ¬ nI 14 = 0 by decide), if_neg (show ¬ nI 14 = 1 by decide), if_neg (show ¬ nI 14 = 2 by decide), if_neg (show ¬ nI 14 = 3 by decide), if_neg (show ¬ nI 14 = 4 by decide), if_neg (show ¬ nI 14 = 5 by decide), if_neg (show ¬ nI 14 = 6 by decide), if_neg (show ¬ nI 14 = 7 by decide), if_neg (show ¬ nI 14 = 8 by decide), if_neg (show ¬ nI 14 = 9 by decide), if_neg (show ¬ nI 14 = 10 by decide), if_neg (show ¬ nI 14 = 11 by decide), if_neg (show ¬ nI 14 = 12 by decide), if_neg (show ¬ nI 14 = 13 by decide), if_pos (show nI 14 = 14 from rfl)]
    rw [Option.bind_some]
    by_cases z : 5 ≤ S
    · rw [if_pos (show (5 : Int32) ≤ nI S from nI_le (a := 5) z (by omega))]
      exact ⟨h, rfl, Or.inl rfl⟩
    · obtain ⟨v, h', eo, H, A⟩ := addScene_y I ring eS (by omega) (show 1 ≤ 1 + x % 9 by omega) (show 1 + x % 9 ≤ 9 by omega)
      rw [if_neg (show ¬ (5 : Int32) ≤ nI S from nI_ge (b := 5) (by omega) (by decide)), q9, eo, Option.bind_some]
      exact ⟨h', rfl, Or.inr ⟨H, A⟩⟩
  · rw [if_neg (show ¬ nI 15 = 0 by decide), if_neg (show ¬ nI 15 = 1 by decide), if_neg (show ¬ nI 15 = 2 by decide), if_neg (show ¬ nI 15 = 3 by decide), if_neg (show ¬ nI 15 = 4 by decide), if_neg (show ¬ nI 15 = 5 by decide), if_neg (show ¬ nI 15 = 6 by decide), if_neg (show ¬ nI 15 = 7 by decide), if_neg (show ¬ nI 15 = 8 by decide), if_neg (show ¬ nI 15 = 9 by decide), if_neg (show ¬ nI 15 = 10 by decide), if_neg (show ¬ nI 15 = 11 by decide), if_neg (show ¬ nI 15 = 12 by decide), if_neg (show ¬ nI 15 = 13 by decide), if_neg (show ¬ nI 15 = 14 by decide)]
    obtain ⟨k, hk, ek⟩ := I.2.1
    unfold C_week
    rw [Option.bind_some, ek]
    have q9' : nI k + 1 + (nI x - nI x / 9 * 9) = nI (k + (1 + x % 9)) := by rw [i_assoc, q9, nI_add]
    rw [q9']
    by_cases z : 999 < k + (1 + x % 9)
    · rw [if_pos (show (999 : Int32) < nI (k + (1 + x % 9)) from nI_lt (a := 999) z (by omega))]
      exact ⟨h, rfl, Or.inl rfl⟩
    · obtain ⟨v, h', eo, H, A, -⟩ := passWeeks_y I ring (show 1 ≤ 1 + x % 9 by omega) (show 1 + x % 9 ≤ 50 by omega) ek (by omega)
      rw [if_neg (show ¬ (999 : Int32) < nI (k + (1 + x % 9)) from nI_nlt (a := 999) (by omega) (by decide)), q9, eo, Option.bind_some]
      exact ⟨h', rfl, Or.inr ⟨H, A⟩⟩
end
