/-! ===== the model's violations are 0 ===== -/
section
variable {h : Hp}
theorem isum_msum {f : Nat → Int32} (w : Wf f) : ∀ n, n ≤ 12 → isum (fun c => f (8 + 4 * c + 2)) n = nI (msum f n)
  | 0, _ => rfl
  | n + 1, hn => by
    obtain ⟨k, hk, ek⟩ := w.2.2.2.2.1 n (by omega)
    show isum (fun c => f (8 + 4 * c + 2)) n + f (8 + 4 * n + 2) = nI (msum f n + (f (8 + 4 * n + 2)).toNatClampNeg)
    rw [isum_msum w n (by omega), ek, nI_add, nI_clamp (by omega)]
theorem mbedsNone (w : Wf (rd h 141)) {c : Nat} (no : ∀ r b, r < vn (rd h 141 3) → b < vn (rd h 141 (56 + r)) → rd h 141 (60 + (9 * r + b)) ≠ nI c) : M_bedsWith h (nI c) = some 0 := by
  obtain ⟨t, ht, et⟩ := w.2.1
  have vt : vn (rd h 141 3) = t := by rw [et, vn_nI (by omega)]
  rw [vt] at no
  have inner : ∀ r, r < t → ∀ s : Int32, M_bedsWith_L17 h (nI c) (nI r) FU s 0 = some s := fun r hrt s => by
    have hr : r < 4 := by omega
    obtain ⟨m, hm, em⟩ := w.2.2.2.2.2.1 r hr
    have vm : vn (rd h 141 (56 + r)) = m := by rw [em, vn_nI (by omega)]
    obtain ⟨y, e, rfl⟩ := loop0 (fun n u v => M_bedsWith_L17 h (nI c) (nI r) n u (nI v)) 9 (fun u _ => u = s) (fun y => y = s) (by decide) (fun n u v hv hu => by
      rw [M_bedsWith_L17, mbeds_ok hr, Option.bind_some, em]
      by_cases q : m ≤ v
      · exact Or.inl ⟨_, if_pos (nI_le q (by omega)), hu⟩
      · rw [if_neg (nI_ge (by omega) (by omega)), minBed_ok hr (by omega), Option.bind_some, nI_1]
        have e0 : u + 0 = u := Int32.add_zero u
        rw [if_neg (no r v hrt (by rw [vm]; omega))]
        exact Or.inr ⟨by omega, _, by rw [e0]; exact hu, rfl⟩) s rfl
    exact e
  obtain ⟨y, e, rfl⟩ := loop0 (fun n u v => M_bedsWith_L4 h (nI c) n u (nI v)) 4 (fun u _ => u = 0) (fun y => y = 0) (by decide) (fun n u v hv hu => by
    rw [M_bedsWith_L4, m3, Option.bind_some, et]
    by_cases q : t ≤ v
    · exact Or.inl ⟨_, if_pos (nI_le q (by omega)), hu⟩
    · rw [if_neg (nI_ge (by omega) (by omega)), inner v (by omega) u, Option.bind_some, nI_1]
      exact Or.inr ⟨by omega, _, hu, rfl⟩) 0 rfl
  unfold M_bedsWith
  exact bO e _
theorem mbedsOne (w : Wf (rd h 141)) {c r0 b0 : Nat} (hr0 : r0 < vn (rd h 141 3)) (hb0 : b0 < vn (rd h 141 (56 + r0))) (e0 : rd h 141 (60 + (9 * r0 + b0)) = nI c) (u : ∀ r b, r < vn (rd h 141 3) → b < vn (rd h 141 (56 + r)) → rd h 141 (60 + (9 * r + b)) = nI c → r = r0 ∧ b = b0) : M_bedsWith h (nI c) = some 1 := by
  obtain ⟨t, ht, et⟩ := w.2.1
  have vt : vn (rd h 141 3) = t := by rw [et, vn_nI (by omega)]
  rw [vt] at hr0 u
  have inner : ∀ r, r < t → ∀ s : Int32, M_bedsWith_L17 h (nI c) (nI r) FU s 0 = some (if r = r0 then s + 1 else s) := fun r hrt s => by
    have hr : r < 4 := by omega
    obtain ⟨m, hm, em⟩ := w.2.2.2.2.2.1 r hr
    have vm : vn (rd h 141 (56 + r)) = m := by rw [em, vn_nI (by omega)]
    obtain ⟨y, e, rfl⟩ := loop0 (fun n s v => M_bedsWith_L17 h (nI c) (nI r) n s (nI v)) 9 (fun s' v => v ≤ m ∧ s' = if r = r0 ∧ b0 < v then s + 1 else s) (fun y => y = if r = r0 then s + 1 else s) (by decide) (fun n s' v hv hj => by
      obtain ⟨hvm, hj⟩ := hj
      rw [M_bedsWith_L17, mbeds_ok hr, Option.bind_some, em]
      by_cases q : m ≤ v
      · refine Or.inl ⟨_, if_pos (nI_le q (by omega)), ?_⟩
        rw [hj]
        by_cases z : r = r0
        · subst z
          rw [vm] at hb0
          rw [if_pos ⟨rfl, by omega⟩, if_pos rfl]
        · rw [if_neg (fun y => z y.1), if_neg z]
      · rw [if_neg (nI_ge (by omega) (by omega)), minBed_ok hr (by omega), Option.bind_some, nI_1]
        refine Or.inr ⟨by omega, ?_⟩
        by_cases z : rd h 141 (60 + (9 * r + v)) = nI c
        · obtain ⟨z1, z2⟩ := u r v hrt (by rw [vm]; omega) z
          have nb : ¬ (r = r0 ∧ b0 < v) := fun y => by omega
          rw [if_pos z, hj, if_neg nb]
          exact ⟨_, ⟨by omega, by rw [if_pos ⟨z1, by omega⟩]⟩, rfl⟩
        · have e1 : s' + 0 = s' := Int32.add_zero s'
          rw [if_neg z, e1]
          refine ⟨_, ⟨by omega, ?_⟩, rfl⟩
          rw [hj]
          by_cases y : r = r0 ∧ b0 < v
          · rw [if_pos y, if_pos ⟨y.1, by omega⟩]
          · rw [if_neg y, if_neg (fun w => by
              obtain ⟨w1, w2⟩ := w
              by_cases w3 : b0 = v
              · subst w1 w3; exact z e0
              · exact y ⟨w1, by omega⟩)]) s ⟨Nat.zero_le _, by rw [if_neg (fun y => absurd y.2 (Nat.not_lt_zero _))]⟩
    exact e
  obtain ⟨y, e, rfl⟩ := loop0 (fun n s v => M_bedsWith_L4 h (nI c) n s (nI v)) 4 (fun s v => v ≤ t ∧ s = if r0 < v then 1 else 0) (fun y => y = 1) (by decide) (fun n s v hv hj => by
    obtain ⟨hvt, hj⟩ := hj
    rw [M_bedsWith_L4, m3, Option.bind_some, et]
    by_cases q : t ≤ v
    · exact Or.inl ⟨_, if_pos (nI_le q (by omega)), by rw [hj, if_pos (by omega)]⟩
    · rw [if_neg (nI_ge (by omega) (by omega)), inner v (by omega) s, Option.bind_some, nI_1]
      refine Or.inr ⟨by omega, _, ⟨by omega, ?_⟩, rfl⟩
      rw [hj]
      by_cases z : v = r0
      · subst z
        rw [if_pos rfl, if_neg (Nat.lt_irrefl _), if_pos (by omega)]; rfl
      · rw [if_neg z]
        by_cases y : r0 < v
        · rw [if_pos y, if_pos (by omega)]
        · rw [if_neg y, if_neg (by omega)]) 0 ⟨Nat.zero_le _, by rw [if_neg (Nat.not_lt_zero _)]⟩
  unfold M_bedsWith
  exact bO e _
theorem misLost_x (w : Wfx (rd h 141)) {c : Nat} (hc : c < vn (rd h 141 2)) (ha : rd h 141 (8 + 4 * c + 1) = 1) : M_isLost h (nI c) = some false := by
  have n12 := w.1.n12
  have R4 := w.1.R4
  have c12 : c < 12 := by omega
  obtain ⟨r0, k0, hr0, hk0, e0, before, u⟩ := w.2.1.2 c hc ha
  have hk0 : k0 < vn (rd h 141 (56 + r0)) := hk0
  have e0 : rd h 141 (60 + (r0 * 9 + wb (hx (rd h 141 (8 + 4 * c))) (vn (rd h 141 (56 + r0))) k0)) = nI c := e0
  have before : ∀ j, j < k0 → rd h 141 (60 + (r0 * 9 + wb (hx (rd h 141 (8 + 4 * c))) (vn (rd h 141 (56 + r0))) j)) ≠ -1 := before
  have u : ∀ r b, r < vn (rd h 141 3) → b < vn (rd h 141 (56 + r)) → rd h 141 (60 + (9 * r + b)) = nI c → r = r0 ∧ b = wb (hx (rd h 141 (8 + 4 * c))) (vn (rd h 141 (56 + r0))) k0 := fun r b hr hb e => u r b hr hb (by
    show rd h 141 (60 + (r * 9 + b)) = nI c
    rw [show r * 9 + b = 9 * r + b by omega]; exact e)
  have one := mbedsOne w.1 hr0 (wb_in hk0) (by rw [show 9 * r0 + wb (hx (rd h 141 (8 + 4 * c))) (vn (rd h 141 (56 + r0))) k0 = r0 * 9 + wb (hx (rd h 141 (8 + 4 * c))) (vn (rd h 141 (56 + r0))) k0 by omega]; exact e0) u
  obtain ⟨v, ev, p⟩ := mreelWith_ok w.1 (nI c)
  unfold M_isLost
  rw [one, Option.bind_some, if_pos rfl, ev, Option.bind_some]
  rcases p with ⟨rfl, no⟩ | ⟨r, b, hb, rfl, eb, -⟩
  · exact absurd (by rw [show 9 * r0 + wb (hx (rd h 141 (8 + 4 * c))) (vn (rd h 141 (56 + r0))) k0 = r0 * 9 + wb (hx (rd h 141 (8 + 4 * c))) (vn (rd h 141 (56 + r0))) k0 by omega]; exact e0) (no r0 (wb (hx (rd h 141 (8 + 4 * c))) (vn (rd h 141 (56 + r0))) k0) ((Em_vn w.1).mpr ⟨hr0, wb_in hk0⟩))
  · have h1 := hb.1
    obtain ⟨hrR, hbm⟩ := (Em_vn w.1).mp hb
    obtain ⟨rr, -⟩ := u r b hrR hbm eb
    subst rr
    obtain ⟨q, m, k, hq, hm, eq, em, hk, hk1, ek, pre, stop⟩ := mlooks_ok w.1 c12 h1
    have vq := hx_eq c12 hq eq
    have vm : vn (rd h 141 (56 + r)) = m := by rw [em, vn_nI (by omega)]
    rw [vm] at hk0
    have wbe : ∀ j, r * 9 + wb q m j = 9 * r + (q + j) % m := fun j => by unfold wb; rw [if_pos (by omega)]; omega
    rw [vq, vm, wbe] at e0
    have before : ∀ j, j < k0 → rd h 141 (60 + (9 * r + (q + j) % m)) ≠ -1 := fun j hj => by
      have := before j hj
      rw [vq, vm, wbe] at this
      exact this
    have m1 : 1 ≤ m := by omega
    have hk2 := hk1 m1
    have hle : k ≤ k0 + 1 := by
      by_cases z : k0 + 1 < k
      · exact absurd e0 (pre k0 z).1
      · omega
    have found : rd h 141 (60 + (9 * r + (q + (k - 1)) % m)) = nI c := by
      by_cases z : k - 1 = k0
      · rw [z]; exact e0
      · rcases stop (by omega) with y | y
        · exact y
        · exact absurd y (before (k - 1) (by omega))
    have hb2 := Nat.mod_lt (q + (k - 1)) (show 0 < m by omega)
    rw [ek, Option.bind_some, show nI k - 1 = nI (k - 1) from pk_sub (b := 1) hk2, monWay_eq h1 eq hq em hm m1 (by omega), Option.bind_some, minBed_ok h1 (by omega), Option.bind_some, if_pos found]
theorem mviolL_x {g : Hp} (w : Wfx (rd g 141)) : M_violations_L48 g FU 0 0 = some 0 := by
  obtain ⟨t, ht, et⟩ := w.1.1
  have vt : vn (rd g 141 2) = t := by rw [et, vn_nI (by omega)]
  have z0 : (0 : Int32) + 0 = 0 := by decide
  obtain ⟨y, e, rfl⟩ := loop0 (fun n s v => M_violations_L48 g n s (nI v)) 12 (fun s _ => s = 0) (fun y => y = 0) (by decide) (fun n s v hv hs => by
    subst hs
    rw [M_violations_L48, m2, Option.bind_some, et]
    by_cases z : t ≤ v
    · exact Or.inl ⟨_, if_pos (nI_le z (by omega)), rfl⟩
    · rw [if_neg (nI_ge (by omega) (by omega)), mof1 (by omega), Option.bind_some, nI_1]
      refine Or.inr ⟨by omega, ?_⟩
      by_cases z1 : rd g 141 (8 + 4 * v + 1) = 1
      · rw [if_pos z1, misLost_x w (by rw [vt]; omega) z1, Option.bind_some, if_pos (show b2i false = 0 from rfl), z0]
        exact ⟨_, rfl, rfl⟩
      · rw [if_neg z1, mbedsNone w.1 (fun r b hr hb e => z1 (w.2.1.1 r b v hr hb (by omega) (by
          show rd g 141 (60 + (r * 9 + b)) = nI v
          rw [show r * 9 + b = 9 * r + b by omega]; exact e)).2), Option.bind_some, z0]
        exact ⟨_, rfl, rfl⟩) 0 rfl
  exact e
set_option maxRecDepth 16384 in
theorem mc_zero {h : Hp} (I : IM h) : ∃ h', M_violations h = some (0, h') ∧ Ms h h' := by
  unfold M_violations
  rw [nm_eq]
  have m : Ms h (up2 h 140 15 0) := Ms.fld I (by decide)
  obtain ⟨g, eg⟩ : ∃ g, g = up2 h 140 15 0 := ⟨_, rfl⟩
  rw [← eg] at m ⊢
  have wx := m.1.1
  have w := wx.1
  obtain ⟨t, ht, et⟩ := w.1
  have vt : vn (rd g 141 2) = t := by rw [et, vn_nI (by omega)]
  have y6 : rdO 106 (rd g 141) 6 = some (rd g 141 6) := r106 (i := 6) (by decide)
  have y5 : rdO 106 (rd g 141) 5 = some (rd g 141 5) := r106 (i := 5) (by decide)
  have gap : ((((40 * rd g 141 2) + rd g 141 6) - nI (msum (rd g 141) t)) - rd g 141 5) = 0 := by
    have A := wx.2.2
    unfold AccM at A
    rw [A, vt, isum_msum w t ht, Int32.add_comm (nI _) (rd g 141 5), Int32.add_sub_cancel, Int32.sub_self]
  rw [m2, Option.bind_some, y6, Option.bind_some, mallFat_ok w ht et, Option.bind_some, y5, Option.bind_some, lt_eq, gap, if_pos (show (0 : Int32) ≤ 0 by decide)]
  dsimp only
  rw [mviolL_x wx, Option.bind_some]
  exact ⟨g, rfl, m⟩
end
