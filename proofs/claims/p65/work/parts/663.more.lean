/-! ===== cutting, adding, painting, feeding, weeks ===== -/
section
variable {h : Hp} {a : Nat}
theorem cutScene_x (I : Arx h a) {s : Nat} (hs : s < 5) (x : Int32) : ∃ v h', A_cutScene h a (nI s) x = some (v, h') ∧ Wx h a h' := by
  have inner : ∀ (r t : Nat) (hr : r < t) (ht : t ≤ 4) (y : Int32) (g : Hp), Wx h a g → rd g a 12 = nI t → ∃ z g', A_cutScene_L17 a (nI s) x (nI r) FU y 0 g = some (z, g') ∧ Wx h a g' := fun r t hrt ht y g wg eg => by
    have hr : r < 4 := by omega
    obtain ⟨⟨z, g'⟩, e, p⟩ := loop0 (fun n (u : Int32 × Hp) v => A_cutScene_L17 a (nI s) x (nI r) n u.1 (nI v) u.2) 9 (fun u _ => Wx h a u.2 ∧ rd u.2 a 12 = nI t) (fun u => Wx h a u.2) (by decide) (fun n u v hv w0 => by
      have w := w0.1
      have eu := w0.2
      obtain ⟨m, hm, em⟩ := w.1.1.beds r hr
      rw [A_cutScene_L17, r4 hr, Option.bind_some, em]
      by_cases q : m ≤ v
      · exact Or.inl ⟨_, if_pos (nI_le q (by omega)), w⟩
      · rw [if_neg (nI_ge (by omega) (by omega)), inBed_eq hr (by omega), Option.bind_some, r5 hs, Option.bind_some, Option.bind_some, nI_1]
        refine Or.inr ⟨by omega, ?_⟩
        by_cases z1 : rd u.2 (a + 10) s ≤ 0
        · rw [if_pos z1]; exact ⟨u, w0, rfl⟩
        rw [if_neg z1]
        rcases bed_cases w.1.1 (i := r * 9 + v) (by omega) with b0 | ⟨c, hc, ec⟩
        · rw [if_pos b0]; exact ⟨u, w0, rfl⟩
        · obtain ⟨y, ey⟩ := findPattern_ok w.1.1 hc x
          rw [ec, if_neg (nI_pos (by omega)), ey, Option.bind_some]
          by_cases z2 : y = -1
          · rw [if_pos z2]; exact ⟨u, w0, rfl⟩
          · unfold nm
            rw [if_neg z2, wrO_in hs (by decide), Option.bind_some]
            dsimp only
            rw [wrO_in hc (by decide), Option.bind_some, wrO_in hc (by decide), Option.bind_some, setBed_eq hr (by omega), Option.bind_some]
            have ex : Ex u.2 a r v := ⟨hr, by omega, by rw [eu]; exact nI_lt hrt (by omega), by rw [em]; exact nI_lt (by omega) (by omega)⟩
            have W : ∀ X Y : Int32, Wx h a (up2 (up2 (up2 (up2 (up2 u.2 (a + 10) s X) a 4 Y) (a + 6) c (nI s)) (a + 4) c 0) (a + 8) (r * 9 + v) (-2)) ∧ rd (up2 (up2 (up2 (up2 (up2 u.2 (a + 10) s X) a 4 Y) (a + 6) c (nI s)) (a + 4) c 0) (a + 8) (r * 9 + v) (-2)) a 12 = nI t := fun X Y => by
              obtain ⟨h5, e5⟩ : ∃ h5, h5 = up2 (up2 (up2 (up2 (up2 u.2 (a + 10) s X) a 4 Y) (a + 6) c (nI s)) (a + 4) c 0) (a + 8) (r * 9 + v) (-2) := ⟨_, rfl⟩
              have ra : rd h5 a = upd (rd u.2 a) 4 Y := by
                rw [e5, rd_up2_ne (show a ≠ a + 8 by omega), rd_up2_ne (show a ≠ a + 4 by omega), rd_up2_ne (show a ≠ a + 6 by omega), rd_up2_self, rd_up2_ne (show a ≠ a + 10 by omega)]
              have r4 : rd h5 (a + 4) = upd (rd u.2 (a + 4)) c 0 := by
                rw [e5, rd_up2_ne (show a + 4 ≠ a + 8 by omega), rd_up2_self, rd_up2_ne (show a + 4 ≠ a + 6 by omega), rd_up2_ne (show a + 4 ≠ a by omega), rd_up2_ne (show a + 4 ≠ a + 10 by omega)]
              have r8 : rd h5 (a + 8) = upd (rd u.2 (a + 8)) (r * 9 + v) (-2) := by
                rw [e5, rd_up2_self, rd_up2_ne (show a + 8 ≠ a + 4 by omega), rd_up2_ne (show a + 8 ≠ a + 6 by omega), rd_up2_ne (show a + 8 ≠ a by omega), rd_up2_ne (show a + 8 ≠ a + 10 by omega)]
              have R : ∀ k, k = a + 3 ∨ k = a + 5 ∨ k = a + 7 → rd h5 k = rd u.2 k := fun k hk => by
                rw [e5, rd_up2_ne (by omega), rd_up2_ne (by omega), rd_up2_ne (by omega), rd_up2_ne (by omega), rd_up2_ne (by omega)]
              rw [← e5]
              refine ⟨⟨⟨?_, ?_, ?_⟩, ?_⟩, by rw [ra, upd_ne (by decide)]; exact eu⟩
              · rw [e5]; exact ((((w.1.1.any (by omega)).fld (by decide) (by decide) (by decide)).any (by omega)).any (by omega)).wbed (Or.inr (Or.inl rfl))
              · exact LieA.gone w.1.1 w.1.2.1 hc (st := 0) (by decide) r4 (Or.inr ⟨r, v, ex, ec, r8⟩) (by rw [ra, upd_ne (by decide)]) (by rw [ra, upd_ne (by decide)]) (R _ (by omega)) (R _ (by omega))
              · exact w.1.2.2.of (by rw [ra, upd_ne (by decide)]) (by rw [ra, upd_ne (by decide)]) (by rw [ra, upd_ne (by decide)]) (R _ (by omega))
              · rw [e5]; refine Fr.up (Fr.up (Fr.up (Fr.up (Fr.up w.2 ?_) ?_) ?_) ?_) ?_ <;> omega
            exact ⟨(_, _), W _ _, rfl⟩) (y, g) ⟨wg, eg⟩
    exact ⟨z, g', e, p⟩
  obtain ⟨⟨z, h'⟩, e, p⟩ := loop0 (fun n (u : Int32 × Hp) v => A_cutScene_L5 a (nI s) x n u.1 (nI v) u.2) 4 (fun u _ => Wx h a u.2) (fun u => Wx h a u.2) (by decide) (fun n u v hv w => by
    obtain ⟨t, ht, et⟩ := w.1.1.reels
    rw [A_cutScene_L5, et]
    by_cases q : t ≤ v
    · exact Or.inl ⟨_, if_pos (nI_le q (by omega)), w⟩
    · obtain ⟨y, g, ey, wy⟩ := inner v t (by omega) ht u.1 u.2 w et
      rw [if_neg (nI_ge (by omega) (by omega)), ey, Option.bind_some, nI_1]
      exact Or.inr ⟨by omega, (y, g), wy, rfl⟩) (0, h) (Wx.rf I)
  refine ⟨z, h', ?_, p⟩
  have e : A_cutScene_L5 a (nI s) x FU 0 0 h = some (z, h') := e
  unfold A_cutScene
  rw [e, Option.bind_some]
theorem putReel_x (I : Arx h a) {n b : Nat} (hn : rd h a 12 = nI n) (hl : n < 4) (hb : b ≤ 9) : ∃ h', A_putReel h a (nI b) = some (nI n, h') ∧ Wx h a h' ∧ rd h' a = upd (rd h a) 12 (nI (n + 1)) ∧ rd h' (a + 7) = upd (rd h (a + 7)) n (nI b) ∧ (∀ i, rd h' (a + 8) i = if n * 9 ≤ i ∧ i < n * 9 + b then -1 else rd h (a + 8) i) ∧ ∀ k, k ≠ a → k ≠ a + 7 → k ≠ a + 8 → rd h' k = rd h k := by
  obtain ⟨h', e, w, ra, r7, r8, f⟩ := putReel_ok I.1 hn hl hb
  refine ⟨h', e, ⟨⟨w.1, ?_, ?_⟩, w.2⟩, ra, r7, r8, f⟩
  · have vR : vn (rd h a 12) = n := by rw [hn, vn_nI (by omega)]
    have m9 := I.1.m9
    rw [vR] at m9
    have L := I.2.1
    unfold LieA at L ⊢
    rw [vR] at L
    rw [ra, upd_ne (by decide), upd_self, vn_nI (by omega), f (a + 3) (by omega) (by omega) (by omega), f (a + 4) (by omega) (by omega) (by omega)]
    refine Lie.reel I.1.n12 L (fun r hr => by rw [r7, upd_ne (by omega)]) (fun r b' hr hb' => ?_) (fun b' hb' => ?_)
    · have hb' : b' < vn (rd h (a + 7) r) := hb'
      have := m9 r hr
      rw [r8, if_neg (by omega)]
    · have hb' : b' < vn (rd h' (a + 7) n) := hb'
      rw [r7, upd_self, vn_nI (by omega)] at hb'
      rw [r8, if_pos (by omega)]
  · exact I.2.2.of (by rw [ra, upd_ne (by decide)]) (by rw [ra, upd_ne (by decide)]) (by rw [ra, upd_ne (by decide)]) (f _ (by omega) (by omega) (by omega))
theorem putScene_x (I : Arx h a) {n : Nat} (hn : rd h a 15 = nI n) (hl : n < 5) (x : Int32) : ∃ h', A_putScene h a x = some (nI n, h') ∧ Wx h a h' ∧ ∀ k, k ≠ a → k ≠ a + 9 → k ≠ a + 10 → rd h' k = rd h k := by
  obtain ⟨h', e, w, f⟩ := putScene_ok I.1 hn hl x
  have e0 : A_putScene h a x = some (nI n, up2 (up2 (up2 h a 15 (nI (n + 1))) (a + 9) n x) (a + 10) n x) := by
    unfold A_putScene nm
    dsimp only
    rw [hn, nI_1, wrO_in hl (by decide), Option.bind_some, wrO_in hl (by decide), Option.bind_some]
  have eh : h' = up2 (up2 (up2 h a 15 (nI (n + 1))) (a + 9) n x) (a + 10) n x := by
    rw [e] at e0
    exact (Prod.mk.inj (Option.some.inj e0)).2
  have ra : rd h' a = upd (rd h a) 15 (nI (n + 1)) := by
    rw [eh, rd_up2_ne (by omega), rd_up2_ne (by omega), rd_up2_self]
  refine ⟨h', e, ⟨I.of w.1 ?_ ?_ ?_ ?_ (fun k hk => f k (by omega) (by omega) (by omega)), w.2⟩, f⟩ <;> rw [ra, upd_ne (by decide)]
theorem nI_40 (n : Nat) : 40 * nI (n + 1) = 40 * nI n + 40 := by
  rw [show nI (n + 1) = nI n + nI 1 from (nI_add n 1).symm, Int32.mul_add]
  rfl
theorem putClip_x (I : Arx h a) {n j : Nat} (hn : rd h a 5 = nI n) (hl : n < 12) (hj : j < 2 ^ 31) : ∃ h', A_putClip h a (nI j) = some (nI n, h') ∧ Wx h a h' := by
  obtain ⟨h0, d, q, e0, d1, d8, q9, f, r0, r1, r2, r3, r4, r5, r6⟩ := putClip_ok hn hl hj I.1.cols
  obtain ⟨h', e, w⟩ := putClip_wk I.1 hn hl hj
  have eh : h0 = h' := by
    rw [e] at e0
    exact (Prod.mk.inj (Option.some.inj e0)).2.symm
  subst eh
  have vC : vn (rd h a 5) = n := by rw [hn, vn_nI (by omega)]
  refine ⟨h0, e, ⟨w.1, ?_, ?_⟩, w.2⟩
  · have L := I.2.1
    unfold LieA at L ⊢
    rw [vC] at L
    rw [r0, upd_self, vn_nI (by omega), upd_ne (show 12 ≠ 5 by decide), f (a + 7) (by omega), f (a + 8) (by omega)]
    refine Lie.clip L (by rw [r4, upd_self]; decide) (fun c hc => by rw [r4, upd_ne (by omega)]) (fun c hc => by rw [r3, upd_ne (by omega)])
  · have A := I.2.2
    unfold AccA at A ⊢
    rw [vC, hn] at A
    rw [r0, upd_self, vn_nI (by omega), upd_ne (show 2 ≠ 5 by decide), upd_ne (show 3 ≠ 5 by decide), r5]
    show _ = isum (upd (rd h (a + 5)) n 40) n + upd (rd h (a + 5)) n 40 n + _
    rw [upd_self, isum_cg (f := upd (rd h (a + 5)) n 40) (g := rd h (a + 5)) n (fun i hi => upd_ne (by omega)), nI_40, show 40 * nI n + 40 + rd h a 2 = (40 * nI n + rd h a 2) + 40 by ac_rfl, A]
    ac_rfl
theorem paintClip_x (I : Arx h a) {c i x : Nat} (hc : c < 12) (na : rd h (a + 4) c ≠ 1) (hi : i < 8) (hx : x ≤ 9) : ∃ q h', A_paintClip h a (nI c) (nI i) (nI x) = some (nI q, h') ∧ Wx h a h' := by
  obtain ⟨q, h', e, w, eh⟩ := paintClip_wk I.1 hc hi hx
  refine ⟨q, h', e, ⟨w.1, ?_, ?_⟩, w.2⟩
  · rw [eh]
    unfold LieA
    rw [rd_up2_ne (show a ≠ a + 3 by omega), rd_up2_ne (show a ≠ a + 2 by omega), rd_up2_ne (show a + 7 ≠ a + 3 by omega), rd_up2_ne (show a + 7 ≠ a + 2 by omega), rd_up2_ne (show a + 4 ≠ a + 3 by omega), rd_up2_ne (show a + 4 ≠ a + 2 by omega), rd_up2_ne (show a + 8 ≠ a + 3 by omega), rd_up2_ne (show a + 8 ≠ a + 2 by omega), rd_up2_self, rd_up2_ne (show a + 3 ≠ a + 2 by omega)]
    refine Lie.cg I.2.1 (fun _ _ => rfl) (fun c' _ ha => ?_) (fun _ _ => Iff.rfl) (fun _ _ _ _ => rfl)
    rw [upd_ne (fun z => by subst z; exact na ha)]
  · rw [eh]
    refine I.2.2.of ?_ ?_ ?_ ?_ <;> rw [rd_up2_ne (by omega), rd_up2_ne (by omega)]
theorem feedClip_x (I : Arx h a) {c x : Nat} (hc : c < vn (rd h a 5)) (hx : x ≤ 50) (hm : ¬ 99 < rd h (a + 5) c + nI x) : ∃ v h', A_feedClip h a (nI c) (nI x) = some (v, h') ∧ Wx h a h' := by
  have n12 := I.1.n12
  obtain ⟨v, h', e, w⟩ := feedClip_wk I.1 (show c < 12 by omega) hx hm
  have eh : h' = up2 (up2 (up2 h (a + 5) c (rd h (a + 5) c + nI x)) a 1 (rd h a 1 - nI x)) a 2 (rd h a 2 + nI x) := by
    have e0 := feedClip_eq (h := h) (a := a) (show c < 12 by omega) (nI x)
    rw [e] at e0
    exact (Prod.mk.inj (Option.some.inj e0)).2
  have ra : rd h' a = upd (upd (rd h a) 1 (rd h a 1 - nI x)) 2 (rd h a 2 + nI x) := by
    rw [eh, rd_up2_self, rd_up2_self, rd_up2_ne (by omega)]
  have r5 : rd h' (a + 5) = upd (rd h (a + 5)) c (rd h (a + 5) c + nI x) := by
    rw [eh, rd_up2_ne (by omega), rd_up2_ne (by omega), rd_up2_self]
  have R : ∀ k, k ≠ a → k ≠ a + 5 → rd h' k = rd h k := fun k h1 h2 => by
    rw [eh, rd_up2_ne h1, rd_up2_ne h1, rd_up2_ne h2]
  refine ⟨v, h', e, ⟨w.1, ?_, ?_⟩, w.2⟩
  · unfold LieA
    rw [ra, upd_ne (show 5 ≠ 2 by decide), upd_ne (show 5 ≠ 1 by decide), upd_ne (show 12 ≠ 2 by decide), upd_ne (show 12 ≠ 1 by decide), R (a + 3) (by omega) (by omega), R (a + 4) (by omega) (by omega), R (a + 7) (by omega) (by omega), R (a + 8) (by omega) (by omega)]
    exact I.2.1
  · have A := I.2.2
    unfold AccA at A ⊢
    rw [ra, upd_ne (show 5 ≠ 2 by decide), upd_ne (show 5 ≠ 1 by decide), upd_self, upd_ne (show 3 ≠ 2 by decide), upd_ne (show 3 ≠ 1 by decide), r5]
    have s := isum_upd (f := rd h (a + 5)) (i := c) (x := rd h (a + 5) c + nI x) _ hc
    have s2 : isum (upd (rd h (a + 5)) c (rd h (a + 5) c + nI x)) (vn (rd h a 5)) = isum (rd h (a + 5)) (vn (rd h a 5)) + nI x := by
      refine (Int32.add_left_inj (rd h (a + 5) c)).mp ?_
      rw [s]; ac_rfl
    rw [s2, show 40 * rd h a 5 + (rd h a 2 + nI x) = (40 * rd h a 5 + rd h a 2) + nI x by ac_rfl, A]
    ac_rfl
theorem store_x (I : Arx h a) (x : Int32) : ∃ v h', A_store h a x = some (v, h') ∧ Wx h a h' := by
  refine ⟨_, _, rfl, I.of (I.1.fld (by decide) (by decide) (by decide)) ?_ ?_ ?_ ?_ (fun k hk => rd_up2_ne (by omega)), Fr.up (Fr.rf _ _ _) (by omega)⟩ <;> rw [rd_up2_self, upd_ne (by decide)]
theorem burn_x (I : Arx h a) {c : Nat} (hc : c < vn (rd h a 5)) : ∃ v h', A_burn h a (nI c) = some (v, h') ∧ Wx h a h' := by
  have n12 := I.1.n12
  have c12 : c < 12 := by omega
  rcases burn_eq I.1 c12 with ⟨-, e⟩ | ⟨f, h6, n2, hf, ef, e6, w6, p⟩
  · exact ⟨_, _, e, Wx.rf I⟩
  · obtain ⟨l, hl⟩ : ∃ l, l = loss (rd h (a + 4) c) f := ⟨_, rfl⟩
    have hlf : l ≤ f := by rw [hl]; exact Nat.min_le_left _ _
    rw [← hl] at e6 p
    have ra : rd h6 a = upd (rd h a) 3 (rd h a 3 + nI l) := by rw [e6, rd_up2_self, rd_up2_ne (by omega)]
    have r5 : rd h6 (a + 5) = upd (rd h (a + 5)) c (nI (f - l)) := by rw [e6, rd_up2_ne (by omega), rd_up2_self]
    have R : ∀ k, k ≠ a → k ≠ a + 5 → rd h6 k = rd h k := fun k h1 h2 => by rw [e6, rd_up2_ne h1, rd_up2_ne h2]
    have L6 : LieA h6 a := by
      unfold LieA
      rw [ra, upd_ne (show 5 ≠ 3 by decide), upd_ne (show 12 ≠ 3 by decide), R (a + 3) (by omega) (by omega), R (a + 4) (by omega) (by omega), R (a + 7) (by omega) (by omega), R (a + 8) (by omega) (by omega)]
      exact I.2.1
    have A6 : AccA h6 a := by
      have A := I.2.2
      unfold AccA at A ⊢
      rw [ra, upd_ne (show 5 ≠ 3 by decide), upd_ne (show 2 ≠ 3 by decide), upd_self, r5]
      have s := isum_upd (f := rd h (a + 5)) (i := c) (x := nI (f - l)) _ hc
      have s2 : isum (upd (rd h (a + 5)) c (nI (f - l))) (vn (rd h a 5)) + nI l = isum (rd h (a + 5)) (vn (rd h a 5)) := by
        refine (Int32.add_left_inj (nI (f - l))).mp ?_
        rw [← s, ef, show nI f = nI (f - l) + nI l by rw [nI_add, Nat.sub_add_cancel hlf]]
        ac_rfl
      rw [A, ← s2]
      ac_rfl
    have X6 : Arx h6 a := ⟨w6.1, L6, A6⟩
    rcases p with ⟨-, e⟩ | ⟨-, t, h9, e9, w9, e⟩
    · exact ⟨_, _, e, X6, w6.2⟩
    · refine ⟨_, _, e, ⟨w9.1.any (by omega), ?_, ?_⟩, w9.2.up (by omega)⟩
      · rcases leaveBed_eq w6.1 (nI c) with ⟨e0, no⟩ | ⟨r, b, hx, eb, e0⟩
        · rw [e9] at e0
          have eh := (Prod.mk.inj (Option.some.inj e0)).2
          subst eh
          refine LieA.gone w6.1 L6 c12 (st := 2) (by decide) (rd_up2_self _ _ _ _) (Or.inl ⟨rd_up2_ne (by omega), no⟩) ?_ ?_ ?_ ?_ <;> rw [rd_up2_ne (by omega)]
        · rw [e9] at e0
          have eh := (Prod.mk.inj (Option.some.inj e0)).2
          subst eh
          refine LieA.gone w6.1 L6 c12 (st := 2) (by decide) (by rw [rd_up2_self, rd_up2_ne (by omega)]) (Or.inr ⟨r, b, hx, eb, by rw [rd_up2_ne (by omega), rd_up2_self]⟩) ?_ ?_ ?_ ?_ <;> rw [rd_up2_ne (by omega), rd_up2_ne (by omega)]
      · rcases leaveBed_eq w6.1 (nI c) with ⟨e0, no⟩ | ⟨r, b, hx, eb, e0⟩
        · rw [e9] at e0
          have eh := (Prod.mk.inj (Option.some.inj e0)).2
          subst eh
          refine A6.of ?_ ?_ ?_ ?_ <;> rw [rd_up2_ne (by omega)]
        · rw [e9] at e0
          have eh := (Prod.mk.inj (Option.some.inj e0)).2
          subst eh
          refine A6.of ?_ ?_ ?_ ?_ <;> rw [rd_up2_ne (by omega), rd_up2_ne (by omega)]
theorem refill_x (I : Arx h a) : ∃ h', A_refillSprings h a = some h' ∧ Wx h a h' ∧ ∀ k, k ≠ a + 10 → rd h' k = rd h k := by
  obtain ⟨h', e, w, f⟩ := refill_ok I.1
  refine ⟨h', e, ⟨I.of w.1 ?_ ?_ ?_ ?_ (fun k hk => f k (by omega)), w.2⟩, f⟩ <;> rw [f a (by omega)]
theorem passM_x (I : Arx h a) (x : Int32) : ∃ v h', A_pass_L22 a FU x 0 h = some (v, h') ∧ Wx h a h' := by
  obtain ⟨⟨v, h'⟩, e, p⟩ := loop0 (fun n (s : Int32 × Hp) v => A_pass_L22 a n s.1 (nI v) s.2) 12 (fun s _ => Wx h a s.2) (fun s => Wx h a s.2) (by decide) (fun n s v hv w => by
    obtain ⟨t, ht, et⟩ := w.1.1.clips
    rw [A_pass_L22, et]
    by_cases q : t ≤ v
    · exact Or.inl ⟨_, if_pos (nI_le q (by omega)), w⟩
    · obtain ⟨y, g, ey, wy⟩ := burn_x w.1 (show v < vn (rd s.2 a 5) by rw [et, vn_nI (by omega)]; omega)
      rw [if_neg (nI_ge (by omega) (by omega)), ey, Option.bind_some, nI_1]
      exact Or.inr ⟨by omega, (_, g), w.tr wy, rfl⟩) (x, h) (Wx.rf I)
  exact ⟨v, h', e, p⟩
theorem pass_x (I : Arx h a) {w : Nat} (hw : w ≤ 50) : ∃ v h', A_pass h a (nI w) = some (v, h') ∧ Wx h a h' := by
  obtain ⟨⟨v, h'⟩, e, p⟩ := loop0 (fun n (s : Int32 × Hp) v => A_pass_L4 a (nI w) n s.1 (nI v) s.2) 50 (fun s _ => Wx h a s.2) (fun s => Wx h a s.2) (by decide) (fun n s v hv k => by
    rw [A_pass_L4]
    by_cases q : w ≤ v
    · exact Or.inl ⟨_, if_pos (nI_le q (by omega)), k⟩
    · have I1 : Wx h a (up2 s.2 a 0 (rd s.2 a 0 + 1)) := by
        refine ⟨k.1.of (k.1.1.fld (by decide) (by decide) (by decide)) ?_ ?_ ?_ ?_ (fun k hk => rd_up2_ne (by omega)), k.2.up (by omega)⟩ <;> rw [rd_up2_self, upd_ne (by decide)]
      obtain ⟨y, g, ey, wy⟩ := passM_x I1.1 s.1
      obtain ⟨g2, e2, w2, -⟩ := refill_x wy.1
      unfold nm
      rw [if_neg (nI_ge (by omega) (by omega))]
      dsimp only
      rw [ey, Option.bind_some]
      dsimp only
      rw [e2, Option.bind_some, nI_1]
      exact Or.inr ⟨by omega, (y, g2), (I1.tr wy).tr w2, rfl⟩) (0, h) (Wx.rf I)
  refine ⟨v, h', ?_, p⟩
  have e : A_pass_L4 a (nI w) FU 0 0 h = some (v, h') := e
  unfold A_pass
  rw [e, Option.bind_some]
theorem empty_x (I : Arc h a) : ∃ h', A_empty h a = some h' ∧ Wx h a h' ∧ (∀ k, k ≠ a → rd h' k = rd h k) := by
  obtain ⟨h', e, w, f, ra⟩ := empty_ok I
  refine ⟨h', e, ⟨⟨w.1, ?_, ?_⟩, w.2⟩, f⟩
  · unfold LieA
    rw [ra, upd_ne (show 5 ≠ 15 by decide), upd_ne (show 5 ≠ 12 by decide), upd_self, upd_ne (show 12 ≠ 15 by decide), upd_self]
    exact Lie.none _ _ _ _
  · unfold AccA
    rw [ra]
    simp only [upd_self, upd_ne (show 5 ≠ 15 by decide), upd_ne (show 5 ≠ 12 by decide), upd_ne (show 2 ≠ 15 by decide), upd_ne (show 2 ≠ 12 by decide), upd_ne (show 2 ≠ 5 by decide), upd_ne (show 2 ≠ 4 by decide), upd_ne (show 2 ≠ 3 by decide), upd_ne (show 3 ≠ 15 by decide), upd_ne (show 3 ≠ 12 by decide), upd_ne (show 3 ≠ 5 by decide), upd_ne (show 3 ≠ 4 by decide)]
    rfl
end
