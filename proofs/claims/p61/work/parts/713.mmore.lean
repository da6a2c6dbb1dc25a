/-! ===== the model: cutting, adding, feeding, painting, weeks ===== -/
section
variable {h : Hp}
theorem mcuts_x (w : Wfx (rd h 141)) {s : Nat} (hs : s < 5) {y : Int32} (hy : Sc 99999999 y) : ∃ v h', M_cuts h (nI s) y = some (v, h') ∧ Mz h h' := by
  have i96 : ((96 : Int32) + 2 * nI s) + 1 = nI (96 + 2 * s + 1) := by
    rw [show (96 : Int32) = nI 96 from rfl, show (2 : Int32) = nI 2 from rfl, pk_mul, nI_add, nI_1]
  have sc1 : ∀ g : Hp, M_scene g (nI s) 1 = some (rd g 141 (96 + 2 * s + 1)) := fun g => mscene_ok (f := 1) hs (by decide)
  have inner : ∀ (r : Nat) (hr : r < 4) (z : Int32) (g : Hp), Mz h g → ∃ z' g', M_cuts_L19 (nI s) y (nI r) FU z 0 g = some (z', g') ∧ Mz h g' := fun r hr z g wg => by
    obtain ⟨⟨z', g'⟩, e, p⟩ := loop0 (fun n (u : Int32 × Hp) v => M_cuts_L19 (nI s) y (nI r) n u.1 (nI v) u.2) 9 (fun u _ => Mz h u.2) (fun u => Mz h u.2) (by decide) (fun n u v hv m => by
      obtain ⟨b, hb, eb⟩ := m.1.1.2.2.2.2.2.1 r hr
      rw [M_cuts_L19, mbeds_ok hr, Option.bind_some, eb]
      by_cases q : b ≤ v
      · exact Or.inl ⟨_, if_pos (nI_le q (by omega)), m⟩
      · rw [if_neg (nI_ge (by omega) (by omega)), minBed_ok hr (by omega), Option.bind_some, nI_1]
        refine Or.inr ⟨by omega, ?_⟩
        by_cases q0 : rd u.2 141 (60 + (9 * r + v)) < 0
        · rw [if_pos q0]; exact ⟨u, m, rfl⟩
        · rw [if_neg q0]
          obtain ⟨c, hc, ec⟩ : ∃ c, c < 12 ∧ rd u.2 141 (60 + (9 * r + v)) = nI c := by
            rcases m.1.1.2.2.2.2.2.2.2 (9 * r + v) (by omega) with a | a | a
            · rw [a] at q0; exact absurd (by decide) q0
            · rw [a] at q0; exact absurd (by decide) q0
            · exact a
          rw [ec, sc1, Option.bind_some]
          by_cases q1 : rd u.2 141 (96 + 2 * s + 1) ≤ 0
          · rw [if_pos q1]; exact ⟨u, m, rfl⟩
          · obtain ⟨x, ex⟩ := mmatchOf_ok m.1.1 hc hy
            rw [if_neg q1, ex, Option.bind_some]
            by_cases q2 : x = -1
            · rw [if_pos q2]; exact ⟨u, m, rfl⟩
            · obtain ⟨t, g7, e7, m7⟩ := mleaves_x m.1 hc (x := 0) (by decide)
              have t3 : ∀ (g : Hp) (x : Int32), M_to g (nI c) 3 x = some (up2 g 141 (8 + 4 * c + 3) x) := fun g x => mto_ok (f := 3) hc (by decide) x
              rw [if_neg q2, e7, Option.bind_some]
              dsimp only
              obtain ⟨g9, e9⟩ : ∃ g9, g9 = up2 g7 141 (8 + 4 * c + 3) (nI s) := ⟨_, rfl⟩
              have m9 : Mz h g9 := by rw [e9]; exact mz_up (m.tr m7) (wfx_free m7.1 (by omega))
              rw [t3, Option.bind_some, ← e9, i96, r106 (by omega), Option.bind_some, w106 (by omega), Option.bind_some]
              obtain ⟨g11, e11⟩ : ∃ g11, g11 = up2 g9 141 (96 + 2 * s + 1) (rd g9 141 (96 + 2 * s + 1) - 1) := ⟨_, rfl⟩
              have m11 : Mz h g11 := by rw [e11]; exact mz_up m9 (wfx_free m9.1 (by omega))
              have x7 : ∀ x, wrO g11 141 106 7 x = some (up2 g11 141 7 x) := fun x => w106 (i := 7) (by decide) x
              have y7 : rdO 106 (rd g11 141) 7 = some (rd g11 141 7) := r106 (i := 7) (by decide)
              rw [← e11, y7, Option.bind_some, x7, Option.bind_some]
              exact ⟨(_, _), mz_up m11 (wfx_free m11.1 (by omega)), rfl⟩) (z, g) wg
    exact ⟨z', g', e, p⟩
  obtain ⟨⟨z, h'⟩, e, p⟩ := loop0 (fun n (u : Int32 × Hp) v => M_cuts_L5 (nI s) y n u.1 (nI v) u.2) 4 (fun u _ => Mz h u.2) (fun u => Mz h u.2) (by decide) (fun n u v hv m => by
    obtain ⟨t, ht, et⟩ := m.1.1.2.1
    rw [M_cuts_L5, m3, Option.bind_some, et]
    by_cases q : t ≤ v
    · exact Or.inl ⟨_, if_pos (nI_le q (by omega)), m⟩
    · obtain ⟨z', g, ez, wz⟩ := inner v (by omega) u.1 u.2 m
      rw [if_neg (nI_ge (by omega) (by omega)), ez, Option.bind_some, nI_1]
      exact Or.inr ⟨by omega, (z', g), wz, rfl⟩) (0, h) (Mz.rf w)
  refine ⟨z, h', ?_, p⟩
  have e : M_cuts_L5 (nI s) y FU 0 0 h = some (z, h') := e
  unfold M_cuts
  rw [e, Option.bind_some]
theorem madds_x (w : Wfx (rd h 141)) {n : Nat} (hn : rd h 141 2 = nI n) (hl : n < 12) {p : Int32} (hp : Sc 99999999 p) : ∃ h', M_adds h p = some (nI n, h') ∧ Mz h h' := by
  obtain ⟨h', e, f, r⟩ := adds_ok hn hl p
  obtain ⟨h2, e2, mk⟩ := madds_ok w.1 hn hl hp
  have eh : h' = h2 := by
    rw [e] at e2
    exact (Prod.mk.inj (Option.some.inj e2)).2
  subst eh
  have vC : vn (rd h 141 2) = n := by rw [hn, vn_nI (by omega)]
  have R4 := w.1.R4
  have m9 := w.1.m9
  refine ⟨h', e, ⟨mk.1, ?_, ?_⟩, f⟩
  · have L := w.2.1
    unfold LieM at L ⊢
    rw [vC] at L
    rw [r, upd_ne (show 2 ≠ 8 + 4 * n + 3 by omega), upd_ne (show 2 ≠ 8 + 4 * n + 2 by omega), upd_ne (show 2 ≠ 8 + 4 * n + 1 by omega), upd_ne (show 2 ≠ 8 + 4 * n by omega), upd_self, vn_nI (by omega)]
    rw [upd_ne (show 3 ≠ 8 + 4 * n + 3 by omega), upd_ne (show 3 ≠ 8 + 4 * n + 2 by omega), upd_ne (show 3 ≠ 8 + 4 * n + 1 by omega), upd_ne (show 3 ≠ 8 + 4 * n by omega), upd_ne (show 3 ≠ 2 by decide)]
    refine Lie.clip (L.cg (fun r' _ => ?_) (fun _ _ _ => rfl) (fun _ _ => Iff.rfl) (fun r' b' hr' hb' => ?_)) ?_ (fun c hc => ?_) (fun c hc => ?_)
    · rw [upd_ne (by omega), upd_ne (by omega), upd_ne (by omega), upd_ne (by omega), upd_ne (by omega)]
    · have hb' : b' < vn (rd h 141 (56 + r')) := hb'
      have := m9 r' hr'
      rw [upd_ne (by omega), upd_ne (by omega), upd_ne (by omega), upd_ne (by omega), upd_ne (by omega)]
    · rw [upd_ne (by omega), upd_ne (by omega), upd_self]; decide
    · rw [upd_ne (by omega), upd_ne (by omega), upd_ne (by omega), upd_ne (by omega), upd_ne (by omega)]
    · rw [upd_ne (by omega), upd_ne (by omega), upd_ne (by omega), upd_ne (by omega), upd_ne (by omega)]
  · have A := w.2.2
    unfold AccM at A ⊢
    rw [vC, hn] at A
    have r2 : rd h' 141 2 = nI (n + 1) := by rw [r, upd_ne (by omega), upd_ne (by omega), upd_ne (by omega), upd_ne (by omega), upd_self]
    have r6 : rd h' 141 6 = rd h 141 6 := by rw [r, upd_ne (by omega), upd_ne (by omega), upd_ne (by omega), upd_ne (by omega), upd_ne (by omega)]
    have r5 : rd h' 141 5 = rd h 141 5 := by rw [r, upd_ne (by omega), upd_ne (by omega), upd_ne (by omega), upd_ne (by omega), upd_ne (by omega)]
    have rf : ∀ c, c < n → rd h' 141 (8 + 4 * c + 2) = rd h 141 (8 + 4 * c + 2) := fun c hc => by rw [r, upd_ne (by omega), upd_ne (by omega), upd_ne (by omega), upd_ne (by omega), upd_ne (by omega)]
    have rn : rd h' 141 (8 + 4 * n + 2) = 40 := by rw [r, upd_ne (by omega), upd_self]
    rw [r2, r6, r5, vn_nI (by omega)]
    show _ = isum (fun c => rd h' 141 (8 + 4 * c + 2)) n + rd h' 141 (8 + 4 * n + 2) + _
    rw [rn, isum_cg (f := fun c => rd h' 141 (8 + 4 * c + 2)) (g := fun c => rd h 141 (8 + 4 * c + 2)) n rf, nI_40, show 40 * nI n + 40 + rd h 141 6 = (40 * nI n + rd h 141 6) + 40 by ac_rfl, A]
    ac_rfl
theorem mhangs_x (w : Wfx (rd h 141)) {n b : Nat} (hn : rd h 141 3 = nI n) (hl : n < 4) (hb : b ≤ 9) (b1 : 1 ≤ b) : ∃ h', M_hangs h (nI b) = some (nI n, h') ∧ Mz h h' := by
  obtain ⟨h0, e0, mk⟩ := mhangs_ok w.1 hn hl hb b1
  obtain ⟨h3, e3⟩ : ∃ h3, h3 = up2 h 141 3 (nI (n + 1)) := ⟨_, rfl⟩
  obtain ⟨h4, e4⟩ : ∃ h4, h4 = up2 h3 141 (56 + n) (nI b) := ⟨_, rfl⟩
  have r4 : rd h4 141 = upd (upd (rd h 141) 3 (nI (n + 1))) (56 + n) (nI b) := by rw [e4, rd_up2_self, e3, rd_up2_self]
  obtain ⟨h', e, p1, p2⟩ := loop0 (fun k (s : Hp) v => M_hangs_L29 (nI b) (nI n) k (nI v) s) 9 (fun s v => v ≤ b ∧ (∀ i, i < 60 ∨ 96 ≤ i → rd s 141 i = rd h4 141 i) ∧ ∀ i, rd s 141 (60 + i) = if n * 9 ≤ i ∧ i < n * 9 + v then -1 else rd h4 141 (60 + i)) (fun s => (∀ i, i < 60 ∨ 96 ≤ i → rd s 141 i = rd h4 141 i) ∧ ∀ i, rd s 141 (60 + i) = if n * 9 ≤ i ∧ i < n * 9 + b then -1 else rd h4 141 (60 + i)) (by decide) (fun k s v hv hj => by
    obtain ⟨hvb, f, g⟩ := hj
    rw [M_hangs_L29]
    by_cases q : b ≤ v
    · obtain rfl : v = b := by omega
      exact Or.inl ⟨_, if_pos (nI_le q (by omega)), f, g⟩
    · rw [if_neg (nI_ge (by omega) (by omega)), msetBed_eq hl (by omega), Option.bind_some, nI_1]
      refine Or.inr ⟨by omega, _, ⟨by omega, fun i hi => by rw [rd_up2_self, upd_ne (by omega)]; exact f i hi, fun i => ?_⟩, rfl⟩
      rw [rd_up2_self]
      by_cases z : i = 9 * n + v
      · subst z; rw [upd_self, if_pos (by omega)]
      · rw [upd_ne (by omega), g]
        by_cases y : n * 9 ≤ i ∧ i < n * 9 + v
        · rw [if_pos y, if_pos (by omega)]
        · rw [if_neg y, if_neg (by omega)]) h4 ⟨Nat.zero_le _, fun _ _ => rfl, fun i => by rw [if_neg (by omega)]⟩
  have e : M_hangs_L29 (nI b) (nI n) FU 0 h4 = some h' := e
  have e2 : M_hangs h (nI b) = some (nI n, h') := by
    unfold M_hangs
    have x3 : wrO h 141 106 3 (nI (n + 1)) = some h3 := by rw [e3]; exact w106 (i := 3) (by decide) _
    rw [m3, Option.bind_some, Option.bind_some, hn, nI_1, x3, Option.bind_some, show (56 : Int32) = nI 56 from rfl, nI_add, w106 (by omega), Option.bind_some, ← e4, e, Option.bind_some]
  have eh : h0 = h' := by
    rw [e0] at e2
    exact (Prod.mk.inj (Option.some.inj e2)).2
  subst eh
  have vR : vn (rd h 141 3) = n := by rw [hn, vn_nI (by omega)]
  have m9 := w.1.m9
  have n12 := w.1.n12
  rw [vR] at m9
  refine ⟨h0, e0, ⟨mk.1, ?_, ?_⟩, mk.2⟩
  · have L := w.2.1
    unfold LieM at L ⊢
    rw [vR] at L
    rw [p1 2 (by omega), r4, upd_ne (show 2 ≠ 56 + n by omega), upd_ne (show 2 ≠ 3 by decide), p1 3 (by omega), r4, upd_ne (show 3 ≠ 56 + n by omega), upd_self, vn_nI (by omega)]
    have rc : ∀ r, r < n → rd h0 141 (56 + r) = rd h 141 (56 + r) := fun r hr => by
      rw [p1 _ (by omega), r4, upd_ne (by omega), upd_ne (by omega)]
    have rn : rd h0 141 (56 + n) = nI b := by rw [p1 _ (by omega), r4, upd_self]
    have L0 : Lie (vn (rd h 141 2)) n (fun r => vn (rd h 141 (56 + r))) (fun c => hx (rd h0 141 (8 + 4 * c))) (fun c => rd h0 141 (8 + 4 * c + 1) = 1) (fun i => rd h 141 (60 + i)) := by
      refine L.cg (fun _ _ => rfl) (fun c hc _ => ?_) (fun c hc => ?_) (fun _ _ _ _ => rfl)
      · rw [p1 _ (by omega), r4, upd_ne (by omega), upd_ne (by omega)]
      · rw [p1 _ (by omega), r4, upd_ne (by omega), upd_ne (by omega)]
    refine Lie.reel n12 L0 (fun r hr => by rw [rc r hr]) (fun r b' hr hb' => ?_) (fun b' hb' => ?_)
    · have hb' : b' < vn (rd h 141 (56 + r)) := hb'
      have := m9 r hr
      rw [p2, if_neg (by omega), r4, upd_ne (by omega), upd_ne (by omega)]
    · have hb' : b' < vn (rd h0 141 (56 + n)) := hb'
      rw [rn, vn_nI (by omega)] at hb'
      rw [p2, if_pos (by omega)]
  · refine w.2.2.of w.1 ?_ ?_ ?_ (fun c _ => ?_) <;> rw [p1 _ (by omega), r4, upd_ne (by omega), upd_ne (by omega)]
theorem mopens_x (w : Wfx (rd h 141)) {n : Nat} (hn : rd h 141 4 = nI n) (hl : n < 5) (x : Int32) : ∃ h', M_opens h x = some (nI n, h') ∧ Mz h h' := by
  obtain ⟨h0, e0, mk⟩ := mopens_ok w.1 hn hl x
  have i96 : ∀ f : Nat, ((96 : Int32) + 2 * nI n) + nI f = nI (96 + 2 * n + f) := fun f => by
    rw [show (96 : Int32) = nI 96 from rfl, show (2 : Int32) = nI 2 from rfl, pk_mul, nI_add, nI_add]
  obtain ⟨h2, e2⟩ : ∃ h2, h2 = up2 h 141 (96 + 2 * n + 0) x := ⟨_, rfl⟩
  obtain ⟨h3, e3⟩ : ∃ h3, h3 = up2 h2 141 (96 + 2 * n + 1) x := ⟨_, rfl⟩
  obtain ⟨h5, e5⟩ : ∃ h5, h5 = up2 h3 141 4 (nI (n + 1)) := ⟨_, rfl⟩
  have r4 : rd h3 141 4 = nI n := by rw [e3, rd_up2_self, upd_ne (by omega), e2, rd_up2_self, upd_ne (by omega), hn]
  have r5 : rd h5 141 4 = nI (n + 1) := by rw [e5, rd_up2_self, upd_self]
  have x2 : wrO h 141 106 (((96 : Int32) + 2 * nI n) + 0) x = some h2 := by
    rw [show (0 : Int32) = nI 0 from rfl, i96, w106 (by omega), e2]
  have x3 : wrO h2 141 106 (((96 : Int32) + 2 * nI n) + 1) x = some h3 := by
    rw [show (1 : Int32) = nI 1 from rfl, i96, w106 (by omega), e3]
  have x5 : wrO h3 141 106 4 (nI (n + 1)) = some h5 := by rw [e5]; exact w106 (i := 4) (by decide) _
  have ef : M_opens h x = some (nI n, h5) := by
    unfold M_opens
    rw [m4, Option.bind_some, hn, x2, Option.bind_some, x3, Option.bind_some, m4, Option.bind_some, r4, nI_1, x5, Option.bind_some, m4, Option.bind_some, r5, nI_pred]
  have eh : h0 = h5 := by
    rw [e0] at ef
    exact (Prod.mk.inj (Option.some.inj ef)).2
  subst eh
  have R : ∀ i, i ≠ 4 → i < 96 → rd h0 141 i = rd h 141 i := fun i a b => by
    rw [e5, rd_up2_self, upd_ne a, e3, rd_up2_self, upd_ne (by omega), e2, rd_up2_self, upd_ne (by omega)]
  exact ⟨h0, e0, ⟨mk.1, w.2.1.of w.1 (R _ (by omega) (by omega)) (R _ (by omega) (by omega)) (fun _ _ => R _ (by omega) (by omega)) (fun _ _ => R _ (by omega) (by omega)) (fun _ _ => R _ (by omega) (by omega)) (fun _ _ => R _ (by omega) (by omega)), w.2.2.of w.1 (R _ (by omega) (by omega)) (R _ (by omega) (by omega)) (R _ (by omega) (by omega)) (fun _ _ => R _ (by omega) (by omega))⟩, mk.2⟩
theorem mfeeds_x (w : Wfx (rd h 141)) {c x : Nat} (hc : c < vn (rd h 141 2)) (hx : x ≤ 50) (hm : ¬ 99 < rd h 141 (8 + 4 * c + 2) + nI x) : ∃ v h', M_feeds h (nI c) (nI x) = some (v, h') ∧ Mz h h' := by
  have n12 := w.1.n12
  have c12 : c < 12 := by omega
  obtain ⟨v, h0, e0, mk⟩ := mfeeds_ok w.1 c12 hx hm
  obtain ⟨h', e, k, r⟩ := feeds_eq (h := h) c12 (nI x)
  have eh : h0 = h' := by
    rw [e0] at e
    exact (Prod.mk.inj (Option.some.inj e)).2
  subst eh
  have R : ∀ i, i ≠ 8 + 4 * c + 2 → i ≠ 1 → i ≠ 6 → rd h0 141 i = rd h 141 i := fun i a b d => by
    rw [r, upd_ne d, upd_ne b, upd_ne a]
  refine ⟨v, h0, e0, ⟨mk.1, w.2.1.of w.1 (R _ (by omega) (by omega) (by omega)) (R _ (by omega) (by omega) (by omega)) (fun _ _ => R _ (by omega) (by omega) (by omega)) (fun _ _ => R _ (by omega) (by omega) (by omega)) (fun _ _ => R _ (by omega) (by omega) (by omega)) (fun _ _ => R _ (by omega) (by omega) (by omega)), ?_⟩, mk.2⟩
  have A := w.2.2
  unfold AccM at A ⊢
  have r6 : rd h0 141 6 = rd h 141 6 + nI x := by rw [r, upd_self]
  rw [R 2 (by omega) (by omega) (by omega), r6, R 5 (by omega) (by omega) (by omega)]
  have s := isum_upd (f := fun c => rd h 141 (8 + 4 * c + 2)) (i := c) (x := rd h 141 (8 + 4 * c + 2) + nI x) _ hc
  have s2 : isum (upd (fun c => rd h 141 (8 + 4 * c + 2)) c (rd h 141 (8 + 4 * c + 2) + nI x)) (vn (rd h 141 2)) = isum (fun c => rd h 141 (8 + 4 * c + 2)) (vn (rd h 141 2)) + nI x := by
    refine (Int32.add_left_inj (rd h 141 (8 + 4 * c + 2))).mp ?_
    rw [s]; ac_rfl
  rw [isum_cg (f := fun c => rd h0 141 (8 + 4 * c + 2)) (g := upd (fun c => rd h 141 (8 + 4 * c + 2)) c (rd h 141 (8 + 4 * c + 2) + nI x)) _ (fun d _ => by
    by_cases q : d = c
    · subst q; rw [upd_self, r, upd_ne (by omega), upd_ne (by omega), upd_self]
    · rw [upd_ne q]; exact R _ (by omega) (by omega) (by omega)), s2, show 40 * rd h 141 2 + (rd h 141 6 + nI x) = (40 * rd h 141 2 + rd h 141 6) + nI x by ac_rfl, A]
  ac_rfl
theorem mpaints_x (w : Wfx (rd h 141)) {c x : Nat} (hc : c < 12) (na : rd h 141 (8 + 4 * c + 1) ≠ 1) (hx9 : x ≤ 9) (i : Int32) : ∃ v h', M_paints h (nI c) i (nI x) = some (v, h') ∧ Mz h h' := by
  obtain ⟨v, h', e, mk⟩ := mpaints_ok w.1 hc hx9 i
  have f : ∃ r, h' = up2 h 141 (8 + 4 * c) r := by
    have e' := e
    unfold M_paints at e'
    have t0 : ∀ r, M_to h (nI c) 0 r = some (up2 h 141 (8 + 4 * c) r) := fun r => mto_ok (f := 0) hc (by decide) r
    cases q : M_paints_L6 h (nI c) i (nI x) FU 0 0 with
    | none => rw [q] at e'; cases e'
    | some r =>
      rw [q, Option.bind_some, t0, Option.bind_some] at e'
      refine ⟨r, ?_⟩
      cases q2 : M_hashOf (up2 h 141 (8 + 4 * c) r) (nI c) with
      | none => rw [q2] at e'; cases e'
      | some z =>
        rw [q2, Option.bind_some] at e'
        exact (Prod.mk.inj (Option.some.inj e')).2.symm
  obtain ⟨r, eh⟩ := f
  have n12 := w.1.n12
  refine ⟨v, h', e, ⟨mk.1, ?_, ?_⟩, mk.2⟩
  · rw [eh, rd_up2_self]
    unfold LieM
    rw [upd_ne (show 2 ≠ 8 + 4 * c by omega), upd_ne (show 3 ≠ 8 + 4 * c by omega)]
    have R4 := w.1.R4
    refine Lie.cg w.2.1 (fun r' hr' => by rw [upd_ne (by omega)]) (fun c' hc' ha => ?_) (fun c' hc' => by rw [upd_ne (by omega)]) (fun r' b' hr' hb' => by rw [upd_ne (by omega)])
    have ne : c' ≠ c := fun z => by subst z; exact na ha
    rw [upd_ne (by omega)]
  · rw [eh, rd_up2_self]
    refine w.2.2.of w.1 ?_ ?_ ?_ (fun c _ => ?_) <;> rw [upd_ne (by omega)]
theorem mburns_x (w : Wfx (rd h 141)) {c : Nat} (hc : c < vn (rd h 141 2)) : ∃ v h', M_burns h (nI c) = some (v, h') ∧ Mz h h' := by
  have n12 := w.1.n12
  have c12 : c < 12 := by omega
  rcases mburns_eq w.1 c12 with ⟨-, e⟩ | ⟨f, h8, n2, hf, ef, e8, m8, p⟩
  · exact ⟨_, _, e, Mz.rf w⟩
  · obtain ⟨l, hl⟩ : ∃ l, l = loss (rd h 141 (8 + 4 * c + 1)) f := ⟨_, rfl⟩
    have hlf : l ≤ f := by rw [hl]; exact Nat.min_le_left _ _
    rw [← hl] at e8 p
    have r8 : rd h8 141 = upd (upd (rd h 141) (8 + 4 * c + 2) (nI (f - l))) 5 (rd h 141 5 + nI l) := by rw [e8, rd_up2_self, rd_up2_self]
    have R : ∀ i, i ≠ 8 + 4 * c + 2 → i ≠ 5 → rd h8 141 i = rd h 141 i := fun i a b => by rw [r8, upd_ne b, upd_ne a]
    have X8 : Wfx (rd h8 141) := by
      refine ⟨m8.1, w.2.1.of w.1 (R _ (by omega) (by omega)) (R _ (by omega) (by omega)) (fun _ _ => R _ (by omega) (by omega)) (fun _ _ => R _ (by omega) (by omega)) (fun _ _ => R _ (by omega) (by omega)) (fun _ _ => R _ (by omega) (by omega)), ?_⟩
      have A := w.2.2
      unfold AccM at A ⊢
      have r5 : rd h8 141 5 = rd h 141 5 + nI l := by rw [r8, upd_self]
      rw [R 2 (by omega) (by omega), r5, R 6 (by omega) (by omega)]
      have s := isum_upd (f := fun c => rd h 141 (8 + 4 * c + 2)) (i := c) (x := nI (f - l)) _ hc
      have s2 : isum (upd (fun c => rd h 141 (8 + 4 * c + 2)) c (nI (f - l))) (vn (rd h 141 2)) + nI l = isum (fun c => rd h 141 (8 + 4 * c + 2)) (vn (rd h 141 2)) := by
        refine (Int32.add_left_inj (nI (f - l))).mp ?_
        rw [← s, ef, show nI f = nI (f - l) + nI l by rw [nI_add, Nat.sub_add_cancel hlf]]
        ac_rfl
      rw [isum_cg (f := fun c => rd h8 141 (8 + 4 * c + 2)) (g := upd (fun c => rd h 141 (8 + 4 * c + 2)) c (nI (f - l))) _ (fun d _ => by
        by_cases q : d = c
        · subst q; rw [upd_self, r8, upd_ne (by omega), upd_self]
        · rw [upd_ne q]; exact R _ (by omega) (by omega)), A, ← s2]
      ac_rfl
    have z8 : Mz h h8 := ⟨X8, m8.2⟩
    rcases p with ⟨-, e⟩ | ⟨-, t, h12, e12, m12, -, e⟩
    · exact ⟨_, _, e, z8⟩
    · obtain ⟨v', g, eg, mg⟩ := mleaves_x X8 c12 (x := 2) (by decide)
      rw [e12] at eg
      have eh := (Prod.mk.inj (Option.some.inj eg)).2
      subst eh
      exact ⟨_, _, e, z8.tr mg⟩
theorem mpasses_x (w : Wfx (rd h 141)) {k : Nat} (hk : k ≤ 50) : ∃ v h', M_passes h (nI k) = some (v, h') ∧ Mz h h' := by
  have days : ∀ (x : Int32) (g : Hp), Mz h g → ∃ y g', M_passes_L22 FU x 0 g = some (y, g') ∧ Mz h g' := fun x g wg => by
    obtain ⟨⟨y, g'⟩, e, p⟩ := loop0 (fun n (u : Int32 × Hp) v => M_passes_L22 n u.1 (nI v) u.2) 12 (fun u _ => Mz h u.2) (fun u => Mz h u.2) (by decide) (fun n u v hv m => by
      obtain ⟨t, ht, et⟩ := m.1.1.1
      rw [M_passes_L22, m2, Option.bind_some, et]
      by_cases q : t ≤ v
      · exact Or.inl ⟨_, if_pos (nI_le q (by omega)), m⟩
      · obtain ⟨b, g, eb, wb⟩ := mburns_x m.1 (show v < vn (rd u.2 141 2) by rw [et, vn_nI (by omega)]; omega)
        rw [if_neg (nI_ge (by omega) (by omega)), eb, Option.bind_some, nI_1]
        dsimp only
        refine Or.inr ⟨by omega, ?_⟩
        by_cases z : b2i b = 0
        · rw [if_pos z]; exact ⟨(_, g), m.tr wb, rfl⟩
        · rw [if_neg z]; exact ⟨(_, g), m.tr wb, rfl⟩) (x, g) wg
    exact ⟨y, g', e, p⟩
  have fill : ∀ g : Hp, Mz h g → ∃ g', M_passes_L59 FU 0 g = some g' ∧ Mz h g' := fun g wg => by
    obtain ⟨g', e, p⟩ := loop0 (fun n (u : Hp) v => M_passes_L59 n (nI v) u) 5 (fun u _ => Mz h u) (fun u => Mz h u) (by decide) (fun n u v hv m => by
      obtain ⟨t, ht, et⟩ := m.1.1.2.2.1
      have i96 : ∀ f : Nat, ((96 : Int32) + 2 * nI v) + nI f = nI (96 + 2 * v + f) := fun f => by
        rw [show (96 : Int32) = nI 96 from rfl, show (2 : Int32) = nI 2 from rfl, pk_mul, nI_add, nI_add]
      rw [M_passes_L59, m4, Option.bind_some, et]
      by_cases q : t ≤ v
      · exact Or.inl ⟨_, if_pos (nI_le q (by omega)), m⟩
      · have y0 : rdO 106 (rd u 141) (((96 : Int32) + 2 * nI v) + 0) = some (rd u 141 (96 + 2 * v + 0)) := by
          rw [show (0 : Int32) = nI 0 from rfl, i96, r106 (by omega)]
        have y1 : rdO 106 (rd u 141) (((96 : Int32) + 2 * nI v) + 1) = some (rd u 141 (96 + 2 * v + 1)) := by
          rw [show (1 : Int32) = nI 1 from rfl, i96, r106 (by omega)]
        have x1 : ∀ x, wrO u 141 106 (((96 : Int32) + 2 * nI v) + 1) x = some (up2 u 141 (96 + 2 * v + 1) x) := fun x => by
          rw [show (1 : Int32) = nI 1 from rfl, i96, w106 (by omega)]
        rw [if_neg (nI_ge (by omega) (by omega)), y0, Option.bind_some, y1, Option.bind_some, x1, Option.bind_some, nI_1]
        exact Or.inr ⟨by omega, _, mz_up m (wfx_free m.1 (by omega)), rfl⟩) g wg
    exact ⟨g', e, p⟩
  obtain ⟨⟨v, h'⟩, e, p⟩ := loop0 (fun n (u : Int32 × Hp) v => M_passes_L4 (nI k) n u.1 (nI v) u.2) 50 (fun u _ => Mz h u.2) (fun u => Mz h u.2) (by decide) (fun n u v hv m => by
    rw [M_passes_L4]
    by_cases q : k ≤ v
    · exact Or.inl ⟨_, if_pos (nI_le q (by omega)), m⟩
    · have y0 : rdO 106 (rd u.2 141) 0 = some (rd u.2 141 0) := r106 (i := 0) (by decide)
      have x0 : ∀ x, wrO u.2 141 106 0 x = some (up2 u.2 141 0 x) := fun x => w106 (i := 0) (by decide) x
      obtain ⟨y, g, ey, wy⟩ := days u.1 _ (mz_up (x := rd u.2 141 0 + 1) m (wfx_free (i := 0) m.1 (by omega)))
      obtain ⟨g2, e2, w2⟩ := fill g wy
      rw [if_neg (nI_ge (by omega) (by omega)), y0, Option.bind_some, x0, Option.bind_some, ey, Option.bind_some]
      dsimp only
      rw [e2, Option.bind_some, nI_1]
      exact Or.inr ⟨by omega, (y, g2), w2, rfl⟩) (0, h) (Mz.rf w)
  refine ⟨v, h', ?_, p⟩
  have e : M_passes_L4 (nI k) FU 0 0 h = some (v, h') := e
  unfold M_passes
  rw [e, Option.bind_some]
end
