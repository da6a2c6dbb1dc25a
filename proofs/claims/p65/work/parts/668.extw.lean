/-! ===== p65: weeks, cuts, airing keep the rest too ===== -/
def Ary (h : Hp) (a : Nat) : Prop := Arx h a ∧ Ext h a
def Wy (h0 : Hp) (a : Nat) (h' : Hp) : Prop := Ary h' a ∧ Fr a 11 h0 h'
section
variable {h : Hp} {a : Nat}
theorem Wy.rf (I : Ary h a) : Wy h a h := ⟨I, Fr.rf _ _ _⟩
theorem Wy.tr {h0 h1 h2 : Hp} (x : Wy h0 a h1) (y : Wy h1 a h2) : Wy h0 a h2 := ⟨y.1, x.2.tr y.2⟩
theorem Wy.of {h' : Hp} (w : Wx h a h') (x : Ext h' a) : Wy h a h' := ⟨⟨w.1, x⟩, w.2⟩
theorem Ary.cg {h' : Hp} (I : Ary h a) (e : ∀ k, a ≤ k → k < a + 11 → rd h' k = rd h k) : Ary h' a := ⟨I.1.cg e, I.2.cg e⟩
theorem refill_y (I : Ary h a) : ∃ h', A_refillSprings h a = some h' ∧ Wy h a h' ∧ ∀ k, k ≠ a + 10 → rd h' k = rd h k := by
  obtain ⟨t, ht, et⟩ := I.1.1.scenes
  have vS : vn (rd h a 15) = t := by rw [et, vn_nI (by omega)]
  obtain ⟨x0, x1, xc, xs, x7, x5, x12, x15⟩ := id I.2
  obtain ⟨h0, e0, w0, f0⟩ := refill_x I.1
  obtain ⟨h', e, p⟩ := loop0 (fun n (s : Hp) v => A_refillSprings_L2 a n (nI v) s) 5 (fun s _ => (∀ k, k ≠ a + 10 → rd s k = rd h k) ∧ ∀ i, i < t → Sc 9 (rd s (a + 10) i)) (fun s => ∀ i, i < t → Sc 9 (rd s (a + 10) i)) (by decide) (fun n s v hv w => by
    obtain ⟨f, p⟩ := w
    rw [A_refillSprings_L2, f a (by omega), et]
    by_cases q : t ≤ v
    · exact Or.inl ⟨_, if_pos (nI_le q (by omega)), p⟩
    · rw [if_neg (nI_ge (by omega) (by omega)), r5 (by omega), Option.bind_some, r5 (by omega), Option.bind_some, wrO_in (by omega) (by decide), Option.bind_some, nI_1]
      refine Or.inr ⟨by omega, _, ⟨fun k hk => by rw [rd_up2_ne hk]; exact f k hk, fun i hi => ?_⟩, rfl⟩
      rw [rd_up2_self]
      by_cases z : i = v
      · subst z
        rw [upd_self]
        obtain ⟨b, hb, eb⟩ := p i hi
        obtain ⟨l, hl, el⟩ := (xs i (by rw [vS]; exact hi)).1
        rw [f (a + 9) (by omega), eb, el, nI_1, mn_nI (by omega) (by omega)]
        exact ⟨min (b + 1) l, by omega, rfl⟩
      · rw [upd_ne z]; exact p i hi) h ⟨fun _ _ => rfl, fun i hi => (xs i (by rw [vS]; exact hi)).2⟩
  have e1 : A_refillSprings h a = some h' := by
    unfold A_refillSprings
    exact bO e _
  have eh : h0 = h' := by rw [e0] at e1; exact Option.some.inj e1
  subst eh
  refine ⟨h0, e0, Wy.of w0 ?_, f0⟩
  refine I.2.upd1 (by rw [f0 a (by omega)]; exact x0) (by rw [f0 a (by omega)]; exact x1) (by rw [f0 a (by omega)]) (by rw [f0 a (by omega)]) (by rw [f0 a (by omega)]) (fun c hc => by rw [f0 (a + 4) (by omega), f0 (a + 5) (by omega), f0 (a + 1) (by omega), f0 (a + 6) (by omega)]; exact xc c hc) (fun s hs => ⟨by rw [f0 (a + 9) (by omega)]; exact (xs s hs).1, p s (by rw [vS] at hs; exact hs)⟩) (fun r _ => by rw [f0 (a + 7) (by omega)])
theorem passM_y (I : Ary h a) (x : Int32) : ∃ v h', A_pass_L22 a FU x 0 h = some (v, h') ∧ Wy h a h' ∧ rd h' a 0 = rd h a 0 := by
  obtain ⟨⟨v, h'⟩, e, p⟩ := loop0 (fun n (s : Int32 × Hp) v => A_pass_L22 a n s.1 (nI v) s.2) 12 (fun s _ => Wy h a s.2 ∧ rd s.2 a 0 = rd h a 0) (fun s => Wy h a s.2 ∧ rd s.2 a 0 = rd h a 0) (by decide) (fun n s v hv w => by
    obtain ⟨w, k⟩ := w
    obtain ⟨t, ht, et⟩ := w.1.1.1.clips
    rw [A_pass_L22, et]
    by_cases q : t ≤ v
    · exact Or.inl ⟨_, if_pos (nI_le q (by omega)), w, k⟩
    · have hv2 : v < vn (rd s.2 a 5) := by rw [et, vn_nI (by omega)]; omega
      obtain ⟨y, g, ey, wy⟩ := burn_x w.1.1 hv2
      obtain ⟨xy, ky⟩ := burn_y w.1.1.1 w.1.2 hv2 ey
      rw [if_neg (nI_ge (by omega) (by omega)), ey, Option.bind_some, nI_1]
      exact Or.inr ⟨by omega, (_, g), ⟨w.tr (Wy.of wy xy), ky.trans k⟩, rfl⟩) (x, h) ⟨Wy.rf I, rfl⟩
  exact ⟨v, h', e, p⟩
theorem pass_y (I : Ary h a) {w k : Nat} (hw : w ≤ 50) (ek : rd h a 0 = nI k) (hk : k + w ≤ 999) : ∃ v h', A_pass h a (nI w) = some (v, h') ∧ Wy h a h' ∧ rd h' a 0 = nI (k + w) := by
  obtain ⟨⟨v, h'⟩, e, p⟩ := loop0 (fun n (s : Int32 × Hp) v => A_pass_L4 a (nI w) n s.1 (nI v) s.2) 50 (fun s v => v ≤ w ∧ Wy h a s.2 ∧ rd s.2 a 0 = nI (k + v)) (fun s => Wy h a s.2 ∧ rd s.2 a 0 = nI (k + w)) (by decide) (fun n s v hv j => by
    obtain ⟨hvw, j, ej⟩ := j
    rw [A_pass_L4]
    by_cases q : w ≤ v
    · obtain rfl : v = w := by omega
      exact Or.inl ⟨_, if_pos (nI_le q (by omega)), j, ej⟩
    · obtain ⟨g0, eg0⟩ : ∃ g0, g0 = up2 s.2 a 0 (rd s.2 a 0 + 1) := ⟨_, rfl⟩
      have r0 : rd g0 a = upd (rd s.2 a) 0 (nI (k + v + 1)) := by rw [eg0, rd_up2_self, ej, nI_1]
      have R : ∀ k, k ≠ a → rd g0 k = rd s.2 k := fun k hk => by rw [eg0, rd_up2_ne hk]
      have I1 : Wy h a g0 := by
        refine ⟨⟨j.1.1.of (by rw [eg0]; exact j.1.1.1.fld (by decide) (by decide) (by decide)) ?_ ?_ ?_ ?_ (fun k hk => R k (by omega)), ?_⟩, by rw [eg0]; exact j.2.up (by omega)⟩
        · rw [r0, upd_ne (by decide)]
        · rw [r0, upd_ne (by decide)]
        · rw [r0, upd_ne (by decide)]
        · rw [r0, upd_ne (by decide)]
        · obtain ⟨x0, x1, xc, xs, x7, x5, x12, x15⟩ := id j.1.2
          refine j.1.2.upd1 (by rw [r0, upd_self]; exact ⟨k + v + 1, by omega, rfl⟩) (by rw [r0, upd_ne (by decide)]; exact x1) (by rw [r0, upd_ne (by decide)]) (by rw [r0, upd_ne (by decide)]) (by rw [r0, upd_ne (by decide)]) (fun c hc => by rw [R _ (by omega), R _ (by omega), R _ (by omega), R _ (by omega)]; exact xc c hc) (fun s hs => by rw [R _ (by omega), R _ (by omega)]; exact xs s hs) (fun r _ => by rw [R _ (by omega)])
      obtain ⟨y, g, ey, wy, ky⟩ := passM_y I1.1 s.1
      obtain ⟨g2, e2, w2, f2⟩ := refill_y wy.1
      unfold nm
      rw [if_neg (nI_ge (by omega) (by omega))]
      dsimp only
      rw [← eg0, ey, Option.bind_some]
      dsimp only
      rw [e2, Option.bind_some, nI_1]
      refine Or.inr ⟨by omega, (y, g2), ⟨by omega, (I1.tr wy).tr w2, ?_⟩, rfl⟩
      show rd g2 a 0 = nI (k + (v + 1))
      rw [f2 a (by omega), ky, r0, upd_self, Nat.add_assoc]) (0, h) ⟨Nat.zero_le _, Wy.rf I, ek⟩
  refine ⟨v, h', ?_, p⟩
  have e : A_pass_L4 a (nI w) FU 0 0 h = some (v, h') := e
  unfold A_pass
  rw [e, Option.bind_some]
/-- airing changes beds alone (states to the same) -/
theorem airReel_rows (I : Arx h a) {r : Nat} (hr : r < vn (rd h a 12)) : ∃ v h', A_airReel h a (nI r) = some (v, h') ∧ Wx h a h' ∧ (∀ k, k ≠ a + 8 → k ≠ a + 4 → rd h' k = rd h k) ∧ ∀ i, rd h' (a + 4) i = rd h (a + 4) i := by
  have R4 := I.1.R4
  have r4' : r < 4 := by omega
  obtain ⟨v, h', e, w⟩ := airReel_x I hr
  obtain ⟨S, hS, eS, pS⟩ := sleepersIn_ok I.1 r4'
  obtain ⟨m, hm, em⟩ := I.1.beds r r4'
  have as0 : ∀ c, c < 12 → S.testBit c = true → rd h (a + 4) c = 1 := fun c hc sc => by
    obtain ⟨b, hb, hb2, eb⟩ := (pS c hc).mp sc
    rw [em] at hb2
    exact (I.2.1.1 r b c hr (by show b < vn (rd h (a + 7) r); rw [em, vn_nI (by omega)]; exact (nI_ltI (by omega) (by omega)).mp hb2) hc eb).2
  obtain ⟨x, h1, e1, A1, f1, -⟩ := airL_eq I.1 r4' em hm
  obtain ⟨h2, e2, f2⟩ := loop0 (fun n (s : Hp) v => A_airReel_L54 a (nI r) (nI S) n (nI v) s) 12 (fun s _ => Arc s a ∧ (∀ k, k ≠ a + 8 → k ≠ a + 4 → rd s k = rd h k) ∧ ∀ i, rd s (a + 4) i = rd h (a + 4) i) (fun s => (∀ k, k ≠ a + 8 → k ≠ a + 4 → rd s k = rd h k) ∧ ∀ i, rd s (a + 4) i = rd h (a + 4) i) (by decide) (fun n s v hv j => by
    obtain ⟨A, f⟩ := j
    obtain ⟨t, ht, et⟩ := A.clips
    rw [A_airReel_L54, et]
    by_cases q : t ≤ v
    · exact Or.inl ⟨_, if_pos (nI_le q (by omega)), f⟩
    · rw [if_neg (nI_ge (by omega) (by omega)), nI_1]
      refine Or.inr ⟨by omega, ?_⟩
      by_cases z : (nI S >>> (nI v &&& 31)) &&& 1 = 1
      · have s1 := as0 v (by omega) ((bit_c (by omega) (by omega)).mp z)
        rw [if_pos z]
        obtain ⟨y, g, eg, wg⟩ := layDown_ok A (show v < 12 by omega) r4'
        rw [eg, Option.bind_some]
        refine ⟨g, ⟨wg.1, ?_⟩, rfl⟩
        rcases layDown_eq A (show v < 12 by omega) r4' with ⟨e0, -⟩ | ⟨q', m', k', -, -, -, -, -, -, -, -, e0⟩
        · rw [eg] at e0
          rw [(Prod.mk.inj (Option.some.inj e0)).2]; exact f
        · rw [eg] at e0
          rw [(Prod.mk.inj (Option.some.inj e0)).2]
          refine ⟨fun k k8 k4 => by rw [rd_up2_ne k4, rd_up2_ne k8]; exact f.1 k k8 k4, fun i => ?_⟩
          rw [rd_up2_self, rd_up2_ne (by omega)]
          by_cases y : i = v
          · subst y; rw [upd_self]; exact s1.symm
          · rw [upd_ne y]; exact f.2 i
      · rw [if_neg z]; exact ⟨_, ⟨A, f⟩, rfl⟩) h1 ⟨A1, fun k k8 _ => f1 k k8, fun i => by rw [f1 _ (by omega)]⟩
  have e2 : A_airReel_L54 a (nI r) (nI S) FU 0 h1 = some h2 := e2
  have e3 : A_airReel h a (nI r) = some (x, h2) := by
    unfold A_airReel
    rw [eS, Option.bind_some, e1, Option.bind_some]
    dsimp only
    rw [e2, Option.bind_some]
  have eh : h' = h2 := by
    rw [e] at e3
    exact (Prod.mk.inj (Option.some.inj e3)).2
  subst eh
  exact ⟨v, h', e, w, f2⟩
theorem airReel_y (I : Ary h a) {r : Nat} (hr : r < vn (rd h a 12)) : ∃ v h', A_airReel h a (nI r) = some (v, h') ∧ Wy h a h' ∧ (∀ k, k ≠ a + 8 → k ≠ a + 4 → rd h' k = rd h k) ∧ ∀ i, rd h' (a + 4) i = rd h (a + 4) i := by
  obtain ⟨v, h', e, w, R, r4⟩ := airReel_rows I.1 hr
  obtain ⟨x0, x1, xc, xs, x7, x5, x12, x15⟩ := id I.2
  refine ⟨v, h', e, Wy.of w ?_, R, r4⟩
  refine I.2.upd1 (by rw [R a (by omega) (by omega)]; exact x0) (by rw [R a (by omega) (by omega)]; exact x1) (by rw [R a (by omega) (by omega)]) (by rw [R a (by omega) (by omega)]) (by rw [R a (by omega) (by omega)]) (fun c hc => by rw [r4 c, R (a + 5) (by omega) (by omega), R (a + 1) (by omega) (by omega), R (a + 6) (by omega) (by omega)]; exact xc c hc) (fun s hs => by rw [R _ (by omega) (by omega), R _ (by omega) (by omega)]; exact xs s hs) (fun r _ => by rw [R _ (by omega) (by omega)])
theorem cutScene_y (I : Ary h a) {s : Nat} (hs : s < vn (rd h a 15)) (x : Int32) : ∃ v h', A_cutScene h a (nI s) x = some (v, h') ∧ Wy h a h' := by
  obtain ⟨t15, ht15, et15⟩ := I.1.1.scenes
  have s5 : s < 5 := by rw [et15, vn_nI (by omega)] at hs; omega
  have inner : ∀ (r t : Nat) (hr : r < t) (ht : t ≤ 4) (y : Int32) (g : Hp), Wy h a g → rd g a 12 = nI t → rd g a 15 = rd h a 15 → ∃ z g', A_cutScene_L17 a (nI s) x (nI r) FU y 0 g = some (z, g') ∧ Wy h a g' ∧ rd g' a 15 = rd h a 15 := fun r t hrt ht y g wg eg eg15 => by
    have hr : r < 4 := by omega
    obtain ⟨⟨z, g'⟩, e, p⟩ := loop0 (fun n (u : Int32 × Hp) v => A_cutScene_L17 a (nI s) x (nI r) n u.1 (nI v) u.2) 9 (fun u _ => Wy h a u.2 ∧ rd u.2 a 12 = nI t ∧ rd u.2 a 15 = rd h a 15) (fun u => Wy h a u.2 ∧ rd u.2 a 15 = rd h a 15) (by decide) (fun n u v hv w0 => by
      have w := w0.1
      have eu := w0.2.1
      have eu15 := w0.2.2
      obtain ⟨m, hm, em⟩ := w.1.1.1.beds r hr
      rw [A_cutScene_L17, r4 hr, Option.bind_some, em]
      by_cases q : m ≤ v
      · exact Or.inl ⟨_, if_pos (nI_le q (by omega)), w, eu15⟩
      · rw [if_neg (nI_ge (by omega) (by omega)), inBed_eq hr (by omega), Option.bind_some, r5 s5, Option.bind_some, Option.bind_some, nI_1]
        refine Or.inr ⟨by omega, ?_⟩
        by_cases z1 : rd u.2 (a + 10) s ≤ 0
        · rw [if_pos z1]; exact ⟨u, w0, rfl⟩
        rw [if_neg z1]
        rcases bed_cases w.1.1.1 (i := r * 9 + v) (by omega) with b0 | ⟨c, hc, ec⟩
        · rw [if_pos b0]; exact ⟨u, w0, rfl⟩
        · obtain ⟨y, ey⟩ := findPattern_ok w.1.1.1 hc x
          rw [ec, if_neg (nI_pos (by omega)), ey, Option.bind_some]
          by_cases z2 : y = -1
          · rw [if_pos z2]; exact ⟨u, w0, rfl⟩
          · unfold nm
            rw [if_neg z2, wrO_in s5 (by decide), Option.bind_some]
            dsimp only
            rw [wrO_in hc (by decide), Option.bind_some, wrO_in hc (by decide), Option.bind_some, setBed_eq hr (by omega), Option.bind_some]
            have hcn := w.1.1.2.1.1 r v c (by rw [eu, vn_nI (by omega)]; exact hrt) (by show v < vn (rd u.2 (a + 7) r); rw [em, vn_nI (by omega)]; omega) hc ec
            have ex : Ex u.2 a r v := ⟨hr, by omega, by rw [eu]; exact nI_lt hrt (by omega), by rw [em]; exact nI_lt (by omega) (by omega)⟩
            obtain ⟨x0, x1, xc, xs, x7, x5, x12, x15⟩ := id w.1.2
            have W : ∀ Y : Int32, Wy h a (up2 (up2 (up2 (up2 (up2 u.2 (a + 10) s (rd u.2 (a + 10) s - 1)) a 4 Y) (a + 6) c (nI s)) (a + 4) c 0) (a + 8) (r * 9 + v) (-2)) ∧ rd (up2 (up2 (up2 (up2 (up2 u.2 (a + 10) s (rd u.2 (a + 10) s - 1)) a 4 Y) (a + 6) c (nI s)) (a + 4) c 0) (a + 8) (r * 9 + v) (-2)) a 12 = nI t ∧ rd (up2 (up2 (up2 (up2 (up2 u.2 (a + 10) s (rd u.2 (a + 10) s - 1)) a 4 Y) (a + 6) c (nI s)) (a + 4) c 0) (a + 8) (r * 9 + v) (-2)) a 15 = rd h a 15 := fun Y => by
              obtain ⟨h5, e5⟩ : ∃ h5, h5 = up2 (up2 (up2 (up2 (up2 u.2 (a + 10) s (rd u.2 (a + 10) s - 1)) a 4 Y) (a + 6) c (nI s)) (a + 4) c 0) (a + 8) (r * 9 + v) (-2) := ⟨_, rfl⟩
              have ra : rd h5 a = upd (rd u.2 a) 4 Y := by
                rw [e5, rd_up2_ne (show a ≠ a + 8 by omega), rd_up2_ne (show a ≠ a + 4 by omega), rd_up2_ne (show a ≠ a + 6 by omega), rd_up2_self, rd_up2_ne (show a ≠ a + 10 by omega)]
              have r4 : rd h5 (a + 4) = upd (rd u.2 (a + 4)) c 0 := by
                rw [e5, rd_up2_ne (show a + 4 ≠ a + 8 by omega), rd_up2_self, rd_up2_ne (show a + 4 ≠ a + 6 by omega), rd_up2_ne (show a + 4 ≠ a by omega), rd_up2_ne (show a + 4 ≠ a + 10 by omega)]
              have r6 : rd h5 (a + 6) = upd (rd u.2 (a + 6)) c (nI s) := by
                rw [e5, rd_up2_ne (show a + 6 ≠ a + 8 by omega), rd_up2_ne (show a + 6 ≠ a + 4 by omega), rd_up2_self, rd_up2_ne (show a + 6 ≠ a by omega), rd_up2_ne (show a + 6 ≠ a + 10 by omega)]
              have r10 : rd h5 (a + 10) = upd (rd u.2 (a + 10)) s (rd u.2 (a + 10) s - 1) := by
                rw [e5, rd_up2_ne (show a + 10 ≠ a + 8 by omega), rd_up2_ne (show a + 10 ≠ a + 4 by omega), rd_up2_ne (show a + 10 ≠ a + 6 by omega), rd_up2_ne (show a + 10 ≠ a by omega), rd_up2_self]
              have r8 : rd h5 (a + 8) = upd (rd u.2 (a + 8)) (r * 9 + v) (-2) := by
                rw [e5, rd_up2_self, rd_up2_ne (show a + 8 ≠ a + 4 by omega), rd_up2_ne (show a + 8 ≠ a + 6 by omega), rd_up2_ne (show a + 8 ≠ a by omega), rd_up2_ne (show a + 8 ≠ a + 10 by omega)]
              have R : ∀ k, k = a + 1 ∨ k = a + 3 ∨ k = a + 5 ∨ k = a + 7 ∨ k = a + 9 → rd h5 k = rd u.2 k := fun k hk => by
                rw [e5, rd_up2_ne (by omega), rd_up2_ne (by omega), rd_up2_ne (by omega), rd_up2_ne (by omega), rd_up2_ne (by omega)]
              rw [← e5]
              refine ⟨⟨⟨⟨?_, ?_, ?_⟩, ?_⟩, ?_⟩, by rw [ra, upd_ne (by decide)]; exact eu, by rw [ra, upd_ne (by decide)]; exact eu15⟩
              · rw [e5]; exact ((((w.1.1.1.any (by omega)).fld (by decide) (by decide) (by decide)).any (by omega)).any (by omega)).wbed (Or.inr (Or.inl rfl))
              · exact LieA.gone w.1.1.1 w.1.1.2.1 hc (st := 0) (by decide) r4 (Or.inr ⟨r, v, ex, ec, r8⟩) (by rw [ra, upd_ne (by decide)]) (by rw [ra, upd_ne (by decide)]) (R _ (by omega)) (R _ (by omega))
              · exact w.1.1.2.2.of (by rw [ra, upd_ne (by decide)]) (by rw [ra, upd_ne (by decide)]) (by rw [ra, upd_ne (by decide)]) (R _ (by omega))
              · refine w.1.2.upd1 (by rw [ra, upd_ne (by decide)]; exact x0) (by rw [ra, upd_ne (by decide)]; exact x1) (by rw [ra, upd_ne (by decide)]) (by rw [ra, upd_ne (by decide)]) (by rw [ra, upd_ne (by decide)]) (fun d hd => ?_) (fun q hq => ?_) (fun r' _ => by rw [R _ (by omega)])
                · obtain ⟨y1, y2, y3, y4⟩ := xc d hd
                  rw [R (a + 5) (by omega), R (a + 1) (by omega), r4, r6]
                  by_cases z : d = c
                  · subst z
                    rw [upd_self, upd_self]
                    refine ⟨Or.inl rfl, ⟨fun w => ?_, fun w => absurd w (by decide)⟩, y3, Or.inr ⟨s, by rw [eu15]; exact hs, rfl⟩⟩
                    have := y2.mp w
                    rw [hcn.2] at this
                    exact absurd this (by decide)
                  · rw [upd_ne z, upd_ne z]; exact ⟨y1, y2, y3, y4⟩
                · rw [R (a + 9) (by omega), r10]
                  refine ⟨(xs q hq).1, ?_⟩
                  by_cases z : q = s
                  · subst z
                    rw [upd_self]
                    obtain ⟨b, hb, eb⟩ := (xs q hq).2
                    rw [eb] at z1 ⊢
                    have b1 : 1 ≤ b := by
                      by_cases y : b = 0
                      · subst y; exact absurd (by decide) z1
                      · omega
                    rw [show nI b - 1 = nI (b - 1) from pk_sub (b := 1) b1]
                    exact ⟨b - 1, by omega, rfl⟩
                  · rw [upd_ne z]; exact (xs q hq).2
              · rw [e5]; refine Fr.up (Fr.up (Fr.up (Fr.up (Fr.up w.2 ?_) ?_) ?_) ?_) ?_ <;> omega
            exact ⟨(_, _), W _, rfl⟩) (y, g) ⟨wg, eg, eg15⟩
    exact ⟨z, g', e, p⟩
  obtain ⟨⟨z, h'⟩, e, p⟩ := loop0 (fun n (u : Int32 × Hp) v => A_cutScene_L5 a (nI s) x n u.1 (nI v) u.2) 4 (fun u _ => Wy h a u.2 ∧ rd u.2 a 15 = rd h a 15) (fun u => Wy h a u.2) (by decide) (fun n u v hv w => by
    obtain ⟨t, ht, et⟩ := w.1.1.1.1.reels
    rw [A_cutScene_L5, et]
    by_cases q : t ≤ v
    · exact Or.inl ⟨_, if_pos (nI_le q (by omega)), w.1⟩
    · obtain ⟨y, g, ey, wy⟩ := inner v t (by omega) ht u.1 u.2 w.1 et w.2
      rw [if_neg (nI_ge (by omega) (by omega)), ey, Option.bind_some, nI_1]
      exact Or.inr ⟨by omega, (y, g), wy, rfl⟩) (0, h) ⟨Wy.rf I, rfl⟩
  refine ⟨z, h', ?_, p⟩
  have e : A_cutScene_L5 a (nI s) x FU 0 0 h = some (z, h') := e
  unfold A_cutScene
  rw [e, Option.bind_some]
end
