/-! ===== p65: what else holds of an archive that no script has emptied ===== -/
/-- week, food, states, fats, scenes of wakings, springs and limits in their ranges; a clip, a reel, a scene are there; no clip without colours, no reel without beds -/
def Ext (h : Hp) (a : Nat) : Prop :=
  Sc 999 (rd h a 0) ∧ Sc 9999 (rd h a 1) ∧
  (∀ c, c < vn (rd h a 5) → (rd h (a + 4) c = 0 ∨ rd h (a + 4) c = 1 ∨ rd h (a + 4) c = 2) ∧ (rd h (a + 5) c = 0 ↔ rd h (a + 4) c = 2) ∧ rd h (a + 1) c ≠ 0 ∧ (rd h (a + 6) c = -1 ∨ ∃ s, s < vn (rd h a 15) ∧ rd h (a + 6) c = nI s)) ∧
  (∀ s, s < vn (rd h a 15) → Sc 9 (rd h (a + 9) s) ∧ Sc 9 (rd h (a + 10) s)) ∧
  (∀ r, r < vn (rd h a 12) → rd h (a + 7) r ≠ 0) ∧ 1 ≤ vn (rd h a 5) ∧ 1 ≤ vn (rd h a 12) ∧ 1 ≤ vn (rd h a 15)
section
variable {h h' : Hp} {a : Nat}
theorem Ext.cg (X : Ext h a) (e : ∀ k, a ≤ k → k < a + 11 → rd h' k = rd h k) : Ext h' a := by
  unfold Ext
  rw [e a (by omega) (by omega), e (a + 1) (by omega) (by omega), e (a + 4) (by omega) (by omega), e (a + 5) (by omega) (by omega), e (a + 6) (by omega) (by omega), e (a + 7) (by omega) (by omega), e (a + 9) (by omega) (by omega), e (a + 10) (by omega) (by omega)]
  exact X
/-- one clip's state, fat and scene are new; the week, the food, springs too -/
theorem Ext.upd1 (X : Ext h a) (e0 : Sc 999 (rd h' a 0)) (e1 : Sc 9999 (rd h' a 1)) (e5 : rd h' a 5 = rd h a 5) (e12 : rd h' a 12 = rd h a 12) (e15 : rd h' a 15 = rd h a 15)
    (rc : ∀ c, c < vn (rd h a 5) → (rd h' (a + 4) c = 0 ∨ rd h' (a + 4) c = 1 ∨ rd h' (a + 4) c = 2) ∧ (rd h' (a + 5) c = 0 ↔ rd h' (a + 4) c = 2) ∧ rd h' (a + 1) c ≠ 0 ∧ (rd h' (a + 6) c = -1 ∨ ∃ s, s < vn (rd h a 15) ∧ rd h' (a + 6) c = nI s))
    (rs : ∀ s, s < vn (rd h a 15) → Sc 9 (rd h' (a + 9) s) ∧ Sc 9 (rd h' (a + 10) s)) (r7 : ∀ r, r < vn (rd h a 12) → rd h' (a + 7) r = rd h (a + 7) r) : Ext h' a := by
  obtain ⟨x0, x1, xc, xs, x7, x5, x12, x15⟩ := X
  unfold Ext
  rw [e5, e12, e15]
  exact ⟨e0, e1, rc, rs, fun r hr => by rw [r7 r hr]; exact x7 r hr, x5, x12, x15⟩
/-- beds alone, or what stands outside, are new -/
theorem Ext.beds (X : Ext h a) (e : ∀ k, k ≠ a + 8 → a ≤ k → k < a + 11 → rd h' k = rd h k) : Ext h' a := by
  unfold Ext
  rw [e a (by omega) (by omega) (by omega), e (a + 1) (by omega) (by omega) (by omega), e (a + 4) (by omega) (by omega) (by omega), e (a + 5) (by omega) (by omega) (by omega), e (a + 6) (by omega) (by omega) (by omega), e (a + 7) (by omega) (by omega) (by omega), e (a + 9) (by omega) (by omega) (by omega), e (a + 10) (by omega) (by omega) (by omega)]
  exact X
theorem leaveBed_rows (I : Arc h a) {x t : Int32} {g : Hp} (e : A_leaveBed h a x = some (t, g)) : ∀ k, k ≠ a + 8 → rd g k = rd h k := fun k hk => by
  rcases leaveBed_eq I x with ⟨e0, -⟩ | ⟨r, b, -, -, e0⟩
  · rw [e] at e0
    rw [(Prod.mk.inj (Option.some.inj e0)).2]
  · rw [e] at e0
    rw [(Prod.mk.inj (Option.some.inj e0)).2, rd_up2_ne hk]
theorem rouse_y (I : Arc h a) (X : Ext h a) {c : Nat} (hc : c < 12) (st : rd h (a + 4) c = 1) {v : Int32} {g : Hp} (e : A_rouse h a (nI c) = some (v, g)) : Ext g a ∧ rd g (a + 4) = upd (rd h (a + 4)) c 0 ∧ ∀ k, k ≠ a + 8 → k ≠ a + 4 → rd g k = rd h k := by
  obtain ⟨h1, e1⟩ : ∃ h1, h1 = up2 h (a + 4) c 0 := ⟨_, rfl⟩
  have I1 : Arc h1 a := by rw [e1]; exact I.any (by omega)
  unfold A_rouse at e
  rw [wrO_in hc (by decide), Option.bind_some, ← e1] at e
  cases q : A_leaveBed h1 a (nI c) with
  | none => rw [q] at e; cases e
  | some p =>
    obtain ⟨t, g2⟩ := p
    rw [q, Option.bind_some] at e
    have eg := (Prod.mk.inj (Option.some.inj e)).2
    subst eg
    have R := leaveBed_rows I1 q
    have r4 : rd g2 (a + 4) = upd (rd h (a + 4)) c 0 := by rw [R _ (by omega), e1, rd_up2_self]
    have R2 : ∀ k, k ≠ a + 8 → k ≠ a + 4 → rd g2 k = rd h k := fun k k8 k4 => by rw [R k k8, e1, rd_up2_ne k4]
    refine ⟨?_, r4, R2⟩
    obtain ⟨x0, x1, xc, xs, x7, x5, x12, x15⟩ := id X
    refine X.upd1 (by rw [R2 a (by omega) (by omega)]; exact x0) (by rw [R2 a (by omega) (by omega)]; exact x1) (by rw [R2 a (by omega) (by omega)]) (by rw [R2 a (by omega) (by omega)]) (by rw [R2 a (by omega) (by omega)]) (fun d hd => ?_) (fun s hs => by rw [R2 _ (by omega) (by omega), R2 _ (by omega) (by omega)]; exact xs s hs) (fun r _ => by rw [R2 _ (by omega) (by omega)])
    rw [R2 (a + 5) (by omega) (by omega), R2 (a + 1) (by omega) (by omega), R2 (a + 6) (by omega) (by omega), r4]
    obtain ⟨y1, y2, y3, y4⟩ := xc d hd
    by_cases z : d = c
    · subst z
      rw [upd_self]
      refine ⟨Or.inl rfl, ⟨fun w => ?_, fun w => absurd w (by decide)⟩, y3, y4⟩
      have := y2.mp w
      rw [st] at this
      exact absurd this (by decide)
    · rw [upd_ne z]
      exact ⟨y1, y2, y3, y4⟩
theorem layDown_y (I : Arc h a) (X : Ext h a) {c r : Nat} (hc : c < 12) (hr : r < 4) (st : rd h (a + 4) c = 0) {v : Int32} {g : Hp} (e : A_layDown h a (nI c) (nI r) = some (v, g)) : Ext g a ∧ ∀ k, k ≠ a + 8 → k ≠ a + 4 → rd g k = rd h k := by
  rcases layDown_eq I hc hr with ⟨e0, -⟩ | ⟨q, m, k, -, -, -, -, -, -, -, -, e0⟩
  · rw [e] at e0
    rw [(Prod.mk.inj (Option.some.inj e0)).2]
    exact ⟨X, fun _ _ _ => rfl⟩
  · rw [e] at e0
    have eg := (Prod.mk.inj (Option.some.inj e0)).2
    have r4 : rd g (a + 4) = upd (rd h (a + 4)) c 1 := by rw [eg, rd_up2_self, rd_up2_ne (by omega)]
    have R2 : ∀ k, k ≠ a + 8 → k ≠ a + 4 → rd g k = rd h k := fun k k8 k4 => by rw [eg, rd_up2_ne k4, rd_up2_ne k8]
    refine ⟨?_, R2⟩
    obtain ⟨x0, x1, xc, xs, x7, x5, x12, x15⟩ := id X
    refine X.upd1 (by rw [R2 a (by omega) (by omega)]; exact x0) (by rw [R2 a (by omega) (by omega)]; exact x1) (by rw [R2 a (by omega) (by omega)]) (by rw [R2 a (by omega) (by omega)]) (by rw [R2 a (by omega) (by omega)]) (fun d hd => ?_) (fun s hs => by rw [R2 _ (by omega) (by omega), R2 _ (by omega) (by omega)]; exact xs s hs) (fun r _ => by rw [R2 _ (by omega) (by omega)])
    rw [R2 (a + 5) (by omega) (by omega), R2 (a + 1) (by omega) (by omega), R2 (a + 6) (by omega) (by omega), r4]
    obtain ⟨y1, y2, y3, y4⟩ := xc d hd
    by_cases z : d = c
    · subst z
      rw [upd_self]
      refine ⟨Or.inr (Or.inl rfl), ⟨fun w => ?_, fun w => absurd w (by decide)⟩, y3, y4⟩
      have := y2.mp w
      rw [st] at this
      exact absurd this (by decide)
    · rw [upd_ne z]
      exact ⟨y1, y2, y3, y4⟩
theorem store_y (X : Ext h a) {x : Nat} (hx : x ≤ 999) (hm : ¬ 9999 < rd h a 1 + nI x) {v : Int32} {g : Hp} (e : A_store h a (nI x) = some (v, g)) : Ext g a := by
  have e0 : A_store h a (nI x) = some (_, up2 h a 1 (rd h a 1 + nI x)) := rfl
  rw [e] at e0
  have eg := (Prod.mk.inj (Option.some.inj e0)).2
  have ra : rd g a = upd (rd h a) 1 (rd h a 1 + nI x) := by rw [eg, rd_up2_self]
  have R : ∀ k, k ≠ a → rd g k = rd h k := fun k hk => by rw [eg, rd_up2_ne hk]
  obtain ⟨x0, x1, xc, xs, x7, x5, x12, x15⟩ := id X
  refine X.upd1 (by rw [ra, upd_ne (by decide)]; exact x0) ?_ (by rw [ra, upd_ne (by decide)]) (by rw [ra, upd_ne (by decide)]) (by rw [ra, upd_ne (by decide)]) (fun c hc => by rw [R _ (by omega), R _ (by omega), R _ (by omega), R _ (by omega)]; exact xc c hc) (fun s hs => by rw [R _ (by omega), R _ (by omega)]; exact xs s hs) (fun r _ => by rw [R _ (by omega)])
  rw [ra, upd_self]
  obtain ⟨f, hf, ef⟩ := x1
  rw [ef, nI_add] at hm ⊢
  refine ⟨f + x, ?_, rfl⟩
  by_cases w : 9999 < f + x
  · exact absurd (nI_lt (a := 9999) w (by omega)) hm
  · omega
theorem feedClip_y (I : Arc h a) (X : Ext h a) {c x : Nat} (hc : c < vn (rd h a 5)) (hx : x ≤ 50) (st : rd h (a + 4) c = 0) (hf : ¬ rd h a 1 < nI x) (hm : ¬ 99 < rd h (a + 5) c + nI x) {v : Int32} {g : Hp} (e : A_feedClip h a (nI c) (nI x) = some (v, g)) : Ext g a := by
  have n12 := I.n12
  have e0 := feedClip_eq (h := h) (a := a) (show c < 12 by omega) (nI x)
  rw [e] at e0
  have eg := (Prod.mk.inj (Option.some.inj e0)).2
  have ra : rd g a = upd (upd (rd h a) 1 (rd h a 1 - nI x)) 2 (rd h a 2 + nI x) := by rw [eg, rd_up2_self, rd_up2_self, rd_up2_ne (by omega)]
  have r5 : rd g (a + 5) = upd (rd h (a + 5)) c (rd h (a + 5) c + nI x) := by rw [eg, rd_up2_ne (by omega), rd_up2_ne (by omega), rd_up2_self]
  have R : ∀ k, k ≠ a → k ≠ a + 5 → rd g k = rd h k := fun k h1 h2 => by rw [eg, rd_up2_ne h1, rd_up2_ne h1, rd_up2_ne h2]
  obtain ⟨x0, x1, xc, xs, x7, x5, x12, x15⟩ := id X
  refine X.upd1 (by rw [ra, upd_ne (by decide), upd_ne (by decide)]; exact x0) ?_ (by rw [ra, upd_ne (by decide), upd_ne (by decide)]) (by rw [ra, upd_ne (by decide), upd_ne (by decide)]) (by rw [ra, upd_ne (by decide), upd_ne (by decide)]) (fun d hd => ?_) (fun s hs => by rw [R _ (by omega) (by omega), R _ (by omega) (by omega)]; exact xs s hs) (fun r _ => by rw [R _ (by omega) (by omega)])
  · rw [ra, upd_ne (by decide), upd_self]
    obtain ⟨f, hf', ef⟩ := x1
    rw [ef] at hf ⊢
    have : x ≤ f := by
      by_cases w : f < x
      · exact absurd (nI_lt w (by omega)) hf
      · omega
    rw [sub_nI this]
    exact ⟨f - x, by omega, rfl⟩
  · obtain ⟨y1, y2, y3, y4⟩ := xc d hd
    rw [R (a + 4) (by omega) (by omega), R (a + 1) (by omega) (by omega), R (a + 6) (by omega) (by omega), r5]
    by_cases z : d = c
    · subst z
      rw [upd_self]
      refine ⟨y1, ⟨fun w => ?_, fun w => by rw [st] at w; exact absurd w (by decide)⟩, y3, y4⟩
      exfalso
      obtain ⟨f, hf', ef⟩ := I.fats d (by omega)
      rw [ef, nI_add] at w
      have := (nI_eq (b := 0) (by omega) (by decide)).mp w
      have f0 : f = 0 := by omega
      have := y2.mp (by rw [ef, f0]; rfl)
      rw [st] at this
      exact absurd this (by decide)
    · rw [upd_ne z]
      exact ⟨y1, y2, y3, y4⟩
theorem paintClip_y (I : Arc h a) (X : Ext h a) {c i x : Nat} (hc : c < 12) (hi : i < 8) (hx : x ≤ 9) {v : Int32} {g : Hp} (e : A_paintClip h a (nI c) (nI i) (nI x) = some (v, g)) : Ext g a := by
  obtain ⟨q, h', e0, -, eh⟩ := paintClip_wk I hc hi hx
  rw [e] at e0
  have eg := (Prod.mk.inj (Option.some.inj e0)).2
  rw [eg, eh]
  unfold Ext
  rw [rd_up2_ne (show a ≠ a + 3 by omega), rd_up2_ne (show a ≠ a + 2 by omega), rd_up2_ne (show a + 1 ≠ a + 3 by omega), rd_up2_ne (show a + 1 ≠ a + 2 by omega), rd_up2_ne (show a + 4 ≠ a + 3 by omega), rd_up2_ne (show a + 4 ≠ a + 2 by omega), rd_up2_ne (show a + 5 ≠ a + 3 by omega), rd_up2_ne (show a + 5 ≠ a + 2 by omega), rd_up2_ne (show a + 6 ≠ a + 3 by omega), rd_up2_ne (show a + 6 ≠ a + 2 by omega), rd_up2_ne (show a + 7 ≠ a + 3 by omega), rd_up2_ne (show a + 7 ≠ a + 2 by omega), rd_up2_ne (show a + 9 ≠ a + 3 by omega), rd_up2_ne (show a + 9 ≠ a + 2 by omega), rd_up2_ne (show a + 10 ≠ a + 3 by omega), rd_up2_ne (show a + 10 ≠ a + 2 by omega)]
  exact X
theorem putReel_y (I : Arc h a) (X : Ext h a) {n b : Nat} (hn : rd h a 12 = nI n) (hl : n < 4) (hb : b ≤ 9) (b1 : 1 ≤ b) {v : Int32} {g : Hp} (e : A_putReel h a (nI b) = some (v, g)) : Ext g a := by
  obtain ⟨h', e0, -, ra, r7, -, f⟩ := putReel_ok I hn hl hb
  rw [e] at e0
  rw [(Prod.mk.inj (Option.some.inj e0)).2]
  have vR : vn (rd h a 12) = n := by rw [hn, vn_nI (by omega)]
  obtain ⟨x0, x1, xc, xs, x7, x5, x12, x15⟩ := X
  unfold Ext
  rw [ra, upd_ne (show 0 ≠ 12 by decide), upd_ne (show 1 ≠ 12 by decide), upd_ne (show 5 ≠ 12 by decide), upd_ne (show 15 ≠ 12 by decide), upd_self, vn_nI (by omega), f (a + 1) (by omega) (by omega) (by omega), f (a + 4) (by omega) (by omega) (by omega), f (a + 5) (by omega) (by omega) (by omega), f (a + 6) (by omega) (by omega) (by omega), f (a + 9) (by omega) (by omega) (by omega), f (a + 10) (by omega) (by omega) (by omega)]
  refine ⟨x0, x1, xc, xs, fun r hr => ?_, x5, by omega, x15⟩
  rw [r7]
  by_cases z : r = n
  · subst z; rw [upd_self]; exact nI_ne0 b1 (by omega)
  · rw [upd_ne z]; exact x7 r (by omega)
theorem putScene_y (X : Ext h a) {n x : Nat} (hn : rd h a 15 = nI n) (hl : n < 5) (hx : x ≤ 9) {v : Int32} {g : Hp} (e : A_putScene h a (nI x) = some (v, g)) : Ext g a := by
  have e0 : A_putScene h a (nI x) = some (nI n, up2 (up2 (up2 h a 15 (nI (n + 1))) (a + 9) n (nI x)) (a + 10) n (nI x)) := by
    unfold A_putScene nm
    dsimp only
    rw [hn, nI_1, wrO_in hl (by decide), Option.bind_some, wrO_in hl (by decide), Option.bind_some]
  rw [e] at e0
  have eg := (Prod.mk.inj (Option.some.inj e0)).2
  have ra : rd g a = upd (rd h a) 15 (nI (n + 1)) := by rw [eg, rd_up2_ne (by omega), rd_up2_ne (by omega), rd_up2_self]
  have r9 : rd g (a + 9) = upd (rd h (a + 9)) n (nI x) := by rw [eg, rd_up2_ne (by omega), rd_up2_self, rd_up2_ne (by omega)]
  have r10 : rd g (a + 10) = upd (rd h (a + 10)) n (nI x) := by rw [eg, rd_up2_self, rd_up2_ne (by omega), rd_up2_ne (by omega)]
  have R : ∀ k, k ≠ a → k ≠ a + 9 → k ≠ a + 10 → rd g k = rd h k := fun k k0 k9 k10 => by rw [eg, rd_up2_ne k10, rd_up2_ne k9, rd_up2_ne k0]
  have vS : vn (rd h a 15) = n := by rw [hn, vn_nI (by omega)]
  obtain ⟨x0, x1, xc, xs, x7, x5, x12, x15⟩ := X
  rw [vS] at xc xs
  unfold Ext
  rw [ra, upd_ne (show 0 ≠ 15 by decide), upd_ne (show 1 ≠ 15 by decide), upd_ne (show 5 ≠ 15 by decide), upd_ne (show 12 ≠ 15 by decide), upd_self, vn_nI (by omega), R (a + 1) (by omega) (by omega) (by omega), R (a + 4) (by omega) (by omega) (by omega), R (a + 5) (by omega) (by omega) (by omega), R (a + 6) (by omega) (by omega) (by omega), R (a + 7) (by omega) (by omega) (by omega)]
  refine ⟨x0, x1, fun c hc => ?_, fun s hs => ?_, x7, x5, x12, by omega⟩
  · obtain ⟨y1, y2, y3, y4⟩ := xc c hc
    exact ⟨y1, y2, y3, y4.imp id fun ⟨s, hs, es⟩ => ⟨s, by omega, es⟩⟩
  · rw [r9, r10]
    by_cases z : s = n
    · subst z; rw [upd_self, upd_self]; exact ⟨⟨x, hx, rfl⟩, ⟨x, hx, rfl⟩⟩
    · rw [upd_ne z, upd_ne z]; exact xs s (by omega)
theorem putClip_y (I : Arc h a) (X : Ext h a) {n j : Nat} (hn : rd h a 5 = nI n) (hl : n < 12) (hj : j < 2 ^ 31) {v : Int32} {g : Hp} (e : A_putClip h a (nI j) = some (v, g)) : Ext g a := by
  obtain ⟨h0, d, q, e0, d1, d8, q9, f, r0, r1, r2, r3, r4, r5, r6⟩ := putClip_ok hn hl hj I.cols
  rw [e] at e0
  rw [(Prod.mk.inj (Option.some.inj e0)).2]
  have vC : vn (rd h a 5) = n := by rw [hn, vn_nI (by omega)]
  obtain ⟨x0, x1, xc, xs, x7, x5, x12, x15⟩ := X
  rw [vC] at xc
  unfold Ext
  rw [r0, upd_ne (show 0 ≠ 5 by decide), upd_ne (show 1 ≠ 5 by decide), upd_ne (show 12 ≠ 5 by decide), upd_ne (show 15 ≠ 5 by decide), upd_self, vn_nI (by omega), f (a + 7) (by omega), f (a + 9) (by omega), f (a + 10) (by omega)]
  refine ⟨x0, x1, fun c hc => ?_, xs, x7, by omega, x12, x15⟩
  rw [r1, r4, r5, r6]
  by_cases z : c = n
  · subst z
    rw [upd_self, upd_self, upd_self, upd_self]
    exact ⟨Or.inl rfl, ⟨fun w => absurd w (by decide), fun w => absurd w (by decide)⟩, nI_ne0 d1 (by omega), Or.inl rfl⟩
  · rw [upd_ne z, upd_ne z, upd_ne z, upd_ne z]; exact xc c (by omega)
theorem burn_y (I : Arc h a) (X : Ext h a) {c : Nat} (hc : c < vn (rd h a 5)) {v : Int32} {g : Hp} (e : A_burn h a (nI c) = some (v, g)) : Ext g a ∧ rd g a 0 = rd h a 0 := by
  have n12 := I.n12
  have c12 : c < 12 := by omega
  rcases burn_eq I c12 with ⟨-, e0⟩ | ⟨f, h6, n2, hf, ef, e6, w6, p⟩
  · rw [e] at e0
    rw [(Prod.mk.inj (Option.some.inj e0)).2]
    exact ⟨X, rfl⟩
  · obtain ⟨l, hl⟩ : ∃ l, l = loss (rd h (a + 4) c) f := ⟨_, rfl⟩
    rw [← hl] at e6 p
    have ra : rd h6 a = upd (rd h a) 3 (rd h a 3 + nI l) := by rw [e6, rd_up2_self, rd_up2_ne (by omega)]
    have r5 : rd h6 (a + 5) = upd (rd h (a + 5)) c (nI (f - l)) := by rw [e6, rd_up2_ne (by omega), rd_up2_self]
    have R : ∀ k, k ≠ a → k ≠ a + 5 → rd h6 k = rd h k := fun k h1 h2 => by rw [e6, rd_up2_ne h1, rd_up2_ne h2]
    obtain ⟨x0, x1, xc, xs, x7, x5, x12, x15⟩ := id X
    have main : ∀ g : Hp, rd g a = rd h6 a → rd g (a + 5) = rd h6 (a + 5) → (∀ k, k ≠ a → k ≠ a + 4 → k ≠ a + 5 → k ≠ a + 8 → rd g k = rd h k) → ((f - l ≠ 0 ∧ rd g (a + 4) = rd h (a + 4)) ∨ (f - l = 0 ∧ rd g (a + 4) = upd (rd h (a + 4)) c 2)) → Ext g a ∧ rd g a 0 = rd h a 0 := fun g ga g5 go g4 => by
      refine ⟨?_, by rw [ga, ra, upd_ne (by decide)]⟩
      refine X.upd1 (by rw [ga, ra, upd_ne (by decide)]; exact x0) (by rw [ga, ra, upd_ne (by decide)]; exact x1) (by rw [ga, ra, upd_ne (by decide)]) (by rw [ga, ra, upd_ne (by decide)]) (by rw [ga, ra, upd_ne (by decide)]) (fun d hd => ?_) (fun s hs => by rw [go _ (by omega) (by omega) (by omega) (by omega), go _ (by omega) (by omega) (by omega) (by omega)]; exact xs s hs) (fun r _ => by rw [go _ (by omega) (by omega) (by omega) (by omega)])
      obtain ⟨y1, y2, y3, y4⟩ := xc d hd
      rw [go (a + 1) (by omega) (by omega) (by omega) (by omega), go (a + 6) (by omega) (by omega) (by omega) (by omega), g5, r5]
      by_cases z : d = c
      · subst z
        rw [upd_self]
        rcases g4 with ⟨q, g4⟩ | ⟨q, g4⟩
        · rw [g4]
          refine ⟨y1, ⟨fun w => absurd ((nI_eq (b := 0) (by omega) (by decide)).mp w) q, fun w => absurd w n2⟩, y3, y4⟩
        · rw [g4, upd_self, q]
          exact ⟨Or.inr (Or.inr rfl), ⟨fun _ => rfl, fun _ => rfl⟩, y3, y4⟩
      · rw [upd_ne z]
        rcases g4 with ⟨q, g4⟩ | ⟨q, g4⟩
        · rw [g4]; exact ⟨y1, y2, y3, y4⟩
        · rw [g4, upd_ne z]; exact ⟨y1, y2, y3, y4⟩
    rcases p with ⟨q, e0⟩ | ⟨q, t, h9, e9, w9, e0⟩
    · rw [e] at e0
      rw [(Prod.mk.inj (Option.some.inj e0)).2]
      exact main h6 rfl rfl (fun k a0 _ a5 _ => R k a0 a5) (Or.inl ⟨q, R _ (by omega) (by omega)⟩)
    · rw [e] at e0
      have L := leaveBed_rows w6.1 e9
      rw [(Prod.mk.inj (Option.some.inj e0)).2]
      exact main _ (by rw [rd_up2_ne (by omega), L _ (by omega)]) (by rw [rd_up2_ne (by omega), L _ (by omega)]) (fun k a0 a4 a5 a8 => by rw [rd_up2_ne a4, L k a8, R k a0 a5]) (Or.inr ⟨q, by rw [rd_up2_self, L _ (by omega), R _ (by omega) (by omega)]⟩)
end
