/-! ===== p65: two archives with the same rows, in two heaps, at two places: reads answer alike, writes keep it so ===== -/
def Rs {α β : Type} (R : α → β → Prop) (x : Option α) (y : Option β) : Prop := ∀ b, y = some b → ∃ a, x = some a ∧ R a b
theorem Rs.bind {α β γ δ : Type} {R : α → β → Prop} {S : γ → δ → Prop} {x : Option α} {y : Option β} {F : α → Option γ} {G : β → Option δ} (h : Rs R x y) (k : ∀ a b, R a b → Rs S (F a) (G b)) : Rs S (x.bind F) (y.bind G) := fun d hd => by
  obtain ⟨b, hb, hg⟩ := Option.bind_eq_some_iff.mp hd
  obtain ⟨a, ha, hr⟩ := h b hb
  obtain ⟨c, hc, hs⟩ := k a b hr d hg
  exact ⟨c, by rw [ha, Option.bind_some, hc], hs⟩
theorem Rs.same {α γ δ : Type} {S : γ → δ → Prop} {x : Option α} {F : α → Option γ} {G : α → Option δ} (k : ∀ a, Rs S (F a) (G a)) : Rs S (x.bind F) (x.bind G) := fun d hd => by
  obtain ⟨b, hb, hg⟩ := Option.bind_eq_some_iff.mp hd
  obtain ⟨c, hc, hs⟩ := k b d hg
  exact ⟨c, by rw [hb, Option.bind_some, hc], hs⟩
theorem Rs.ret {α β : Type} {R : α → β → Prop} {a : α} {b : β} (h : R a b) : Rs R (some a) (some b) := fun _ hd => ⟨a, rfl, by cases hd; exact h⟩
theorem Rs.no {α β : Type} {R : α → β → Prop} {x : Option α} : Rs R x (none : Option β) := fun _ hd => by cases hd
theorem Rs.ite {α β : Type} {R : α → β → Prop} {c : Prop} [Decidable c] {x x' : Option α} {y y' : Option β} (h : c → Rs R x y) (h' : ¬ c → Rs R x' y') : Rs R (if c then x else x') (if c then y else y') := by
  by_cases e : c
  · rw [if_pos e, if_pos e]; exact h e
  · rw [if_neg e, if_neg e]; exact h' e
def Rq {α β γ : Type} (W : β → γ → Prop) (x : α × β) (y : α × γ) : Prop := x.1 = y.1 ∧ W x.2 y.2
/-- how many places of each row count -/
def NK (k : Nat) : Nat := ([0, 12, 96, 12, 12, 12, 12, 4, 36, 5, 5] : List Nat).getD k 0
def Fdx (i : Nat) : Prop := i < 6 ∨ i = 12 ∨ i = 15
def Eqa (a a' : Nat) (h h' : Hp) : Prop := (∀ i, Fdx i → rd h a i = rd h' a' i) ∧ ∀ k, 1 ≤ k → k < 11 → ∀ i, i < NK k → rd h (a + k) i = rd h' (a' + k) i
theorem Eqa.rf (a : Nat) (h : Hp) : Eqa a a h h := ⟨fun _ _ => rfl, fun _ _ _ _ _ => rfl⟩
theorem Eqa.sy {a a' : Nat} {h h' : Hp} (e : Eqa a a' h h') : Eqa a' a h' h := ⟨fun i hi => (e.1 i hi).symm, fun k h1 hk i hi => (e.2 k h1 hk i hi).symm⟩
theorem Eqa.tr {a a' a'' : Nat} {h h' h'' : Hp} (e : Eqa a a' h h') (f : Eqa a' a'' h' h'') : Eqa a a'' h h'' := ⟨fun i hi => (e.1 i hi).trans (f.1 i hi), fun k h1 hk i hi => (e.2 k h1 hk i hi).trans (f.2 k h1 hk i hi)⟩
theorem Eqa.fr {a a' : Nat} {h h1 h' : Hp} (e : Eqa a a' h h') (f : ∀ k, a ≤ k → k < a + 11 → rd h1 k = rd h k) : Eqa a a' h1 h' :=
  ⟨fun i hi => by rw [f a (by omega) (by omega)]; exact e.1 i hi, fun k h1 hk i hi => by rw [f (a + k) (by omega) (by omega)]; exact e.2 k h1 hk i hi⟩
theorem rdO_cg {N : Nat} {f f' : Nat → Int32} (e : ∀ i, i < N → f i = f' i) (x : Int32) : rdO N f x = rdO N f' x := by
  unfold rdO
  by_cases c : x < 0 ∨ N ≤ x.toNatClampNeg
  · rw [if_pos c, if_pos c]
  · rw [if_neg c, if_neg c, e _ (Nat.not_le.mp fun q => c (Or.inr q))]
section
variable {h h' : Hp} {a a' : Nat}
theorem Eqa.f5 (e : Eqa a a' h h') : rd h a 5 = rd h' a' 5 := e.1 5 (Or.inl (by decide))
theorem Eqa.f12 (e : Eqa a a' h h') : rd h a 12 = rd h' a' 12 := e.1 12 (Or.inr (Or.inl rfl))
theorem Eqa.f15 (e : Eqa a a' h h') : rd h a 15 = rd h' a' 15 := e.1 15 (Or.inr (Or.inr rfl))
theorem Eqa.r1 (e : Eqa a a' h h') (x : Int32) : rdO 12 (rd h (a + 1)) x = rdO 12 (rd h' (a' + 1)) x := rdO_cg (fun i hi => e.2 1 (by decide) (by decide) i hi) x
theorem Eqa.r2 (e : Eqa a a' h h') (x : Int32) : rdO 96 (rd h (a + 2)) x = rdO 96 (rd h' (a' + 2)) x := rdO_cg (fun i hi => e.2 2 (by decide) (by decide) i hi) x
theorem Eqa.r3 (e : Eqa a a' h h') (x : Int32) : rdO 12 (rd h (a + 3)) x = rdO 12 (rd h' (a' + 3)) x := rdO_cg (fun i hi => e.2 3 (by decide) (by decide) i hi) x
theorem Eqa.r4 (e : Eqa a a' h h') (x : Int32) : rdO 12 (rd h (a + 4)) x = rdO 12 (rd h' (a' + 4)) x := rdO_cg (fun i hi => e.2 4 (by decide) (by decide) i hi) x
theorem Eqa.r5 (e : Eqa a a' h h') (x : Int32) : rdO 12 (rd h (a + 5)) x = rdO 12 (rd h' (a' + 5)) x := rdO_cg (fun i hi => e.2 5 (by decide) (by decide) i hi) x
theorem Eqa.r6 (e : Eqa a a' h h') (x : Int32) : rdO 12 (rd h (a + 6)) x = rdO 12 (rd h' (a' + 6)) x := rdO_cg (fun i hi => e.2 6 (by decide) (by decide) i hi) x
theorem Eqa.r7 (e : Eqa a a' h h') (x : Int32) : rdO 4 (rd h (a + 7)) x = rdO 4 (rd h' (a' + 7)) x := rdO_cg (fun i hi => e.2 7 (by decide) (by decide) i hi) x
theorem Eqa.r8 (e : Eqa a a' h h') (x : Int32) : rdO 36 (rd h (a + 8)) x = rdO 36 (rd h' (a' + 8)) x := rdO_cg (fun i hi => e.2 8 (by decide) (by decide) i hi) x
theorem Eqa.r9 (e : Eqa a a' h h') (x : Int32) : rdO 5 (rd h (a + 9)) x = rdO 5 (rd h' (a' + 9)) x := rdO_cg (fun i hi => e.2 9 (by decide) (by decide) i hi) x
theorem Eqa.r10 (e : Eqa a a' h h') (x : Int32) : rdO 5 (rd h (a + 10)) x = rdO 5 (rd h' (a' + 10)) x := rdO_cg (fun i hi => e.2 10 (by decide) (by decide) i hi) x
theorem Eqa.up {i : Nat} {x : Int32} (e : Eqa a a' h h') (k : Nat) (h1 : 1 ≤ k) (hk : k < 11) : Eqa a a' (up2 h (a + k) i x) (up2 h' (a' + k) i x) := by
  refine ⟨fun j hj => by rw [rd_up2_ne (by omega), rd_up2_ne (by omega)]; exact e.1 j hj, fun q q1 hq j hj => ?_⟩
  by_cases c : q = k
  · subst c
    rw [rd_up2_self, rd_up2_self]
    by_cases z : j = i
    · subst z; rw [upd_self, upd_self]
    · rw [upd_ne z, upd_ne z]; exact e.2 q q1 hq j hj
  · rw [rd_up2_ne (by omega), rd_up2_ne (by omega)]; exact e.2 q q1 hq j hj
theorem Eqa.up0 {i : Nat} {x : Int32} (e : Eqa a a' h h') : Eqa a a' (up2 h a i x) (up2 h' a' i x) := by
  refine ⟨fun j hj => ?_, fun q q1 hq j hj => by rw [rd_up2_ne (by omega), rd_up2_ne (by omega)]; exact e.2 q q1 hq j hj⟩
  rw [rd_up2_self, rd_up2_self]
  by_cases z : j = i
  · subst z; rw [upd_self, upd_self]
  · rw [upd_ne z, upd_ne z]; exact e.1 j hj
theorem Eqa.wr {N : Nat} {i x : Int32} (e : Eqa a a' h h') (k : Nat) (h1 : 1 ≤ k) (hk : k < 11) : Rs (Eqa a a') (wrO h (a + k) N i x) (wrO h' (a' + k) N i x) := by
  unfold wrO
  exact Rs.ite (fun _ => Rs.no) (fun _ => Rs.ret (e.up k h1 hk))
end
section
variable {h h' : Hp} {a a' : Nat}
theorem inBed_cg (e : Eqa a a' h h') (p q : Int32) : A_inBed h a p q = A_inBed h' a' p q := by unfold A_inBed; rw [e.r8]
theorem colourAt_cg (e : Eqa a a' h h') (p q : Int32) : A_colourAt h a p q = A_colourAt h' a' p q := by unfold A_colourAt; rw [e.r2]
theorem coloursL_cg (e : Eqa a a' h h') (c : Int32) : ∀ (n : Nat) (v w : Int32), A_coloursOf_L4 h a c n v w = A_coloursOf_L4 h' a' c n v w
  | 0, _, _ => rfl
  | n + 1, v, w => by simp only [A_coloursOf_L4, e.r1, colourAt_cg e, coloursL_cg e c n]
theorem coloursOf_cg (e : Eqa a a' h h') (c : Int32) : A_coloursOf h a c = A_coloursOf h' a' c := by unfold A_coloursOf; rw [coloursL_cg e]
theorem placeL_cg (e : Eqa a a' h h') (c d : Int32) : ∀ (n : Nat) (v : Int32), A_placeOf_L12 h a c d n v = A_placeOf_L12 h' a' c d n v
  | 0, _ => rfl
  | n + 1, v => by simp only [A_placeOf_L12, e.r7, e.r8, placeL_cg e c d n]
theorem placeM_cg (e : Eqa a a' h h') (c : Int32) : ∀ (n : Nat) (v : Int32), A_placeOf_L2 h a c n v = A_placeOf_L2 h' a' c n v
  | 0, _ => rfl
  | n + 1, v => by simp only [A_placeOf_L2, e.f12, placeL_cg e, placeM_cg e c n]
theorem placeOf_cg (e : Eqa a a' h h') (c : Int32) : A_placeOf h a c = A_placeOf h' a' c := by
  unfold A_placeOf; rw [placeM_cg e]
theorem sleepersL_cg (e : Eqa a a' h h') (c : Int32) : ∀ (n : Nat) (v w : Int32), A_sleepersIn_L4 h a c n v w = A_sleepersIn_L4 h' a' c n v w
  | 0, _, _ => rfl
  | n + 1, v, w => by simp only [A_sleepersIn_L4, e.r7, inBed_cg e, sleepersL_cg e c n]
theorem sleepersIn_cg (e : Eqa a a' h h') (c : Int32) : A_sleepersIn h a c = A_sleepersIn h' a' c := by unfold A_sleepersIn; rw [sleepersL_cg e]
theorem wayBed_cg (e : Eqa a a' h h') (p q r : Int32) : A_wayBed h a p q r = A_wayBed h' a' p q r := by unfold A_wayBed; rw [e.r7, e.r3]
theorem passedL_cg (e : Eqa a a' h h') (c d : Int32) : ∀ (n : Nat) (v : Int32), A_passedBeds_L2 h a c d n v = A_passedBeds_L2 h' a' c d n v
  | 0, _ => rfl
  | n + 1, v => by simp only [A_passedBeds_L2, e.r7, wayBed_cg e, inBed_cg e, passedL_cg e c d n]
theorem passedBeds_cg (e : Eqa a a' h h') (p q : Int32) : A_passedBeds h a p q = A_passedBeds h' a' p q := by unfold A_passedBeds; rw [passedL_cg e]
theorem looksL_cg (e : Eqa a a' h h') (c d : Int32) : ∀ (n : Nat) (v : Int32), A_looks_L2 h a c d n v = A_looks_L2 h' a' c d n v
  | 0, _ => rfl
  | n + 1, v => by simp only [A_looks_L2, e.r7, wayBed_cg e, inBed_cg e, looksL_cg e c d n]
theorem looks_cg (e : Eqa a a' h h') (p q : Int32) : A_looks h a p q = A_looks h' a' p q := by unfold A_looks; rw [looksL_cg e, e.r7]
theorem allLooksL_cg (e : Eqa a a' h h') (c : Int32) : ∀ (n : Nat) (v w : Int32), A_allLooks_L4 h a c n v w = A_allLooks_L4 h' a' c n v w
  | 0, _, _ => rfl
  | n + 1, v, w => by simp only [A_allLooks_L4, e.r7, inBed_cg e, looks_cg e, allLooksL_cg e c n]
theorem allLooks_cg (e : Eqa a a' h h') (p : Int32) : A_allLooks h a p = A_allLooks h' a' p := by unfold A_allLooks; rw [allLooksL_cg e]
theorem setBed_R (e : Eqa a a' h h') (p q x : Int32) : Rs (Eqa a a') (A_setBed h a p q x) (A_setBed h' a' p q x) := by
  unfold A_setBed
  exact Rs.bind (e.wr 8 (by decide) (by decide)) fun g g' k => Rs.ret k
theorem leaveBed_R (e : Eqa a a' h h') (p : Int32) : Rs (Rq (Eqa a a')) (A_leaveBed h a p) (A_leaveBed h' a' p) := by
  unfold A_leaveBed
  rw [placeOf_cg e]
  refine Rs.same fun t => Rs.ite (fun _ => Rs.ret ⟨rfl, e⟩) (fun _ => ?_)
  exact Rs.bind (e.wr 8 (by decide) (by decide)) fun g g' k => Rs.ret ⟨rfl, k⟩
theorem burn_R (e : Eqa a a' h h') (p : Int32) : Rs (Rq (Eqa a a')) (A_burn h a p) (A_burn h' a' p) := by
  unfold A_burn
  rw [e.r4, e.r5]
  refine Rs.same fun t1 => Rs.ite (fun _ => Rs.ret ⟨rfl, e⟩) (fun _ => ?_)
  refine Rs.same fun t2 => Rs.same fun t3 => ?_
  unfold lt nm
  dsimp only
  refine Rs.ite (fun _ => ?_) (fun _ => ?_)
  all_goals
    refine Rs.same fun t4 => ?_
    refine Rs.bind (e.wr 5 (by decide) (by decide)) fun g g' k => ?_
    rw [k.1 3 (Or.inl (by decide))]
    have k2 : ∀ x, Eqa a a' (up2 g a 3 x) (up2 g' a' 3 x) := fun x => k.up0
    rw [(k2 _).r5]
    refine Rs.same fun t7 => ?_
    refine Rs.ite (fun _ => ?_) (fun _ => Rs.ret ⟨rfl, k2 _⟩)
    refine Rs.bind (leaveBed_R (k2 _) p) fun x y q => ?_
    refine Rs.bind (q.2.wr 4 (by decide) (by decide)) fun u u' w => Rs.ret ⟨rfl, w⟩
end
theorem passM_R {a a' : Nat} : ∀ (n : Nat) (v w : Int32) (h h' : Hp), Eqa a a' h h' → Rs (Rq (Eqa a a')) (A_pass_L22 a n v w h) (A_pass_L22 a' n v w h')
  | 0, _, _, _, _, _ => Rs.no
  | n + 1, v, w, h, h', e => by
    rw [A_pass_L22, A_pass_L22, e.f5]
    refine Rs.ite (fun _ => Rs.ret ⟨rfl, e⟩) (fun _ => ?_)
    refine Rs.bind (burn_R e w) fun x y q => ?_
    obtain ⟨x1, x2⟩ := x
    obtain ⟨y1, y2⟩ := y
    obtain ⟨q1, q2⟩ := q
    dsimp only at q1 q2 ⊢
    subst q1
    exact passM_R n _ _ _ _ q2
theorem refillL_R {a a' : Nat} : ∀ (n : Nat) (v : Int32) (h h' : Hp), Eqa a a' h h' → Rs (Eqa a a') (A_refillSprings_L2 a n v h) (A_refillSprings_L2 a' n v h')
  | 0, _, _, _, _ => Rs.no
  | n + 1, v, h, h', e => by
    rw [A_refillSprings_L2, A_refillSprings_L2, e.f15, e.r9, e.r10]
    refine Rs.ite (fun _ => Rs.ret e) (fun _ => ?_)
    refine Rs.same fun t1 => Rs.same fun t2 => ?_
    exact Rs.bind (e.wr 10 (by decide) (by decide)) fun g g' k => refillL_R n _ g g' k
theorem refill_R {a a' : Nat} {h h' : Hp} (e : Eqa a a' h h') : Rs (Eqa a a') (A_refillSprings h a) (A_refillSprings h' a') := by
  unfold A_refillSprings
  exact Rs.bind (refillL_R FU 0 h h' e) fun g g' k => Rs.ret k
theorem passL_R {a a' : Nat} {c : Int32} : ∀ (n : Nat) (v w : Int32) (h h' : Hp), Eqa a a' h h' → Rs (Rq (Eqa a a')) (A_pass_L4 a c n v w h) (A_pass_L4 a' c n v w h')
  | 0, _, _, _, _, _ => Rs.no
  | n + 1, v, w, h, h', e => by
    rw [A_pass_L4, A_pass_L4, e.1 0 (Or.inl (by decide))]
    refine Rs.ite (fun _ => Rs.ret ⟨rfl, e⟩) (fun _ => ?_)
    unfold nm
    dsimp only
    refine Rs.bind (passM_R FU v 0 _ _ e.up0) fun x y q => ?_
    obtain ⟨x1, x2⟩ := x
    obtain ⟨y1, y2⟩ := y
    obtain ⟨q1, q2⟩ := q
    dsimp only at q1 q2 ⊢
    subst q1
    refine Rs.bind (refill_R q2) fun g g' k => ?_
    exact passL_R n _ _ g g' k
theorem layDown_R {a a' : Nat} {h h' : Hp} (e : Eqa a a' h h') (p q : Int32) : Rs (Rq (Eqa a a')) (A_layDown h a p q) (A_layDown h' a' p q) := by
  unfold A_layDown
  rw [passedBeds_cg e]
  refine Rs.same fun t1 => Rs.ite (fun _ => Rs.ret ⟨rfl, e⟩) (fun _ => ?_)
  rw [wayBed_cg e]
  refine Rs.same fun t2 => Rs.bind (setBed_R e _ _ _) fun g g' k => ?_
  exact Rs.bind (k.wr 4 (by decide) (by decide)) fun u u' w => Rs.ret ⟨rfl, w⟩
theorem airL_R {a a' : Nat} {c : Int32} : ∀ (n : Nat) (v w : Int32) (h h' : Hp), Eqa a a' h h' → Rs (Rq (Eqa a a')) (A_airReel_L11 a c n v w h) (A_airReel_L11 a' c n v w h')
  | 0, _, _, _, _, _ => Rs.no
  | n + 1, v, w, h, h', e => by
    rw [A_airReel_L11, A_airReel_L11, e.r7, inBed_cg e]
    refine Rs.same fun t1 => Rs.ite (fun _ => Rs.ret ⟨rfl, e⟩) (fun _ => ?_)
    refine Rs.same fun t3 => ?_
    unfold lt
    dsimp only
    refine Rs.ite (fun _ => ?_) (fun _ => ?_)
    all_goals
      exact Rs.bind (setBed_R e _ _ _) fun g g' k => airL_R n _ _ g g' k
theorem airM_R {a a' : Nat} {c d : Int32} : ∀ (n : Nat) (v : Int32) (h h' : Hp), Eqa a a' h h' → Rs (Eqa a a') (A_airReel_L54 a c d n v h) (A_airReel_L54 a' c d n v h')
  | 0, _, _, _, _ => Rs.no
  | n + 1, v, h, h', e => by
    rw [A_airReel_L54, A_airReel_L54, e.f5]
    refine Rs.ite (fun _ => Rs.ret e) (fun _ => Rs.ite (fun _ => ?_) (fun _ => airM_R n _ _ _ e))
    refine Rs.bind (layDown_R e v c) fun x y q => ?_
    obtain ⟨x1, x2⟩ := x
    obtain ⟨y1, y2⟩ := y
    obtain ⟨q1, q2⟩ := q
    dsimp only at q1 q2 ⊢
    exact airM_R n _ _ _ q2
theorem airReel_R {a a' : Nat} {h h' : Hp} (e : Eqa a a' h h') (c : Int32) : Rs (Rq (Eqa a a')) (A_airReel h a c) (A_airReel h' a' c) := by
  unfold A_airReel
  rw [sleepersIn_cg e]
  refine Rs.same fun t1 => Rs.bind (airL_R FU 0 0 h h' e) fun x y q => ?_
  obtain ⟨x1, x2⟩ := x
  obtain ⟨y1, y2⟩ := y
  obtain ⟨q1, q2⟩ := q
  dsimp only at q1 q2 ⊢
  subst q1
  exact Rs.bind (airM_R FU 0 _ _ q2) fun u u' w => Rs.ret ⟨rfl, w⟩
/-! copies -/
def Cp (a o : Nat) (h h' : Hp) (F K : Nat → Prop) : Prop := Fr a 11 h h' ∧ (∀ i, F i → rd h' a i = rd h o i) ∧ ∀ k, K k → 1 ≤ k ∧ k < 11 ∧ ∀ i, i < NK k → rd h' (a + k) i = rd h (o + k) i
theorem cp_f {α : Type} {a o i0 : Nat} {h h' : Hp} {F K : Nat → Prop} {G : Hp → Option α} {P : α → Prop} (hd : a + 11 ≤ o ∨ o + 11 ≤ a) (H : Cp a o h h' F K) (k : ∀ h1, Cp a o h h1 (fun i => F i ∨ i = i0) K → ∃ v, G h1 = some v ∧ P v) : ∃ v, nm (up2 h' a i0 (rd h' o i0)) G = some v ∧ P v := by
  refine k _ ⟨H.1.up (by omega), fun i hi => ?_, fun q hq => ⟨(H.2.2 q hq).1, (H.2.2 q hq).2.1, fun i hi => ?_⟩⟩
  · rw [rd_up2_self]
    by_cases z : i = i0
    · subst z
      rw [upd_self, H.1 o (by omega)]
    · rw [upd_ne z]; exact H.2.1 i (hi.resolve_right z)
  · have := (H.2.2 q hq).1
    rw [rd_up2_ne (by omega)]; exact (H.2.2 q hq).2.2 i hi
theorem cp_r {α : Type} {a o k0 N : Nat} {h h' : Hp} {F K : Nat → Prop} {G : Hp → Option α} {P : α → Prop} (hd : a + 11 ≤ o ∨ o + 11 ≤ a) (H : Cp a o h h' F K) (h1 : 1 ≤ k0) (hk : k0 < 11) (hN : NK k0 = N) (k : ∀ h1, Cp a o h h1 F (fun q => K q ∨ q = k0) → ∃ v, G h1 = some v ∧ P v) : ∃ v, nm (acp h' (a + k0) (o + k0) N) G = some v ∧ P v := by
  refine k _ ⟨fun q hq => (rd_acp_ne (by omega)).trans (H.1 q hq), fun i hi => ?_, fun q hq => ?_⟩
  · rw [rd_acp_ne (by omega)]; exact H.2.1 i hi
  · by_cases z : q = k0
    · subst z
      refine ⟨h1, hk, fun i hi => ?_⟩
      rw [rd_acp_self]
      show (if i < N then rd h' (o + q) i else rd h' (a + q) i) = _
      rw [if_pos (by omega), H.1 (o + q) (by omega)]
    · have hq := H.2.2 q (hq.resolve_right z)
      refine ⟨hq.1, hq.2.1, fun i hi => ?_⟩
      rw [rd_acp_ne (by omega)]; exact hq.2.2 i hi
theorem copy_eqa (h : Hp) (a o : Nat) (hd : a + 11 ≤ o ∨ o + 11 ≤ a) : ∃ h', A_copyFrom h a o = some h' ∧ Fr a 11 h h' ∧ Eqa a o h' h := by
  have fin : ∀ h18 : Hp, Cp a o h h18 (fun i => (((((((False ∨ i = 0) ∨ i = 1) ∨ i = 2) ∨ i = 3) ∨ i = 4) ∨ i = 5) ∨ i = 12) ∨ i = 15) (fun q => (((((((((False ∨ q = 1) ∨ q = 2) ∨ q = 3) ∨ q = 4) ∨ q = 5) ∨ q = 6) ∨ q = 7) ∨ q = 8) ∨ q = 9) ∨ q = 10) → Fr a 11 h h18 ∧ Eqa a o h18 h := fun h18 H => by
    refine ⟨H.1, fun i hi => H.2.1 i ?_, fun k k1 hk i hi => (H.2.2 k ?_).2.2 i hi⟩
    · unfold Fdx at hi; omega
    · omega
  unfold A_copyFrom
  have H0 : Cp a o h h (fun _ => False) (fun _ => False) := ⟨Fr.rf _ _ _, fun _ f => f.elim, fun _ f => f.elim⟩
  refine cp_f hd H0 (fun h1 H1 => ?_)
  refine cp_f hd H1 (fun h2 H2 => ?_)
  refine cp_f hd H2 (fun h3 H3 => ?_)
  refine cp_f hd H3 (fun h4 H4 => ?_)
  refine cp_f hd H4 (fun h5 H5 => ?_)
  refine cp_f hd H5 (fun h6 H6 => ?_)
  refine cp_r hd H6 (by decide) (by decide) rfl (fun h7 H7 => ?_)
  refine cp_r hd H7 (by decide) (by decide) rfl (fun h8 H8 => ?_)
  refine cp_r hd H8 (by decide) (by decide) rfl (fun h9 H9 => ?_)
  refine cp_r hd H9 (by decide) (by decide) rfl (fun h10 H10 => ?_)
  refine cp_r hd H10 (by decide) (by decide) rfl (fun h11 H11 => ?_)
  refine cp_r hd H11 (by decide) (by decide) rfl (fun h12 H12 => ?_)
  refine cp_f hd H12 (fun h13 H13 => ?_)
  refine cp_r hd H13 (by decide) (by decide) rfl (fun h14 H14 => ?_)
  refine cp_r hd H14 (by decide) (by decide) rfl (fun h15 H15 => ?_)
  refine cp_f hd H15 (fun h16 H16 => ?_)
  refine cp_r hd H16 (by decide) (by decide) rfl (fun h17 H17 => ?_)
  refine cp_r hd H17 (by decide) (by decide) rfl (fun h18 H18 => ?_)
  exact ⟨_, rfl, fin h18 H18⟩
/-- what holds of an archive speaks of these places alone -/
theorem Ary.eq {h h' : Hp} {a a' : Nat} (e : Eqa a a' h h') (I : Ary h' a') : Ary h a := by
  obtain ⟨⟨A, Li, Ac⟩, X⟩ := I
  have q : ∀ k, 1 ≤ k → k < 11 → ∀ i, i < NK k → rd h (a + k) i = rd h' (a' + k) i := e.2
  have n12 := A.n12
  have R4 := A.R4
  have m9 := A.m9
  have S5 : vn (rd h' a' 15) ≤ 5 := by
    obtain ⟨k, hk, ek⟩ := A.scenes
    rw [ek, vn_nI (by omega)]; exact hk
  have e2 : rd h a 2 = rd h' a' 2 := e.1 2 (Or.inl (by decide))
  have e3 : rd h a 3 = rd h' a' 3 := e.1 3 (Or.inl (by decide))
  have A' : Arc h a := by
    obtain ⟨a5, a12, a15, s1, s2, s3, s5, s7, s8⟩ := A
    unfold Arc
    rw [e.f5, e.f12, e.f15]
    refine ⟨a5, a12, a15, fun i hi => ?_, fun i hi => ?_, fun i hi => ?_, fun i hi => ?_, fun i hi => ?_, fun i hi => ?_⟩
    · rw [q 1 (by decide) (by decide) i hi]; exact s1 i hi
    · rw [q 2 (by decide) (by decide) i hi]; exact s2 i hi
    · rw [q 3 (by decide) (by decide) i hi]; exact s3 i hi
    · rw [q 5 (by decide) (by decide) i hi]; exact s5 i hi
    · rw [q 7 (by decide) (by decide) i hi]; exact s7 i hi
    · rw [q 8 (by decide) (by decide) i hi]; exact s8 i hi
  refine ⟨⟨A', ?_, ?_⟩, ?_⟩
  · unfold LieA
    rw [e.f5, e.f12]
    refine Lie.cg Li (fun r hr => ?_) (fun c hc _ => ?_) (fun c hc => ?_) (fun r b hr hb => ?_)
    · show vn (rd h (a + 7) r) = vn (rd h' (a' + 7) r)
      rw [q 7 (by decide) (by decide) r (by show r < 4; omega)]
    · show vn (rd h (a + 3) c) = vn (rd h' (a' + 3) c)
      rw [q 3 (by decide) (by decide) c (by show c < 12; omega)]
    · show rd h (a + 4) c = 1 ↔ rd h' (a' + 4) c = 1
      rw [q 4 (by decide) (by decide) c (by show c < 12; omega)]
    · have := m9 r hr
      have hb : b < vn (rd h' (a' + 7) r) := hb
      rw [q 8 (by decide) (by decide) (r * 9 + b) (by show r * 9 + b < 36; omega)]
  · unfold AccA
    rw [e.f5, e2, e3, isum_cg _ (fun i hi => q 5 (by decide) (by decide) i (by show i < 12; omega))]
    exact Ac
  · obtain ⟨x0, x1, xc, xs, x7, x5, x12, x15⟩ := X
    unfold Ext
    rw [e.f5, e.f12, e.f15, e.1 0 (Or.inl (by decide)), e.1 1 (Or.inl (by decide))]
    refine ⟨x0, x1, fun c hc => ?_, fun s hs => ?_, fun r hr => ?_, x5, x12, x15⟩
    · rw [q 4 (by decide) (by decide) c (by show c < 12; omega), q 5 (by decide) (by decide) c (by show c < 12; omega), q 1 (by decide) (by decide) c (by show c < 12; omega), q 6 (by decide) (by decide) c (by show c < 12; omega)]
      exact xc c hc
    · rw [q 9 (by decide) (by decide) s (by show s < 5; omega), q 10 (by decide) (by decide) s (by show s < 5; omega)]
      exact xs s hs
    · rw [q 7 (by decide) (by decide) r (by show r < 4; omega)]
      exact x7 r hr
