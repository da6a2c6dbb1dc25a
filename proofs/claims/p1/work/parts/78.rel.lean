/-! ===== whatever the small evaluation y answers, the real one x answers alike ===== -/
def Rs {α β : Type} (R : α → β → Prop) (x : Option α) (y : Option β) : Prop := ∀ b, y = some b → ∃ a, x = some a ∧ R a b
set_option maxRecDepth 16384 in
theorem Rs.bind {α β γ δ : Type} {R : α → β → Prop} {S : γ → δ → Prop} {x : Option α} {y : Option β} {F : α → Option γ} {G : β → Option δ} (h : Rs R x y) (k : ∀ a b, R a b → Rs S (F a) (G b)) : Rs S (x.bind F) (y.bind G) := fun d hd => by
  obtain ⟨b, hb, hg⟩ := Option.bind_eq_some_iff.mp hd
  obtain ⟨a, ha, hr⟩ := h b hb
  obtain ⟨c, hc, hs⟩ := k a b hr d hg
  exact ⟨c, by rw [ha, Option.bind_some, hc], hs⟩
set_option maxRecDepth 16384 in
theorem Rs.same {α γ δ : Type} {S : γ → δ → Prop} {x : Option α} {F : α → Option γ} {G : α → Option δ} (k : ∀ a, Rs S (F a) (G a)) : Rs S (x.bind F) (x.bind G) := fun d hd => by
  obtain ⟨b, hb, hg⟩ := Option.bind_eq_some_iff.mp hd
  obtain ⟨c, hc, hs⟩ := k b d hg
  exact ⟨c, by rw [hb, Option.bind_some, hc], hs⟩
set_option maxRecDepth 16384 in
theorem Rs.ret {α β : Type} {R : α → β → Prop} {a : α} {b : β} (h : R a b) : Rs R (some a) (some b) := fun _ hd => ⟨a, rfl, by cases hd; exact h⟩
set_option maxRecDepth 16384 in
theorem Rs.no {α β : Type} {R : α → β → Prop} {x : Option α} : Rs R x (none : Option β) := fun _ hd => by cases hd
set_option maxRecDepth 16384 in
theorem Rs.ite {α β : Type} {R : α → β → Prop} {c : Prop} [Decidable c] {x x' : Option α} {y y' : Option β} (h : c → Rs R x y) (h' : ¬ c → Rs R x' y') : Rs R (if c then x else x') (if c then y else y') := by
  by_cases e : c
  · rw [if_pos e, if_pos e]; exact h e
  · rw [if_neg e, if_neg e]; exact h' e
def Rq {α β γ : Type} (W : β → γ → Prop) (x : α × β) (y : α × γ) : Prop := x.1 = y.1 ∧ W x.2 y.2
/-- the class: rows a .. a + 10 of h are rows 1 .. 11 of h', the others are b's -/
def Wa (a : Nat) (b h h' : Hp) : Prop := (∀ k, k < 11 → rd h (a + k) = rd h' (1 + k)) ∧ (∀ j, (j < a ∨ a + 11 ≤ j) → rd h j = rd b j) ∧ rd h' 2 = rd HM 2 ∧ rd h' 3 = rd HM 3
set_option maxRecDepth 16384 in
theorem Wa.up {a i : Nat} {b h h' : Hp} {x : Int32} (e : Wa a b h h') (k : Nat) (hk : k < 11) (h1 : k ≠ 1) (h2 : k ≠ 2) : Wa a b (up2 h (a + k) i x) (up2 h' (1 + k) i x) := by
  refine ⟨fun q hq => ?_, fun j hj => ?_, ?_, ?_⟩
  · by_cases c : q = k
    · subst c; rw [rd_up2_self, rd_up2_self, e.1 q hq]
    · rw [rd_up2_ne (by omega), rd_up2_ne (by omega), e.1 q hq]
  · rw [rd_up2_ne (by omega)]; exact e.2.1 j hj
  · rw [rd_up2_ne (by omega)]; exact e.2.2.1
  · rw [rd_up2_ne (by omega)]; exact e.2.2.2
set_option maxRecDepth 16384 in
theorem Wa.wr {a N : Nat} {b h h' : Hp} {i x : Int32} (e : Wa a b h h') (k : Nat) (hk : k < 11) (h1 : k ≠ 1) (h2 : k ≠ 2) : Rs (Wa a b) (wrO h (a + k) N i x) (wrO h' (1 + k) N i x) := by
  unfold wrO
  exact Rs.ite (fun _ => Rs.no) (fun _ => Rs.ret (e.up k hk h1 h2))
/-- the model: row 141 of h is the number r, the others are b's -/
def Wm (b h : Hp) (r : Nat) : Prop := rd h 141 = rgt r ∧ ∀ j, j ≠ 141 → rd h j = rd b j
set_option maxRecDepth 16384 in
theorem Wm.wr {N : Nat} {b h : Hp} {r : Nat} {i x : Int32} (e : Wm b h r) : Rs (Wm b) (wrO h 141 N i x) (wrN r N i x) := by
  unfold wrO wrN
  refine Rs.ite (fun _ => Rs.no) (fun _ => Rs.ret ⟨?_, fun j hj => ?_⟩)
  · rw [rd_up2_self, e.1]
    funext j
    by_cases c : j = i.toNatClampNeg
    · subst c; rw [upd_self, rgt_rst_self]
    · rw [upd_ne c, rgt_rst_ne _ _ _ _ c]
  · rw [rd_up2_ne hj]; exact e.2 j hj
/-! the class: what weeks and cuts call -/
set_option maxRecDepth 16384 in
theorem placeL_cg {h h' : Hp} {a : Nat} {c d : Int32} (e7 : rd h (a + 7) = rd h' (1 + 7)) (e8 : rd h (a + 8) = rd h' (1 + 8)) : ∀ (n : Nat) (v : Int32), A_placeOf_L12 h a c d n v = A_placeOf_L12 h' 1 c d n v
  | 0, _ => rfl
  | n + 1, v => by simp only [A_placeOf_L12, e7, e8, placeL_cg e7 e8 n]
set_option maxRecDepth 16384 in
theorem placeM_cg {h h' : Hp} {a : Nat} {c : Int32} (e0 : rd h a = rd h' 1) (e7 : rd h (a + 7) = rd h' (1 + 7)) (e8 : rd h (a + 8) = rd h' (1 + 8)) : ∀ (n : Nat) (v : Int32), A_placeOf_L2 h a c n v = A_placeOf_L2 h' 1 c n v
  | 0, _ => rfl
  | n + 1, v => by simp only [A_placeOf_L2, e0, placeL_cg e7 e8, placeM_cg e0 e7 e8 n]
set_option maxRecDepth 16384 in
theorem placeOf_cg {a : Nat} {b h h' : Hp} (e : Wa a b h h') (c : Int32) : A_placeOf h a c = A_placeOf h' 1 c := by
  have e0 : rd h a = rd h' 1 := e.1 0 (by decide)
  unfold A_placeOf
  rw [placeM_cg e0 (e.1 7 (by decide)) (e.1 8 (by decide))]
set_option maxRecDepth 16384 in
theorem leaveBed_R {a : Nat} {b h h' : Hp} (e : Wa a b h h') (p : Int32) : Rs (Rq (Wa a b)) (A_leaveBed h a p) (A_leaveBed h' 1 p) := by
  unfold A_leaveBed
  rw [placeOf_cg e]
  refine Rs.same fun t => Rs.ite (fun _ => Rs.ret ⟨rfl, e⟩) (fun _ => ?_)
  exact Rs.bind (e.wr 8 (by decide) (by decide) (by decide)) fun g g' k => Rs.ret ⟨rfl, k⟩
set_option maxRecDepth 16384 in
theorem burn_R {a : Nat} {b h h' : Hp} (e : Wa a b h h') (p : Int32) : Rs (Rq (Wa a b)) (A_burn h a p) (A_burn h' 1 p) := by
  unfold A_burn
  rw [e.1 4 (by decide), e.1 5 (by decide)]
  refine Rs.same fun t1 => Rs.ite (fun _ => Rs.ret ⟨rfl, e⟩) (fun _ => ?_)
  refine Rs.same fun t2 => Rs.same fun t3 => ?_
  unfold lt nm
  dsimp only
  refine Rs.ite (fun _ => ?_) (fun _ => ?_)
  all_goals
    refine Rs.same fun t4 => ?_
    refine Rs.bind (e.wr 5 (by decide) (by decide) (by decide)) fun g g' k => ?_
    have k0 : rd g a = rd g' 1 := k.1 0 (by decide)
    rw [k0]
    have k2 : ∀ x, Wa a b (up2 g a 3 x) (up2 g' 1 3 x) := fun x => k.up (i := 3) (x := x) 0 (by decide) (by decide) (by decide)
    refine Rs.bind (R := fun x y => x = y) ?_ fun t7 t7' q => ?_
    · intro v hv
      exact ⟨v, by rw [← hv]; exact congrArg (fun f => rdO 12 f p) ((k2 _).1 5 (by decide)), rfl⟩
    · subst q
      refine Rs.ite (fun _ => ?_) (fun _ => Rs.ret ⟨rfl, k2 _⟩)
      refine Rs.bind (leaveBed_R (k2 _) p) fun x y q => ?_
      refine Rs.bind (q.2.wr 4 (by decide) (by decide) (by decide)) fun u u' w => Rs.ret ⟨rfl, w⟩
set_option maxRecDepth 16384 in
theorem passM_R {a : Nat} {b : Hp} : ∀ (n : Nat) (v w : Int32) (h h' : Hp), Wa a b h h' → Rs (Rq (Wa a b)) (A_pass_L22 a n v w h) (A_pass_L22 1 n v w h')
  | 0, _, _, _, _, _ => Rs.no
  | n + 1, v, w, h, h', e => by
    have e0 : rd h a = rd h' 1 := e.1 0 (by decide)
    rw [A_pass_L22, A_pass_L22, e0]
    refine Rs.ite (fun _ => Rs.ret ⟨rfl, e⟩) (fun _ => ?_)
    refine Rs.bind (burn_R e w) fun x y q => ?_
    obtain ⟨x1, x2⟩ := x
    obtain ⟨y1, y2⟩ := y
    obtain ⟨q1, q2⟩ := q
    dsimp only at q1 q2 ⊢
    subst q1
    exact passM_R n _ _ _ _ q2
set_option maxRecDepth 16384 in
theorem refillL_R {a : Nat} {b : Hp} : ∀ (n : Nat) (v : Int32) (h h' : Hp), Wa a b h h' → Rs (Wa a b) (A_refillSprings_L2 a n v h) (A_refillSprings_L2 1 n v h')
  | 0, _, _, _, _ => Rs.no
  | n + 1, v, h, h', e => by
    have e0 : rd h a = rd h' 1 := e.1 0 (by decide)
    rw [A_refillSprings_L2, A_refillSprings_L2, e0, e.1 9 (by decide), e.1 10 (by decide)]
    refine Rs.ite (fun _ => Rs.ret e) (fun _ => ?_)
    refine Rs.same fun t1 => Rs.same fun t2 => ?_
    exact Rs.bind (e.wr 10 (by decide) (by decide) (by decide)) fun g g' k => refillL_R n _ g g' k
set_option maxRecDepth 16384 in
theorem refill_R {a : Nat} {b h h' : Hp} (e : Wa a b h h') : Rs (Wa a b) (A_refillSprings h a) (A_refillSprings h' 1) := by
  unfold A_refillSprings
  exact Rs.bind (refillL_R FU 0 h h' e) fun g g' k => Rs.ret k
set_option maxRecDepth 16384 in
theorem passL_R {a : Nat} {b : Hp} {c : Int32} : ∀ (n : Nat) (v w : Int32) (h h' : Hp), Wa a b h h' → Rs (Rq (Wa a b)) (A_pass_L4 a c n v w h) (A_pass_L4 1 c n v w h')
  | 0, _, _, _, _, _ => Rs.no
  | n + 1, v, w, h, h', e => by
    have e0 : rd h a = rd h' 1 := e.1 0 (by decide)
    rw [A_pass_L4, A_pass_L4, e0]
    refine Rs.ite (fun _ => Rs.ret ⟨rfl, e⟩) (fun _ => ?_)
    unfold nm
    dsimp only
    refine Rs.bind (passM_R FU v 0 _ _ (e.up 0 (by decide) (by decide) (by decide))) fun x y q => ?_
    obtain ⟨x1, x2⟩ := x
    obtain ⟨y1, y2⟩ := y
    obtain ⟨q1, q2⟩ := q
    dsimp only at q1 q2 ⊢
    subst q1
    refine Rs.bind (refill_R q2) fun g g' k => ?_
    exact passL_R n _ _ g g' k
set_option maxRecDepth 16384 in
theorem pass_R {a : Nat} {b h h' : Hp} (e : Wa a b h h') (c : Int32) : Rs (Rq (Wa a b)) (A_pass h a c) (A_pass h' 1 c) := by
  unfold A_pass
  refine Rs.bind (passL_R FU 0 0 h h' e) fun x y q => ?_
  exact Rs.ret q
set_option maxRecDepth 16384 in
theorem setBed_R {a : Nat} {b h h' : Hp} (e : Wa a b h h') (p q x : Int32) : Rs (Wa a b) (A_setBed h a p q x) (A_setBed h' 1 p q x) := by
  unfold A_setBed
  exact Rs.bind (e.wr 8 (by decide) (by decide) (by decide)) fun g g' k => Rs.ret k
set_option maxRecDepth 16384 in
theorem cutM_R {a : Nat} {b : Hp} {fo : Int32 → Option Bool} {c1 c2 c4 : Int32} (ho : ∀ (h : Hp) (t : Int32), rd h (a + 1) = rd HM 2 → rd h (a + 2) = rd HM 3 → Rs (fun v y => y = decide (v = (-1 : Int32))) (A_findPattern h a t c2) (fo t)) : ∀ (n : Nat) (v w : Int32) (h h' : Hp), Wa a b h h' → Rs (Rq (Wa a b)) (A_cutScene_L17 a c1 c2 c4 n v w h) (O_cutScene_L17 fo 1 c1 0 c4 n v w h')
  | 0, _, _, _, _, _ => Rs.no
  | n + 1, v, w, h, h', e => by
    have ih := cutM_R (b := b) (c1 := c1) (c4 := c4) ho n
    rw [A_cutScene_L17, O_cutScene_L17, e.1 7 (by decide), e.1 10 (by decide)]
    unfold A_inBed
    rw [e.1 8 (by decide)]
    refine Rs.same fun t1 => Rs.ite (fun _ => Rs.ret ⟨rfl, e⟩) (fun _ => ?_)
    refine Rs.same fun t2 => Rs.same fun t3 => Rs.ite (fun _ => ih _ _ _ _ e) (fun _ => Rs.ite (fun _ => ih _ _ _ _ e) (fun _ => ?_))
    refine Rs.bind (ho h t2 ((e.1 1 (by decide)).trans e.2.2.1) ((e.1 2 (by decide)).trans e.2.2.2)) fun x y q => ?_
    have q' : (y = true) ↔ x = -1 := by rw [q]; exact decide_eq_true_iff
    by_cases c : x = -1
    · rw [if_pos c, if_pos (q'.mpr c)]
      exact ih _ _ _ _ e
    · rw [if_neg c, if_neg (fun d => c (q'.mp d))]
      refine Rs.same fun t5 => ?_
      refine Rs.bind (e.wr 10 (by decide) (by decide) (by decide)) fun g g' k => ?_
      have k0 : rd g a = rd g' 1 := k.1 0 (by decide)
      unfold nm
      dsimp only
      rw [k0]
      have k7 := k.up (i := 4) (x := rd g' 1 4 + 1) 0 (by decide) (by decide) (by decide)
      refine Rs.bind (k7.wr 6 (by decide) (by decide) (by decide)) fun g8 g8' k8 => ?_
      refine Rs.bind (k8.wr 4 (by decide) (by decide) (by decide)) fun g9 g9' k9 => ?_
      exact Rs.bind (setBed_R k9 _ _ _) fun u u' k11 => ih _ _ _ _ k11
set_option maxRecDepth 16384 in
theorem cutL_R {a : Nat} {b : Hp} {fo : Int32 → Option Bool} {c1 c2 : Int32} (ho : ∀ (h : Hp) (t : Int32), rd h (a + 1) = rd HM 2 → rd h (a + 2) = rd HM 3 → Rs (fun v y => y = decide (v = (-1 : Int32))) (A_findPattern h a t c2) (fo t)) : ∀ (n : Nat) (v w : Int32) (h h' : Hp), Wa a b h h' → Rs (Rq (Wa a b)) (A_cutScene_L5 a c1 c2 n v w h) (O_cutScene_L5 fo 1 c1 0 n v w h')
  | 0, _, _, _, _, _ => Rs.no
  | n + 1, v, w, h, h', e => by
    have e0 : rd h a = rd h' 1 := e.1 0 (by decide)
    rw [A_cutScene_L5, O_cutScene_L5, e0]
    refine Rs.ite (fun _ => Rs.ret ⟨rfl, e⟩) (fun _ => ?_)
    refine Rs.bind (cutM_R ho FU v 0 _ _ e) fun x y q => ?_
    obtain ⟨x1, x2⟩ := x
    obtain ⟨y1, y2⟩ := y
    obtain ⟨q1, q2⟩ := q
    dsimp only at q1 q2 ⊢
    subst q1
    exact cutL_R ho n _ _ _ _ q2
set_option maxRecDepth 16384 in
theorem cut_R {a : Nat} {b h h' : Hp} {fo : Int32 → Option Bool} {c1 c2 : Int32} (ho : ∀ (h : Hp) (t : Int32), rd h (a + 1) = rd HM 2 → rd h (a + 2) = rd HM 3 → Rs (fun v y => y = decide (v = (-1 : Int32))) (A_findPattern h a t c2) (fo t)) (e : Wa a b h h') : Rs (Rq (Wa a b)) (A_cutScene h a c1 c2) (O_cutScene fo h' 1 c1 0) := by
  unfold A_cutScene O_cutScene
  exact Rs.bind (cutL_R ho FU 0 0 h h' e) fun x y q => Rs.ret q
/-! the model's -/
set_option maxRecDepth 16384 in
theorem mof_cg {h : Hp} {r : Nat} (e : rd h 141 = rgt r) (p q : Int32) : M_of h p q = N_of r p q := by unfold M_of N_of; rw [e]
set_option maxRecDepth 16384 in
theorem mbeds_cg {h : Hp} {r : Nat} (e : rd h 141 = rgt r) (p : Int32) : M_beds h p = N_beds r p := by unfold M_beds N_beds; rw [e]
set_option maxRecDepth 16384 in
theorem minBed_cg {h : Hp} {r : Nat} (e : rd h 141 = rgt r) (p q : Int32) : M_inBed h p q = N_inBed r p q := by unfold M_inBed N_inBed; rw [e]
set_option maxRecDepth 16384 in
theorem mscene_cg {h : Hp} {r : Nat} (e : rd h 141 = rgt r) (p q : Int32) : M_scene h p q = N_scene r p q := by unfold M_scene N_scene; rw [e]
set_option maxRecDepth 16384 in
theorem bedWithL_cg {h : Hp} {r : Nat} (e : rd h 141 = rgt r) {c d : Int32} : ∀ (n : Nat) (v : Int32), M_bedWith_L2 h c d n v = N_bedWith_L2 r c d n v
  | 0, _ => rfl
  | n + 1, v => by simp only [M_bedWith_L2, N_bedWith_L2, mbeds_cg e, minBed_cg e, bedWithL_cg e n]
set_option maxRecDepth 16384 in
theorem bedWith_cg {h : Hp} {r : Nat} (e : rd h 141 = rgt r) (c d : Int32) : M_bedWith h c d = N_bedWith r c d := by
  unfold M_bedWith N_bedWith; rw [bedWithL_cg e]; rfl
set_option maxRecDepth 16384 in
theorem reelWithL_cg {h : Hp} {r : Nat} (e : rd h 141 = rgt r) {c : Int32} : ∀ (n : Nat) (v : Int32), M_reelWith_L2 h c n v = N_reelWith_L2 r c n v
  | 0, _ => rfl
  | n + 1, v => by simp only [M_reelWith_L2, N_reelWith_L2, e, bedWith_cg e, reelWithL_cg e n]
set_option maxRecDepth 16384 in
theorem reelWith_cg {h : Hp} {r : Nat} (e : rd h 141 = rgt r) (c : Int32) : M_reelWith h c = N_reelWith r c := by
  unfold M_reelWith N_reelWith; rw [reelWithL_cg e]; rfl
set_option maxRecDepth 16384 in
theorem mto_R {b h : Hp} {r : Nat} (e : Wm b h r) (p q x : Int32) : Rs (Wm b) (M_to h p q x) (N_to r p q x) := by
  unfold M_to N_to
  exact Rs.bind e.wr fun g s k => Rs.ret k
set_option maxRecDepth 16384 in
theorem msetBed_R {b h : Hp} {r : Nat} (e : Wm b h r) (p q x : Int32) : Rs (Wm b) (M_setBed h p q x) (N_setBed r p q x) := by
  unfold M_setBed N_setBed
  exact Rs.bind e.wr fun g s k => Rs.ret k
set_option maxRecDepth 16384 in
theorem leaves_R {b h : Hp} {r : Nat} (e : Wm b h r) (p q : Int32) : Rs (Rq (Wm b)) (M_leaves h p q) (N_leaves r p q) := by
  unfold M_leaves N_leaves
  rw [reelWith_cg e.1]
  refine Rs.same fun t1 => ?_
  unfold lt
  dsimp only
  refine Rs.ite (fun _ => Rs.bind (mto_R e _ _ _) fun g s k => Rs.ret ⟨rfl, k⟩) (fun _ => ?_)
  rw [bedWith_cg e.1]
  refine Rs.same fun t4 => ?_
  refine Rs.bind (msetBed_R e _ _ _) fun g s k => ?_
  exact Rs.bind (mto_R k _ _ _) fun g s k => Rs.ret ⟨rfl, k⟩
set_option maxRecDepth 16384 in
theorem burns_R {b h : Hp} {r : Nat} (e : Wm b h r) (p : Int32) : Rs (Rq (Wm b)) (M_burns h p) (N_burns r p) := by
  unfold M_burns N_burns
  simp only [mof_cg e.1]
  refine Rs.same fun t1 => Rs.ite (fun _ => Rs.ret ⟨rfl, e⟩) (fun _ => ?_)
  refine Rs.same fun t2 => Rs.same fun t3 => ?_
  unfold lt
  dsimp only
  refine Rs.ite (fun _ => ?_) (fun _ => ?_)
  all_goals
    refine Rs.same fun t4 => ?_
    refine Rs.bind (mto_R e _ _ _) fun g s k => ?_
    rw [k.1]
    refine Rs.same fun t7 => ?_
    refine Rs.bind k.wr fun g s k => ?_
    rw [mof_cg k.1]
    refine Rs.same fun t9 => ?_
    refine Rs.ite (fun _ => ?_) (fun _ => ?_)
    · refine Rs.bind (leaves_R k _ _) fun x y q => ?_
      obtain ⟨x1, x2⟩ := x
      obtain ⟨y1, y2⟩ := y
      obtain ⟨q1, q2⟩ := q
      dsimp only at q1 q2 ⊢
      rw [mof_cg q2.1]
      exact Rs.same fun t10 => Rs.ite (fun _ => Rs.ret ⟨rfl, q2⟩) (fun _ => Rs.ret ⟨rfl, q2⟩)
    · exact Rs.same fun t10 => Rs.ite (fun _ => Rs.ret ⟨rfl, k⟩) (fun _ => Rs.ret ⟨rfl, k⟩)
set_option maxRecDepth 16384 in
theorem passesM_R {b : Hp} : ∀ (n : Nat) (v w : Int32) (h : Hp) (r : Nat), Wm b h r → Rs (Rq (Wm b)) (M_passes_L22 n v w h) (N_passes_L22 n v w r)
  | 0, _, _, _, _, _ => Rs.no
  | n + 1, v, w, h, r, e => by
    rw [M_passes_L22, N_passes_L22, e.1]
    refine Rs.same fun t3 => Rs.ite (fun _ => Rs.ret ⟨rfl, e⟩) (fun _ => ?_)
    refine Rs.bind (burns_R e w) fun x y q => ?_
    obtain ⟨x1, x2⟩ := x
    obtain ⟨y1, y2⟩ := y
    obtain ⟨q1, q2⟩ := q
    dsimp only at q1 q2 ⊢
    subst q1
    exact Rs.ite (fun _ => passesM_R n _ _ _ _ q2) (fun _ => passesM_R n _ _ _ _ q2)
set_option maxRecDepth 16384 in
theorem passesS_R {b : Hp} : ∀ (n : Nat) (v : Int32) (h : Hp) (r : Nat), Wm b h r → Rs (Wm b) (M_passes_L59 n v h) (N_passes_L59 n v r)
  | 0, _, _, _, _ => Rs.no
  | n + 1, v, h, r, e => by
    rw [M_passes_L59, N_passes_L59, e.1]
    refine Rs.same fun t9 => Rs.ite (fun _ => Rs.ret e) (fun _ => ?_)
    refine Rs.same fun t10 => Rs.same fun t11 => ?_
    exact Rs.bind e.wr fun g s k => passesS_R n _ _ _ k
set_option maxRecDepth 16384 in
theorem passesL_R {b : Hp} {c : Int32} : ∀ (n : Nat) (v w : Int32) (h : Hp) (r : Nat), Wm b h r → Rs (Rq (Wm b)) (M_passes_L4 c n v w h) (N_passes_L4 c n v w r)
  | 0, _, _, _, _, _ => Rs.no
  | n + 1, v, w, h, r, e => by
    rw [M_passes_L4, N_passes_L4, e.1]
    refine Rs.ite (fun _ => Rs.ret ⟨rfl, e⟩) (fun _ => ?_)
    refine Rs.same fun t1 => ?_
    refine Rs.bind e.wr fun g s k => ?_
    refine Rs.bind (passesM_R FU v 0 _ _ k) fun x y q => ?_
    obtain ⟨x1, x2⟩ := x
    obtain ⟨y1, y2⟩ := y
    obtain ⟨q1, q2⟩ := q
    dsimp only at q1 q2 ⊢
    subst q1
    exact Rs.bind (passesS_R FU 0 _ _ q2) fun g s k => passesL_R n _ _ _ _ k
set_option maxRecDepth 16384 in
theorem passes_R {b h : Hp} {r : Nat} (e : Wm b h r) (c : Int32) : Rs (Rq (Wm b)) (M_passes h c) (N_passes r c) := by
  unfold M_passes N_passes
  exact Rs.bind (passesL_R FU 0 0 h r e) fun x y q => Rs.ret q
/-- the model's match by the number of the clip's colours -/
noncomputable def mgo (p c : Int32) : Option Int32 :=
  (M_matchOf_L10 p c FU 0).bind fun r5 => match r5 with
  | .inr y => some y
  | .inl () => some (-1)
set_option maxRecDepth 16384 in
theorem matchOf_mgo (h : Hp) (t p : Int32) : M_matchOf h t p = (M_of h t 0).bind (mgo p) := rfl
set_option maxRecDepth 16384 in
theorem cutsM_R {b : Hp} {go : Int32 → Option Bool} {c1 c2 c4 : Int32} (ho : ∀ c : Int32, Rs (fun v y => y = decide (v = (-1 : Int32))) (mgo c2 c) (go c)) : ∀ (n : Nat) (v w : Int32) (h : Hp) (r : Nat), Wm b h r → Rs (Rq (Wm b)) (M_cuts_L19 c1 c2 c4 n v w h) (N_cuts_L19 go c1 c4 n v w r)
  | 0, _, _, _, _, _ => Rs.no
  | n + 1, v, w, h, r, e => by
    have ih := cutsM_R (b := b) (c1 := c1) (c4 := c4) ho n
    rw [M_cuts_L19, N_cuts_L19, mbeds_cg e.1, minBed_cg e.1, mscene_cg e.1]
    refine Rs.same fun t2 => Rs.ite (fun _ => Rs.ret ⟨rfl, e⟩) (fun _ => ?_)
    refine Rs.same fun t3 => Rs.ite (fun _ => ih _ _ _ _ e) (fun _ => ?_)
    refine Rs.same fun t4 => Rs.ite (fun _ => ih _ _ _ _ e) (fun _ => ?_)
    rw [matchOf_mgo, mof_cg e.1]
    refine Rs.bind (R := fun v y => y = decide (v = (-1 : Int32))) (Rs.same fun c => ho c) fun x y q => ?_
    have q' : (y = true) ↔ x = -1 := by rw [q]; exact decide_eq_true_iff
    by_cases c : x = -1
    · rw [if_pos c, if_pos (q'.mpr c)]
      exact ih _ _ _ _ e
    · rw [if_neg c, if_neg (fun d => c (q'.mp d))]
      refine Rs.bind (leaves_R e _ _) fun x y q => ?_
      refine Rs.bind (mto_R q.2 _ _ _) fun g s k => ?_
      rw [k.1]
      refine Rs.same fun t10 => ?_
      refine Rs.bind k.wr fun g s k => ?_
      rw [k.1]
      refine Rs.same fun t12 => ?_
      exact Rs.bind k.wr fun g s k => ih _ _ _ _ k
set_option maxRecDepth 16384 in
theorem cutsL_R {b : Hp} {go : Int32 → Option Bool} {c1 c2 : Int32} (ho : ∀ c : Int32, Rs (fun v y => y = decide (v = (-1 : Int32))) (mgo c2 c) (go c)) : ∀ (n : Nat) (v w : Int32) (h : Hp) (r : Nat), Wm b h r → Rs (Rq (Wm b)) (M_cuts_L5 c1 c2 n v w h) (N_cuts_L5 go c1 n v w r)
  | 0, _, _, _, _, _ => Rs.no
  | n + 1, v, w, h, r, e => by
    rw [M_cuts_L5, N_cuts_L5, e.1]
    refine Rs.same fun t1 => Rs.ite (fun _ => Rs.ret ⟨rfl, e⟩) (fun _ => ?_)
    refine Rs.bind (cutsM_R ho FU v 0 _ _ e) fun x y q => ?_
    obtain ⟨x1, x2⟩ := x
    obtain ⟨y1, y2⟩ := y
    obtain ⟨q1, q2⟩ := q
    dsimp only at q1 q2 ⊢
    subst q1
    exact cutsL_R ho n _ _ _ _ q2
set_option maxRecDepth 16384 in
theorem cuts_R {b h : Hp} {r : Nat} {go : Int32 → Option Bool} {c1 c2 : Int32} (ho : ∀ c : Int32, Rs (fun v y => y = decide (v = (-1 : Int32))) (mgo c2 c) (go c)) (e : Wm b h r) : Rs (Rq (Wm b)) (M_cuts h c1 c2) (N_cuts go r c1 c2) := by
  unfold M_cuts N_cuts
  exact Rs.bind (cutsL_R ho FU 0 0 h r e) fun x y q => Rs.ret q
