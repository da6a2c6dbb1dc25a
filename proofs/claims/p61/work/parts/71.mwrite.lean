/-! ===== the model's writes keep its row whole ===== -/
/-- how many of the first k beds of reel r hold a clip -/
def cntB (f : Nat → Int32) (r : Nat) : Nat → Nat
  | 0 => 0
  | k + 1 => cntB f r k + if 0 ≤ f (60 + (9 * r + k)) then 1 else 0
set_option maxRecDepth 16384 in
theorem cntB_upd (f : Nat → Int32) (r i : Nat) (x : Int32) : ∀ k, cntB (upd f i x) r k ≤ cntB f r k + if 60 + 9 * r ≤ i ∧ i < 60 + (9 * r + k) then 1 else 0
  | 0 => Nat.zero_le _
  | k + 1 => by
    have ih := cntB_upd f r i x k
    rw [cntB, cntB]
    by_cases e : 60 + (9 * r + k) = i
    · have n : ¬ (60 + 9 * r ≤ i ∧ i < 60 + (9 * r + k)) := by omega
      have p : 60 + 9 * r ≤ i ∧ i < 60 + (9 * r + (k + 1)) := by omega
      rw [if_neg n] at ih
      rw [if_pos p]
      by_cases c : 0 ≤ upd f i x (60 + (9 * r + k)) <;> by_cases c2 : 0 ≤ f (60 + (9 * r + k)) <;> simp only [c, c2, if_true, if_false] <;> omega
    · rw [show upd f i x (60 + (9 * r + k)) = f (60 + (9 * r + k)) from upd_ne e]
      by_cases p : 60 + 9 * r ≤ i ∧ i < 60 + (9 * r + k)
      · rw [if_pos p] at ih
        rw [if_pos (show 60 + 9 * r ≤ i ∧ i < 60 + (9 * r + (k + 1)) by omega)]
        omega
      · rw [if_neg p] at ih
        rw [if_neg (show ¬ (60 + 9 * r ≤ i ∧ i < 60 + (9 * r + (k + 1))) by omega)]
        omega
set_option maxRecDepth 16384 in
theorem cntB_free (f : Nat → Int32) (r : Nat) : ∀ k, cntB f r k < k → ∃ b, b < k ∧ ¬ 0 ≤ f (60 + (9 * r + b))
  | 0, q => absurd q (Nat.lt_irrefl _)
  | k + 1, q => by
    rw [cntB] at q
    by_cases e : 0 ≤ f (60 + (9 * r + k))
    · rw [if_pos e] at q
      obtain ⟨b, hb, eb⟩ := cntB_free f r k (by omega)
      exact ⟨b, by omega, eb⟩
    · exact ⟨k, by omega, e⟩
set_option maxRecDepth 16384 in
theorem cntB_none (f : Nat → Int32) (r : Nat) : ∀ k, (∀ b, b < k → f (60 + (9 * r + b)) = -1) → cntB f r k = 0
  | 0, _ => rfl
  | k + 1, q => by
    rw [cntB, cntB_none f r k (fun b hb => q b (by omega)), q k (by omega)]
    decide
set_option maxRecDepth 16384 in
theorem way_all {q m b : Nat} (hb : b < m) : ∃ k, k < m ∧ (q + k) % m = b := by
  have hm : 0 < m := by omega
  have hq := Nat.mod_lt q hm
  refine ⟨(b + m - q % m) % m, Nat.mod_lt _ hm, ?_⟩
  rw [Nat.add_mod_mod, ← Nat.mod_add_mod q m, show q % m + (b + m - q % m) = b + m by omega, Nat.add_mod_right, Nat.mod_eq_of_lt hb]
section
variable {h : Hp}
def Mk (h h' : Hp) : Prop := Wf (rd h' 141) ∧ ∀ k, k ≠ 141 → rd h' k = rd h k
set_option maxRecDepth 16384 in
theorem Mk.rf (w : Wf (rd h 141)) : Mk h h := ⟨w, fun _ _ => rfl⟩
set_option maxRecDepth 16384 in
theorem Mk.tr {h0 h1 h2 : Hp} (x : Mk h0 h1) (y : Mk h1 h2) : Mk h0 h2 := ⟨y.1, fun k a => (y.2 k a).trans (x.2 k a)⟩
set_option maxRecDepth 16384 in
theorem wf_upd {f : Nat → Int32} (w : Wf f) {i : Nat} {x : Int32} (h2 : i = 2 → Sc 12 x) (h3 : i = 3 → Sc 4 x ∧ ∀ r, r < 4 → nI r < x → ¬ f (56 + r) = 0) (h4 : i = 4 → Sc 5 x) (hc : ∀ c, c < 12 → i = 8 + 4 * c → Sc 99999999 x) (hf : ∀ c, c < 12 → i = 8 + 4 * c + 2 → Sc 99 x) (hr : ∀ r, r < 4 → i = 56 + r → Sc 9 x ∧ (nI r < f 3 → ¬ x = 0)) (hb : ∀ j, j < 36 → i = 60 + j → Bv x) : Wf (upd f i x) := by
  obtain ⟨w1, w2, w3, w4, w5, w6, w7, w8⟩ := w
  refine ⟨?_, ?_, ?_, fun c hc' => ?_, fun c hc' => ?_, fun r hr' => ?_, fun r hr' q => ?_, fun j hj => ?_⟩
  · by_cases e : 2 = i
    · subst e; rw [upd_self]; exact h2 rfl
    · rw [upd_ne e]; exact w1
  · by_cases e : 3 = i
    · subst e; rw [upd_self]; exact (h3 rfl).1
    · rw [upd_ne e]; exact w2
  · by_cases e : 4 = i
    · subst e; rw [upd_self]; exact h4 rfl
    · rw [upd_ne e]; exact w3
  · by_cases e : 8 + 4 * c = i
    · rw [e, upd_self]; exact hc c hc' e.symm
    · rw [upd_ne e]; exact w4 c hc'
  · by_cases e : 8 + 4 * c + 2 = i
    · rw [e, upd_self]; exact hf c hc' e.symm
    · rw [upd_ne e]; exact w5 c hc'
  · by_cases e : 56 + r = i
    · rw [e, upd_self]; exact (hr r hr' e.symm).1
    · rw [upd_ne e]; exact w6 r hr'
  · by_cases e3 : 3 = i
    · subst e3
      rw [upd_self] at q
      rw [upd_ne (by omega)]
      exact (h3 rfl).2 r hr' q
    · rw [upd_ne e3] at q
      by_cases e : 56 + r = i
      · rw [e, upd_self]; exact (hr r hr' e.symm).2 q
      · rw [upd_ne e]; exact w7 r hr' q
  · by_cases e : 60 + j = i
    · rw [e, upd_self]; exact hb j hj e.symm
    · rw [upd_ne e]; exact w8 j hj
set_option maxRecDepth 16384 in
theorem wf_free {f : Nat → Int32} (w : Wf f) {i : Nat} {x : Int32} (hi : i < 2 ∨ (4 < i ∧ i < 8) ∨ (8 ≤ i ∧ i < 56 ∧ (i % 4 = 1 ∨ i % 4 = 3)) ∨ 96 ≤ i) : Wf (upd f i x) :=
  wf_upd w (fun e => by omega) (fun e => by omega) (fun e => by omega) (fun c _ e => by omega) (fun c _ e => by omega) (fun r _ e => by omega) (fun j _ e => by omega)
set_option maxRecDepth 16384 in
theorem wf_bed {f : Nat → Int32} (w : Wf f) {j : Nat} {x : Int32} (hj : j < 36) (hx : Bv x) : Wf (upd f (60 + j) x) :=
  wf_upd w (fun e => by omega) (fun e => by omega) (fun e => by omega) (fun c _ e => by omega) (fun c _ e => by omega) (fun r _ e => by omega) (fun _ _ _ => hx)
set_option maxRecDepth 16384 in
theorem wf_fat {f : Nat → Int32} (w : Wf f) {c : Nat} {x : Int32} (hc : c < 12) (hx : Sc 99 x) : Wf (upd f (8 + 4 * c + 2) x) :=
  wf_upd w (fun e => by omega) (fun e => by omega) (fun e => by omega) (fun c _ e => by omega) (fun _ _ _ => hx) (fun r _ e => by omega) (fun j _ e => by omega)
set_option maxRecDepth 16384 in
theorem wf_col {f : Nat → Int32} (w : Wf f) {c : Nat} {x : Int32} (hc : c < 12) (hx : Sc 99999999 x) : Wf (upd f (8 + 4 * c) x) :=
  wf_upd w (fun e => by omega) (fun e => by omega) (fun e => by omega) (fun _ _ _ => hx) (fun c _ e => by omega) (fun r _ e => by omega) (fun j _ e => by omega)
set_option maxRecDepth 16384 in
theorem mk_up {h0 : Hp} (m : Mk h0 h) {i : Nat} {x : Int32} (w : Wf (upd (rd h 141) i x)) : Mk h0 (up2 h 141 i x) :=
  ⟨by rw [rd_up2_self]; exact w, fun k a => by rw [rd_up2_ne a]; exact m.2 k a⟩
set_option maxRecDepth 16384 in
theorem w106 {i : Nat} (hi : i < 106) (x : Int32) : wrO h 141 106 (nI i) x = some (up2 h 141 i x) := wrO_in hi (by decide)
set_option maxRecDepth 16384 in
theorem madds_ok (w : Wf (rd h 141)) {n : Nat} (hn : rd h 141 2 = nI n) (hl : n < 12) {p : Int32} (hp : Sc 99999999 p) : ∃ h', M_adds h p = some (nI n, h') ∧ Mk h h' := by
  obtain ⟨h', e, f, r⟩ := adds_ok hn hl p
  refine ⟨h', e, ?_, f⟩
  rw [r]
  have w1 : Wf (upd (rd h 141) 2 (nI (n + 1))) := wf_upd w (fun _ => ⟨n + 1, by omega, rfl⟩) (fun e => by omega) (fun e => by omega) (fun c _ e => by omega) (fun c _ e => by omega) (fun r _ e => by omega) (fun j _ e => by omega)
  have w2 : Wf (upd (upd (rd h 141) 2 (nI (n + 1))) (8 + 4 * n) p) := wf_col w1 hl hp
  exact wf_free (wf_fat (wf_free w2 (by omega)) hl ⟨40, by decide, rfl⟩) (by omega)
set_option maxRecDepth 16384 in
theorem mhangs_ok (w : Wf (rd h 141)) {n b : Nat} (hn : rd h 141 3 = nI n) (hl : n < 4) (hb : b ≤ 9) (b1 : 1 ≤ b) : ∃ h', M_hangs h (nI b) = some (nI n, h') ∧ Mk h h' := by
  obtain ⟨h3, e3⟩ : ∃ h3, h3 = up2 h 141 3 (nI (n + 1)) := ⟨_, rfl⟩
  obtain ⟨h4, e4⟩ : ∃ h4, h4 = up2 h3 141 (56 + n) (nI b) := ⟨_, rfl⟩
  have k4 : ∀ k, k ≠ 141 → rd h4 k = rd h k := fun k a => by rw [e4, rd_up2_ne a, e3, rd_up2_ne a]
  have r4 : rd h4 141 = upd (upd (rd h 141) 3 (nI (n + 1))) (56 + n) (nI b) := by rw [e4, rd_up2_self, e3, rd_up2_self]
  have w4 : Wf (rd h4 141) := by
    have w1 : Wf (upd (rd h 141) (56 + n) (nI b)) := wf_upd w (fun e => by omega) (fun e => by omega) (fun e => by omega) (fun c _ e => by omega) (fun c _ e => by omega) (fun r _ e => ⟨⟨b, hb, rfl⟩, fun _ => nI_ne0 b1 (by omega)⟩) (fun j _ e => by omega)
    have w2 : Wf (upd (upd (rd h 141) (56 + n) (nI b)) 3 (nI (n + 1))) := wf_upd w1 (fun e => by omega) (fun _ => ⟨⟨n + 1, by omega, rfl⟩, fun r hr q => by
      have q := (nI_ltI (by omega) (by omega)).mp q
      by_cases c : r = n
      · subst c; rw [upd_self]; exact nI_ne0 b1 (by omega)
      · rw [upd_ne (by omega)]; exact w.2.2.2.2.2.2.1 r hr (by rw [hn]; exact nI_lt (by omega) (by omega))⟩) (fun e => by omega) (fun c _ e => by omega) (fun c _ e => by omega) (fun r _ e => by omega) (fun j _ e => by omega)
    rw [r4]
    refine w2.cg fun i _ => ?_
    by_cases c : i = 56 + n
    · subst c; rw [upd_self, upd_ne (by omega), upd_self]
    · rw [upd_ne c]
      by_cases d : i = 3
      · subst d; rw [upd_self, upd_self]
      · rw [upd_ne d, upd_ne d, upd_ne c]
  obtain ⟨h', e, m⟩ := loop0 (fun k (s : Hp) v => M_hangs_L29 (nI b) (nI n) k (nI v) s) 9 (fun s v => Mk h4 s) (fun s => Mk h4 s) (by decide) (fun k s v hv m => by
    rw [M_hangs_L29]
    by_cases q : b ≤ v
    · exact Or.inl ⟨_, if_pos (nI_le q (by omega)), m⟩
    · rw [if_neg (nI_ge (by omega) (by omega)), msetBed_eq hl (by omega), Option.bind_some, nI_1]
      exact Or.inr ⟨by omega, _, mk_up m (wf_bed m.1 (by omega) (Or.inl rfl)), rfl⟩) h4 (Mk.rf w4)
  have e : M_hangs_L29 (nI b) (nI n) FU 0 h4 = some h' := e
  refine ⟨h', ?_, m.1, fun k a => (m.2 k a).trans (k4 k a)⟩
  unfold M_hangs
  rw [m3, Option.bind_some, Option.bind_some, hn, nI_1]
  have x3 : wrO h 141 106 3 (nI (n + 1)) = some h3 := by rw [e3]; exact w106 (i := 3) (by decide) _
  rw [x3, Option.bind_some, show (56 : Int32) = nI 56 from rfl, nI_add, w106 (by omega), Option.bind_some, ← e4, e, Option.bind_some]
set_option maxRecDepth 16384 in
theorem mopens_ok (w : Wf (rd h 141)) {n : Nat} (hn : rd h 141 4 = nI n) (hl : n < 5) (x : Int32) : ∃ h', M_opens h x = some (nI n, h') ∧ Mk h h' := by
  obtain ⟨h2, e2⟩ : ∃ h2, h2 = up2 h 141 (96 + 2 * n + 0) x := ⟨_, rfl⟩
  obtain ⟨h3, e3⟩ : ∃ h3, h3 = up2 h2 141 (96 + 2 * n + 1) x := ⟨_, rfl⟩
  obtain ⟨h5, e5⟩ : ∃ h5, h5 = up2 h3 141 4 (nI (n + 1)) := ⟨_, rfl⟩
  have m3' : Mk h h3 := by
    rw [e3, e2]
    refine mk_up (mk_up (Mk.rf w) (wf_free w (by omega))) ?_
    rw [rd_up2_self]
    exact wf_free (wf_free w (by omega)) (by omega)
  have r4 : rd h3 141 4 = nI n := by rw [e3, rd_up2_self, upd_ne (by omega), e2, rd_up2_self, upd_ne (by omega), hn]
  have m5 : Mk h h5 := by
    rw [e5]
    exact mk_up m3' (wf_upd m3'.1 (fun e => by omega) (fun e => by omega) (fun _ => ⟨n + 1, by omega, rfl⟩) (fun c _ e => by omega) (fun c _ e => by omega) (fun r _ e => by omega) (fun j _ e => by omega))
  have r5 : rd h5 141 4 = nI (n + 1) := by rw [e5, rd_up2_self, upd_self]
  refine ⟨h5, ?_, m5⟩
  have i96 : ∀ f : Nat, ((96 : Int32) + 2 * nI n) + nI f = nI (96 + 2 * n + f) := fun f => by
    rw [show (96 : Int32) = nI 96 from rfl, show (2 : Int32) = nI 2 from rfl, pk_mul, nI_add, nI_add]
  have x2 : wrO h 141 106 (((96 : Int32) + 2 * nI n) + 0) x = some h2 := by
    rw [show (0 : Int32) = nI 0 from rfl, i96, w106 (by omega), e2]
  have x3 : wrO h2 141 106 (((96 : Int32) + 2 * nI n) + 1) x = some h3 := by
    rw [show (1 : Int32) = nI 1 from rfl, i96, w106 (by omega), e3]
  have x5 : wrO h3 141 106 4 (nI (n + 1)) = some h5 := by rw [e5]; exact w106 (i := 4) (by decide) _
  unfold M_opens
  rw [m4, Option.bind_some, hn, x2, Option.bind_some, x3, Option.bind_some, m4, Option.bind_some, r4, nI_1, x5, Option.bind_some, m4, Option.bind_some, r5, nI_pred]
set_option maxRecDepth 16384 in
theorem mliesDown_eq (w : Wf (rd h 141)) {c r : Nat} (hc : c < 12) (hr : r < 4) (hu : ∃ u, M_passedBy h (nI c) (nI r) = some u ∧ u ≠ -1) : ∃ q m k, q ≤ 996 ∧ m ≤ 9 ∧ M_hashOf h (nI c) = some (nI q) ∧ rd h 141 (56 + r) = nI m ∧ k < m ∧ ¬ 0 ≤ rd h 141 (60 + (9 * r + (q + k) % m)) ∧ (∀ j, j < k → 0 ≤ rd h 141 (60 + (9 * r + (q + j) % m))) ∧ M_liesDown h (nI c) (nI r) = some (nI ((q + k) % m), up2 (up2 h 141 (60 + (9 * r + (q + k) % m)) (nI c)) 141 (8 + 4 * c + 1) 1) ∧ Mk h (up2 (up2 h 141 (60 + (9 * r + (q + k) % m)) (nI c)) 141 (8 + 4 * c + 1) 1) := by
  obtain ⟨u, eu, nu⟩ := hu
  obtain ⟨q, m, v, hq, hm, eq, em, ev, p⟩ := mpassedBy_ok w hc hr
  rw [eu] at ev
  obtain rfl := Option.some.inj ev
  rcases p with ⟨a, -⟩ | ⟨k, hk, rfl, p1, p2⟩
  · exact absurd a nu
  · have hb := Nat.mod_lt (q + k) (show 0 < m by omega)
    refine ⟨q, m, k, hq, hm, eq, em, hk, p1, p2, ?_, ?_⟩
    · unfold M_liesDown
      have t1 : ∀ (g : Hp) (x : Int32), M_to g (nI c) 1 x = some (up2 g 141 (8 + 4 * c + 1) x) := fun g x => mto_ok (f := 1) hc (by decide) x
      rw [eu, Option.bind_some, monWay_eq hr eq hq em hm (by omega) (by omega), Option.bind_some, msetBed_eq hr (by omega), Option.bind_some, t1, Option.bind_some]
    · refine mk_up (mk_up (Mk.rf w) (wf_bed w (by omega) (Or.inr (Or.inr ⟨c, hc, rfl⟩)))) ?_
      rw [rd_up2_self]
      exact wf_free (wf_bed w (by omega) (Or.inr (Or.inr ⟨c, hc, rfl⟩))) (by omega)
set_option maxRecDepth 16384 in
theorem mleaves_eq (w : Wf (rd h 141)) {c : Nat} (hc : c < 12) (x : Int32) : ((∀ r b, Em (rd h 141) r b → rd h 141 (60 + (9 * r + b)) ≠ nI c) ∧ M_leaves h (nI c) x = some (-1, up2 h 141 (8 + 4 * c + 1) x)) ∨ ∃ r b, Em (rd h 141) r b ∧ rd h 141 (60 + (9 * r + b)) = nI c ∧ M_leaves h (nI c) x = some (nI r, up2 (up2 h 141 (60 + (9 * r + b)) (-2)) 141 (8 + 4 * c + 1) x) := by
  have t1 : ∀ (g : Hp) (x : Int32), M_to g (nI c) 1 x = some (up2 g 141 (8 + 4 * c + 1) x) := fun g x => mto_ok (f := 1) hc (by decide) x
  obtain ⟨v, ev, p⟩ := mreelWith_ok w (nI c)
  unfold M_leaves lt
  dsimp only
  rw [ev, Option.bind_some]
  rcases p with ⟨rfl, p⟩ | ⟨r, b, hb, rfl, eb, e2⟩
  · exact Or.inl ⟨p, by rw [if_pos rfl, t1, Option.bind_some]⟩
  · have h1 := hb.1
    have h2 := hb.2.1
    exact Or.inr ⟨r, b, hb, eb, by rw [if_neg (nI_nm1 (by omega)), e2, Option.bind_some, msetBed_eq h1 h2, Option.bind_some, t1, Option.bind_some]⟩
set_option maxRecDepth 16384 in
theorem mleaves_ok (w : Wf (rd h 141)) {c : Nat} (hc : c < 12) (x : Int32) : ∃ v h', M_leaves h (nI c) x = some (v, h') ∧ Mk h h' := by
  rcases mleaves_eq w hc x with ⟨-, e⟩ | ⟨r, b, hb, -, e⟩
  · exact ⟨_, _, e, mk_up (Mk.rf w) (wf_free w (by omega))⟩
  · have h1 := hb.1
    have h2 := hb.2.1
    refine ⟨_, _, e, mk_up (mk_up (Mk.rf w) (wf_bed w (by omega) (Or.inr (Or.inl rfl)))) ?_⟩
    rw [rd_up2_self]
    exact wf_free (wf_bed w (by omega) (Or.inr (Or.inl rfl))) (by omega)
set_option maxRecDepth 16384 in
theorem mcuts_ok (w : Wf (rd h 141)) {s : Nat} (hs : s < 5) {y : Int32} (hy : Sc 99999999 y) : ∃ v h', M_cuts h (nI s) y = some (v, h') ∧ Mk h h' := by
  have i96 : ((96 : Int32) + 2 * nI s) + 1 = nI (96 + 2 * s + 1) := by
    rw [show (96 : Int32) = nI 96 from rfl, show (2 : Int32) = nI 2 from rfl, pk_mul, nI_add, nI_1]
  have sc1 : ∀ g : Hp, M_scene g (nI s) 1 = some (rd g 141 (96 + 2 * s + 1)) := fun g => mscene_ok (f := 1) hs (by decide)
  have inner : ∀ (r : Nat) (hr : r < 4) (z : Int32) (g : Hp), Mk h g → ∃ z' g', M_cuts_L19 (nI s) y (nI r) FU z 0 g = some (z', g') ∧ Mk h g' := fun r hr z g wg => by
    obtain ⟨⟨z', g'⟩, e, p⟩ := loop0 (fun n (u : Int32 × Hp) v => M_cuts_L19 (nI s) y (nI r) n u.1 (nI v) u.2) 9 (fun u _ => Mk h u.2) (fun u => Mk h u.2) (by decide) (fun n u v hv m => by
      obtain ⟨b, hb, eb⟩ := m.1.2.2.2.2.2.1 r hr
      rw [M_cuts_L19, mbeds_ok hr, Option.bind_some, eb]
      by_cases q : b ≤ v
      · exact Or.inl ⟨_, if_pos (nI_le q (by omega)), m⟩
      · rw [if_neg (nI_ge (by omega) (by omega)), minBed_ok hr (by omega), Option.bind_some, nI_1]
        refine Or.inr ⟨by omega, ?_⟩
        by_cases q0 : rd u.2 141 (60 + (9 * r + v)) < 0
        · rw [if_pos q0]; exact ⟨u, m, rfl⟩
        · rw [if_neg q0]
          obtain ⟨c, hc, ec⟩ : ∃ c, c < 12 ∧ rd u.2 141 (60 + (9 * r + v)) = nI c := by
            rcases m.1.2.2.2.2.2.2.2 (9 * r + v) (by omega) with a | a | a
            · rw [a] at q0; exact absurd (by decide) q0
            · rw [a] at q0; exact absurd (by decide) q0
            · exact a
          rw [ec, sc1, Option.bind_some]
          by_cases q1 : rd u.2 141 (96 + 2 * s + 1) ≤ 0
          · rw [if_pos q1]; exact ⟨u, m, rfl⟩
          · obtain ⟨x, ex⟩ := mmatchOf_ok m.1 hc hy
            rw [if_neg q1, ex, Option.bind_some]
            by_cases q2 : x = -1
            · rw [if_pos q2]; exact ⟨u, m, rfl⟩
            · obtain ⟨t, g7, e7, m7⟩ := mleaves_ok m.1 hc 0
              have t3 : ∀ (g : Hp) (x : Int32), M_to g (nI c) 3 x = some (up2 g 141 (8 + 4 * c + 3) x) := fun g x => mto_ok (f := 3) hc (by decide) x
              rw [if_neg q2, e7, Option.bind_some]
              dsimp only
              obtain ⟨g9, e9⟩ : ∃ g9, g9 = up2 g7 141 (8 + 4 * c + 3) (nI s) := ⟨_, rfl⟩
              have m9 : Mk h g9 := by rw [e9]; exact mk_up (m.tr m7) (wf_free m7.1 (by omega))
              rw [t3, Option.bind_some, ← e9, i96, r106 (by omega), Option.bind_some, w106 (by omega), Option.bind_some]
              obtain ⟨g11, e11⟩ : ∃ g11, g11 = up2 g9 141 (96 + 2 * s + 1) (rd g9 141 (96 + 2 * s + 1) - 1) := ⟨_, rfl⟩
              have m11 : Mk h g11 := by rw [e11]; exact mk_up m9 (wf_free m9.1 (by omega))
              have x7 : ∀ x, wrO g11 141 106 7 x = some (up2 g11 141 7 x) := fun x => w106 (i := 7) (by decide) x
              have y7 : rdO 106 (rd g11 141) 7 = some (rd g11 141 7) := r106 (i := 7) (by decide)
              rw [← e11, y7, Option.bind_some, x7, Option.bind_some]
              exact ⟨(_, _), mk_up m11 (wf_free m11.1 (by omega)), rfl⟩) (z, g) wg
    exact ⟨z', g', e, p⟩
  obtain ⟨⟨z, h'⟩, e, p⟩ := loop0 (fun n (u : Int32 × Hp) v => M_cuts_L5 (nI s) y n u.1 (nI v) u.2) 4 (fun u _ => Mk h u.2) (fun u => Mk h u.2) (by decide) (fun n u v hv m => by
    obtain ⟨t, ht, et⟩ := m.1.2.1
    rw [M_cuts_L5, m3, Option.bind_some, et]
    by_cases q : t ≤ v
    · exact Or.inl ⟨_, if_pos (nI_le q (by omega)), m⟩
    · obtain ⟨z', g, ez, wz⟩ := inner v (by omega) u.1 u.2 m
      rw [if_neg (nI_ge (by omega) (by omega)), ez, Option.bind_some, nI_1]
      exact Or.inr ⟨by omega, (z', g), wz, rfl⟩) (0, h) (Mk.rf w)
  refine ⟨z, h', ?_, p⟩
  have e : M_cuts_L5 (nI s) y FU 0 0 h = some (z, h') := e
  unfold M_cuts
  rw [e, Option.bind_some]
set_option maxRecDepth 16384 in
theorem mairs_ok (w : Wf (rd h 141)) {r : Nat} (hr : r < 4) : ∃ v h', M_airs h (nI r) = some (v, h') ∧ Mk h h' := by
  obtain ⟨m, hm, em⟩ := w.2.2.2.2.2.1 r hr
  obtain ⟨S, hS, eS, hcnt, pS⟩ := msleepersIn_ok w hr hm em
  obtain ⟨⟨x, h8⟩, e1, m8, em8, z8⟩ := loop0 (fun n (u : Int32 × Hp) v => M_airs_L11 (nI r) n u.1 (nI v) u.2) 9 (fun u v => Mk h u.2 ∧ rd u.2 141 (56 + r) = nI m ∧ ∀ b, b < v → rd u.2 141 (60 + (9 * r + b)) = -1) (fun u => Mk h u.2 ∧ rd u.2 141 (56 + r) = nI m ∧ ∀ b, b < m → rd u.2 141 (60 + (9 * r + b)) = -1) (by decide) (fun n u v hv hj => by
    obtain ⟨mu, emu, zu⟩ := hj
    rw [M_airs_L11, mbeds_ok hr, Option.bind_some, emu]
    by_cases q : m ≤ v
    · exact Or.inl ⟨_, if_pos (nI_le q (by omega)), mu, emu, fun b hb => zu b (by omega)⟩
    · rw [if_neg (nI_ge (by omega) (by omega)), minBed_ok hr (by omega), Option.bind_some]
      unfold lt
      dsimp only
      rw [msetBed_eq hr (by omega), Option.bind_some, nI_1]
      have next : Mk h (up2 u.2 141 (60 + (9 * r + v)) (-1)) ∧ rd (up2 u.2 141 (60 + (9 * r + v)) (-1)) 141 (56 + r) = nI m ∧ ∀ b, b < v + 1 → rd (up2 u.2 141 (60 + (9 * r + v)) (-1)) 141 (60 + (9 * r + b)) = -1 := by
        refine ⟨mk_up mu (wf_bed mu.1 (by omega) (Or.inl rfl)), ?_, fun b hb => ?_⟩
        · rw [rd_up2_self, upd_ne (by omega)]; exact emu
        · rw [rd_up2_self]
          by_cases c : b = v
          · subst c; rw [upd_self]
          · rw [upd_ne (by omega)]; exact zu b (by omega)
      refine Or.inr ⟨by omega, ?_⟩
      by_cases q2 : rd u.2 141 (60 + (9 * r + v)) = -2
      · rw [if_pos q2]; exact ⟨(_, _), next, rfl⟩
      · rw [if_neg q2]; exact ⟨(_, _), next, rfl⟩) (0, h) ⟨Mk.rf w, em, fun b hb => absurd hb (Nat.not_lt_zero _)⟩
  have e1 : M_airs_L11 (nI r) FU 0 0 h = some (x, h8) := e1
  dsimp only at m8 em8 z8
  obtain ⟨h', e2, m2'⟩ := loop0 (fun n (s : Hp) v => M_airs_L58 (nI r) (nI S) n (nI v) s) 12 (fun s v => Mk h s ∧ rd s 141 (56 + r) = nI m ∧ cntB (rd s 141) r m ≤ cntS S v) (fun s => Mk h s) (by decide) (fun n s v hv hj => by
    obtain ⟨ms, ems, cs⟩ := hj
    obtain ⟨t, ht, et⟩ := ms.1.1
    rw [M_airs_L58, m2, Option.bind_some, et]
    by_cases q : t ≤ v
    · exact Or.inl ⟨_, if_pos (nI_le q (by omega)), ms⟩
    · rw [if_neg (nI_ge (by omega) (by omega)), nI_1]
      refine Or.inr ⟨by omega, ?_⟩
      have hv12 : v < 12 := by omega
      by_cases q2 : (nI S >>> (nI v &&& 31)) &&& 1 = 1
      · have tb := (bit_c (by omega) hv12).mp q2
        have c1 : cntS S (v + 1) = cntS S v + 1 := by rw [cntS, if_pos tb]
        have c2 := cntS_mono S (show v + 1 ≤ 12 by omega)
        have free : ∃ b, b < m ∧ ¬ 0 ≤ rd s 141 (60 + (9 * r + b)) := cntB_free _ _ _ (by omega)
        have hu : ∃ u, M_passedBy s (nI v) (nI r) = some u ∧ u ≠ -1 := by
          obtain ⟨q, m', u, hq, hm', eq, em', eu, p⟩ := mpassedBy_ok ms.1 hv12 hr
          rw [ems] at em'
          obtain rfl : m = m' := (nI_eq (by omega) (by omega)).mp em'
          refine ⟨u, eu, ?_⟩
          rcases p with ⟨-, p⟩ | ⟨k, hk, rfl, -⟩
          · obtain ⟨b, hb, eb⟩ := free
            obtain ⟨k, hk, ek⟩ := way_all (q := q) hb
            exact absurd (by rw [← ek]; exact p k hk) eb
          · exact nI_nm1 (by omega)
        obtain ⟨q', m', k, hq', hm', eq', em', hk, p1, p2, e3, m3'⟩ := mliesDown_eq ms.1 hv12 hr hu
        rw [ems] at em'
        obtain rfl : m = m' := (nI_eq (by omega) (by omega)).mp em'
        have hb := Nat.mod_lt (q' + k) (show 0 < m by omega)
        rw [if_pos q2, e3, Option.bind_some]
        refine ⟨_, ⟨ms.tr m3', ?_, ?_⟩, rfl⟩
        · rw [rd_up2_self, upd_ne (by omega), rd_up2_self, upd_ne (by omega)]; exact ems
        · rw [rd_up2_self, rd_up2_self]
          have a1 := cntB_upd (upd (rd s 141) (60 + (9 * r + (q' + k) % m)) (nI v)) r (8 + 4 * v + 1) 1 m
          have a2 := cntB_upd (rd s 141) r (60 + (9 * r + (q' + k) % m)) (nI v) m
          rw [if_neg (by omega)] at a1
          rw [if_pos (by omega)] at a2
          omega
      · rw [if_neg q2]
        refine ⟨s, ⟨ms, ems, Nat.le_trans cs (cntS_mono S (by omega))⟩, rfl⟩) h8 ⟨m8, em8, by rw [cntB_none _ _ _ z8]; exact Nat.zero_le _⟩
  have e2 : M_airs_L58 (nI r) (nI S) FU 0 h8 = some h' := e2
  refine ⟨x, h', ?_, m2'⟩
  unfold M_airs
  rw [eS, Option.bind_some, e1, Option.bind_some]
  dsimp only
  rw [e2, Option.bind_some]
set_option maxRecDepth 16384 in
theorem mcanFeed_ok {c : Nat} (hc : c < 12) (x : Int32) : ∃ b, M_canFeed h (nI c) x = some b ∧ (b = true → rd h 141 (8 + 4 * c + 1) = 0 ∧ ¬ rd h 141 1 < x ∧ ¬ 99 < rd h 141 (8 + 4 * c + 2) + x) := by
  have y1 : rdO 106 (rd h 141) 1 = some (rd h 141 1) := r106 (i := 1) (by decide)
  unfold M_canFeed
  rw [mof1 hc, Option.bind_some, y1, Option.bind_some, mof2 hc, Option.bind_some]
  by_cases e1 : rd h 141 (8 + 4 * c + 1) = 0
  · rw [if_pos e1]
    by_cases e2 : rd h 141 1 < x
    · rw [if_pos e2]; exact ⟨_, rfl, fun q => by cases q⟩
    · rw [if_neg e2]
      by_cases e3 : 99 < rd h 141 (8 + 4 * c + 2) + x
      · rw [if_pos e3]; exact ⟨_, rfl, fun q => by cases q⟩
      · rw [if_neg e3]; exact ⟨_, rfl, fun _ => ⟨e1, e2, e3⟩⟩
  · rw [if_neg e1]; exact ⟨_, rfl, fun q => by cases q⟩
set_option maxRecDepth 16384 in
theorem mfeeds_ok (w : Wf (rd h 141)) {c x : Nat} (hc : c < 12) (hx : x ≤ 50) (hm : ¬ 99 < rd h 141 (8 + 4 * c + 2) + nI x) : ∃ v h', M_feeds h (nI c) (nI x) = some (v, h') ∧ Mk h h' := by
  obtain ⟨f, hf, ef⟩ := w.2.2.2.2.1 c hc
  obtain ⟨h', e, k, r⟩ := feeds_eq (h := h) hc (nI x)
  refine ⟨_, h', e, ?_, k⟩
  rw [r]
  refine wf_free (wf_free (wf_fat w hc ?_) (by omega)) (by omega)
  rw [ef, nI_add] at hm ⊢
  refine ⟨f + x, ?_, rfl⟩
  by_cases z : 99 < f + x
  · exact absurd (nI_lt (a := 99) z (by omega)) hm
  · omega
set_option maxRecDepth 16384 in
theorem mpaints_ok (w : Wf (rd h 141)) {c x : Nat} (hc : c < 12) (hx : x ≤ 9) (i : Int32) : ∃ v h', M_paints h (nI c) i (nI x) = some (v, h') ∧ Mk h h' := by
  have hcol := w.2.2.2.1 c hc
  obtain ⟨d, hd, ed, -, -⟩ := mdigits_ok hcol
  obtain ⟨r, e, hr⟩ := loop0 (fun n s v => M_paints_L6 h (nI c) i (nI x) n s (nI v)) 8 (fun s v => ∃ y, y < 10 ^ v ∧ s = nI y) (fun r => Sc 99999999 r) (by decide) (fun n s v hv hs => by
    obtain ⟨y, hy, rfl⟩ := hs
    have p8 : 10 ^ v ≤ 10 ^ 8 := Nat.pow_le_pow_right (by decide) hv
    rw [M_paints_L6, mof0 hc, Option.bind_some, ed, Option.bind_some]
    by_cases q : d ≤ v
    · exact Or.inl ⟨_, if_pos (nI_le q (by omega)), ⟨y, by omega, rfl⟩⟩
    · rw [if_neg (nI_ge (by omega) (by omega)), nI_1]
      have next : ∀ k, k ≤ 9 → ∃ y', y' < 10 ^ (v + 1) ∧ 10 * nI y + nI k = nI y' := fun k hk => ⟨10 * y + k, by rw [Nat.pow_succ]; omega, by rw [show (10 : Int32) = nI 10 from rfl, pk_mul, nI_add]⟩
      refine Or.inr ⟨by omega, ?_⟩
      by_cases q2 : nI v = i
      · rw [if_pos q2]; exact ⟨_, next x hx, rfl⟩
      · obtain ⟨k, hk, ek⟩ := mdigit_ok hcol (i := v) (by omega)
        rw [if_neg q2, Option.bind_some, ek, Option.bind_some]
        exact ⟨_, next k hk, rfl⟩) 0 ⟨0, by decide, rfl⟩
  have e : M_paints_L6 h (nI c) i (nI x) FU 0 0 = some r := e
  have t0 : M_to h (nI c) 0 r = some (up2 h 141 (8 + 4 * c) r) := mto_ok (f := 0) hc (by decide) r
  have m7 : Mk h (up2 h 141 (8 + 4 * c) r) := mk_up (Mk.rf w) (wf_col w hc hr)
  obtain ⟨q, -, eq⟩ := mhashOf_ok m7.1 hc
  refine ⟨nI q, _, ?_, m7⟩
  unfold M_paints
  rw [e, Option.bind_some, t0, Option.bind_some, eq, Option.bind_some]
set_option maxRecDepth 16384 in
theorem mburns_eq (w : Wf (rd h 141)) {c : Nat} (hc : c < 12) : (rd h 141 (8 + 4 * c + 1) = 2 ∧ M_burns h (nI c) = some (false, h)) ∨ ∃ f h8, rd h 141 (8 + 4 * c + 1) ≠ 2 ∧ f ≤ 99 ∧ rd h 141 (8 + 4 * c + 2) = nI f ∧ h8 = up2 (up2 h 141 (8 + 4 * c + 2) (nI (f - loss (rd h 141 (8 + 4 * c + 1)) f))) 141 5 (rd h 141 5 + nI (loss (rd h 141 (8 + 4 * c + 1)) f)) ∧ Mk h h8 ∧ ((f - loss (rd h 141 (8 + 4 * c + 1)) f ≠ 0 ∧ M_burns h (nI c) = some (false, h8)) ∨ (f - loss (rd h 141 (8 + 4 * c + 1)) f = 0 ∧ ∃ t h12, M_leaves h8 (nI c) 2 = some (t, h12) ∧ Mk h h12 ∧ rd h12 141 (8 + 4 * c + 2) = 0 ∧ M_burns h (nI c) = some (true, h12))) := by
  obtain ⟨f, hf, ef⟩ := w.2.2.2.2.1 c hc
  by_cases e1 : rd h 141 (8 + 4 * c + 1) = 2
  · refine Or.inl ⟨e1, ?_⟩
    unfold M_burns
    rw [mof1 hc, Option.bind_some, if_pos e1]
  · obtain ⟨l, hl⟩ : ∃ l, l = loss (rd h 141 (8 + 4 * c + 1)) f := ⟨_, rfl⟩
    have hlf : l ≤ f := by rw [hl]; exact Nat.min_le_left _ _
    obtain ⟨h6, e6⟩ : ∃ h6, h6 = up2 h 141 (8 + 4 * c + 2) (nI (f - l)) := ⟨_, rfl⟩
    obtain ⟨h8, e8⟩ : ∃ h8, h8 = up2 h6 141 5 (rd h 141 5 + nI l) := ⟨_, rfl⟩
    have M6 : Mk h h6 := by rw [e6]; exact mk_up (Mk.rf w) (wf_fat w hc ⟨f - l, by omega, rfl⟩)
    have M8 : Mk h h8 := by rw [e8]; exact mk_up M6 (wf_free M6.1 (by omega))
    have r5 : rd h6 141 5 = rd h 141 5 := by rw [e6, rd_up2_self, upd_ne (by omega)]
    have rf : rd h8 141 (8 + 4 * c + 2) = nI (f - l) := by rw [e8, rd_up2_self, upd_ne (by omega), e6, rd_up2_self, upd_self]
    have z : ∀ v : Nat, v = (if rd h 141 (8 + 4 * c + 1) = 1 then 1 else 4) → mnI (nI f) (nI v) = nI l := fun v hw => by
      rw [mn_nI (by omega) (by rw [hw]; by_cases q : rd h 141 (8 + 4 * c + 1) = 1 <;> simp [q]), hl, loss, hw]
    have t2 : ∀ (g : Hp) (x : Int32), M_to g (nI c) 2 x = some (up2 g 141 (8 + 4 * c + 2) x) := fun g x => mto_ok (f := 2) hc (by decide) x
    have y5 : ∀ g : Hp, rdO 106 (rd g 141) 5 = some (rd g 141 5) := fun g => r106 (i := 5) (by decide)
    have x5 : ∀ (g : Hp) (x : Int32), wrO g 141 106 5 x = some (up2 g 141 5 x) := fun g x => w106 (i := 5) (by decide) x
    have key : M_burns h (nI c) = if nI (f - l) = 0 then (M_leaves h8 (nI c) 2).bind fun (t11, h12) => (M_of h12 (nI c) 2).bind fun t10 => if t10 = 0 then some (true, h12) else some (false, h12) else (M_of h8 (nI c) 2).bind fun t10 => if t10 = 0 then some (true, h8) else some (false, h8) := by
      unfold M_burns lt
      dsimp only
      rw [mof1 hc, Option.bind_some, if_neg e1, mof2 hc, Option.bind_some, Option.bind_some, ef]
      by_cases q : rd h 141 (8 + 4 * c + 1) = 1
      · have z1 := z 1 (by rw [if_pos q])
        rw [show nI 1 = (1 : Int32) from rfl] at z1
        rw [if_pos q, Option.bind_some, z1, sub_nI hlf, t2, Option.bind_some, ← e6, y5, Option.bind_some, r5, x5, Option.bind_some, ← e8, mof2 hc, Option.bind_some, rf, Option.bind_some]
      · have z1 := z 4 (by rw [if_neg q])
        rw [show nI 4 = (4 : Int32) from rfl] at z1
        rw [if_neg q, Option.bind_some, z1, sub_nI hlf, t2, Option.bind_some, ← e6, y5, Option.bind_some, r5, x5, Option.bind_some, ← e8, mof2 hc, Option.bind_some, rf, Option.bind_some]
    refine Or.inr ⟨f, h8, e1, hf, ef, by rw [← hl, e8, e6], M8, ?_⟩
    rw [← hl, key]
    by_cases q : f - l = 0
    · obtain ⟨t, h12, e12, m12⟩ := mleaves_ok M8.1 hc 2
      have r12 : rd h12 141 (8 + 4 * c + 2) = 0 := by
        have r0 : rd h8 141 (8 + 4 * c + 2) = 0 := by rw [rf, q]; rfl
        rcases mleaves_eq M8.1 hc 2 with ⟨-, e⟩ | ⟨r, b, hb, -, e⟩
        · rw [e12] at e
          have := congrArg Prod.snd (Option.some.inj e)
          dsimp only at this
          rw [this, rd_up2_self, upd_ne (by omega)]; exact r0
        · rw [e12] at e
          have := congrArg Prod.snd (Option.some.inj e)
          have h1 := hb.1
          dsimp only at this
          rw [this, rd_up2_self, upd_ne (by omega), rd_up2_self, upd_ne (by omega)]; exact r0
      refine Or.inr ⟨q, t, h12, e12, M8.tr m12, r12, ?_⟩
      rw [q, if_pos (by decide), e12, Option.bind_some]
      dsimp only
      rw [mof2 hc, Option.bind_some, if_pos r12]
    · refine Or.inl ⟨q, ?_⟩
      have n0 : ¬ nI (f - l) = 0 := nI_ne0 (by omega) (by omega)
      rw [if_neg n0, mof2 hc, Option.bind_some, rf, if_neg n0]
set_option maxRecDepth 16384 in
theorem mburns_ok (w : Wf (rd h 141)) {c : Nat} (hc : c < 12) : ∃ v h', M_burns h (nI c) = some (v, h') ∧ Mk h h' := by
  rcases mburns_eq w hc with ⟨-, e⟩ | ⟨f, h8, -, -, -, -, m8, ⟨-, e⟩ | ⟨-, t, h12, -, m12, -, e⟩⟩
  · exact ⟨_, _, e, Mk.rf w⟩
  · exact ⟨_, _, e, m8⟩
  · exact ⟨_, _, e, m12⟩
set_option maxRecDepth 16384 in
theorem mpasses_ok (w : Wf (rd h 141)) {k : Nat} (hk : k ≤ 50) : ∃ v h', M_passes h (nI k) = some (v, h') ∧ Mk h h' := by
  have days : ∀ (x : Int32) (g : Hp), Mk h g → ∃ y g', M_passes_L22 FU x 0 g = some (y, g') ∧ Mk h g' := fun x g wg => by
    obtain ⟨⟨y, g'⟩, e, p⟩ := loop0 (fun n (u : Int32 × Hp) v => M_passes_L22 n u.1 (nI v) u.2) 12 (fun u _ => Mk h u.2) (fun u => Mk h u.2) (by decide) (fun n u v hv m => by
      obtain ⟨t, ht, et⟩ := m.1.1
      rw [M_passes_L22, m2, Option.bind_some, et]
      by_cases q : t ≤ v
      · exact Or.inl ⟨_, if_pos (nI_le q (by omega)), m⟩
      · obtain ⟨b, g, eb, wb⟩ := mburns_ok m.1 (by omega : v < 12)
        rw [if_neg (nI_ge (by omega) (by omega)), eb, Option.bind_some, nI_1]
        dsimp only
        refine Or.inr ⟨by omega, ?_⟩
        by_cases z : b2i b = 0
        · rw [if_pos z]; exact ⟨(_, g), m.tr wb, rfl⟩
        · rw [if_neg z]; exact ⟨(_, g), m.tr wb, rfl⟩) (x, g) wg
    exact ⟨y, g', e, p⟩
  have fill : ∀ g : Hp, Mk h g → ∃ g', M_passes_L59 FU 0 g = some g' ∧ Mk h g' := fun g wg => by
    obtain ⟨g', e, p⟩ := loop0 (fun n (u : Hp) v => M_passes_L59 n (nI v) u) 5 (fun u _ => Mk h u) (fun u => Mk h u) (by decide) (fun n u v hv m => by
      obtain ⟨t, ht, et⟩ := m.1.2.2.1
      have i96 : ∀ f : Nat, ((96 : Int32) + 2 * nI v) + nI f = nI (96 + 2 * v + f) := fun f => by
        rw [show (96 : Int32) = nI 96 from rfl, show (2 : Int32) = nI 2 from rfl, pk_mul, nI_add, nI_add]
      rw [M_passes_L59, m4, Option.bind_some, et]
      by_cases q : t ≤ v
      · exact Or.inl ⟨_, if_pos (nI_le q (by omega)), m⟩
      · have y0 : rdO 106 (rd u 141) (((96 : Int32) + 2 * nI v) + 0) = some (rd u 141 (96 + 2 * v + 0)) := by
          rw [show (0 : Int32) = nI 0 from rfl, i96, r106 (by omega)]
        have y1 : rdO 106 (rd u 141) (((96 : Int32) + 2 * nI v) + 1) = some (rd u 141 (96 + 2 * v + 1)) := by
          rw [show (1 : Int32) = nI 1 from rfl, i96, r106 (by omega)]
        have x1 : ∀ x, wrO u 141 106 (((96 : Int32) + 2 * nI v) + 1) x = some (up2 u 141 (96 + 2 * v + 1) x) := fun x => by
          rw [show (1 : Int32) = nI 1 from rfl, i96, w106 (by omega)]
        rw [if_neg (nI_ge (by omega) (by omega)), y0, Option.bind_some, y1, Option.bind_some, x1, Option.bind_some, nI_1]
        exact Or.inr ⟨by omega, _, mk_up m (wf_free m.1 (by omega)), rfl⟩) g wg
    exact ⟨g', e, p⟩
  obtain ⟨⟨v, h'⟩, e, p⟩ := loop0 (fun n (u : Int32 × Hp) v => M_passes_L4 (nI k) n u.1 (nI v) u.2) 50 (fun u _ => Mk h u.2) (fun u => Mk h u.2) (by decide) (fun n u v hv m => by
    rw [M_passes_L4]
    by_cases q : k ≤ v
    · exact Or.inl ⟨_, if_pos (nI_le q (by omega)), m⟩
    · have y0 : rdO 106 (rd u.2 141) 0 = some (rd u.2 141 0) := r106 (i := 0) (by decide)
      have x0 : ∀ x, wrO u.2 141 106 0 x = some (up2 u.2 141 0 x) := fun x => w106 (i := 0) (by decide) x
      obtain ⟨y, g, ey, wy⟩ := days u.1 _ (mk_up (x := rd u.2 141 0 + 1) m (wf_free (i := 0) m.1 (by omega)))
      obtain ⟨g2, e2, w2⟩ := fill g wy
      rw [if_neg (nI_ge (by omega) (by omega)), y0, Option.bind_some, x0, Option.bind_some, ey, Option.bind_some]
      dsimp only
      rw [e2, Option.bind_some, nI_1]
      exact Or.inr ⟨by omega, (y, g2), w2, rfl⟩) (0, h) (Mk.rf w)
  refine ⟨v, h', ?_, p⟩
  have e : M_passes_L4 (nI k) FU 0 0 h = some (v, h') := e
  unfold M_passes
  rw [e, Option.bind_some]
end
