/-! ===== p65: the law's holds answers true ===== -/
section
variable {h : Hp}
theorem i_add0 (x : Int32) : x + 0 = x := by
  apply Int32.toBitVec_inj.mp
  show x.toBitVec + 0#32 = x.toBitVec
  simp
theorem holds79_no {R r m c : Nat} (eR : rd h 1 12 = nI R) (hR : R ≤ 4) (hr : r < R) (em : rd h (1 + 7) r = nI m) (hm : m ≤ 9) (no : ∀ b, b < m → rd h (1 + 8) (r * 9 + b) ≠ nI c) (s : Int32) : L_holds_L79 h (nI c) (nI r) FU s 0 = some (.inl s) := by
  obtain ⟨x, e, p⟩ := loop0 (fun k (t : Int32) v => L_holds_L79 h (nI c) (nI r) k t (nI v)) m (fun t _ => t = s) (fun x => x = .inl s) (by omega) (fun k t v hv ht => by
    rw [L_holds_L79, bedCount_eq eR hR hr, Option.bind_some, em]
    by_cases q : m ≤ v
    · exact Or.inl ⟨_, if_pos (nI_le q (by omega)), by rw [ht]⟩
    · rw [if_neg (nI_ge (by omega) (by omega)), bed_eq eR hR hr em hm (by omega), Option.bind_some, if_neg (no v (by omega)), nI_1]
      exact Or.inr ⟨by omega, _, ht, rfl⟩) s rfl
  rw [← p]; exact e
theorem holds79_one {R r m c b0 : Nat} (eR : rd h 1 12 = nI R) (hR : R ≤ 4) (hr : r < R) (em : rd h (1 + 7) r = nI m) (hm : m ≤ 9) (hb : b0 < m) (e0 : rd h (1 + 8) (r * 9 + b0) = nI c) (u : ∀ b, b < m → rd h (1 + 8) (r * 9 + b) = nI c → b = b0) (er : C_reelOf h (nI c) = some (nI r)) (eb : C_bedOf h (nI c) = some (nI b0)) : L_holds_L79 h (nI c) (nI r) FU 0 0 = some (.inl 1) := by
  obtain ⟨x, e, p⟩ := loop0 (fun k (t : Int32) v => L_holds_L79 h (nI c) (nI r) k t (nI v)) m (fun t v => t = if b0 < v then 1 else 0) (fun x => x = .inl 1) (by omega) (fun k t v hv ht => by
    rw [L_holds_L79, bedCount_eq eR hR hr, Option.bind_some, em]
    by_cases q : m ≤ v
    · exact Or.inl ⟨_, if_pos (nI_le q (by omega)), by rw [ht, if_pos (show b0 < v by omega)]⟩
    · rw [if_neg (nI_ge (by omega) (by omega)), bed_eq eR hR hr em hm (by omega), Option.bind_some]
      have c1 : nI r = nI r := rfl
      by_cases z : v = b0
      · subst z
        have c2 : nI v = nI v := rfl
        rw [if_pos e0, er, Option.bind_some, if_pos c1, eb, Option.bind_some, if_pos c2, nI_1]
        refine Or.inr ⟨by omega, t + 1, ?_, rfl⟩
        rw [ht, if_neg (Nat.lt_irrefl _), if_pos (Nat.lt_succ_self _)]
        decide
      · rw [if_neg (fun w => z (u v (by omega) w)), nI_1]
        refine Or.inr ⟨by omega, t, ?_, rfl⟩
        rw [ht]
        by_cases y : b0 < v
        · rw [if_pos y, if_pos (by omega)]
        · rw [if_neg y, if_neg (by omega)]) 0 (by rw [if_neg (Nat.not_lt_zero _)])
  rw [← p]; exact e
/-- how often a clip lies in a bed -/
theorem holds67_eq (I : Ary h 1) {n R c : Nat} (en : rd h 1 5 = nI n) (hn : n ≤ 12) (eR : rd h 1 12 = nI R) (hR : R ≤ 4) (hc : c < n) : L_holds_L67 h (nI c) FU 0 0 = some (.inl (if rd h (1 + 4) c = 1 then 1 else 0)) := by
  have vR : vn (rd h 1 12) = R := by rw [eR, vn_nI (by omega)]
  rcases where_eq I en hn eR hR hc with ⟨ns, -, -, no⟩ | ⟨as, r0, k0, hr0, hk0, e0, -, u, er, eb⟩
  · rw [if_neg ns]
    obtain ⟨x, e, p⟩ := loop0 (fun k (t : Int32) v => L_holds_L67 h (nI c) k t (nI v)) R (fun t _ => t = 0) (fun x => x = .inl 0) (by omega) (fun k t v hv ht => by
      rw [L_holds_L67]
      unfold C_reelCount
      rw [Option.bind_some, eR]
      by_cases q : R ≤ v
      · exact Or.inl ⟨_, if_pos (nI_le q (by omega)), by rw [ht]⟩
      · obtain ⟨m, m1, hm, em, vm⟩ := I.cnt (r := v) (by rw [vR]; omega)
        rw [if_neg (nI_ge (by omega) (by omega)), holds79_no eR hR (by omega) em hm (fun b hb => no v b (by omega) (by rw [vm]; exact hb)) t, Option.bind_some, nI_1]
        exact Or.inr ⟨by omega, _, ht, rfl⟩) 0 rfl
    rw [← p]; exact e
  · rw [if_pos as]
    obtain ⟨x, e, p⟩ := loop0 (fun k (t : Int32) v => L_holds_L67 h (nI c) k t (nI v)) R (fun t v => t = if r0 < v then 1 else 0) (fun x => x = .inl 1) (by omega) (fun k t v hv ht => by
      rw [L_holds_L67]
      unfold C_reelCount
      rw [Option.bind_some, eR]
      by_cases q : R ≤ v
      · exact Or.inl ⟨_, if_pos (nI_le q (by omega)), by rw [ht, if_pos (show r0 < v by omega)]⟩
      · obtain ⟨m, m1, hm, em, vm⟩ := I.cnt (r := v) (by rw [vR]; omega)
        rw [if_neg (nI_ge (by omega) (by omega))]
        by_cases z : v = r0
        · subst z
          rw [if_neg (Nat.lt_irrefl _)] at ht
          rw [vm] at hk0 e0 u eb
          rw [ht, holds79_one eR hR (by omega) em hm (wb_in hk0) e0 (fun b hb w => (u v b (by omega) (by rw [vm]; exact hb) w).2) er eb, Option.bind_some, nI_1]
          exact Or.inr ⟨by omega, 1, by rw [if_pos (Nat.lt_succ_self _)], rfl⟩
        · rw [holds79_no eR hR (by omega) em hm (fun b hb w => z (u v b (by omega) (by rw [vm]; exact hb) w).1) t, Option.bind_some, nI_1]
          refine Or.inr ⟨by omega, t, ?_, rfl⟩
          rw [ht]
          by_cases y : r0 < v
          · rw [if_pos y, if_pos (by omega)]
          · rw [if_neg y, if_neg (by omega)]) 0 (by rw [if_neg (Nat.not_lt_zero _)])
    rw [← p]; exact e
theorem mx_nI {x y : Nat} (hx : x < 2 ^ 31) (hy : y < 2 ^ 31) : mxI (nI x) (nI y) = nI (max x y) := by
  unfold mxI
  by_cases q : x < y
  · rw [if_pos (nI_lt q hy), Nat.max_eq_right (by omega)]
  · rw [if_neg (nI_nlt (by omega) hx), Nat.max_eq_left (by omega)]
theorem mostLooks_x {a : Nat} (I : Arc h a) {r m : Nat} (hr : r < 4) (em : rd h (a + 7) r = nI m) (hm : m ≤ 9) : ∃ x, x ≤ 9 ∧ A_mostLooks h a (nI r) = some (nI x) ∧ ∀ b c k, b < m → c < 12 → rd h (a + 8) (r * 9 + b) = nI c → A_looks h a (nI c) (nI r) = some (nI k) → k ≤ 9 → k ≤ x := by
  obtain ⟨y, e, x, hx, ex, p⟩ := loop0 (fun n (s : Int32) v => A_mostLooks_L4 h a (nI r) n s (nI v)) m (fun s v => ∃ x, x ≤ 9 ∧ s = nI x ∧ ∀ b c k, b < v → c < 12 → rd h (a + 8) (r * 9 + b) = nI c → A_looks h a (nI c) (nI r) = some (nI k) → k ≤ 9 → k ≤ x) (fun s => ∃ x, x ≤ 9 ∧ s = nI x ∧ ∀ b c k, b < m → c < 12 → rd h (a + 8) (r * 9 + b) = nI c → A_looks h a (nI c) (nI r) = some (nI k) → k ≤ 9 → k ≤ x) (by omega) (fun n s v hv j => by
    rw [A_mostLooks_L4, r4 hr, Option.bind_some, em]
    by_cases w : m ≤ v
    · obtain rfl : v = m := by omega
      exact Or.inl ⟨_, if_pos (nI_le w (by omega)), j⟩
    · obtain ⟨x, hx, ex, p⟩ := j
      rw [if_neg (nI_ge (by omega) (by omega)), inBed_eq hr (by omega), Option.bind_some, nI_1]
      refine Or.inr ⟨by omega, ?_⟩
      rcases bed_cases I (i := r * 9 + v) (by omega) with q | ⟨c, hc, ec⟩
      · rw [if_pos q]
        refine ⟨s, ⟨x, hx, ex, fun b c k hb hc e0 e1 hk => ?_⟩, rfl⟩
        by_cases z : b = v
        · subst z
          rw [e0] at q
          exact absurd q (nI_pos (by omega))
        · exact p b c k (by omega) hc e0 e1 hk
      · obtain ⟨_, m', k, _, hm', _, _, hk', _, ek, _⟩ := looks_ok I hc hr
        rw [ec, if_neg (nI_pos (by omega)), ek, Option.bind_some, ex, mx_nI (by omega) (by omega)]
        refine ⟨_, ⟨max x k, by omega, rfl, fun b c2 k2 hb hc2 e0 e1 hk2 => ?_⟩, rfl⟩
        by_cases z : b = v
        · subst z
          rw [ec] at e0
          have := nI_inj (by omega) (by omega) e0
          subst this
          rw [ek] at e1
          have := nI_inj (by omega) (by omega) (Option.some.inj e1)
          omega
        · have := p b c2 k2 (by omega) hc2 e0 e1 hk2
          omega) 0 ⟨0, by omega, rfl, fun b _ _ hb => absurd hb (Nat.not_lt_zero _)⟩
  refine ⟨x, hx, ?_, p⟩
  have e : A_mostLooks_L4 h a (nI r) FU 0 0 = some y := e
  unfold A_mostLooks
  rw [e, Option.bind_some, ex]
theorem isFound_true (I : Ary h 1) {n R c r k : Nat} (en : rd h 1 5 = nI n) (hn : n ≤ 12) (eR : rd h 1 12 = nI R) (hR : R ≤ 4) (hc : c < n) (hr : r < R) (hk : k < vn (rd h (1 + 7) r)) (e0 : rd h (1 + 8) (r * 9 + wb (vn (rd h (1 + 3) c)) (vn (rd h (1 + 7) r)) k) = nI c) (cold : ∀ j, j < k → rd h (1 + 8) (r * 9 + wb (vn (rd h (1 + 3) c)) (vn (rd h (1 + 7) r)) j) ≠ -1) : L_isFound h (nI c) (nI r) = some true := by
  have vR : vn (rd h 1 12) = R := by rw [eR, vn_nI (by omega)]
  obtain ⟨m, m1, hm, em, vm⟩ := I.cnt (r := r) (by rw [vR]; omega)
  obtain ⟨q, m', k', hq, hm', eq, em', hk', k1, el, pl, pe⟩ := looks_ok I.1.1 (show c < 12 by omega) (show r < 4 by omega)
  obtain rfl : m' = m := nI_inj (by omega) (by omega) (em'.symm.trans em)
  rw [vm, eq, vn_nI (by omega)] at e0 cold
  rw [vm] at hk
  have k1 := k1 m1
  obtain ⟨p, rfl⟩ : ∃ p, k' = p + 1 := ⟨k' - 1, by omega⟩
  have found : rd h (1 + 8) (r * 9 + wb q m' p) = nI c := by
    by_cases z : p + 1 ≤ k
    · rcases pe (by omega) with w | w
      · exact w
      · exact absurd w (cold p (by omega))
    · by_cases y : k + 1 < p + 1
      · exact absurd e0 (pl k y).1
      · obtain rfl : p = k := by omega
        exact e0
  have eLook : C_looksFor h (nI c) (nI r) = some (nI (p + 1)) := by
    unfold C_looksFor
    rw [needClip_eq en hn hc, Option.bind_some, needReel_eq eR hR hr, Option.bind_some, el, Option.bind_some]
  have eHome : C_home h (nI c) (nI r) = some (nI (wb q m' 0)) := by
    have w := wayBed_eq (k := 0) (show c < 12 by omega) (show r < 4 by omega) eq hq em hm (by omega)
    have w : A_wayBed h 1 (nI c) (nI r) 0 = some (nI (wb q m' 0)) := w
    unfold C_home A_homeOf
    rw [needClip_eq en hn hc, Option.bind_some, needReel_eq eR hR hr, Option.bind_some, w, Option.bind_some, Option.bind_some]
  have eRem : ∀ v, v ≤ 9 → rmO (nI (wb q m' 0) + nI v) (nI m') = some (nI (wb q m' v)) := fun v hv => by
    have w9 := wb_lt (q := q) (k := 0) hm
    rw [nI_add]
    unfold rmO
    rw [if_neg (nI_ne0 m1 (by omega)), pk_rem (by omega) m1 (by omega)]
    congr 2
    unfold wb
    rw [if_pos m1, if_pos m1, Nat.add_zero, Nat.mod_add_mod]
  have eLoop : L_isFound_L10 h (nI c) (nI r) (nI (p + 1)) FU 0 = some (.inl ()) := by
    obtain ⟨x, e, px⟩ := loop0 (fun n (_ : Unit) v => L_isFound_L10 h (nI c) (nI r) (nI (p + 1)) n (nI v)) (p + 1) (fun _ _ => True) (fun x => x = .inl ()) (by omega) (fun n s v hv _ => by
      rw [L_isFound_L10]
      by_cases w : p + 1 ≤ v
      · exact Or.inl ⟨_, if_pos (nI_le w (by omega)), rfl⟩
      · rw [if_neg (nI_ge (by omega) (by omega)), eHome, Option.bind_some, bedCount_eq eR hR hr, Option.bind_some, em, eRem v (by omega), Option.bind_some, bed_eq eR hR hr em hm (wb_in (by omega)), Option.bind_some]
        have c1 : nI c = nI c := rfl
        unfold lt
        dsimp only
        by_cases z : v = p
        · subst z
          have c2 : nI v = nI (v + 1) - 1 := (nI_pred v).symm
          rw [found, if_neg (nI_nm1 (by omega)), if_pos c1, if_pos c2, if_pos c2, if_pos c1, nI_1]
          exact Or.inr ⟨by omega, (), trivial, rfl⟩
        · have c3 : ¬ nI v = nI (p + 1) - 1 := fun w => z (by rw [nI_pred] at w; exact nI_inj (by omega) (by omega) w)
          rw [if_neg (pl v (by omega)).2, if_neg (pl v (by omega)).1, if_neg c3, nI_1]
          exact Or.inr ⟨by omega, (), trivial, rfl⟩) () trivial
    rw [← px]; exact e
  obtain ⟨x, hx, ex, px⟩ := mostLooks_x I.1.1 (show r < 4 by omega) em hm
  have hpx := px _ c (p + 1) (wb_in (q := q) (show p < m' by omega)) (by omega) found el (by omega)
  have eLong : C_longestLook h (nI r) = some (nI x) := by
    unfold C_longestLook
    rw [needReel_eq eR hR hr, Option.bind_some, ex, Option.bind_some]
  unfold L_isFound
  rw [eLook, Option.bind_some, eLoop, Option.bind_some]
  dsimp only
  rw [if_neg (show ¬ nI (p + 1) < 1 from nI_nlt (b := 1) (by omega) (by omega)), bedCount_eq eR hR hr, Option.bind_some, em, if_neg (nI_nlt (by omega) (by omega)), eLong, Option.bind_some, if_neg (nI_nlt (by omega) (by omega))]
end
