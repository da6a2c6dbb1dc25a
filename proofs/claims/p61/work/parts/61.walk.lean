/-- from the entry to the loop, for a class and a model whose constructors come to HC, HM -/
theorem row_HC : ∀ k, 140 ≤ k → k ≤ 149 → row k HC = 0 := by
  intro k h1 h2
  obtain ⟨j, rfl⟩ : ∃ j, k = 140 + j := ⟨k - 140, by omega⟩
  have : ∀ j, j < 10 → row (140 + j) HC = 0 := by decide +kernel
  exact this j (by omega)
theorem row_HM : row 150 HM = 0 := by decide +kernel
set_option maxRecDepth 20000 in
set_option maxHeartbeats 4000000 in
theorem whole_of (NM : Nat) (hNM : NM ≤ 3072) (Inv : Nat → Hp → Prop) (hi0 : Inv 0 HM) (hstep : ∀ (j : Nat) (h : Hp), 6 * j + 6 ≤ NM → Inv j h → ∀ k < 64, ∀ a1 a2 a3 a4 a5 : Int32, ∃ r, lawStep k h a1 a2 a3 a4 a5 = some r ∧ Inv (j + 1) r)
    {p : Program} {e : Env} {s : State} {m : MethodId} {below : List Frame} {meth : Method} {c : Code} (l : Launch) (hflags : l.flags = flags0) {b L : Nat} {xs : Nat → Int32} (hL : L ≤ NM) (C0 : lw_At p s m meth c b L xs) : W p l e room_1 s m #[Value.ref b] below meth c s.heap [] 0 0 (lw_Z below #[Value.ref b] s) (entryFrame m ([Value.ref b] : List Value).toArray 9) := by
  obtain ⟨hx, hb, hr, hml, hown, hts, hX, hbl, hlocks, hgv⟩ := id C0
  obtain ⟨dG, cG, aG, gs⟩ := start_GS (l := l) hts hgv (by unfold Launch.stackTraces; rw [hflags]; decide)
  obtain ⟨g, hg⟩ : ∃ g : GT, g = (l, s.heap.size, dG, cG, aG) := ⟨_, rfl⟩
  obtain ⟨X, hXX⟩ : ∃ X : XT, X = (p, e, room_1, s, m, #[Value.ref b], below, meth, c) := ⟨_, rfl⟩
  have hgB : gB g = s.heap.size := by rw [hg]
  have cx : Cx g X RL code := by
    rw [hXX]
    refine ⟨hx, hb, hown, fun w hw => hts _ (List.mem_filter.mp hw).1, ?_, hlocks, by rw [hgB]; exact Nat.le_refl _⟩
    rw [hg]; exact gs
  have hR : RmG X.2.2.1 40 601024 7293034 := by
    rw [hXX]; exact ⟨Nat.le_of_ble_eq_true rfl, Nat.le_of_ble_eq_true rfl, Nat.le_of_ble_eq_true rfl, Nat.le_of_ble_eq_true rfl⟩
  have hml9 : X.2.2.2.2.2.2.2.2.maxLocals = 9 := by rw [hXX]; exact hml
  have hXr : va_X b L xs X.2.2.2.1 X.2.2.2.1.heap := by rw [hXX]; exact hX
  have hbB : b < X.2.2.2.1.heap.size ∧ b < gB g := by rw [hXX, hgB]; exact ⟨hbl, hbl⟩
  have hend : ∀ (cells slots : Nat) (h : Hp) (i : Int32), cells ≤ 601024 → slots ≤ 7293034 → PW g X false (lw_Z below #[Value.ref b] s) cells slots shL h 1995 (Ll g b i) [] := by
    intro cells slots h i hc hs
    refine PW.iconst (v := 1) cx qL_law_1995 rfl ?_
    intro H locs ls hH hS hLL
    rw [hXX] at hS ⊢
    refine va_forget (fun q hq => ?_) ?_
    · have := hS.2.2 q hq
      rw [show gA g q.base = (gB g ≤ q.base) from rfl, hgB] at this
      exact this
    refine W.widen (k := 601024) (n := 7293034) hc hs ?_
    rw [hg]
    exact lw_ret (d0 := s.drawn) (Drawn.sameBut.refl s.drawn lw_cs) hx hb hr hlocks qL_law_1996
  have hl := lv_entry ([.ref b]) (n := 9) (Nat.le_of_ble_eq_true rfl)
  rw [lg_entry_eq]
  generalize (lg_sl ([.ref b]) ++ List.replicate (9 - (lg_sl ([.ref b])).length) Slot.unset).toArray = ls at hl ⊢
  have hl : lv_has ls 9 [(0, .ref b)] := hl
  have hi : ∀ i, i < 9 → i < X.2.2.2.2.2.2.2.2.maxLocals := fun i h => by rw [hml9]; exact h
  have K : PW g X true (lw_Z below #[Value.ref b] s) 0 0 ([] ++ []) [] 0 [some (.ref b), none, none, none, none, none, none, none, none] [] := by
    refine PW.newP (ci := 3) (N := 10) (T := TX6) (ts := [(4, 0), (4, 0), (4, 0), (1, 0), (4, 0), (0, 0), (0, 0), (4, 0), (4, 0), (0, 0)]) (j := 0) (l' := [.inl (3, [(4, 0), (4, 0), (4, 0), (1, 0), (4, 0), (0, 0), (0, 0), (4, 0), (4, 0), (0, 0)])]) (B := 0) cx hR qL_law_0 nwkL_8 nwiX6 nwnX6 rfl rfl rfl rfl (row_nil _) tyX6 tyX6_ok rfl (by decide +kernel) (Nat.le_of_ble_eq_true rfl) (Nat.le_of_ble_eq_true rfl) ?_
    refine PW.dup cx qL_law_3 rfl ?_
    refine PW.callI cx hR qL_law_4 klL_151 miX6_init iiX6 rfl rfl (Nat.le_of_ble_eq_true rfl) (Nat.le_of_ble_eq_true rfl) (Nat.le_of_ble_eq_true rfl) (Nat.le_of_ble_eq_true rfl) (Nat.le_of_ble_eq_true rfl) (ctX6_init HC e_C) (fun o sh1 h1 hp => ?_)
    obtain ⟨rfl, rfl, rfl⟩ := hp
    refine PW.astore_n (L' := [some (.ref b), some (.ref (gB g + 0)), none, none, none, none, none, none, none]) cx qL_law_7 (hi 1 (by decide)) rfl rfl ?_
    refine PW.shEq (sh' := shX ++ []) (List.append_nil _).symm ?_
    refine PW.newP (ci := 4) (N := 22) (T := TX7) (ts := [(4, 0), (4, 0), (4, 0), (4, 0), (4, 0), (0, 0), (1, 0), (4, 0), (4, 0), (0, 0), (0, 0), (0, 0), (0, 0), (4, 0), (0, 0), (0, 0), (0, 0), (0, 0), (0, 0), (0, 0), (0, 0), (4, 0)]) (j := 0) (l' := [.inl (4, [(4, 0), (4, 0), (4, 0), (4, 0), (4, 0), (0, 0), (1, 0), (4, 0), (4, 0), (0, 0), (0, 0), (0, 0), (0, 0), (4, 0), (0, 0), (0, 0), (0, 0), (0, 0), (0, 0), (0, 0), (0, 0), (4, 0)])]) (B := 140) cx hR qL_law_8 nwkL_152 nwiX7 nwnX7 rfl rfl rfl shX_len (row_HC 140 (by decide) (by decide)) tyX7 tyX7_ok rfl (by decide +kernel) (Nat.le_of_ble_eq_true rfl) (Nat.le_of_ble_eq_true rfl) ?_
    refine PW.dup cx qL_law_11 rfl ?_
    refine PW.callI cx hR qL_law_12 klL_154 miX7_init iiX7 rfl rfl (Nat.le_of_ble_eq_true rfl) (Nat.le_of_ble_eq_true rfl) (Nat.le_of_ble_eq_true rfl) (Nat.le_of_ble_eq_true rfl) (Nat.le_of_ble_eq_true rfl) (ctX7_init shX_len HC (fun k h1 h2 => row_HC k (by omega) h2) HM e_M) (fun o sh1 h1 hp => ?_)
    obtain ⟨rfl, rfl, rfl⟩ := hp
    refine PW.astore_n (L' := [some (.ref b), some (.ref (gB g + 0)), some (.ref (gB g + 140)), none, none, none, none, none, none]) cx qL_law_15 (hi 2 (by decide)) rfl rfl ?_
    refine PW.iconst (v := 1) cx qL_law_16 rfl ?_
    refine PW.newarrP (N := 1) (tyk := 3) (ty := .long) (j := 10) (l' := shM ++ [.inr (3, 1, [])]) (B := 140) cx hR qL_law_17 rfl ar_long rfl (fun _ _ h => h) (fun _ => rfl) ⟨rfl, by decide⟩ (by decide) shM_len rfl shX_len row_HM (Nat.le_of_ble_eq_true rfl) (Nat.le_of_ble_eq_true rfl) ?_
    refine PW.astore_n (L' := [some (.ref b), some (.ref (gB g + 0)), some (.ref (gB g + 140)), some (.ref (gB g + 150)), none, none, none, none, none]) cx qL_law_19 (hi 3 (by decide)) rfl rfl ?_
    refine PW.iconst (v := 0) cx qL_law_20 rfl ?_
    refine PW.istore (L' := Ll g b 0) cx qL_law_21 (hi 4 (by decide)) rfl rfl ?_
    refine PW.exF ?_
    refine PW.shEq (sh' := shL) rfl ?_
    exact law_loop (c0 := 151) (s0 := 5997) shL_X shL_M shL_o cx hR hml9 hXr hbB hL (by omega) (by omega) (by omega) Inv hstep hend (L + 1) 0 HM (by omega) (by omega) hi0
  have K2 := K s.heap [] ls ⟨fun k c h => by simp at h, by rw [hgB]; exact Nat.le_refl _, fun _ => by rw [hgB]; rfl⟩ (by rw [hXX]; exact va_S.rf) (LV.of (by rw [hml9]; exact hl) (fun i v h => by
    match i, h with
    | 0, h => cases h; exact List.mem_cons_self
    | i + 1, h =>
      exfalso
      have : lk [some (Value.ref b), none, none, none, none, none, none, none, none] (i + 1) = none := by
        match i with
        | 0 => rfl
        | 1 => rfl
        | 2 => rfl
        | 3 => rfl
        | 4 => rfl
        | 5 => rfl
        | 6 => rfl
        | 7 => rfl
        | i + 8 => rfl
      rw [this] at h; cases h))
  rw [hXX, hg] at K2
  exact K2
