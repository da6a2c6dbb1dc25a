/-! ===== p65: the walk of the law from its entry ===== -/
abbrev Ll (g : GT) (i : Int32) : List (Option Value) := [some (.ref (ga g 60)), some (.ref (gB g + 0)), some (.int i), none, none, none, none, none]
/-- a cell of the script, 0 behind its end -/
def cellV (g : GT) (k : Nat) : Int32 := if ga g 61 ≤ k then 0 else nI (ga g (1000 + k))
theorem ctL_cell {g : GT} {ex : Bool} {sh : List Shp} (h : Hp) {k : Nat} (hk : k < 2 ^ 31) (hN : ga g 61 < 2 ^ 31) : Ct g mL_cell 0 0 0 ex [.ref (ga g 60), .int (nI k)] sh h (PE (some (.int (cellV g k))) sh h) := by
  refine Ct.of (L := [some (.ref (ga g 60)), some (.int (nI k))]) (by decide) (by intro w hw; simp only [List.mem_cons, List.not_mem_nil, or_false] at hw; rcases hw with rfl | rfl <;> rfl) (Nat.le_of_ble_eq_true rfl) rfl (fun X mx => ?_)
  obtain ⟨cx, hR, hml, hrt, -⟩ := mx
  have cx : Cx g X RL cL_cell := cx
  have hrt : X.2.2.2.2.2.2.2.1.sig.returnType = (some .int) := hrt
  refine PW.iload_n cx qL_cell_0 rfl ?_
  refine PW.aload_n cx qL_cell_1 rfl ?_
  refine PW.scl cx qL_cell_2 ?_
  by_cases hlt : ga g 61 ≤ k
  · refine PW.icmp_ge (A := some true) (B := some false) cx qL_cell_3 (if_pos (nI_le hlt hk)) (fun _ => ?_) (fun e => by cases e)
    refine PW.iconst (v := 0) cx qL_cell_12 rfl ?_
    exact PW.iret cx hrt qL_cell_13 ⟨by unfold cellV; rw [if_pos hlt], rfl, rfl⟩
  · refine PW.icmp_ge (A := some true) (B := some false) cx qL_cell_3 (if_neg (nI_ge (Nat.not_le.mp hlt) hN)) (fun e => by cases e) (fun _ => ?_)
    refine PW.aload_n cx qL_cell_6 rfl ?_
    refine PW.iload_n cx qL_cell_7 rfl ?_
    refine PW.scd cx qL_cell_8 (Nat.not_le.mp hlt) hk ?_
    refine PW.goto cx qL_cell_9 ?_
    exact PW.iret cx hrt qL_cell_13 ⟨by unfold cellV; rw [if_neg hlt], rfl, rfl⟩
theorem PW.cell {g : GT} {X : XT} {Q : State → Prop} {cells slots : Nat} {sh : List Shp} {h : Hp} {pc n k0 : Nat} {L : List (Option Value)} {st : List Value} (cx : Cx g X RL code) (hR : RmG X.2.2.1 12 600086 7301442) (hN : ga g 61 < 2 ^ 31) (hk : k0 < 2 ^ 31) (hd : Dx code pc (.invokestatic 163) 3 n) (hcat : (st.map fun v => v.category).sum ≤ 8) (hc : cells ≤ 600086) (hs : slots ≤ 7301442) (k : PW g X false Q cells slots sh h n L (.int (cellV g k0) :: st)) : PW g X false Q cells slots sh h pc L (.int (nI k0) :: .ref (ga g 60) :: st) := by
  refine PW.callS (mc := 0) (ms := 0) (As := [.ref (ga g 60), .int (nI k0)]) (st := st) cx hR hd klL_163 miL_cell rfl rfl hcat (Nat.le_of_ble_eq_true rfl) (Nat.le_of_ble_eq_true rfl) hc hs (ctL_cell h hk hN) (fun o sh1 h1 hp => ?_)
  obtain ⟨rfl, rfl, rfl⟩ := hp
  exact k
set_option maxRecDepth 20000 in
set_option maxHeartbeats 4000000 in
theorem law_loop {g : GT} {X : XT} {Q : State → Prop} {cells slots : Nat} {sh : List Shp} (hx : XSh sh) (cx : Cx g X RL code) (hR : RmG X.2.2.1 12 600086 7301442) (hml : X.2.2.2.2.2.2.2.2.maxLocals = 8) (hN : ga g 61 < 2 ^ 31) (hc : cells ≤ 600086) (hs : slots ≤ 7301442) (Inv : Nat → Hp → Prop) (hstep : ∀ (k : Nat) (c : Int32) (h : Hp), k < 12 → Inv k h → ∃ r, L_step h (nI k) c = some r ∧ Inv (k + 1) r)
    (hend : ∀ h : Hp, Inv 12 h → PW g X false Q cells slots sh h 167 (Ll g (nI 12)) []) : ∀ (d k : Nat) (h : Hp), k + d = 12 → Inv k h → PW g X false Q cells slots sh h 19 (Ll g (nI k)) []
  | 0, k, h, hk, hi => by
    obtain rfl : k = 12 := by omega
    refine PW.iload_n cx qL_law_19 rfl ?_
    refine PW.bipush (v := 12) cx qL_law_20 rfl ?_
    exact PW.icmp_ge (A := some true) (B := some false) cx qL_law_22 (if_pos (by decide)) (fun _ => hend h hi) (fun e => by cases e)
  | d + 1, k, h, hk, hi => by
    refine PW.iload_n cx qL_law_19 rfl ?_
    refine PW.bipush (v := 12) cx qL_law_20 rfl ?_
    refine PW.icmp_ge (A := some true) (B := some false) cx qL_law_22 (if_neg (show ¬ (12 : Int32) ≤ nI k from nI_ge (b := 12) (by omega) (by decide))) (fun e => by cases e) (fun _ => ?_)
    refine PW.aload_n cx qL_law_25 rfl ?_
    refine PW.iload_n cx qL_law_26 rfl ?_
    refine PW.cell cx hR hN (by omega) qL_law_27 (Nat.le_of_ble_eq_true rfl) hc hs ?_
    obtain ⟨r, hr, hi2⟩ := hstep k (cellV g k) h (by omega) hi
    refine ctStep hx cx hR hml hc hs h r hr ?_
    refine PW.iinc (v := 1) (L' := Ll g (nI k + 1)) cx qL_law_161 rfl rfl (by rw [hml]; decide) rfl rfl ?_
    refine PW.goto cx qL_law_164 ?_
    rw [nI_1]
    exact law_loop hx cx hR hml hN hc hs Inv hstep hend d (k + 1) r (by omega) hi2
set_option maxRecDepth 20000 in
set_option maxHeartbeats 4000000 in
theorem whole_of (Inv : Nat → Hp → Prop) (hi0 : Inv 0 HC) (hh : L_holds HC = some true) (hstep : ∀ (k : Nat) (c : Int32) (h : Hp), k < 12 → Inv k h → ∃ r, L_step h (nI k) c = some r ∧ Inv (k + 1) r) (hlast : ∀ (h : Hp) (a b : Nat), Inv 12 h → a ≤ 15 → b ≤ 31 → ∃ r, L_isSame h (nI (1 + a)) (nI (1 + b)) = some (true, r))
    {p : Program} {e : Env} {s : State} {m : MethodId} {below : List Frame} {meth : Method} {c : Code} (l : Launch) (hflags : l.flags = flags0) {b L : Nat} {xs : Nat → Int32} (hL : L ≤ 260) (C0 : lw_At p s m meth c b L xs) : W p l e room_1 s m #[Value.ref b] below meth c s.heap [] 0 0 (lw_Z below #[Value.ref b] s) (entryFrame m ([Value.ref b] : List Value).toArray 8) := by
  obtain ⟨hx, hb, hr, hml, hown, hts, hX, hbl, hlocks, hgv⟩ := id C0
  obtain ⟨dG, cG, aG, gs, e60, e61, -⟩ := start_GS (l := l) hts hgv hX hbl (by unfold Launch.stackTraces; rw [hflags]; decide)
  obtain ⟨g, hg⟩ : ∃ g : GT, g = (l, s.heap.size, dG, cG, aG) := ⟨_, rfl⟩
  obtain ⟨X, hXX⟩ : ∃ X : XT, X = (p, e, room_1, s, m, #[Value.ref b], below, meth, c) := ⟨_, rfl⟩
  have hgB : gB g = s.heap.size := by rw [hg]
  have g60 : ga g 60 = b := by rw [hg]; exact e60
  have hN : ga g 61 < 2 ^ 31 := by rw [hg]; show aG 61 < _; rw [e61]; omega
  have cx : Cx g X RL code := by
    rw [hXX]
    refine ⟨hx, hb, hown, fun w hw => hts _ (List.mem_filter.mp hw).1, ?_, hlocks, by rw [hgB]; exact Nat.le_refl _⟩
    rw [hg]; exact gs
  have hR : RmG X.2.2.1 12 600086 7301442 := by
    rw [hXX]; exact ⟨Nat.le_of_ble_eq_true rfl, Nat.le_of_ble_eq_true rfl, Nat.le_of_ble_eq_true rfl, Nat.le_of_ble_eq_true rfl⟩
  have hml8 : X.2.2.2.2.2.2.2.2.maxLocals = 8 := by rw [hXX]; exact hml
  have hi : ∀ i, i < 8 → i < X.2.2.2.2.2.2.2.2.maxLocals := fun i h => by rw [hml8]; exact h
  have hx0 : XSh shX := fun _ _ h => h
  have hret : ∀ (cells slots : Nat) (h : Hp) (L : List (Option Value)), cells ≤ 600086 → slots ≤ 7301442 → PW g X false (lw_Z below #[Value.ref b] s) cells slots shX h 195 L [.int 1] := by
    intro cells slots h L hc hs H locs ls hH hS hLL
    rw [hXX] at hS ⊢
    refine va_forget (fun q hq => ?_) ?_
    · have := hS.2.2 q hq
      rw [show gA g q.base = (gB g ≤ q.base) from rfl, hgB] at this
      exact this
    refine W.widen (k := 600086) (n := 7301442) hc hs ?_
    rw [hg]
    exact lw_ret hx hb hr hlocks qL_law_195.1
  have hend : ∀ (cells slots : Nat) (h : Hp), cells ≤ 600086 → slots ≤ 7301442 → Inv 12 h → PW g X false (lw_Z below #[Value.ref b] s) cells slots shX h 167 (Ll g (nI 12)) [] := by
    intro cells slots h hc hs hI
    refine PW.aload_n cx qL_law_167 rfl ?_
    refine PW.iconst (v := 1) cx qL_law_168 rfl ?_
    refine PW.aload_n cx qL_law_169 rfl ?_
    refine PW.iconst (v := nI 0) cx qL_law_170 rfl ?_
    refine PW.cell cx hR hN (by decide) qL_law_171 (Nat.le_of_ble_eq_true rfl) hc hs ?_
    refine PW.iconst (v := 4) cx qL_law_174 rfl ?_
    refine PW.iushr cx qL_law_175 ?_
    refine PW.bipush (v := nI 15) cx qL_law_176 rfl ?_
    refine PW.iand cx qL_law_178 ?_
    refine PW.iadd cx qL_law_179 ?_
    refine PW.iconst (v := 1) cx qL_law_180 rfl ?_
    refine PW.aload_n cx qL_law_181 rfl ?_
    refine PW.iconst (v := nI 1) cx qL_law_182 rfl ?_
    refine PW.cell cx hR hN (by decide) qL_law_183 (Nat.le_of_ble_eq_true rfl) hc hs ?_
    refine PW.iconst (v := 4) cx qL_law_186 rfl ?_
    refine PW.iushr cx qL_law_187 ?_
    refine PW.bipush (v := nI 31) cx qL_law_188 rfl ?_
    refine PW.iand cx qL_law_190 ?_
    refine PW.iadd cx qL_law_191 ?_
    obtain ⟨a1, ha1, ea1⟩ := and_lt (iush (cellV g 0) 4) 15 (by decide)
    obtain ⟨b1, hb1, eb1⟩ := and_lt (iush (cellV g 1) 4) 31 (by decide)
    rw [ea1, eb1, show (1 : Int32) = nI 1 from rfl, nI_add, nI_add]
    obtain ⟨r, er⟩ := hlast h a1 b1 hI ha1 hb1
    refine PW.callS (mc := 0) (ms := 0) (As := [.ref (gB g + 0), .int (nI (1 + a1)), .int (nI (1 + b1))]) (st := []) cx hR qL_law_192 klL_178 miL_isSame rfl rfl (Nat.le_of_ble_eq_true rfl) (Nat.le_of_ble_eq_true rfl) (Nat.le_of_ble_eq_true rfl) hc hs (ctL_isSame hx0 h (nI (1 + a1)) (nI (1 + b1)) (true, r) er) (fun o sh1 h1 hp => ?_)
    obtain ⟨rfl, rfl, rfl⟩ := hp
    exact hret _ _ _ _ hc hs
  have hl := lv_entry ([.ref b]) (n := 8) (Nat.le_of_ble_eq_true rfl)
  rw [lg_entry_eq]
  generalize (lg_sl ([.ref b]) ++ List.replicate (8 - (lg_sl ([.ref b])).length) Slot.unset).toArray = ls at hl ⊢
  have hl : lv_has ls 8 [(0, .ref b)] := hl
  have K : PW g X true (lw_Z below #[Value.ref b] s) 0 0 ([] ++ []) [] 0 [some (.ref (ga g 60)), none, none, none, none, none, none, none] [] := by
    refine PW.newP (ci := 3) (N := 10) (T := TX6) (ts := [(4, 0), (4, 0), (4, 0), (1, 0), (4, 0), (0, 0), (0, 0), (4, 0), (4, 0), (0, 0)]) (j := 0) (l' := [.inl (3, [(4, 0), (4, 0), (4, 0), (1, 0), (4, 0), (0, 0), (0, 0), (4, 0), (4, 0), (0, 0)])]) (B := 0) cx hR qL_law_0 nwkL_8 nwiX6 nwnX6 rfl rfl rfl rfl (row_nil _) tyX6 tyX6_ok rfl (by decide +kernel) (Nat.le_of_ble_eq_true rfl) (Nat.le_of_ble_eq_true rfl) ?_
    refine PW.dup cx qL_law_3 rfl ?_
    refine PW.callI cx hR qL_law_4 klL_162 miX6_init iiX6 rfl rfl (Nat.le_of_ble_eq_true rfl) (Nat.le_of_ble_eq_true rfl) (Nat.le_of_ble_eq_true rfl) (Nat.le_of_ble_eq_true rfl) (Nat.le_of_ble_eq_true rfl) (ctX6_init HC e_C) (fun o sh1 h1 hp => ?_)
    obtain ⟨rfl, rfl, rfl⟩ := hp
    refine PW.astore_n (L' := [some (.ref (ga g 60)), some (.ref (gB g + 0)), none, none, none, none, none, none]) cx qL_law_7 (hi 1 (by decide)) rfl rfl ?_
    refine PW.exF0 ?_
    refine PW.aload_n cx qL_law_8 rfl ?_
    refine PW.callS (mc := 0) (ms := 0) (As := [.ref (gB g + 0)]) (st := []) cx hR qL_law_9 klL_149 miL_holds rfl rfl (Nat.le_of_ble_eq_true rfl) (Nat.le_of_ble_eq_true rfl) (Nat.le_of_ble_eq_true rfl) (Nat.le_of_ble_eq_true rfl) (Nat.le_of_ble_eq_true rfl) (ctL_holds hx0 HC true hh) (fun o sh1 h1 hp => ?_)
    obtain ⟨rfl, rfl, rfl⟩ := hp
    refine PW.if_ne (A := some false) (B := some true) cx qL_law_12 (if_neg (by decide)) (fun e => by cases e) (fun _ => ?_)
    refine PW.iconst (v := nI 0) cx qL_law_17 rfl ?_
    refine PW.istore_n (L' := Ll g (nI 0)) cx qL_law_18 (hi 2 (by decide)) rfl rfl ?_
    exact law_loop hx0 cx hR hml8 hN (Nat.le_of_ble_eq_true rfl) (Nat.le_of_ble_eq_true rfl) Inv hstep (fun h hI => hend _ _ h (Nat.le_of_ble_eq_true rfl) (Nat.le_of_ble_eq_true rfl) hI) 12 0 HC rfl hi0
  have K2 := K s.heap [] ls ⟨fun k c h => by simp at h, by rw [hgB]; exact Nat.le_refl _, fun _ => by rw [hgB]; rfl⟩ (by rw [hXX]; exact va_S.rf) (LV.of (by rw [hml8]; exact hl) (fun i v h => by
    match i, h with
    | 0, h => rw [g60] at h; cases h; exact List.mem_cons_self
    | i + 1, h =>
      exfalso
      have : lk [some (Value.ref (ga g 60)), none, none, none, none, none, none, none] (i + 1) = none := by
        match i with
        | 0 => rfl
        | 1 => rfl
        | 2 => rfl
        | 3 => rfl
        | 4 => rfl
        | 5 => rfl
        | 6 => rfl
        | i + 7 => rfl
      rw [this] at h; cases h))
  rw [hXX, hg] at K2
  exact K2
