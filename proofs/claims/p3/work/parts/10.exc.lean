/-! ===== methods that return or throw ===== -/
def XcG (g : GT) (xpost : Nat → List Shp → Hp → Prop) : String → State → State → Prop := fun E st t => ∃ (i : Nat) (sh : List Shp) (h : Hp), E = excN i ∧ xpost i sh h ∧ HOK g false sh h t.heap ∧ va_F (gA g) st t
def CtX (g : GT) (y : MT) (d mc ms : Nat) (As : List Value) (sh : List Shp) (h : Hp) (post : Option Value → List Shp → Hp → Prop) (xpost : Nat → List Shp → Hp → Prop) : Prop :=
  vx_Met g.1 y.1 (wsM y) (rmd d mc ms) (PcG g false sh h As) (QcG g false post) (XcG g xpost) mc ms (gA g)
def QX (g : GT) (X : XT) (post : Option Value → List Shp → Hp → Prop) (xpost : Nat → List Shp → Hp → Prop) (mc ms : Nat) : State → Prop := vx_MQ X.2.2.2.2.2.2.1 (QcG g false post) (XcG g xpost) X.2.2.2.2.2.1 X.2.2.2.1 mc ms (gA g)
def NoT (X : XT) : Prop := ∀ x ∈ X.2.2.2.2.2.2.2.2.exceptionTable.toList, False
theorem CtX.of {g : GT} {y : MT} {d mc ms : Nat} {As : List Value} {sh : List Shp} {h : Hp} {post : Option Value → List Shp → Hp → Prop} {xpost : Nat → List Shp → Hp → Prop} {L : List (Option Value)} (hy : plainName y.1.cls = true) (hc : ∀ w ∈ As, w.category = 1) (hn : As.length ≤ y.2.2.1) (hL : As.map some ++ List.replicate (y.2.2.1 - As.length) none = L)
    (body : ∀ X : XT, Mx g X y d mc ms → NoT X → PW g X false (QX g X post xpost mc ms) 0 0 sh h 0 L []) : CtX g y d mc ms As sh h post xpost := by
  refine vx_ofW (cc := y.2.1) (maxL := y.2.2.1) (ret := y.2.2.2) (ws' := TG) hy rfl ?_
  intro p e s m args below meth c s₁ B hml hno hv
  obtain ⟨rfl, hG, hH, hB⟩ := hv
  have hts := atoms_spec (ws := wsM y) B.pre
  have hown : s.vm.findClass y.1.cls = some m.cls := findClass_of_methodNamed B.named
  rw [lg_entry_eq]
  have hlen : (lg_sl As).length ≤ y.2.2.1 := by rw [lg_sl_len As hc]; exact hn
  have hl := lv_entry As (n := y.2.2.1) hlen
  rw [← hL] at body
  exact body (p, e, _, s, m, As.toArray, below, meth, c) ⟨⟨B.exec, B.bytes, hown, fun w hw => hts w (List.mem_cons_of_mem _ hw), hG, B.notSynchronized, hB⟩, ⟨Nat.le_refl _, Nat.le_refl _, Nat.le_refl _, Nat.le_refl _⟩, hml, B.returns, (name_of_methodNamed B.named B.method).1⟩ hno s.heap [] _ hH va_S.rf (by
    show LV _ c.maxLocals _
    rw [hml]
    exact LV.of hl (fun i v hi => by
      have := lass_lk As _ i v hc hi 0
      rwa [Nat.zero_add] at this))
def thB {ρ σ : Type} (x : Option ((Nat × Hp) ⊕ ρ)) (F : ρ → Option ((Nat × Hp) ⊕ σ)) : Option ((Nat × Hp) ⊕ σ) := x.bind fun y => match y with
  | .inl e => some (.inl e)
  | .inr v => F v
def PX {ρ : Type} (r0 : (Nat × Hp) ⊕ ρ) (oe : ρ → Option Value) (he : ρ → Hp) (sh : List Shp) : Option Value → List Shp → Hp → Prop := fun o sh' h' => ∃ v, r0 = .inr v ∧ o = oe v ∧ sh' = sh ∧ h' = he v
def PXx {ρ : Type} (r0 : (Nat × Hp) ⊕ ρ) (sh : List Shp) : Nat → List Shp → Hp → Prop := fun i sh' h' => r0 = .inl (i, h') ∧ sh' = sh
def oI (v : Int32 × Hp) : Option Value := some (.int v.1)
def oZ (v : Bool × Hp) : Option Value := some (.int (b2i v.1))
def oV (_ : Hp) : Option Value := none
theorem le_xi {sh : List Shp} {v : Int32} {h1 : Hp} {r0 : (Nat × Hp) ⊕ (Int32 × Hp)} (hf : some (Sum.inr (v, h1)) = some r0) : PX r0 oI (fun v => v.2) sh (some (.int v)) sh h1 := by cases hf; exact ⟨_, rfl, rfl, rfl, rfl⟩
theorem le_xz {sh : List Shp} {v : Bool} {h1 : Hp} {r0 : (Nat × Hp) ⊕ (Bool × Hp)} (hf : some (Sum.inr (v, h1)) = some r0) : PX r0 oZ (fun v => v.2) sh (some (.int (b2i v))) sh h1 := by cases hf; exact ⟨_, rfl, rfl, rfl, rfl⟩
theorem le_xv {sh : List Shp} {h1 : Hp} {r0 : (Nat × Hp) ⊕ Hp} (hf : some (Sum.inr h1) = some r0) : PX r0 oV (fun v => v) sh none sh h1 := by cases hf; exact ⟨_, rfl, rfl, rfl, rfl⟩
theorem le_xx {ρ : Type} {sh : List Shp} {i : Nat} {h1 : Hp} {r0 : (Nat × Hp) ⊕ ρ} (hf : some (Sum.inl (i, h1)) = some r0) : PXx r0 sh i sh h1 := by cases hf; exact ⟨rfl, rfl⟩
section R10
variable {g : GT} {X : XT} {own : String} {b : ByteArray} {Q : State → Prop} {cells slots : Nat} {sh : List Shp} {h : Hp} {pc n : Nat} {L : List (Option Value)} {st : List Value}
theorem PW.toX {post : Option Value → List Shp → Hp → Prop} {xpost : Nat → List Shp → Hp → Prop} {mc ms : Nat} (hc : cells ≤ mc) (hs : slots ≤ ms) (k : PW g X false (QE g X false post mc ms) mc ms sh h pc L st) : PW g X false (QX g X post xpost mc ms) cells slots sh h pc L st :=
  fun H locs ls hH hS hL => W.widen hc hs (vx_ret (k H locs ls hH hS hL))
/-- what the tables say of 'throw new E(text)' by the class entry ik, the text's is, the constructor's ic -/
def excUp : List String := ["java/lang/RuntimeException", "java/lang/Exception"]
def TE (own : String) (i ik is ic : Nat) : Prop := Cond.classLink own ik (excN i) ∈ TG ∧ Cond.initialized (excN i) ∈ TG ∧ (∀ w ∈ vx_atS own ic (excN i) excUp, w ∈ TG ∨ (w ∈ NT ∧ w.onTables = true)) ∧ Bundle.fit (excN i) = true ∧ ∃ tx : String, (own, is, tx) ∈ sx_msgs
theorem exc_fit : ∀ n ∈ excUp, Bundle.fit n = true := by decide +kernel
theorem tg_ot {w : Cond} (h : w ∈ TG) : vx_ot w = true := by
  unfold vx_ot
  rw [tg_good h, Bool.or_true]
theorem nt_ot {w : Cond} (h : w ∈ NT ∧ w.onTables = true) : vx_ot w = true := by
  unfold vx_ot
  rw [h.2, Bool.true_or]
set_option maxHeartbeats 1000000 in
theorem PW.thrW {D MC MS i ik is ic n1 n2 n3 n4 n5 mc ms : Nat} {post : Option Value → List Shp → Hp → Prop} {xpost : Nat → List Shp → Hp → Prop} (cx : Cx g X own b) (hR : RmG X.2.2.1 D MC MS) (hno : NoT X) (hE : TE own i ik is ic)
    (d0 : Dx b pc (.new ik) 3 n1) (d1 : Dx b n1 .dup 1 n2) (d2 : Dx b n2 (.ldc_w is) 3 n3) (d3 : Dx b n3 (.invokespecial ic) 3 n4) (d4 : Dx b n4 .athrow 1 n5) (hD : 9 ≤ D) (hcat : (st.map fun v => v.category).sum ≤ 8) (hc1 : cells + 1 ≤ mc) (hs1 : slots + 6 ≤ ms) (hmc : mc ≤ MC) (hms : ms ≤ MS) (hp : xpost i sh h) : PW g X false (QX g X post xpost mc ms) cells slots sh h pc L st := by
  obtain ⟨d0, rfl⟩ := d0
  obtain ⟨d1, rfl⟩ := d1
  obtain ⟨d2, rfl⟩ := d2
  obtain ⟨d3, rfl⟩ := d3
  obtain ⟨d4, rfl⟩ := d4
  obtain ⟨e1, e2, e3, e4, tx, e5⟩ := hE
  intro H locs ls hH hS hL
  have hts := cx.2.2.2.1
  obtain ⟨sa, hsa⟩ := cx.2.2.2.2.1.2.1.2.2.2.2.2.1 _ e5
  have h7 := cx.2.2.2.2.1.2.1.2.2.2.2.2.2.1
  exact vx_throwSW (A := gA g) (names := excUp) cx.1 cx.2.1 cx.2.2.2.2.1.2.2.1 cx.2.2.1 e4 exc_fit (hts _ e1) (hts _ e2) hsa (fun w hw => (e3 w hw).elim (hts w) (fun q => Cx.nt cx q.1)) (fun w hw => by
      rcases List.mem_cons.mp hw with rfl | hw
      · exact tg_ot e1
      rcases List.mem_cons.mp hw with rfl | hw
      · exact tg_ot e2
      · exact (e3 w hw).elim tg_ot nt_ot) h7.1 h7.2 hS hL.1 d0 d1 d2 d3 d4 (fun x hx => (hno x hx).elim) (by show 2 + 3 < _; have := hR.1; omega) (by show _ + (13 * (2 + 1) + 43) ≤ _; have := hR.2.1; omega) (Nat.le_trans hc1 (Nat.le_trans hmc hR.2.2.1)) (Nat.le_trans hs1 (Nat.le_trans hms hR.2.2.2)) cx.2.2.2.2.2.1
    (fun t hvm hz hq => ⟨i, sh, h, rfl, hp, ⟨fun k c hk => (hH.1 k c hk).kept (hq _ (hH.1 k c hk).lt), Nat.le_trans hH.2.1 hz, fun e => by cases e⟩, Nat.le_trans hS.1 hz, fun q h1 h2 => (hq q (Nat.lt_of_lt_of_le h1 hS.1)).trans (hS.2.1 q h1 h2)⟩) hS.2.2 hc1 hs1
set_option maxHeartbeats 1000000 in
theorem PW.thrS {D MC MS i ik is ic n1 n2 n3 n4 n5 mc ms : Nat} {post : Option Value → List Shp → Hp → Prop} {xpost : Nat → List Shp → Hp → Prop} (cx : Cx g X own b) (hR : RmG X.2.2.1 D MC MS) (hno : NoT X) (hE : TE own i ik is ic)
    (d0 : Dx b pc (.new ik) 3 n1) (d1 : Dx b n1 .dup 1 n2) (d2 : Dx b n2 (.ldc is) 2 n3) (d3 : Dx b n3 (.invokespecial ic) 3 n4) (d4 : Dx b n4 .athrow 1 n5) (hD : 9 ≤ D) (hcat : (st.map fun v => v.category).sum ≤ 8) (hc1 : cells + 1 ≤ mc) (hs1 : slots + 6 ≤ ms) (hmc : mc ≤ MC) (hms : ms ≤ MS) (hp : xpost i sh h) : PW g X false (QX g X post xpost mc ms) cells slots sh h pc L st := by
  obtain ⟨d0, rfl⟩ := d0
  obtain ⟨d1, rfl⟩ := d1
  obtain ⟨d2, rfl⟩ := d2
  obtain ⟨d3, rfl⟩ := d3
  obtain ⟨d4, rfl⟩ := d4
  obtain ⟨e1, e2, e3, e4, tx, e5⟩ := hE
  intro H locs ls hH hS hL
  have hts := cx.2.2.2.1
  obtain ⟨sa, hsa⟩ := cx.2.2.2.2.1.2.1.2.2.2.2.2.1 _ e5
  have h7 := cx.2.2.2.2.1.2.1.2.2.2.2.2.2.1
  exact vx_throwS (A := gA g) (names := excUp) cx.1 cx.2.1 cx.2.2.2.2.1.2.2.1 cx.2.2.1 e4 exc_fit (hts _ e1) (hts _ e2) hsa (fun w hw => (e3 w hw).elim (hts w) (fun q => Cx.nt cx q.1)) (fun w hw => by
      rcases List.mem_cons.mp hw with rfl | hw
      · exact tg_ot e1
      rcases List.mem_cons.mp hw with rfl | hw
      · exact tg_ot e2
      · exact (e3 w hw).elim tg_ot nt_ot) h7.1 h7.2 hS hL.1 d0 d1 d2 d3 d4 (fun x hx => (hno x hx).elim) (by show 2 + 3 < _; have := hR.1; omega) (by show _ + (13 * (2 + 1) + 43) ≤ _; have := hR.2.1; omega) (Nat.le_trans hc1 (Nat.le_trans hmc hR.2.2.1)) (Nat.le_trans hs1 (Nat.le_trans hms hR.2.2.2)) cx.2.2.2.2.2.1
    (fun t hvm hz hq => ⟨i, sh, h, rfl, hp, ⟨fun k c hk => (hH.1 k c hk).kept (hq _ (hH.1 k c hk).lt), Nat.le_trans hH.2.1 hz, fun e => by cases e⟩, Nat.le_trans hS.1 hz, fun q h1 h2 => (hq q (Nat.lt_of_lt_of_le h1 hS.1)).trans (hS.2.1 q h1 h2)⟩) hS.2.2 hc1 hs1
/-- behind a call of a method that returns or throws -/
theorem PW.afterX {post : Option Value → List Shp → Hp → Prop} {xpost : Nat → List Shp → Hp → Prop} {mc ms : Nat} {H : Heap} {locs : List Loc} {ls : Array Slot} {st0 : List Value} {a : Array Value}
    (hr : vx_Run X.1 g.1 X.2.1 X.2.2.1 X.2.2.2.1 X.2.2.2.2.1 X.2.2.2.2.2.1 X.2.2.2.2.2.2.1 X.2.2.2.2.2.2.2.1 X.2.2.2.2.2.2.2.2 H locs cells slots mc ms (F0 X.2.2.2.2.1 pc ls st0) st (QcG g false post a) (XcG g xpost) (gA g)) (hS : va_S (gA g) X.2.2.2.1.heap H locs) (hL : LV ls X.2.2.2.2.2.2.2.2.maxLocals L)
    (kx : ∀ (i : Nat) (sh1 : List Shp) (h1 : Hp), xpost i sh1 h1 → ∀ (H1 : Heap) (locs1 : List Loc) (q : Nat) (ce : Cell), HOK g false sh1 h1 H1 → va_S (gA g) X.2.2.2.1.heap H1 locs1 → H1[q]? = some ce → ce.vm = .none → X.2.2.2.1.vm.findClass (excN i) = some ce.cls → vx_W X.1 g.1 X.2.1 X.2.2.1 X.2.2.2.1 X.2.2.2.2.1 X.2.2.2.2.2.1 X.2.2.2.2.2.2.1 X.2.2.2.2.2.2.2.1 X.2.2.2.2.2.2.2.2 H1 locs1 (cells + mc) (slots + ms) Q (F0 X.2.2.2.2.1 pc ls st) q)
    (k : ∀ (o : Option Value) (sh1 : List Shp) (h1 : Hp), post o sh1 h1 → PW g X false Q (cells + mc) (slots + ms) sh1 h1 (pc + 3) L (o.toList ++ st)) : WX g X H locs cells slots Q (F0 X.2.2.2.2.1 pc ls st0) := by
  intro T hT Xs
  rcases hr T hT Xs with ⟨v, st₀, t, T', L9, h0, X', hL9, e1, e2, ⟨⟨o, sh1, h1, hv, hp, hH1⟩, hz, hk⟩, stp⟩ | ⟨q, st₀, t, T', L9, E, ce, h0, X', hL9, e1, e2, ⟨i, sh1, h1, rfl, hp, hH1, hz, hk⟩, hce, hv, hcl, stp⟩
  · cases hv
    rw [h0] at hz hk
    obtain ⟨t2, a1, b1⟩ := k v sh1 h1 hp T'.heap (locs ++ L9) ls (by rw [e1]; exact hH1)
      ⟨Nat.le_trans hS.1 (by rw [e1]; exact hz), fun q g1 g2 => by rw [e1, hk q (Nat.lt_of_lt_of_le g1 hS.1) g2]; exact hS.2.1 q g1 g2, fun q hq => by
        rcases List.mem_append.mp hq with h | h
        · exact hS.2.2 q h
        · exact hL9 q h⟩ hL T' rfl X'
    exact ⟨t2, stp t2 a1, b1⟩
  · rw [h0] at hz hk
    obtain ⟨t2, a1, b1⟩ := kx i sh1 h1 hp T'.heap (locs ++ L9) q ce (by rw [e1]; exact hH1)
      ⟨Nat.le_trans hS.1 (by rw [e1]; exact hz), fun q g1 g2 => by rw [e1, hk q (Nat.lt_of_lt_of_le g1 hS.1) g2]; exact hS.2.1 q g1 g2, fun q hq => by
        rcases List.mem_append.mp hq with h | h
        · exact hS.2.2 q h
        · exact hL9 q h⟩ (by rw [e1]; exact hce) hv hcl T' rfl X'
    exact ⟨t2, stp.trans a1, b1⟩
/-- o.m(..) of a method that returns or throws, by a method that hands the throw on or catches it -/
theorem PW.callVXk {D MC MS : Nat} {y : MT} {d mc ms nA idx a ci : Nat} {ts : List SlT} {q : vw_C} {As st0 : List Value} {post : Option Value → List Shp → Hp → Prop} {xpost : Nat → List Shp → Hp → Prop}
    (cx : Cx g X own b) (hR : RmG X.2.2.1 D MC MS) (hd : Dx b pc (.invokevirtual idx) 3 n) (hl : Cond.methodLink own idx y.1 ∈ TG) (hm : MV y nA) (hsh : sh[a]? = some (.inl (ci, ts))) (hq : clX[ci]? = some q) (hqc : q.1 = y.1.cls) (hnA : As.length = nA)
    (hst0 : st0 = As.reverse ++ .ref (gB g + a) :: st) (hcat : (st.map fun v => v.category).sum ≤ 8) (hD : d + 1 ≤ D) (hloc : 8 + (y.2.2.1 + 11) + 40 * d ≤ 40 * D) (hmc : cells + mc ≤ MC) (hms : slots + ms ≤ MS)
    (hC : CtX g y d mc ms (.ref (gB g + a) :: As) sh h post xpost) (kx : ∀ (ls : Array Slot), LV ls X.2.2.2.2.2.2.2.2.maxLocals L → ∀ (i : Nat) (sh1 : List Shp) (h1 : Hp), xpost i sh1 h1 → ∀ (H1 : Heap) (locs1 : List Loc) (q : Nat) (ce : Cell), HOK g false sh1 h1 H1 → va_S (gA g) X.2.2.2.1.heap H1 locs1 → H1[q]? = some ce → ce.vm = .none → X.2.2.2.1.vm.findClass (excN i) = some ce.cls → vx_W X.1 g.1 X.2.1 X.2.2.1 X.2.2.2.1 X.2.2.2.2.1 X.2.2.2.2.2.1 X.2.2.2.2.2.2.1 X.2.2.2.2.2.2.2.1 X.2.2.2.2.2.2.2.2 H1 locs1 (cells + mc) (slots + ms) Q (F0 X.2.2.2.2.1 pc ls st) q)
    (k : ∀ (o : Option Value) (sh1 : List Shp) (h1 : Hp), post o sh1 h1 → PW g X false Q (cells + mc) (slots + ms) sh1 h1 n L (o.toList ++ st)) : PW g X false Q cells slots sh h pc L st0 := by
  obtain ⟨hd, rfl⟩ := hd
  subst hst0
  obtain ⟨⟨hcode, hini, hy, hpar⟩, hinst, hsel⟩ := hm
  intro H locs ls hH hS hL
  have hts := cx.2.2.2.1
  have hmeth : ∃ cell : Cell, H[gB g + a]? = some cell ∧ cell.vm.isStatics = false ∧ X.2.2.2.1.vm.findClass y.1.cls = some cell.cls := by
    rw [← hqc]
    exact va_recv cx.2.2.2.2.1.1 (hH.one hsh) (ci := ci) (q0 := 0) hq rfl
  have hlen : ∀ sig, parseMethodDescriptor y.1.desc = some sig → nA = sig.parameters.length := by
    intro sig hs
    rw [hs] at hpar
    exact (Option.some.inj hpar).symm
  have hpre : PreV X.2.2.2.1 H y.1.cls (gB g + a) (PcG g false sh h (.ref (gB g + a) :: As)) As := ⟨PcG.blind, hmeth, PcG.at cx hH hS⟩
  have hRR : (rmd d mc ms).frames + 1 ≤ X.2.2.1.frames ∧ 8 + (y.2.2.1 + 11) + (rmd d mc ms).locals ≤ X.2.2.1.locals := ⟨Nat.le_trans hD hR.1, Nat.le_trans hloc hR.2.1⟩
  have hff : cells + mc ≤ X.2.2.1.cells ∧ slots + ms ≤ X.2.2.1.slots := ⟨Nat.le_trans hmc hR.2.2.1, Nat.le_trans hms hR.2.2.2⟩
  exact PW.afterX (vx_runV (C := y.1.cls) (Ts := TG) (n := nA) ⟨cx.1, cx.2.1, rfl, cx.2.2.1, hts⟩ hC ⟨⟨rfl, rfl, hRR.1, hRR.2, wsM_at hts hcode, List.mem_cons_self, hts _ hcode, hts _ hini, hy, hlen, hts _ hl⟩, hts _ hinst, hts _ hsel⟩ hpre rfl hnA hL.1 rfl (lv_room hcat) hd hff) hS hL (kx ls hL) k
theorem thB_cases {ρ σ : Type} {x : Option ((Nat × Hp) ⊕ ρ)} {F : ρ → Option ((Nat × Hp) ⊕ σ)} {r0 : (Nat × Hp) ⊕ σ} (hf : thB x F = some r0) : ∃ t, x = some t ∧ (∀ e, t = .inl e → r0 = .inl e) ∧ ∀ v, t = .inr v → F v = some r0 := by
  unfold thB at hf
  cases x with
  | none => cases hf
  | some t =>
    refine ⟨t, rfl, fun e he => ?_, fun v hv => ?_⟩
    · subst he; cases hf; rfl
    · subst hv; exact hf
/-- .. which hands it on: by a method that throws itself -/
theorem PW.callVX {D MC MS : Nat} {y : MT} {d mc ms nA idx a ci mq sq : Nat} {ts : List SlT} {q : vw_C} {As st0 : List Value} {ρ σ : Type} {oe : ρ → Option Value} {he : ρ → Hp} {postQ : Option Value → List Shp → Hp → Prop} {x : Option ((Nat × Hp) ⊕ ρ)} {F : ρ → Option ((Nat × Hp) ⊕ σ)} {r0 : (Nat × Hp) ⊕ σ}
    (cx : Cx g X own b) (hR : RmG X.2.2.1 D MC MS) (hno : NoT X) (hd : Dx b pc (.invokevirtual idx) 3 n) (hl : Cond.methodLink own idx y.1 ∈ TG) (hm : MV y nA) (hsh : sh[a]? = some (.inl (ci, ts))) (hq : clX[ci]? = some q) (hqc : q.1 = y.1.cls) (hnA : As.length = nA)
    (hst0 : st0 = As.reverse ++ .ref (gB g + a) :: st) (hcat : (st.map fun v => v.category).sum ≤ 8) (hD : d + 1 ≤ D) (hloc : 8 + (y.2.2.1 + 11) + 40 * d ≤ 40 * D) (hmc : cells + mc ≤ mq) (hms : slots + ms ≤ sq) (hmq : mq ≤ MC) (hsq : sq ≤ MS) (hf : thB x F = some r0)
    (hC : ∀ t, x = some t → CtX g y d mc ms (.ref (gB g + a) :: As) sh h (PX t oe he sh) (PXx t sh)) (k : ∀ v : ρ, F v = some r0 → PW g X false (QX g X postQ (PXx r0 sh) mq sq) (cells + mc) (slots + ms) sh (he v) n L ((oe v).toList ++ st)) : PW g X false (QX g X postQ (PXx r0 sh) mq sq) cells slots sh h pc L st0 := by
  obtain ⟨t, e, hi, hr⟩ := thB_cases hf
  refine PW.callVXk cx hR hd hl hm hsh hq hqc hnA hst0 hcat hD hloc (Nat.le_trans hmc hmq) (Nat.le_trans hms hsq) (hC t e) (fun ls hL i sh1 h1 hp H1 locs1 q ce hH hS hce hv hcl => ?_) (fun o sh1 h1 hp => ?_)
  · obtain ⟨ht, rfl⟩ := hp
    have := hi _ ht
    exact vx_out (fun x hx => (hno x hx).elim) cx.2.2.2.2.2.1 hce hv hcl (fun t ht _ => ⟨i, sh1, h1, rfl, ⟨this, rfl⟩, by rw [ht]; exact hH, hS.F ht⟩) hS.2.2 hmc hms
  · obtain ⟨v, hv, rfl, rfl, rfl⟩ := hp
    exact k v (hr v hv)
/-! handlers of the law's methods -/
def catK (k : Nat) : Nat := match k with
  | 13 => 1
  | 18 => 2
  | 30 => 3
  | 58 => 4
  | _ => 0
def cfind (i pc : Nat) : List ExceptionTableEntry → Option Nat
  | [] => none
  | x :: r => if covers x pc then (if catK x.catchType = i then some x.handlerPc else if catK x.catchType = 0 then none else cfind i pc r) else cfind i pc r
theorem cfind_spec {i pc hp : Nat} : ∀ {T : List ExceptionTableEntry}, cfind i pc T = some hp → ∃ pre x suf, T = pre ++ x :: suf ∧ (∀ z ∈ pre, covers z pc = false ∨ (catK z.catchType ≠ 0 ∧ catK z.catchType ≠ i)) ∧ covers x pc = true ∧ catK x.catchType = i ∧ x.handlerPc = hp
  | [], h => by cases h
  | x :: r, h => by
    unfold cfind at h
    by_cases hc : covers x pc = true
    · rw [if_pos hc] at h
      by_cases hk : catK x.catchType = i
      · rw [if_pos hk] at h
        exact ⟨[], x, r, rfl, (fun z hz => nomatch hz), hc, hk, Option.some.inj h⟩
      · rw [if_neg hk] at h
        by_cases h0 : catK x.catchType = 0
        · rw [if_pos h0] at h; cases h
        · rw [if_neg h0] at h
          obtain ⟨pre, y, suf, e1, e2, e3, e4, e5⟩ := cfind_spec h
          refine ⟨x :: pre, y, suf, by rw [e1]; rfl, fun z hz => ?_, e3, e4, e5⟩
          rcases List.mem_cons.mp hz with rfl | hz
          · exact Or.inr ⟨h0, hk⟩
          · exact e2 z hz
    · rw [if_neg hc] at h
      obtain ⟨pre, y, suf, e1, e2, e3, e4, e5⟩ := cfind_spec h
      refine ⟨x :: pre, y, suf, by rw [e1]; rfl, fun z hz => ?_, e3, e4, e5⟩
      rcases List.mem_cons.mp hz with rfl | hz
      · exact Or.inl (by simpa using hc)
      · exact e2 z hz
def CK : Prop := ∀ k, k < 64 → catK k ≠ 0 → Cond.classLink RL k (excN (catK k)) ∈ TG
def CS : Prop := ∀ i, i < 5 → i ≠ 0 → Cond.castable (excN i) (excN i) ∈ NT
theorem catK_lt {k : Nat} (h : catK k ≠ 0) : k < 64 ∧ catK k < 5 := by
  unfold catK at h ⊢
  split <;> first | exact ⟨by omega, by omega⟩ | (exfalso; exact h (by split <;> first | rfl | contradiction))
theorem nc_mem : ∀ i, i < 5 → i ≠ 0 → ∀ j, j < 5 → j ≠ 0 → j ≠ i → (i, j) ∈ ncPairs := by
  have h : ∀ i ∈ [1, 2, 3, 4], ∀ j ∈ [1, 2, 3, 4], j ≠ i → (i, j) ∈ ncPairs := by decide
  intro i h5 h0 j g5 g0 hn
  refine h i ?_ j ?_ hn
  · have : i = 1 ∨ i = 2 ∨ i = 3 ∨ i = 4 := by omega
    rcases this with rfl | rfl | rfl | rfl <;> decide
  · have : j = 1 ∨ j = 2 ∨ j = 3 ∨ j = 4 := by omega
    rcases this with rfl | rfl | rfl | rfl <;> decide
/-- o.m(..) of a method that returns or throws; each throw of it has a handler here -/
theorem PW.callVC {D MC MS : Nat} {y : MT} {d mc ms nA idx a ci : Nat} {ts : List SlT} {q : vw_C} {As st0 : List Value} {ρ σ : Type} {oe : ρ → Option Value} {he : ρ → Hp} {hh : List (Nat × Nat × Nat × Nat)} {x : Option ((Nat × Hp) ⊕ ρ)} {E : Nat → Hp → Option σ} {F : ρ → Option σ} {r : Option σ}
    (ck : CK) (cs : CS) (cx : Cx g X RL b) (hR : RmG X.2.2.1 D MC MS) (hT : X.2.2.2.2.2.2.2.2.exceptionTable.toList = tableOf hh) (hd : Dx b pc (.invokevirtual idx) 3 n) (hl : Cond.methodLink RL idx y.1 ∈ TG) (hm : MV y nA) (hsh : sh[a]? = some (.inl (ci, ts))) (hq : clX[ci]? = some q) (hqc : q.1 = y.1.cls) (hnA : As.length = nA)
    (hst0 : st0 = As.reverse ++ .ref (gB g + a) :: st) (hcat : (st.map fun v => v.category).sum ≤ 8) (hD : d + 1 ≤ D) (hloc : 8 + (y.2.2.1 + 11) + 40 * d ≤ 40 * D) (hmc : cells + mc ≤ MC) (hms : slots + ms ≤ MS) (hf : (x.bind fun t => match t with | .inl e => E e.1 e.2 | .inr v => F v) = r) (hr : r ≠ none)
    (hC : ∀ t, x = some t → CtX g y d mc ms (.ref (gB g + a) :: As) sh h (PX t oe he sh) (PXx t sh)) (kx : ∀ (i : Nat) (h1 : Hp), E i h1 = r → ∃ hp : Nat, (i < 5 ∧ i ≠ 0) ∧ cfind i pc (tableOf hh) = some hp ∧ ∀ q : Nat, PW g X false Q (cells + mc) (slots + ms) sh h1 hp L [.ref q])
    (k : ∀ v : ρ, F v = r → PW g X false Q (cells + mc) (slots + ms) sh (he v) n L ((oe v).toList ++ st)) : PW g X false Q cells slots sh h pc L st0 := by
  obtain ⟨t, e, hf⟩ := bndO hf hr
  refine PW.callVXk cx hR hd hl hm hsh hq hqc hnA hst0 hcat hD hloc hmc hms (hC t e) (fun ls hL i sh1 h1 hp H1 locs1 q ce hH hS hce hv hcl => ?_) (fun o sh1 h1 hp => ?_)
  · obtain ⟨ht, rfl⟩ := hp
    subst ht
    obtain ⟨hp, ⟨hi5, hi0⟩, hfd, kk⟩ := kx i h1 hf
    obtain ⟨pre, x, suf, e1, e2, e3, e4, e5⟩ := cfind_spec hfd
    have hxk := catK_lt (k := x.catchType) (by rw [e4]; exact hi0)
    refine vx_catch (name := excN i) cx.2.2.1 pre x suf (by rw [hT, e1]) (fun z hz => ?_) e3 (fun h0 => ?_) (cx.2.2.2.1 _ (by have := ck x.catchType hxk.1 (by rw [e4]; exact hi0); rwa [e4] at this)) (Cx.nt cx (cs i hi5 hi0)) hce hv hcl ?_
    · rcases e2 z hz with a | ⟨a, c⟩
      · exact Or.inl a
      · have hzk := catK_lt a
        refine Or.inr ⟨fun h0 => a (by rw [h0]; rfl), excN (catK z.catchType), cx.2.2.2.1 _ (ck _ hzk.1 a), ?_⟩
        exact cx.2.2.2.2.1.2.1.2.2.2.2.2.2.2.2.2.2 _ (nc_mem i hi5 hi0 _ hzk.2 a c)
    · rw [h0] at e4
      exact hi0 e4.symm
    · rw [e5]
      exact kk q H1 locs1 ls hH hS hL
  · obtain ⟨v, hv, rfl, rfl, rfl⟩ := hp
    subst hv
    exact k v hf
/-! the law's own methods, with their tables -/
abbrev MTW : Type := MethodName × ByteArray × Nat × Option FieldType × List (Nat × Nat × Nat × Nat)
def wsW (y : MTW) : List Cond := .codeWith y.1 y.2.1 y.2.2.1 y.2.2.2.1 y.2.2.2.2 :: TG
def CtW (g : GT) (y : MTW) (d mc ms : Nat) (As : List Value) (sh : List Shp) (h : Hp) (post : Option Value → List Shp → Hp → Prop) : Prop :=
  vx_Met g.1 y.1 (wsW y) (rmd d mc ms) (PcG g false sh h As) (QcG g false post) (XcG g (fun _ _ _ => False)) mc ms (gA g)
theorem CtW.of {y : MTW} {d mc ms : Nat} {As : List Value} {post : Option Value → List Shp → Hp → Prop} (hy : plainName y.1.cls = true) (hc : ∀ w ∈ As, w.category = 1) (hn : As.length ≤ y.2.2.1) (hL : As.map some ++ List.replicate (y.2.2.1 - As.length) none = L)
    (body : ∀ X : XT, Mx g X (y.1, y.2.1, y.2.2.1, y.2.2.2.1) d mc ms → X.2.2.2.2.2.2.2.2.exceptionTable.toList = tableOf y.2.2.2.2 → PW g X false (QX g X post (fun _ _ _ => False) mc ms) 0 0 sh h 0 L []) : CtW g y d mc ms As sh h post := by
  refine vx_ofWH (cc := y.2.1) (maxL := y.2.2.1) (ret := y.2.2.2.1) (hh := y.2.2.2.2) (ws' := TG) hy rfl ?_
  intro p e s m args below meth c s₁ B hml hv
  obtain ⟨rfl, hG, hH, hB⟩ := hv
  have hts := atoms_spec (ws := wsW y) B.pre
  have hT := vx_table (x := y.1) B (hts _ List.mem_cons_self)
  have hown : s.vm.findClass y.1.cls = some m.cls := findClass_of_methodNamed B.named
  rw [lg_entry_eq]
  have hlen : (lg_sl As).length ≤ y.2.2.1 := by rw [lg_sl_len As hc]; exact hn
  have hl := lv_entry As (n := y.2.2.1) hlen
  rw [← hL] at body
  exact body (p, e, _, s, m, As.toArray, below, meth, c) ⟨⟨B.exec, B.bytes, hown, fun w hw => hts w (List.mem_cons_of_mem _ hw), hG, B.notSynchronized, hB⟩, ⟨Nat.le_refl _, Nat.le_refl _, Nat.le_refl _, Nat.le_refl _⟩, hml, B.returns, (name_of_methodNamed B.named B.method).1⟩ hT s.heap [] _ hH va_S.rf (by
    show LV _ c.maxLocals _
    rw [hml]
    exact LV.of hl (fun i v hi => by
      have := lass_lk As _ i v hc hi 0
      rwa [Nat.zero_add] at this))
def MW (y : MTW) (n : Nat) : Prop := Cond.codeWith y.1 y.2.1 y.2.2.1 y.2.2.2.1 y.2.2.2.2 ∈ TG ∧ Cond.initialized y.1.cls ∈ TG ∧ (y.1.cls ≠ "java/lang/invoke/MethodHandle" ∧ y.1.cls ≠ "java/lang/invoke/VarHandle") ∧ (parseMethodDescriptor y.1.desc).map (fun d => d.parameters.length) = some n ∧ Cond.static y.1 ∈ TG
theorem wsW_at {y : MTW} {ma : Array Value} {s : State} (hts : ∀ w ∈ TG, w.before ma s = true) (hy : Cond.codeWith y.1 y.2.1 y.2.2.1 y.2.2.2.1 y.2.2.2.2 ∈ TG) : ∀ w ∈ wsW y, ∀ (a' : Array Value) (U : State), s.WarmedH U.vm → w.before a' U = true := by
  intro w hw a' U hW
  rcases List.mem_cons.mp hw with rfl | hw
  · exact word_at hW (good_of_word (tg_good hy)) (hts _ hy)
  · exact word_at hW (good_of_word (tg_good hw)) (hts w hw)
/-- a call of one of them -/
theorem PW.callW {D MC MS : Nat} {y : MTW} {d mc ms nA idx : Nat} {As st0 : List Value} {post : Option Value → List Shp → Hp → Prop}
    (cx : Cx g X own b) (hR : RmG X.2.2.1 D MC MS) (hd : Dx b pc (.invokestatic idx) 3 n) (hl : Cond.methodLink own idx y.1 ∈ TG) (hm : MW y nA) (hnA : As.length = nA)
    (hst0 : st0 = As.reverse ++ st) (hcat : (st.map fun v => v.category).sum ≤ 8) (hD : d + 1 ≤ D) (hloc : 8 + (y.2.2.1 + 11) + 40 * d ≤ 40 * D) (hmc : cells + mc ≤ MC) (hms : slots + ms ≤ MS)
    (hC : CtW g y d mc ms As sh h post) (k : ∀ (o : Option Value) (sh1 : List Shp) (h1 : Hp), post o sh1 h1 → PW g X false Q (cells + mc) (slots + ms) sh1 h1 n L (o.toList ++ st)) : PW g X false Q cells slots sh h pc L st0 := by
  obtain ⟨hd, rfl⟩ := hd
  subst hst0
  obtain ⟨hcode, hini, hy, hpar, hstat⟩ := hm
  intro H locs ls hH hS hL
  have hts := cx.2.2.2.1
  have hlen : ∀ sig, parseMethodDescriptor y.1.desc = some sig → nA = sig.parameters.length := by
    intro sig hs
    rw [hs] at hpar
    exact (Option.some.inj hpar).symm
  have hpre : PreS X.2.2.2.1 H (PcG g false sh h As) As := ⟨PcG.blind, PcG.at cx hH hS⟩
  have hRR : (rmd d mc ms).frames + 1 ≤ X.2.2.1.frames ∧ 8 + (y.2.2.1 + 11) + (rmd d mc ms).locals ≤ X.2.2.1.locals := ⟨Nat.le_trans hD hR.1, Nat.le_trans hloc hR.2.1⟩
  have hff : cells + mc ≤ X.2.2.1.cells ∧ slots + ms ≤ X.2.2.1.slots := ⟨Nat.le_trans hmc hR.2.2.1, Nat.le_trans hms hR.2.2.2⟩
  exact PW.afterX (vx_runSX (Ts := TG) (n := nA) ⟨cx.1, cx.2.1, rfl, cx.2.2.1, hts⟩ hC ⟨⟨rfl, rfl, hRR.1, hRR.2, wsW_at hts hcode, List.mem_cons_self⟩, hts _ hcode, hts _ hini, hy, hlen, hts _ hl, hts _ hstat⟩ hpre rfl hnA hL.1 rfl (lv_room hcat) hd hff) hS hL (fun i sh1 h1 hp => hp.elim) k
/-! a row of one long -/
theorem PW.last1 {a : Nat} {x : Int32} {ρ : Type} {F : Hp → ρ} {r : ρ} {ex : Bool} (cx : Cx g X own b) (hd : Dx b pc .lastore 1 n) (hsh : sh[a]? = some (.inr (3, 1, []))) (hf : nm (up2 h a 0 x) F = r) (k : ∀ h' : Hp, F h' = r → PW g X ex Q cells slots sh h' n L st) : PW g X ex Q cells slots sh h pc L (.long x.toInt64 :: .int 0 :: .ref (gB g + a) :: st) := by
  obtain ⟨hd, rfl⟩ := hd
  intro H locs ls hH hS hL
  have hc0 : H[gB g + a]? = some (vp_cell (gc g 3) (1, .inr (.inl (fun j => (rd h a j).toInt64)))) := hH.1 a _ hsh
  have hK := cx.2.2.2.2.1.1
  refine W.last cx.1 cx.2.1 hc0 ((hK.2 3 _ rfl).1 1 (fun j => .long (rd h a j).toInt64)) (fun q => by cases q) (by show ¬ ((0 : Int32) < 0 ∨ (arrV _ _ _).slots.size ≤ _); rw [arrV_size]; exact (by decide : ¬ ((0 : Int32) < 0 ∨ 1 ≤ (0 : Int32).toNatClampNeg))) rfl rfl hd fun H1 e z oq => ?_
  refine k _ hf H1 _ ls (hH.set hsh ?_ z oq) (hS.put z oq (Nat.le_add_right _ _)) hL
  show H1[gB g + a]? = some (vp_cell (gc g 3) (1, .inr (.inl (fun j => (upd (rd h a) 0 x j).toInt64))))
  rw [e]
  show some ((arrV (gc g 3) 1 (fun j => .long (rd h a j).toInt64)).setSlot _ _) = some (arrV (gc g 3) 1 (fun j => .long (upd (rd h a) 0 x j).toInt64))
  rw [arrV_store]
  congr 2
  funext q
  by_cases hq : q = 0
  · subst hq
    simp [updV, upd, show (0 : Int32).toNatClampNeg = 0 by decide]
  · simp [updV, upd, hq, show (0 : Int32).toNatClampNeg = 0 by decide]
theorem PW.lald1 {a : Nat} {ex : Bool} (cx : Cx g X own b) (hd : Dx b pc .laload 1 n) (hsh : sh[a]? = some (.inr (3, 1, []))) (k : PW g X ex Q cells slots sh h n L (.long (rd h a 0).toInt64 :: st)) : PW g X ex Q cells slots sh h pc L (.int 0 :: .ref (gB g + a) :: st) := by
  obtain ⟨hd, rfl⟩ := hd
  exact fun H locs ls hH hS hL => va_lald (ws := [(gB g + a, conc g (.inr (3, 1, [])) (rd h a))]) cx.1 cx.2.1 cx.2.2.2.2.1.1 (hH.one hsh) 0 3 rfl rfl (i := 0) (by unfold vp_in; decide) hd (k H locs ls hH hS hL)
end R10
section R10b
variable {g : GT} {X : XT} {own : String} {b : ByteArray} {cells slots : Nat} {sh : List Shp} {h : Hp} {pc n : Nat} {L : List (Option Value)} {st : List Value}
theorem PW.callTI {D MC MS : Nat} {y : MT} {d mc ms nA idx a ci mq sq : Nat} {ts : List SlT} {q : vw_C} {As st0 : List Value} {σ : Type} {postQ : Option Value → List Shp → Hp → Prop} {x : Option ((Nat × Hp) ⊕ (Int32 × Hp))} {F : Int32 × Hp → Option ((Nat × Hp) ⊕ σ)} {r0 : (Nat × Hp) ⊕ σ}
    (cx : Cx g X own b) (hR : RmG X.2.2.1 D MC MS) (hno : NoT X) (hd : Dx b pc (.invokevirtual idx) 3 n) (hl : Cond.methodLink own idx y.1 ∈ TG) (hm : MV y nA) (hsh : sh[a]? = some (.inl (ci, ts))) (hq : clX[ci]? = some q) (hqc : q.1 = y.1.cls) (hnA : As.length = nA)
    (hst0 : st0 = As.reverse ++ .ref (gB g + a) :: st) (hcat : (st.map fun v => v.category).sum ≤ 8) (hD : d + 1 ≤ D) (hloc : 8 + (y.2.2.1 + 11) + 40 * d ≤ 40 * D) (hmc : cells + mc ≤ mq) (hms : slots + ms ≤ sq) (hmq : mq ≤ MC) (hsq : sq ≤ MS) (hf : thB x F = some r0)
    (hC : ∀ t, x = some t → CtX g y d mc ms (.ref (gB g + a) :: As) sh h (PX t oI (fun v => v.2) sh) (PXx t sh)) (k : ∀ (v : Int32) (h2 : Hp), F (v, h2) = some r0 → PW g X false (QX g X postQ (PXx r0 sh) mq sq) (cells + mc) (slots + ms) sh h2 n L (.int v :: st)) : PW g X false (QX g X postQ (PXx r0 sh) mq sq) cells slots sh h pc L st0 :=
  PW.callVX (oe := oI) (he := fun v => v.2) cx hR hno hd hl hm hsh hq hqc hnA hst0 hcat hD hloc hmc hms hmq hsq hf hC (fun v hv => k v.1 v.2 hv)
theorem PW.callTZ {D MC MS : Nat} {y : MT} {d mc ms nA idx a ci mq sq : Nat} {ts : List SlT} {q : vw_C} {As st0 : List Value} {σ : Type} {postQ : Option Value → List Shp → Hp → Prop} {x : Option ((Nat × Hp) ⊕ (Bool × Hp))} {F : Bool × Hp → Option ((Nat × Hp) ⊕ σ)} {r0 : (Nat × Hp) ⊕ σ}
    (cx : Cx g X own b) (hR : RmG X.2.2.1 D MC MS) (hno : NoT X) (hd : Dx b pc (.invokevirtual idx) 3 n) (hl : Cond.methodLink own idx y.1 ∈ TG) (hm : MV y nA) (hsh : sh[a]? = some (.inl (ci, ts))) (hq : clX[ci]? = some q) (hqc : q.1 = y.1.cls) (hnA : As.length = nA)
    (hst0 : st0 = As.reverse ++ .ref (gB g + a) :: st) (hcat : (st.map fun v => v.category).sum ≤ 8) (hD : d + 1 ≤ D) (hloc : 8 + (y.2.2.1 + 11) + 40 * d ≤ 40 * D) (hmc : cells + mc ≤ mq) (hms : slots + ms ≤ sq) (hmq : mq ≤ MC) (hsq : sq ≤ MS) (hf : thB x F = some r0)
    (hC : ∀ t, x = some t → CtX g y d mc ms (.ref (gB g + a) :: As) sh h (PX t oZ (fun v => v.2) sh) (PXx t sh)) (k : ∀ (v : Bool) (h2 : Hp), F (v, h2) = some r0 → PW g X false (QX g X postQ (PXx r0 sh) mq sq) (cells + mc) (slots + ms) sh h2 n L (.int (b2i v) :: st)) : PW g X false (QX g X postQ (PXx r0 sh) mq sq) cells slots sh h pc L st0 :=
  PW.callVX (oe := oZ) (he := fun v => v.2) cx hR hno hd hl hm hsh hq hqc hnA hst0 hcat hD hloc hmc hms hmq hsq hf hC (fun v hv => k v.1 v.2 hv)
theorem PW.callTV {D MC MS : Nat} {y : MT} {d mc ms nA idx a ci mq sq : Nat} {ts : List SlT} {q : vw_C} {As st0 : List Value} {σ : Type} {postQ : Option Value → List Shp → Hp → Prop} {x : Option ((Nat × Hp) ⊕ Hp)} {F : Hp → Option ((Nat × Hp) ⊕ σ)} {r0 : (Nat × Hp) ⊕ σ}
    (cx : Cx g X own b) (hR : RmG X.2.2.1 D MC MS) (hno : NoT X) (hd : Dx b pc (.invokevirtual idx) 3 n) (hl : Cond.methodLink own idx y.1 ∈ TG) (hm : MV y nA) (hsh : sh[a]? = some (.inl (ci, ts))) (hq : clX[ci]? = some q) (hqc : q.1 = y.1.cls) (hnA : As.length = nA)
    (hst0 : st0 = As.reverse ++ .ref (gB g + a) :: st) (hcat : (st.map fun v => v.category).sum ≤ 8) (hD : d + 1 ≤ D) (hloc : 8 + (y.2.2.1 + 11) + 40 * d ≤ 40 * D) (hmc : cells + mc ≤ mq) (hms : slots + ms ≤ sq) (hmq : mq ≤ MC) (hsq : sq ≤ MS) (hf : thB x F = some r0)
    (hC : ∀ t, x = some t → CtX g y d mc ms (.ref (gB g + a) :: As) sh h (PX t oV (fun v => v) sh) (PXx t sh)) (k : ∀ (h2 : Hp), F h2 = some r0 → PW g X false (QX g X postQ (PXx r0 sh) mq sq) (cells + mc) (slots + ms) sh h2 n L st) : PW g X false (QX g X postQ (PXx r0 sh) mq sq) cells slots sh h pc L st0 :=
  PW.callVX (oe := oV) (he := fun v => v) cx hR hno hd hl hm hsh hq hqc hnA hst0 hcat hD hloc hmc hms hmq hsq hf hC (fun v hv => k v hv)
end R10b
theorem nm_split {α β : Type} {x : α} {F : α → β} {r : β} (h : nm x F = r) : ∃ j : α, j = x ∧ F j = r := ⟨x, rfl, h⟩
section R10c
variable {g : GT} {X : XT} {own : String} {b : ByteArray} {ex : Bool} {Q : State → Prop} {cells slots : Nat} {sh : List Shp} {h : Hp} {pc n : Nat} {L : List (Option Value)} {st : List Value}
theorem PW.ldcSW {idx : Nat} {v : Int32} (cx : Cx g X own b) (hd : Dx b pc (.ldc_w idx) 3 n) (hk : SK own idx v) (k : PW g X ex Q cells slots sh h n L (.ref (ga g v.toNatClampNeg) :: st)) : PW g X ex Q cells slots sh h pc L st := by
  obtain ⟨hd, rfl⟩ := hd
  obtain ⟨tx, c, hm, hv⟩ := hk
  rw [hv] at k
  intro H locs ls hH hS hL T hT XX
  have hZ := cx.2.2.2.2.1.2.1.2.2.2.2.1 _ hm
  obtain ⟨t, a1, b1⟩ := k H locs ls hH hS hL T hT XX
  exact ⟨t, XX.ldcStringW cx.1 cx.2.2.1 (text := tx) (a := ga g (100 + c)) hZ.1 hZ.2 (g := F0 X.2.2.2.2.1 pc ls st) rfl (by rw [cx.2.1]; exact hd) t a1, b1⟩
end R10c
section R10d
variable {g : GT} {X : XT} {own : String} {b : ByteArray} {ex : Bool} {Q : State → Prop} {cells slots : Nat} {sh : List Shp} {h : Hp} {pc n : Nat} {L : List (Option Value)} {st : List Value}
theorem PW.callVWIc {D MC MS : Nat} {y : MT} {d nA idx a ci : Nat} {ts : List SlT} {q : vw_C} {As st0 : List Value} {ρ : Type} {x : Option (Int32 × Hp)} {F : Int32 × Hp → Option ρ} {r : Option ρ} (cx : Cx g X own b) (hR : RmG X.2.2.1 D MC MS) (hd : Dx b pc (.invokevirtual idx) 3 n) (hl : KL own idx y) (hm : MV y nA) (hsh : sh[a]? = some (.inl (ci, ts))) (hq : clX[ci]? = some q) (hqc : q.1 = y.1.cls) (hnA : As.length = nA) (hst0 : st0 = As.reverse ++ .ref (gB g + a) :: st) (hcat : (st.map fun v => v.category).sum ≤ 8) (hD : d + 1 ≤ D) (hloc : 8 + (y.2.2.1 + 11) + 40 * d ≤ 40 * D) (hmc : cells ≤ MC) (hms : slots ≤ MS) (hf : x.bind F = r) (hr : r ≠ none) (hC : ∀ v : Int32 × Hp, x = some v → Ct g y d 0 0 ex (.ref (gB g + a) :: As) sh h (PE (some (.int v.1)) sh v.2)) (k : ∀ (v : Int32) (h2 : Hp), F (v, h2) = r → PW g X ex Q cells slots sh h2 n L (.int v :: st)) : PW g X ex Q cells slots sh h pc L st0 :=
  PW.callVWI cx hR hd hl hm hsh hq hqc hnA hst0 hcat hD hloc hmc hms hf hr hC (fun v hv => k v.1 v.2 hv)
theorem PW.callVWBc {D MC MS : Nat} {y : MT} {d nA idx a ci : Nat} {ts : List SlT} {q : vw_C} {As st0 : List Value} {ρ : Type} {x : Option (Bool × Hp)} {F : Bool × Hp → Option ρ} {r : Option ρ} (cx : Cx g X own b) (hR : RmG X.2.2.1 D MC MS) (hd : Dx b pc (.invokevirtual idx) 3 n) (hl : KL own idx y) (hm : MV y nA) (hsh : sh[a]? = some (.inl (ci, ts))) (hq : clX[ci]? = some q) (hqc : q.1 = y.1.cls) (hnA : As.length = nA) (hst0 : st0 = As.reverse ++ .ref (gB g + a) :: st) (hcat : (st.map fun v => v.category).sum ≤ 8) (hD : d + 1 ≤ D) (hloc : 8 + (y.2.2.1 + 11) + 40 * d ≤ 40 * D) (hmc : cells ≤ MC) (hms : slots ≤ MS) (hf : x.bind F = r) (hr : r ≠ none) (hC : ∀ v : Bool × Hp, x = some v → Ct g y d 0 0 ex (.ref (gB g + a) :: As) sh h (PE (some (.int (b2i v.1))) sh v.2)) (k : ∀ (v : Bool) (h2 : Hp), F (v, h2) = r → PW g X ex Q cells slots sh h2 n L (.int (b2i v) :: st)) : PW g X ex Q cells slots sh h pc L st0 :=
  PW.callVWB cx hR hd hl hm hsh hq hqc hnA hst0 hcat hD hloc hmc hms hf hr hC (fun v hv => k v.1 v.2 hv)
end R10d
