/-! ===== contracts, calls, ends ===== -/
def PcG (g : GT) (ex : Bool) (sh : List Shp) (h : Hp) (As : List Value) : Array Value → State → Prop := va_Pc As (fun U => GS g U ∧ HOK g ex sh h U.heap ∧ gB g ≤ U.heap.size)
def QcG (g : GT) (ex : Bool) (post : Option Value → List Shp → Hp → Prop) : Array Value → State → Outcome → State → Prop := fun _ st o t => (∃ (v : Option Value) (sh : List Shp) (h : Hp), o = .returned v ∧ post v sh h ∧ HOK g ex sh h t.heap) ∧ va_F (gA g) st t
def Ct (g : GT) (y : MT) (d mc ms : Nat) (ex : Bool) (As : List Value) (sh : List Shp) (h : Hp) (post : Option Value → List Shp → Hp → Prop) : Prop :=
  Met g.1 y.1 (wsM y) (rmd d mc ms) (PcG g ex sh h As) (QcG g ex post) mc ms (gA g)
/-- the end: this outcome, this world -/
def PE (o : Option Value) (sh : List Shp) (h : Hp) : Option Value → List Shp → Hp → Prop := fun o' sh' h' => o = o' ∧ sh = sh' ∧ h = h'
def QE (g : GT) (X : XT) (ex : Bool) (post : Option Value → List Shp → Hp → Prop) (mc ms : Nat) : State → Prop := MQ X.2.2.2.2.2.2.1 (QcG g ex post) X.2.2.2.2.2.1 X.2.2.2.1 mc ms (gA g)
def RmG (R : Room) (D MC MS : Nat) : Prop := D ≤ R.frames ∧ 40 * D ≤ R.locals ∧ MC ≤ R.cells ∧ MS ≤ R.slots
/-- what a walk has of its method: its room, its number of locals, its type -/
def Mx (g : GT) (X : XT) (y : MT) (d mc ms : Nat) : Prop := Cx g X y.1.cls y.2.1 ∧ RmG X.2.2.1 d mc ms ∧ X.2.2.2.2.2.2.2.2.maxLocals = y.2.2.1 ∧ X.2.2.2.2.2.2.2.1.sig.returnType = y.2.2.2 ∧ X.2.2.2.2.2.2.2.1.name = y.1.name
theorem PcG.blind {g : GT} {ex : Bool} {sh : List Shp} {h : Hp} {As : List Value} : FrameBlind (PcG g ex sh h As) := fun _ _ _ _ q => ⟨q.1, q.2.1.calling, q.2.2.1, q.2.2.2⟩
theorem lass_lk : ∀ (As : List Value) (k i : Nat) (v : Value), (∀ w ∈ As, w.category = 1) → lk (As.map some ++ List.replicate k none) i = some v → ∀ j, (j + i, v) ∈ lv_args j As
  | [], k, i, v, _, h, j => by
    exfalso
    have : ∀ (k i : Nat), lk (List.replicate k (none : Option Value)) i = none := by
      intro k
      induction k with
      | zero => intro i; simp [lk]
      | succ k ih =>
        intro i
        rw [List.replicate_succ]
        cases i with
        | zero => rfl
        | succ i => exact ih i
    simp [this] at h
  | a :: As, k, 0, v, hc, h, j => by
    simp only [List.map_cons, List.cons_append, lk] at h
    cases h
    exact List.mem_cons_self
  | a :: As, k, i + 1, v, hc, h, j => by
    simp only [List.map_cons, List.cons_append, lk] at h
    have := lass_lk As k i v (fun w hw => hc w (List.mem_cons_of_mem _ hw)) h (j + 1)
    have e1 : a.category = 1 := hc a List.mem_cons_self
    show (j + (i + 1), v) ∈ (j, a) :: lv_args (if a.category = 2 then j + 2 else j + 1) As
    rw [e1, if_neg (by decide)]
    refine List.mem_cons_of_mem _ ?_
    rwa [show j + (i + 1) = j + 1 + i by omega]
theorem lg_sl_len : ∀ (As : List Value), (∀ w ∈ As, w.category = 1) → (lg_sl As).length = As.length
  | [], _ => rfl
  | a :: As, hc => by
    have e1 : a.category = 1 := hc a List.mem_cons_self
    have := lg_sl_len As (fun w hw => hc w (List.mem_cons_of_mem _ hw))
    simp only [lg_sl] at this
    simp [lg_sl, e1, this]
theorem Ct.of {g : GT} {y : MT} {d mc ms : Nat} {ex : Bool} {As : List Value} {sh : List Shp} {h : Hp} {post : Option Value → List Shp → Hp → Prop} {L : List (Option Value)} (hy : plainName y.1.cls = true) (hc : ∀ w ∈ As, w.category = 1) (hn : As.length ≤ y.2.2.1) (hL : As.map some ++ List.replicate (y.2.2.1 - As.length) none = L)
    (body : ∀ X : XT, Mx g X y d mc ms → PW g X ex (QE g X ex post mc ms) 0 0 sh h 0 L []) : Ct g y d mc ms ex As sh h post := by
  refine Met.ofW (cc := y.2.1) (maxL := y.2.2.1) (ret := y.2.2.2) (ws' := TG) hy rfl ?_
  intro p e s m args below meth c s₁ B hml hv
  obtain ⟨rfl, hG, hH, hB⟩ := hv
  have hts := atoms_spec (ws := wsM y) B.pre
  have hown : s.vm.findClass y.1.cls = some m.cls := findClass_of_methodNamed B.named
  rw [lg_entry_eq]
  have hlen : (lg_sl As).length ≤ y.2.2.1 := by rw [lg_sl_len As hc]; exact hn
  have hl := lv_entry As (n := y.2.2.1) hlen
  rw [← hL] at body
  exact body (p, e, _, s, m, As.toArray, below, meth, c) ⟨⟨B.exec, B.bytes, hown, fun w hw => hts w (List.mem_cons_of_mem _ hw), hG, B.notSynchronized, hB⟩, ⟨Nat.le_refl _, Nat.le_refl _, Nat.le_refl _, Nat.le_refl _⟩, hml, B.returns, (name_of_methodNamed B.named B.method).1⟩ s.heap [] _ hH va_S.rf (by
    show LV _ c.maxLocals _
    rw [hml]
    exact LV.of hl (fun i v hi => by
      have := lass_lk As _ i v hc hi 0
      rwa [Nat.zero_add] at this))
/-- what the tables say of a method that is called, with n arguments -/
def MI (y : MT) (n : Nat) : Prop := Cond.code y.1 y.2.1 y.2.2.1 y.2.2.2 ∈ TG ∧ Cond.initialized y.1.cls ∈ TG ∧ (y.1.cls ≠ "java/lang/invoke/MethodHandle" ∧ y.1.cls ≠ "java/lang/invoke/VarHandle") ∧ (parseMethodDescriptor y.1.desc).map (fun d => d.parameters.length) = some n
def MV (y : MT) (n : Nat) : Prop := MI y n ∧ Cond.instanceMethod y.1 ∈ TG ∧ Cond.selects y.1.cls y.1 y.1 ∈ TG
def MSt (y : MT) (n : Nat) : Prop := MI y n ∧ Cond.static y.1 ∈ TG
def KL (own : String) (idx : Nat) (y : MT) : Prop := Cond.methodLink own idx y.1 ∈ TG ∨ ∃ host, Cond.methodLinkNest own idx y.1 host ∈ NT
section Calls
variable {g : GT} {X : XT} {own : String} {b : ByteArray} {ex : Bool} {Q : State → Prop} {cells slots : Nat} {sh : List Shp} {h : Hp} {pc n : Nat} {L : List (Option Value)} {st : List Value}
theorem wsM_at {y : MT} {ma : Array Value} {s : State} (hts : ∀ w ∈ TG, w.before ma s = true) (hy : Cond.code y.1 y.2.1 y.2.2.1 y.2.2.2 ∈ TG) : ∀ w ∈ wsM y, ∀ (a' : Array Value) (U : State), s.WarmedH U.vm → w.before a' U = true := by
  intro w hw a' U hW
  obtain ⟨hm, hg⟩ := goodM (Ts := TG) (fun _ h => h) hy w hw
  exact word_at hW hg (hts w hm)
/-- behind a call -/
theorem PW.after {post : Option Value → List Shp → Hp → Prop} {mc ms : Nat} {H : Heap} {locs : List Loc} {ls : Array Slot} {st0 : List Value} {a : Array Value}
    (hr : va_Run X.1 g.1 X.2.1 X.2.2.1 X.2.2.2.1 X.2.2.2.2.1 X.2.2.2.2.2.1 X.2.2.2.2.2.2.1 X.2.2.2.2.2.2.2.1 X.2.2.2.2.2.2.2.2 H locs cells slots mc ms (F0 X.2.2.2.2.1 pc ls st0) st (QcG g ex post a) (gA g)) (hS : va_S (gA g) X.2.2.2.1.heap H locs) (hL : LV ls X.2.2.2.2.2.2.2.2.maxLocals L)
    (k : ∀ (o : Option Value) (sh1 : List Shp) (h1 : Hp), post o sh1 h1 → PW g X ex Q (cells + mc) (slots + ms) sh1 h1 (pc + 3) L (o.toList ++ st)) : WX g X H locs cells slots Q (F0 X.2.2.2.2.1 pc ls st0) := by
  intro T hT Xs
  obtain ⟨v, st₀, t, T', L9, h0, X', hL9, e1, e2, ⟨⟨o, sh1, h1, hv, hp, hH1⟩, hz, hk⟩, stp⟩ := hr T hT Xs
  cases hv
  rw [h0] at hz hk
  obtain ⟨t2, a1, b1⟩ := k v sh1 h1 hp T'.heap (locs ++ L9) ls (by rw [e1]; exact hH1)
    ⟨Nat.le_trans hS.1 (by rw [e1]; exact hz), fun q g1 g2 => by rw [e1, hk q (Nat.lt_of_lt_of_le g1 hS.1) g2]; exact hS.2.1 q g1 g2, fun q hq => by
      rcases List.mem_append.mp hq with h | h
      · exact hS.2.2 q h
      · exact hL9 q h⟩ hL T' rfl X'
  exact ⟨t2, stp t2 a1, b1⟩
theorem PcG.at {As : List Value} {H : Heap} {locs : List Loc} (cx : Cx g X own b) (hH : HOK g ex sh h H) (hS : va_S (gA g) X.2.2.2.1.heap H locs) : ∀ U : State, U.heap = H → X.2.2.2.1.WarmedH U.vm → PcG g ex sh h As As.toArray U :=
  fun U hU hW => ⟨rfl, GS.call cx.2.2.2.2.1 cx.2.2.2.2.2.2 hS hU hW, by rw [hU]; exact hH, by rw [hU]; exact Nat.le_trans cx.2.2.2.2.2.2 hS.1⟩
/-- o.m(..), private or public, of the own class or of a nest mate; the receiver lies in the world -/
theorem PW.callVr {D MC MS : Nat} {y : MT} {d mc ms nA idx a : Nat} {As st0 : List Value} {post : Option Value → List Shp → Hp → Prop}
    (cx : Cx g X own b) (hR : RmG X.2.2.1 D MC MS) (hd : Dx b pc (.invokevirtual idx) 3 n) (hl : KL own idx y) (hm : MV y nA) (hrecv : ∀ (H : Heap) (locs : List Loc), HOK g ex sh h H → va_S (gA g) X.2.2.2.1.heap H locs → ∃ cell : Cell, H[a]? = some cell ∧ cell.vm.isStatics = false ∧ X.2.2.2.1.vm.findClass y.1.cls = some cell.cls) (hnA : As.length = nA)
    (hst0 : st0 = As.reverse ++ .ref a :: st) (hcat : (st.map fun v => v.category).sum ≤ 8) (hD : d + 1 ≤ D) (hloc : 8 + (y.2.2.1 + 11) + 40 * d ≤ 40 * D) (hmc : cells + mc ≤ MC) (hms : slots + ms ≤ MS)
    (hC : Ct g y d mc ms ex (.ref a :: As) sh h post) (k : ∀ (o : Option Value) (sh1 : List Shp) (h1 : Hp), post o sh1 h1 → PW g X ex Q (cells + mc) (slots + ms) sh1 h1 n L (o.toList ++ st)) : PW g X ex Q cells slots sh h pc L st0 := by
  obtain ⟨hd, rfl⟩ := hd
  subst hst0
  obtain ⟨⟨hcode, hini, hy, hpar⟩, hinst, hsel⟩ := hm
  intro H locs ls hH hS hL
  have hts := cx.2.2.2.1
  have hmeth := hrecv H locs hH hS
  have hcb : rmd d mc ms = rmd d mc ms := rfl
  have hlen : ∀ sig, parseMethodDescriptor y.1.desc = some sig → nA = sig.parameters.length := by
    intro sig hs
    rw [hs] at hpar
    exact (Option.some.inj hpar).symm
  have hpre : PreV X.2.2.2.1 H y.1.cls a (PcG g ex sh h (.ref a :: As)) As := ⟨PcG.blind, hmeth, PcG.at cx hH hS⟩
  have hRR : (rmd d mc ms).frames + 1 ≤ X.2.2.1.frames ∧ 8 + (y.2.2.1 + 11) + (rmd d mc ms).locals ≤ X.2.2.1.locals := ⟨Nat.le_trans hD hR.1, Nat.le_trans hloc hR.2.1⟩
  have hff : cells + mc ≤ X.2.2.1.cells ∧ slots + ms ≤ X.2.2.1.slots := ⟨Nat.le_trans hmc hR.2.2.1, Nat.le_trans hms hR.2.2.2⟩
  rcases hl with hl | ⟨host, hl⟩
  · exact PW.after (va_runV (C := y.1.cls) (Ts := TG) (n := nA) ⟨cx.1, cx.2.1, rfl, cx.2.2.1, hts⟩ hC ⟨⟨rfl, rfl, hRR.1, hRR.2, wsM_at hts hcode, List.mem_cons_self, hts _ hcode, hts _ hini, hy, hlen, hts _ hl⟩, hts _ hinst, hts _ hsel⟩ hpre rfl hnA hL.1 rfl (lv_room hcat) hd hff) hS hL k
  · exact PW.after (va_runVN (C := y.1.cls) (Ts := TG) (n := nA) ⟨cx.1, cx.2.1, rfl, cx.2.2.1, hts⟩ hC ⟨⟨⟨rfl, rfl, hRR.1, hRR.2, wsM_at hts hcode, List.mem_cons_self⟩, hts _ hcode, hts _ hini, hy, hlen, Cx.nt cx hl⟩, hts _ hinst, hts _ hsel⟩ hpre rfl hnA hL.1 rfl (lv_room hcat) hd hff) hS hL k
theorem PW.callV {D MC MS : Nat} {y : MT} {d mc ms nA idx a ci : Nat} {ts : List SlT} {q : vw_C} {As st0 : List Value} {post : Option Value → List Shp → Hp → Prop}
    (cx : Cx g X own b) (hR : RmG X.2.2.1 D MC MS) (hd : Dx b pc (.invokevirtual idx) 3 n) (hl : KL own idx y) (hm : MV y nA) (hsh : sh[a]? = some (.inl (ci, ts))) (hq : clX[ci]? = some q) (hqc : q.1 = y.1.cls) (hnA : As.length = nA)
    (hst0 : st0 = As.reverse ++ .ref (gB g + a) :: st) (hcat : (st.map fun v => v.category).sum ≤ 8) (hD : d + 1 ≤ D) (hloc : 8 + (y.2.2.1 + 11) + 40 * d ≤ 40 * D) (hmc : cells + mc ≤ MC) (hms : slots + ms ≤ MS)
    (hC : Ct g y d mc ms ex (.ref (gB g + a) :: As) sh h post) (k : ∀ (o : Option Value) (sh1 : List Shp) (h1 : Hp), post o sh1 h1 → PW g X ex Q (cells + mc) (slots + ms) sh1 h1 n L (o.toList ++ st)) : PW g X ex Q cells slots sh h pc L st0 :=
  PW.callVr cx hR hd hl hm (fun H locs hH _ => by
    rw [← hqc]
    exact va_recv cx.2.2.2.2.1.1 (hH.one hsh) (ci := ci) (q0 := 0) hq rfl) hnA hst0 hcat hD hloc hmc hms hC k
theorem PW.callS {D MC MS : Nat} {y : MT} {d mc ms nA idx : Nat} {As st0 : List Value} {post : Option Value → List Shp → Hp → Prop}
    (cx : Cx g X own b) (hR : RmG X.2.2.1 D MC MS) (hd : Dx b pc (.invokestatic idx) 3 n) (hl : KL own idx y) (hm : MSt y nA) (hnA : As.length = nA)
    (hst0 : st0 = As.reverse ++ st) (hcat : (st.map fun v => v.category).sum ≤ 8) (hD : d + 1 ≤ D) (hloc : 8 + (y.2.2.1 + 11) + 40 * d ≤ 40 * D) (hmc : cells + mc ≤ MC) (hms : slots + ms ≤ MS)
    (hC : Ct g y d mc ms ex As sh h post) (k : ∀ (o : Option Value) (sh1 : List Shp) (h1 : Hp), post o sh1 h1 → PW g X ex Q (cells + mc) (slots + ms) sh1 h1 n L (o.toList ++ st)) : PW g X ex Q cells slots sh h pc L st0 := by
  obtain ⟨hd, rfl⟩ := hd
  subst hst0
  obtain ⟨⟨hcode, hini, hy, hpar⟩, hstat⟩ := hm
  intro H locs ls hH hS hL
  have hts := cx.2.2.2.1
  have hlen : ∀ sig, parseMethodDescriptor y.1.desc = some sig → nA = sig.parameters.length := by
    intro sig hs
    rw [hs] at hpar
    exact (Option.some.inj hpar).symm
  have hpre : PreS X.2.2.2.1 H (PcG g ex sh h As) As := ⟨PcG.blind, PcG.at cx hH hS⟩
  have hRR : (rmd d mc ms).frames + 1 ≤ X.2.2.1.frames ∧ 8 + (y.2.2.1 + 11) + (rmd d mc ms).locals ≤ X.2.2.1.locals := ⟨Nat.le_trans hD hR.1, Nat.le_trans hloc hR.2.1⟩
  have hff : cells + mc ≤ X.2.2.1.cells ∧ slots + ms ≤ X.2.2.1.slots := ⟨Nat.le_trans hmc hR.2.2.1, Nat.le_trans hms hR.2.2.2⟩
  rcases hl with hl | ⟨host, hl⟩
  · exact PW.after (va_runS (Ts := TG) (n := nA) ⟨cx.1, cx.2.1, rfl, cx.2.2.1, hts⟩ hC ⟨⟨rfl, rfl, hRR.1, hRR.2, wsM_at hts hcode, List.mem_cons_self, hts _ hcode, hts _ hini, hy, hlen, hts _ hl⟩, hts _ hstat⟩ hpre rfl hnA hL.1 rfl (lv_room hcat) hd hff) hS hL k
  · exact PW.after (va_runSN (Ts := TG) (n := nA) ⟨cx.1, cx.2.1, rfl, cx.2.2.1, hts⟩ hC ⟨⟨⟨rfl, rfl, hRR.1, hRR.2, wsM_at hts hcode, List.mem_cons_self⟩, hts _ hcode, hts _ hini, hy, hlen, Cx.nt cx hl⟩, hts _ hstat, trivial⟩ hpre rfl hnA hL.1 rfl (lv_room hcat) hd hff) hS hL k
theorem QcG.ret {o : Option Value} {post : Option Value → List Shp → Hp → Prop} {H : Heap} {locs : List Loc} {a : Array Value} (hp : post o sh h) (hH : HOK g ex sh h H) (hS : va_S (gA g) X.2.2.2.1.heap H locs) : ∀ t : State, t.heap = H → X.2.2.2.1.WarmedH t.vm → QcG g ex post a X.2.2.2.1 (.returned o) t :=
  fun t ht _ => ⟨⟨o, sh, h, rfl, hp, by rw [ht]; exact hH⟩, hS.F ht⟩
theorem PW.iret {post : Option Value → List Shp → Hp → Prop} {v : Int32} (cx : Cx g X own b) (hr : X.2.2.2.2.2.2.2.1.sig.returnType = some .int) (hd : Dx b pc .ireturn 1 n) (hp : post (some (.int v)) sh h) : PW g X ex (QE g X ex post cells slots) cells slots sh h pc L [.int v] :=
  fun H locs ls hH hS hL => W.iret cx.1 cx.2.1 hr (QcG.ret hp hH hS) hS.2.2 hd.1 (hlocks := cx.2.2.2.2.2.1)
theorem PW.zret {post : Option Value → List Shp → Hp → Prop} {v : Int32} {ty : FieldType} (cx : Cx g X own b) (hr : X.2.2.2.2.2.2.2.1.sig.returnType = some ty) (hn : narrow ty (.int v) = .int v) (hd : Dx b pc .ireturn 1 n) (hp : post (some (.int v)) sh h) : PW g X ex (QE g X ex post cells slots) cells slots sh h pc L [.int v] :=
  fun H locs ls hH hS hL => W.zret cx.1 cx.2.1 hr hn (QcG.ret hp hH hS) hS.2.2 hd.1 (hlocks := cx.2.2.2.2.2.1)
theorem PW.vret {post : Option Value → List Shp → Hp → Prop} (cx : Cx g X own b) (hr : X.2.2.2.2.2.2.2.1.sig.returnType = none) (hd : Dx b pc .return_ 1 n) (hp : post none sh h) : PW g X ex (QE g X ex post cells slots) cells slots sh h pc L [] :=
  fun H locs ls hH hS hL => W.vret cx.1 cx.2.1 hr (QcG.ret hp hH hS) hS.2.2 hd.1 (hlocks := cx.2.2.2.2.2.1)
theorem PW.aret {post : Option Value → List Shp → Hp → Prop} {a : Nat} {C : String} (cx : Cx g X own b) (hr : X.2.2.2.2.2.2.2.1.sig.returnType = some (.object C)) (hd : Dx b pc .areturn 1 n) (hp : post (some (.ref a)) sh h) : PW g X ex (QE g X ex post cells slots) cells slots sh h pc L [.ref a] :=
  fun H locs ls hH hS hL => W.aret cx.1 cx.2.1 hr (Or.inl ⟨_, rfl⟩) (Or.inr ⟨_, rfl⟩) (QcG.ret hp hH hS) hS.2.2 hd.1 (hlocks := cx.2.2.2.2.2.1)
theorem PW.aretN {post : Option Value → List Shp → Hp → Prop} {C : String} (cx : Cx g X own b) (hr : X.2.2.2.2.2.2.2.1.sig.returnType = some (.object C)) (hd : Dx b pc .areturn 1 n) (hp : post (some .null) sh h) : PW g X ex (QE g X ex post cells slots) cells slots sh h pc L [.null] :=
  fun H locs ls hH hS hL => W.aret cx.1 cx.2.1 hr (Or.inl ⟨_, rfl⟩) (Or.inl rfl) (QcG.ret hp hH hS) hS.2.2 hd.1 (hlocks := cx.2.2.2.2.2.1)
theorem PW.fret {post : Option Value → List Shp → Hp → Prop} {v : UInt32} (cx : Cx g X own b) (hr : X.2.2.2.2.2.2.2.1.sig.returnType = some .float) (hd : Dx b pc .freturn 1 n) (hp : post (some (.float v)) sh h) : PW g X ex (QE g X ex post cells slots) cells slots sh h pc L [.float v] :=
  fun H locs ls hH hS hL => W.fret cx.1 cx.2.1 hr (QcG.ret hp hH hS) hS.2.2 hd.1 (hlocks := cx.2.2.2.2.2.1)
theorem PW.dret {post : Option Value → List Shp → Hp → Prop} {v : UInt64} (cx : Cx g X own b) (hr : X.2.2.2.2.2.2.2.1.sig.returnType = some .double) (hd : Dx b pc .dreturn 1 n) (hp : post (some (.double v)) sh h) : PW g X ex (QE g X ex post cells slots) cells slots sh h pc L [.double v] :=
  fun H locs ls hH hS hL => W.dret cx.1 cx.2.1 hr (QcG.ret hp hH hS) hS.2.2 hd.1 (hlocks := cx.2.2.2.2.2.1)
end Calls
