/-! ===== rows for the law's own methods and its entry ===== -/
def caB {ρ σ : Type} (x : Option ((Nat × Hp) ⊕ ρ)) (E : Nat → Hp → Option σ) (F : ρ → Option σ) : Option σ := x.bind fun t => match t with
  | .inl e => E e.1 e.2
  | .inr v => F v
theorem caE {σ : Type} {i e : Nat} {A B r : Option σ} (hf : (if i = e then A else B) = r) : (i = e ∧ A = r) ∨ (i ≠ e ∧ B = r) := by
  by_cases h : i = e
  · rw [if_pos h] at hf; exact Or.inl ⟨h, hf⟩
  · rw [if_neg h] at hf; exact Or.inr ⟨h, hf⟩
section R12
variable {g : GT} {X : XT} {own : String} {b : ByteArray} {Q : State → Prop} {cells slots : Nat} {sh : List Shp} {h : Hp} {pc n : Nat} {L : List (Option Value)} {st : List Value}
theorem PW.callVCI {D MC MS : Nat} {y : MT} {d mc ms nA idx a ci : Nat} {ts : List SlT} {q : vw_C} {As st0 : List Value} {σ : Type} {hh : List (Nat × Nat × Nat × Nat)} {x : Option ((Nat × Hp) ⊕ (Int32 × Hp))} {E : Nat → Hp → Option σ} {F : Int32 × Hp → Option σ} {r : Option σ}
    (ck : CK) (cs : CS) (cx : Cx g X RL b) (hR : RmG X.2.2.1 D MC MS) (hT : X.2.2.2.2.2.2.2.2.exceptionTable.toList = tableOf hh) (hd : Dx b pc (.invokevirtual idx) 3 n) (hl : Cond.methodLink RL idx y.1 ∈ TG) (hm : MV y nA) (hsh : sh[a]? = some (.inl (ci, ts))) (hq : clX[ci]? = some q) (hqc : q.1 = y.1.cls) (hnA : As.length = nA)
    (hst0 : st0 = As.reverse ++ .ref (gB g + a) :: st) (hcat : (st.map fun v => v.category).sum ≤ 8) (hD : d + 1 ≤ D) (hloc : 8 + (y.2.2.1 + 11) + 40 * d ≤ 40 * D) (hmc : cells + mc ≤ MC) (hms : slots + ms ≤ MS) (hf : caB x E F = r) (hr : r ≠ none)
    (hC : ∀ t, x = some t → CtX g y d mc ms (.ref (gB g + a) :: As) sh h (PX t oI (fun v => v.2) sh) (PXx t sh)) (kx : ∀ (i : Nat) (h1 : Hp), E i h1 = r → ∃ hp : Nat, (i < 5 ∧ i ≠ 0) ∧ cfind i pc (tableOf hh) = some hp ∧ ∀ q : Nat, PW g X false Q (cells + mc) (slots + ms) sh h1 hp L [.ref q])
    (k : ∀ (v : Int32) (h2 : Hp), F (v, h2) = r → PW g X false Q (cells + mc) (slots + ms) sh h2 n L (.int v :: st)) : PW g X false Q cells slots sh h pc L st0 :=
  PW.callVC (oe := oI) (he := fun v => v.2) (E := E) (F := F) ck cs cx hR hT hd hl hm hsh hq hqc hnA hst0 hcat hD hloc hmc hms hf hr hC kx (fun v hv => k v.1 v.2 hv)
theorem PW.callVCZ {D MC MS : Nat} {y : MT} {d mc ms nA idx a ci : Nat} {ts : List SlT} {q : vw_C} {As st0 : List Value} {σ : Type} {hh : List (Nat × Nat × Nat × Nat)} {x : Option ((Nat × Hp) ⊕ (Bool × Hp))} {E : Nat → Hp → Option σ} {F : Bool × Hp → Option σ} {r : Option σ}
    (ck : CK) (cs : CS) (cx : Cx g X RL b) (hR : RmG X.2.2.1 D MC MS) (hT : X.2.2.2.2.2.2.2.2.exceptionTable.toList = tableOf hh) (hd : Dx b pc (.invokevirtual idx) 3 n) (hl : Cond.methodLink RL idx y.1 ∈ TG) (hm : MV y nA) (hsh : sh[a]? = some (.inl (ci, ts))) (hq : clX[ci]? = some q) (hqc : q.1 = y.1.cls) (hnA : As.length = nA)
    (hst0 : st0 = As.reverse ++ .ref (gB g + a) :: st) (hcat : (st.map fun v => v.category).sum ≤ 8) (hD : d + 1 ≤ D) (hloc : 8 + (y.2.2.1 + 11) + 40 * d ≤ 40 * D) (hmc : cells + mc ≤ MC) (hms : slots + ms ≤ MS) (hf : caB x E F = r) (hr : r ≠ none)
    (hC : ∀ t, x = some t → CtX g y d mc ms (.ref (gB g + a) :: As) sh h (PX t oZ (fun v => v.2) sh) (PXx t sh)) (kx : ∀ (i : Nat) (h1 : Hp), E i h1 = r → ∃ hp : Nat, (i < 5 ∧ i ≠ 0) ∧ cfind i pc (tableOf hh) = some hp ∧ ∀ q : Nat, PW g X false Q (cells + mc) (slots + ms) sh h1 hp L [.ref q])
    (k : ∀ (v : Bool) (h2 : Hp), F (v, h2) = r → PW g X false Q (cells + mc) (slots + ms) sh h2 n L (.int (b2i v) :: st)) : PW g X false Q cells slots sh h pc L st0 :=
  PW.callVC (oe := oZ) (he := fun v => v.2) (E := E) (F := F) ck cs cx hR hT hd hl hm hsh hq hqc hnA hst0 hcat hD hloc hmc hms hf hr hC kx (fun v hv => k v.1 v.2 hv)
theorem PW.callWI {D MC MS : Nat} {y : MTW} {d mc ms nA idx : Nat} {As st0 : List Value} {ρ : Type} {x : Option (Int32 × Hp)} {F : Int32 × Hp → Option ρ} {r : Option ρ}
    (cx : Cx g X own b) (hR : RmG X.2.2.1 D MC MS) (hd : Dx b pc (.invokestatic idx) 3 n) (hl : Cond.methodLink own idx y.1 ∈ TG) (hm : MW y nA) (hnA : As.length = nA)
    (hst0 : st0 = As.reverse ++ st) (hcat : (st.map fun v => v.category).sum ≤ 8) (hD : d + 1 ≤ D) (hloc : 8 + (y.2.2.1 + 11) + 40 * d ≤ 40 * D) (hmc : cells + mc ≤ MC) (hms : slots + ms ≤ MS) (hf : x.bind F = r) (hr : r ≠ none)
    (hC : ∀ v : Int32 × Hp, x = some v → CtW g y d mc ms As sh h (PE (some (.int v.1)) sh v.2)) (k : ∀ (v : Int32) (h2 : Hp), F (v, h2) = r → PW g X false Q (cells + mc) (slots + ms) sh h2 n L (.int v :: st)) : PW g X false Q cells slots sh h pc L st0 := by
  obtain ⟨v, e, hf⟩ := bndO hf hr
  refine PW.callW cx hR hd hl hm hnA hst0 hcat hD hloc hmc hms (hC v e) (fun o sh1 h1 hp => ?_)
  obtain ⟨rfl, rfl, rfl⟩ := hp
  exact k v.1 v.2 hf
theorem PW.callVWDc {ex : Bool} {D MC MS : Nat} {y : MT} {d nA idx a ci : Nat} {ts : List SlT} {q : vw_C} {As st0 : List Value} {ρ : Type} {x : Option (UInt64 × Hp)} {F : UInt64 × Hp → Option ρ} {r : Option ρ} (cx : Cx g X own b) (hR : RmG X.2.2.1 D MC MS) (hd : Dx b pc (.invokevirtual idx) 3 n) (hl : KL own idx y) (hm : MV y nA) (hsh : sh[a]? = some (.inl (ci, ts))) (hq : clX[ci]? = some q) (hqc : q.1 = y.1.cls) (hnA : As.length = nA) (hst0 : st0 = As.reverse ++ .ref (gB g + a) :: st) (hcat : (st.map fun v => v.category).sum ≤ 8) (hD : d + 1 ≤ D) (hloc : 8 + (y.2.2.1 + 11) + 40 * d ≤ 40 * D) (hmc : cells ≤ MC) (hms : slots ≤ MS) (hf : x.bind F = r) (hr : r ≠ none) (hC : ∀ v : UInt64 × Hp, x = some v → Ct g y d 0 0 ex (.ref (gB g + a) :: As) sh h (PE (some (.double v.1)) sh v.2)) (k : ∀ (v : UInt64) (h2 : Hp), F (v, h2) = r → PW g X ex Q cells slots sh h2 n L (.double v :: st)) : PW g X ex Q cells slots sh h pc L st0 :=
  PW.callVWD cx hR hd hl hm hsh hq hqc hnA hst0 hcat hD hloc hmc hms hf hr hC (fun v hv => k v.1 v.2 hv)
theorem PW.callVWFc {ex : Bool} {D MC MS : Nat} {y : MT} {d nA idx a ci : Nat} {ts : List SlT} {q : vw_C} {As st0 : List Value} {ρ : Type} {x : Option (UInt32 × Hp)} {F : UInt32 × Hp → Option ρ} {r : Option ρ} (cx : Cx g X own b) (hR : RmG X.2.2.1 D MC MS) (hd : Dx b pc (.invokevirtual idx) 3 n) (hl : KL own idx y) (hm : MV y nA) (hsh : sh[a]? = some (.inl (ci, ts))) (hq : clX[ci]? = some q) (hqc : q.1 = y.1.cls) (hnA : As.length = nA) (hst0 : st0 = As.reverse ++ .ref (gB g + a) :: st) (hcat : (st.map fun v => v.category).sum ≤ 8) (hD : d + 1 ≤ D) (hloc : 8 + (y.2.2.1 + 11) + 40 * d ≤ 40 * D) (hmc : cells ≤ MC) (hms : slots ≤ MS) (hf : x.bind F = r) (hr : r ≠ none) (hC : ∀ v : UInt32 × Hp, x = some v → Ct g y d 0 0 ex (.ref (gB g + a) :: As) sh h (PE (some (.float v.1)) sh v.2)) (k : ∀ (v : UInt32) (h2 : Hp), F (v, h2) = r → PW g X ex Q cells slots sh h2 n L (.float v :: st)) : PW g X ex Q cells slots sh h pc L st0 :=
  PW.callVWF cx hR hd hl hm hsh hq hqc hnA hst0 hcat hD hloc hmc hms hf hr hC (fun v hv => k v.1 v.2 hv)
/-- the script's ints -/
theorem PW.sld {ex : Bool} {bs N : Nat} {xs : Nat → Int32} {i a : Int32} (cx : Cx g X own b) (hd : Dx b pc .iaload 1 n) (hX : va_X bs N xs X.2.2.2.1 X.2.2.2.1.heap) (hbB : bs < X.2.2.2.1.heap.size ∧ bs < gB g) (ha : vp_in i N ∧ xs i.toNatClampNeg = a) (k : PW g X ex Q cells slots sh h n L (.int a :: st)) : PW g X ex Q cells slots sh h pc L (.int i :: .ref bs :: st) := by
  obtain ⟨hd, rfl⟩ := hd
  obtain ⟨hin, rfl⟩ := ha
  exact fun H locs ls hH hS hL => va_sld cx.1 cx.2.1 hX hbB.1 (Nat.not_le.mpr hbB.2) hS hin hd (k H locs ls hH hS hL)
theorem PW.sclen {ex : Bool} {bs N : Nat} {xs : Nat → Int32} (cx : Cx g X own b) (hd : Dx b pc .arraylength 1 n) (hX : va_X bs N xs X.2.2.2.1 X.2.2.2.1.heap) (hbB : bs < X.2.2.2.1.heap.size ∧ bs < gB g) (k : PW g X ex Q cells slots sh h n L (.int (nI N) :: st)) : PW g X ex Q cells slots sh h pc L (.ref bs :: st) := by
  obtain ⟨hd, rfl⟩ := hd
  exact fun H locs ls hH hS hL => va_slen cx.1 cx.2.1 hX hbB.1 (Nat.not_le.mpr hbB.2) hS hd (k H locs ls hH hS hL)
theorem PW.exF {ex : Bool} (k : PW g X false Q cells slots sh h pc L st) : PW g X ex Q cells slots sh h pc L st :=
  fun H locs ls hH hS hL => k H locs ls ⟨hH.1, hH.2.1, fun e => by cases e⟩ hS hL
end R12
