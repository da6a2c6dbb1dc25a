/-! ===== p65: longs, static calls that write, the script ===== -/
theorem le_rj {sh : List Shp} {h : Hp} {v r0 : Int64} (hf : some v = some r0) : PE (some (.long r0)) sh h (some (.long v)) sh h := by cases hf; exact ⟨rfl, rfl, rfl⟩
section R12
variable {g : GT} {X : XT} {own : String} {b : ByteArray} {ex : Bool} {Q : State → Prop} {cells slots : Nat} {sh : List Shp} {h : Hp} {pc n : Nat} {L : List (Option Value)} {st : List Value}
theorem PW.lload {i : Nat} {x : Int64} (cx : Cx g X own b) (hd : Dx b pc (.lload i) 2 n) (hl : lk L i = some (.long x)) (k : PW g X ex Q cells slots sh h n L (.long x :: st)) : PW g X ex Q cells slots sh h pc L st := by
  obtain ⟨hd, rfl⟩ := hd
  exact fun H locs ls hH hS hL => lv_lload cx.1 cx.2.1 hd (hL.2.2 _ _ hl) (k H locs ls hH hS hL)
theorem PW.lload_n {i : Fin 4} {x : Int64} (cx : Cx g X own b) (hd : Dx b pc (.lload_n i) 1 n) (hl : lk L i.val = some (.long x)) (k : PW g X ex Q cells slots sh h n L (.long x :: st)) : PW g X ex Q cells slots sh h pc L st := by
  obtain ⟨hd, rfl⟩ := hd
  exact fun H locs ls hH hS hL => lv_lload_n cx.1 cx.2.1 hd rfl (hL.2.2 _ _ hl) (k H locs ls hH hS hL)
theorem PW.lstore {i : Nat} {x : Int64} {L' : List (Option Value)} (cx : Cx g X own b) (hd : Dx b pc (.lstore i) 2 n) (hi : i + 1 < X.2.2.2.2.2.2.2.2.maxLocals) (hf : lfree L i = true) (hL' : lset (lset L (i + 1) none) i (some (.long x)) = L') (k : PW g X ex Q cells slots sh h n L' st) : PW g X ex Q cells slots sh h pc L (.long x :: st) := by
  obtain ⟨hd, rfl⟩ := hd
  subst hL'
  exact fun H locs ls hH hS hL => lv_lstore cx.1 cx.2.1 hd hL.has hi rfl (fun ls' hl' => k H locs ls' hH hS (lv_setD (fun j w hj => (lass_mem L 0 (j, w)).mpr ⟨j, by simp, hj⟩) hf hl'))
theorem PW.lstore_n {i : Fin 4} {x : Int64} {L' : List (Option Value)} (cx : Cx g X own b) (hd : Dx b pc (.lstore_n i) 1 n) (hi : i.val + 1 < X.2.2.2.2.2.2.2.2.maxLocals) (hf : lfree L i.val = true) (hL' : lset (lset L (i.val + 1) none) i.val (some (.long x)) = L') (k : PW g X ex Q cells slots sh h n L' st) : PW g X ex Q cells slots sh h pc L (.long x :: st) := by
  obtain ⟨hd, rfl⟩ := hd
  subst hL'
  exact fun H locs ls hH hS hL => lv_lstore_n cx.1 cx.2.1 hd rfl hL.has hi rfl (fun ls' hl' => k H locs ls' hH hS (lv_setD (fun j w hj => (lass_mem L 0 (j, w)).mpr ⟨j, by simp, hj⟩) hf hl'))
theorem PW.ladd {x y : Int64} (cx : Cx g X own b) (hd : Dx b pc .ladd 1 n) (k : PW g X ex Q cells slots sh h n L (.long (x + y) :: st)) : PW g X ex Q cells slots sh h pc L (.long y :: .long x :: st) := by
  obtain ⟨hd, rfl⟩ := hd
  exact fun H locs ls hH hS hL => lv_ladd cx.1 cx.2.1 hd (k H locs ls hH hS hL)
theorem PW.lmul {x y : Int64} (cx : Cx g X own b) (hd : Dx b pc .lmul 1 n) (k : PW g X ex Q cells slots sh h n L (.long (x * y) :: st)) : PW g X ex Q cells slots sh h pc L (.long y :: .long x :: st) := by
  obtain ⟨hd, rfl⟩ := hd
  exact fun H locs ls hH hS hL => lv_lmul cx.1 cx.2.1 hd (k H locs ls hH hS hL)
theorem PW.ldc2 {idx : Nat} {v : Int64} (cx : Cx g X own b) (hd : Dx b pc (.ldc2_w idx) 3 n) (hl : Cond.constantLong own idx v ∈ TG) (k : PW g X ex Q cells slots sh h n L (.long v :: st)) : PW g X ex Q cells slots sh h pc L st := by
  obtain ⟨hd, rfl⟩ := hd
  exact fun H locs ls hH hS hL => lv_ldc2 cx.1 cx.2.1 cx.2.2.1 (cx.2.2.2.1 _ hl) hd (k H locs ls hH hS hL)
theorem PW.lret {post : Option Value → List Shp → Hp → Prop} {v : Int64} (cx : Cx g X own b) (hr : X.2.2.2.2.2.2.2.1.sig.returnType = some .long) (hd : Dx b pc .lreturn 1 n) (hp : post (some (.long v)) sh h) : PW g X ex (QE g X ex post cells slots) cells slots sh h pc L [.long v] :=
  fun H locs ls hH hS hL => W.lret cx.1 cx.2.1 hr (QcG.ret hp hH hS) hS.2.2 hd.1 (hlocks := cx.2.2.2.2.2.1)
theorem PW.callVWIc {D MC MS : Nat} {y : MT} {d nA idx a ci : Nat} {ts : List SlT} {q : vw_C} {As st0 : List Value} {ρ : Type} {x : Option (Int32 × Hp)} {F : Int32 × Hp → Option ρ} {r : Option ρ} (cx : Cx g X own b) (hR : RmG X.2.2.1 D MC MS) (hd : Dx b pc (.invokevirtual idx) 3 n) (hl : KL own idx y) (hm : MV y nA) (hsh : sh[a]? = some (.inl (ci, ts))) (hq : clX[ci]? = some q) (hqc : q.1 = y.1.cls) (hnA : As.length = nA) (hst0 : st0 = As.reverse ++ .ref (gB g + a) :: st) (hcat : (st.map fun v => v.category).sum ≤ 8) (hD : d + 1 ≤ D) (hloc : 8 + (y.2.2.1 + 11) + 40 * d ≤ 40 * D) (hmc : cells ≤ MC) (hms : slots ≤ MS) (hf : x.bind F = r) (hr : r ≠ none) (hC : ∀ v : Int32 × Hp, x = some v → Ct g y d 0 0 ex (.ref (gB g + a) :: As) sh h (PE (some (.int v.1)) sh v.2)) (k : ∀ (v : Int32) (h2 : Hp), F (v, h2) = r → PW g X ex Q cells slots sh h2 n L (.int v :: st)) : PW g X ex Q cells slots sh h pc L st0 :=
  PW.callVWI cx hR hd hl hm hsh hq hqc hnA hst0 hcat hD hloc hmc hms hf hr hC (fun v hv => k v.1 v.2 hv)
theorem PW.callVWBc {D MC MS : Nat} {y : MT} {d nA idx a ci : Nat} {ts : List SlT} {q : vw_C} {As st0 : List Value} {ρ : Type} {x : Option (Bool × Hp)} {F : Bool × Hp → Option ρ} {r : Option ρ} (cx : Cx g X own b) (hR : RmG X.2.2.1 D MC MS) (hd : Dx b pc (.invokevirtual idx) 3 n) (hl : KL own idx y) (hm : MV y nA) (hsh : sh[a]? = some (.inl (ci, ts))) (hq : clX[ci]? = some q) (hqc : q.1 = y.1.cls) (hnA : As.length = nA) (hst0 : st0 = As.reverse ++ .ref (gB g + a) :: st) (hcat : (st.map fun v => v.category).sum ≤ 8) (hD : d + 1 ≤ D) (hloc : 8 + (y.2.2.1 + 11) + 40 * d ≤ 40 * D) (hmc : cells ≤ MC) (hms : slots ≤ MS) (hf : x.bind F = r) (hr : r ≠ none) (hC : ∀ v : Bool × Hp, x = some v → Ct g y d 0 0 ex (.ref (gB g + a) :: As) sh h (PE (some (.int (b2i v.1))) sh v.2)) (k : ∀ (v : Bool) (h2 : Hp), F (v, h2) = r → PW g X ex Q cells slots sh h2 n L (.int (b2i v) :: st)) : PW g X ex Q cells slots sh h pc L st0 :=
  PW.callVWB cx hR hd hl hm hsh hq hqc hnA hst0 hcat hD hloc hmc hms hf hr hC (fun v hv => k v.1 v.2 hv)
theorem PW.callSRJ {D MC MS : Nat} {y : MT} {d nA idx : Nat} {As st0 : List Value} {ρ : Type} {x : Option (Int64)} {F : Int64 → Option ρ} {r : Option ρ} (cx : Cx g X own b) (hR : RmG X.2.2.1 D MC MS) (hd : Dx b pc (.invokestatic idx) 3 n) (hl : KL own idx y) (hm : MSt y nA) (hnA : As.length = nA) (hst0 : st0 = As.reverse ++ st) (hcat : (st.map fun v => v.category).sum ≤ 8) (hD : d + 1 ≤ D) (hloc : 8 + (y.2.2.1 + 11) + 40 * d ≤ 40 * D) (hmc : cells ≤ MC) (hms : slots ≤ MS) (hf : x.bind F = r) (hr : r ≠ none) (hC : ∀ v : Int64, x = some v → Ct g y d 0 0 ex As sh h (PE (some (.long v)) sh h)) (k : ∀ v : Int64, F v = r → PW g X ex Q cells slots sh h n L (.long v :: st)) : PW g X ex Q cells slots sh h pc L st0 := by
  obtain ⟨v, e, hf⟩ := bndO hf hr
  refine PW.callS cx hR hd hl hm hnA hst0 hcat hD hloc (mc := 0) (ms := 0) hmc hms (hC v e) (fun o sh1 h1 hp => ?_)
  obtain ⟨rfl, rfl, rfl⟩ := hp
  exact k _ hf
theorem PW.callSWIc {D MC MS : Nat} {y : MT} {d nA idx : Nat} {As st0 : List Value} {ρ : Type} {x : Option (Int32 × Hp)} {F : Int32 × Hp → Option ρ} {r : Option ρ} (cx : Cx g X own b) (hR : RmG X.2.2.1 D MC MS) (hd : Dx b pc (.invokestatic idx) 3 n) (hl : KL own idx y) (hm : MSt y nA) (hnA : As.length = nA) (hst0 : st0 = As.reverse ++ st) (hcat : (st.map fun v => v.category).sum ≤ 8) (hD : d + 1 ≤ D) (hloc : 8 + (y.2.2.1 + 11) + 40 * d ≤ 40 * D) (hmc : cells ≤ MC) (hms : slots ≤ MS) (hf : x.bind F = r) (hr : r ≠ none) (hC : ∀ v : Int32 × Hp, x = some v → Ct g y d 0 0 ex As sh h (PE (some (.int v.1)) sh v.2)) (k : ∀ (v : Int32) (h2 : Hp), F (v, h2) = r → PW g X ex Q cells slots sh h2 n L (.int v :: st)) : PW g X ex Q cells slots sh h pc L st0 :=
  PW.callSWI cx hR hd hl hm hnA hst0 hcat hD hloc hmc hms hf hr hC (fun v hv => k v.1 v.2 hv)
theorem PW.callSWBc {D MC MS : Nat} {y : MT} {d nA idx : Nat} {As st0 : List Value} {ρ : Type} {x : Option (Bool × Hp)} {F : Bool × Hp → Option ρ} {r : Option ρ} (cx : Cx g X own b) (hR : RmG X.2.2.1 D MC MS) (hd : Dx b pc (.invokestatic idx) 3 n) (hl : KL own idx y) (hm : MSt y nA) (hnA : As.length = nA) (hst0 : st0 = As.reverse ++ st) (hcat : (st.map fun v => v.category).sum ≤ 8) (hD : d + 1 ≤ D) (hloc : 8 + (y.2.2.1 + 11) + 40 * d ≤ 40 * D) (hmc : cells ≤ MC) (hms : slots ≤ MS) (hf : x.bind F = r) (hr : r ≠ none) (hC : ∀ v : Bool × Hp, x = some v → Ct g y d 0 0 ex As sh h (PE (some (.int (b2i v.1))) sh v.2)) (k : ∀ (v : Bool) (h2 : Hp), F (v, h2) = r → PW g X ex Q cells slots sh h2 n L (.int (b2i v) :: st)) : PW g X ex Q cells slots sh h pc L st0 :=
  PW.callSWB cx hR hd hl hm hnA hst0 hcat hD hloc hmc hms hf hr hC (fun v hv => k v.1 v.2 hv)
theorem PW.exF0 (k : PW g X false Q cells slots sh h pc L st) : PW g X ex Q cells slots sh h pc L st :=
  fun H locs ls hH hS hL => k H locs ls ⟨hH.1, hH.2.1, fun e => by cases e⟩ hS hL
/-- the law's script: its length, its cells -/
theorem PW.scl (cx : Cx g X own b) (hd : Dx b pc .arraylength 1 n) (k : PW g X ex Q cells slots sh h n L (.int (nI (ga g 61)) :: st)) : PW g X ex Q cells slots sh h pc L (.ref (ga g 60) :: st) := by
  obtain ⟨hd, rfl⟩ := hd
  exact fun H locs ls hH hS hL => va_tlen cx.1 cx.2.1 cx.2.2.2.2.1.2.1.2.2.2.2.2.2.1 hS rfl hd (k H locs ls hH hS hL)
theorem PW.scd {k0 : Nat} (cx : Cx g X own b) (hd : Dx b pc .iaload 1 n) (hk : k0 < ga g 61) (hk2 : k0 < 2 ^ 31) (k : PW g X ex Q cells slots sh h n L (.int (nI (ga g (1000 + k0))) :: st)) : PW g X ex Q cells slots sh h pc L (.int (nI k0) :: .ref (ga g 60) :: st) := by
  obtain ⟨hd, rfl⟩ := hd
  exact fun H locs ls hH hS hL => va_ti cx.1 cx.2.1 cx.2.2.2.2.1.2.1.2.2.2.2.2.2.1 hS (i := nI k0) (vp_in_iff.mpr (by rw [nI_toInt hk2]; omega)) (by show Value.int (nI (ga g (1000 + (nI k0).toNatClampNeg))) = _; rw [nI_clamp hk2]) hd (k H locs ls hH hS hL)
end R12
theorem and_lt (v : Int32) (m : Nat) (hm : m < 2 ^ 31) : ∃ k, k ≤ m ∧ v &&& nI m = nI k := by
  refine ⟨(v &&& nI m).toBitVec.toNat, ?_, ?_⟩
  · rw [Int32.toBitVec_and, BitVec.toNat_and]
    refine Nat.le_trans Nat.and_le_right ?_
    show (BitVec.ofNat 32 m).toNat ≤ m
    rw [BitVec.toNat_ofNat]
    exact Nat.mod_le _ _
  · apply Int32.toBitVec_inj.mp
    show _ = BitVec.ofNat 32 _
    rw [BitVec.ofNat_toNat, BitVec.setWidth_eq]
