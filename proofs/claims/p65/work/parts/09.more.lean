/-! ===== more rows: copies of rows, switches, doubles, constants that may be null ===== -/
section R9
variable {g : GT} {X : XT} {own : String} {b : ByteArray} {ex : Bool} {Q : State → Prop} {cells slots : Nat} {sh : List Shp} {h : Hp} {pc n : Nat} {L : List (Option Value)} {st : List Value}
def KA (own : String) (idx : Nat) : Prop := Cond.methodLink own idx arraycopyName ∈ TG ∧ Cond.native arraycopyName ∈ TG ∧ Cond.static arraycopyName ∈ TG ∧ Cond.initialized "java/lang/System" ∈ TG
set_option maxHeartbeats 1000000 in
theorem PW.acopy {a d N D MC MS idx : Nat} {vN : Int32} {ρ : Type} {F : Hp → ρ} {r : ρ} (cx : Cx g X own b) (hR : RmG X.2.2.1 D MC MS) (hd : Dx b pc (.invokestatic idx) 3 n) (hl : KA own idx) (ha : sh[a]? = some (.inr (0, N, []))) (hdd : sh[d]? = some (.inr (0, N, []))) (hN : vN = nI N ∧ N < 2 ^ 31) (hD : 1 ≤ D) (hcat : (st.map fun v => v.category).sum + (nativeFrameWords "java/lang/System" "arraycopy" 5 + 11) ≤ 40 * D) (hf : nm (acp h d a N) F = r) (k : ∀ h' : Hp, F h' = r → PW g X ex Q cells slots sh h' n L st) : PW g X ex Q cells slots sh h pc L (.int vN :: .int 0 :: .ref (gB g + d) :: .int 0 :: .ref (gB g + a) :: st) := by
  obtain ⟨hd, rfl⟩ := hd
  obtain ⟨rfl, hN⟩ := hN
  intro H locs ls hH hS hL T hT XX
  have hc0 : H[gB g + a]? = some (vp_cell (gc g 0) (N, .inl (rd h a))) := hH.1 a _ ha
  have hc1 : H[gB g + d]? = some (vp_cell (gc g 0) (N, .inl (rd h d))) := hH.1 d _ hdd
  have hK := cx.2.2.2.2.1.1
  have hn0 : ¬ (0 : Int32) < 0 := by decide
  have hnN : ¬ nI N < 0 := nI_pos hN
  have hcl : (nI N).toNatClampNeg = N := nI_clamp hN
  have hti : (nI N).toInt = (N : Int) := nI_toInt hN
  obtain ⟨-, k0, hk0, cm0, hkk0⟩ := (hK.2 0 _ rfl).1 N (fun j => .int (rd h a j))
  obtain ⟨-, k1, hk1, cm1, hkk1⟩ := (hK.2 0 _ rfl).1 N (fun j => .int (rd h d j))
  have h0c : (0 : Int32).toNatClampNeg = 0 := by decide
  obtain ⟨vm', X', step⟩ := XX.arraycopy cx.1 cx.2.2.1 (cx.2.2.2.1 _ hl.1) (cx.2.2.2.1 _ hl.2.1) (cx.2.2.2.1 _ hl.2.2.1) (cx.2.2.2.1 _ hl.2.2.2) (src := gB g + a) (dst := gB g + d) (cs := vp_cell (gc g 0) (N, .inl (rd h a))) (cd := vp_cell (gc g 0) (N, .inl (rd h d))) (srcPos := 0) (destPos := 0) (n := nI N) (by rw [hT]; exact hc0) (by rw [hT]; exact hc1)
    (fun _ h => by cases h) (fun _ h => by cases h) (fun h => by cases h) (fun h => by cases h) hk0 hk1 hkk0 hkk1 (by simp [show refKind FieldType.int = false from rfl]) hn0 hn0 hnN
    (by rw [hti]; show ¬ (0 : Int32).toInt + (N : Int) > ((arrV (gc g 0) N (fun j => .int (rd h a j))).slots.size : Int); rw [arrV_size]; simp)
    (by rw [hti]; show ¬ (0 : Int32).toInt + (N : Int) > ((arrV (gc g 0) N (fun j => .int (rd h d j))).slots.size : Int); rw [arrV_size]; simp)
    (fun vm₁ _ i hi => by
      rw [hcl] at hi
      have e : (vp_cell (gc g 0) (N, .inl (rd h a))).slots.getD ((0 : Int32).toNatClampNeg + i) .null = .int (rd h a ((0 : Int32).toNatClampNeg + i)) := by
        show (arrV (gc g 0) N (fun j => .int (rd h a j))).slots.getD _ _ = _
        rw [Array.getD_eq_getD_getElem?, arrV_read _ _ (by rw [h0c]; omega)]
        rfl
      refine ⟨?_, ?_⟩
      · rw [e]; rfl
      · rw [e]; exact trivial)
    (g := F0 X.2.2.2.2.1 pc ls (.int (nI N) :: .int 0 :: .ref (gB g + d) :: .int 0 :: .ref (gB g + a) :: st)) rfl hL.1 (rest := st) rfl (by rw [cx.2.1]; exact hd) (Nat.le_trans hD hR.1) (by show 2 * 0 + _ + _ ≤ _; have := hR.2.1; omega)
  have e1 : copied (vp_cell (gc g 0) (N, .inl (rd h a))) (vp_cell (gc g 0) (N, .inl (rd h d))) 0 0 (nI N) = vp_cell (gc g 0) (N, .inl (va_cpy (rd h a) (rd h d) (0 : Int32).toNatClampNeg (0 : Int32).toNatClampNeg (nI N).toNatClampNeg)) := va_copied (fun z => .int z) (gc g 0) (gc g 0) (rd h a) (rd h d) (by rw [hcl, h0c]; omega)
  rw [e1] at X' step
  have e2 : va_cpy (rd h a) (rd h d) (0 : Int32).toNatClampNeg (0 : Int32).toNatClampNeg (nI N).toNatClampNeg = rd (acp h d a N) d := by
    rw [hcl, h0c, rd_acp_self]
    funext j
    by_cases hj : j < N
    · rw [if_pos hj, pk_cpy_in (Nat.zero_le _) (by omega)]
      congr 1
      omega
    · rw [if_neg hj, pk_cpy_out (Or.inr (by omega))]
  rw [e2] at X' step
  have hlt : gB g + d < H.size := (Array.getElem?_eq_some_iff.mp hc1).1
  have hheap : ((T.setVm vm').setCell (gB g + d) (vp_cell (gc g 0) (N, .inl (rd (acp h d a N) d)))).heap = H.setIfInBounds (gB g + d) (vp_cell (gc g 0) (N, .inl (rd (acp h d a N) d))) := by rw [← hT]; rfl
  have oq : ∀ q : Nat, q ≠ gB g + d → (H.setIfInBounds (gB g + d) (vp_cell (gc g 0) (N, .inl (rd (acp h d a N) d))))[q]? = H[q]? := fun q hq => by simp [Array.getElem?_setIfInBounds, Ne.symm hq]
  obtain ⟨t, a1, b1⟩ := k (acp h d a N) hf _ _ ls (hH.setr hdd (fun _ e => rd_acp_ne e) (show (H.setIfInBounds (gB g + d) _)[gB g + d]? = some _ by simp [Array.getElem?_setIfInBounds, hlt]; rfl) (by simp) oq)
    ⟨by simp; exact hS.1, fun q g1 g2 => by
      rw [oq q (fun e => g2 (by rw [e]; exact Nat.le_add_right _ _))]
      exact hS.2.1 q g1 g2, fun q hq => by
      rcases List.mem_append.mp hq with h | h
      · exact hS.2.2 q h
      · obtain ⟨z, -, hz⟩ := List.mem_map.mp h
        rw [← hz]
        exact Nat.le_add_right _ _⟩ hL _ hheap X'
  exact ⟨t, step t a1, b1⟩
theorem PW.tswC {dflt lo hi off : Int} {offs : Array Int} {len tgt : Nat} {x v : Int32} {ρ : Type} {A B : Option ρ} {r : Option ρ} (cx : Cx g X own b) (hd : Dx b pc (.tableswitch dflt lo hi offs) len n) (h1 : ¬ v.toInt < lo) (h2 : ¬ hi < v.toInt) (ho : offs[(v.toInt - lo).toNat]? = some off) (ht : (pc : Int) + off = (tgt : Int)) (hf : (if x = v then A else B) = r) (kA : A = r → PW g X ex Q cells slots sh h tgt L st) (kB : B = r → x ≠ v → PW g X ex Q cells slots sh h pc L (.int x :: st)) : PW g X ex Q cells slots sh h pc L (.int x :: st) := by
  by_cases e : x = v
  · rw [if_pos e] at hf
    subst e
    exact fun H locs ls hH hS hL => lv_tableIn cx.1 cx.2.1 hd.1 h1 h2 ho ht (kA hf H locs ls hH hS hL)
  · rw [if_neg e] at hf
    exact kB hf e
theorem PW.tswD {dflt lo hi : Int} {offs : Array Int} {len tgt : Nat} {x : Int32} (cx : Cx g X own b) (hd : Dx b pc (.tableswitch dflt lo hi offs) len n) (hx : x.toInt < lo ∨ hi < x.toInt) (ht : (pc : Int) + dflt = (tgt : Int)) (k : PW g X ex Q cells slots sh h tgt L st) : PW g X ex Q cells slots sh h pc L (.int x :: st) :=
  fun H locs ls hH hS hL => lv_tableOut cx.1 cx.2.1 hd.1 hx ht (k H locs ls hH hS hL)
theorem tsw_out {x : Int32} {lo hi : Int} {N : Nat} (hN : hi - lo + 1 = (N : Int)) (hk : ∀ k : Nat, k < N → x ≠ Int32.ofInt (lo + k)) : x.toInt < lo ∨ hi < x.toInt := by
  rcases Int.lt_or_le x.toInt lo with a | a
  · exact Or.inl a
  · rcases Int.lt_or_le hi x.toInt with c | c
    · exact Or.inr c
    · exfalso
      have e : x = Int32.ofInt (lo + ((x.toInt - lo).toNat : Nat)) := by
        have : lo + ((x.toInt - lo).toNat : Int) = x.toInt := by omega
        rw [this, Int32.ofInt_toInt]
      exact hk _ (by omega) e
theorem lsw_out : ∀ {l : List (Int × Int)} {d k : Int}, (∀ q ∈ l, q.1 ≠ k) → Op.lookupswitch.offset l d k = d
  | [], d, k, _ => rfl
  | (a, o) :: r, d, k, h => by
    show (if a = k then o else Op.lookupswitch.offset r d k) = d
    rw [if_neg (h (a, o) List.mem_cons_self)]
    exact lsw_out (fun q hq => h q (List.mem_cons_of_mem _ hq))
theorem PW.lswC {dflt off : Int} {ps : Array (Int × Int)} {len tgt : Nat} {x v : Int32} {ρ : Type} {A B : Option ρ} {r : Option ρ} (cx : Cx g X own b) (hd : Dx b pc (.lookupswitch dflt ps) len n) (hp : (ps.toList.zip (ps.toList.drop 1)).all (fun (a, next) => a.1 < next.1) = true) (ho : Op.lookupswitch.offset ps.toList dflt v.toInt = off) (ht : (pc : Int) + off = (tgt : Int)) (hf : (if x = v then A else B) = r) (kA : A = r → PW g X ex Q cells slots sh h tgt L st) (kB : B = r → x ≠ v → PW g X ex Q cells slots sh h pc L (.int x :: st)) : PW g X ex Q cells slots sh h pc L (.int x :: st) := by
  by_cases e : x = v
  · rw [if_pos e] at hf
    subst e
    exact fun H locs ls hH hS hL => lv_lookup cx.1 cx.2.1 hd.1 hp ho ht (kA hf H locs ls hH hS hL)
  · rw [if_neg e] at hf
    exact kB hf e
theorem PW.lswD {dflt : Int} {ps : Array (Int × Int)} {len tgt : Nat} {x : Int32} (vs : List Int32) (cx : Cx g X own b) (hd : Dx b pc (.lookupswitch dflt ps) len n) (hp : (ps.toList.zip (ps.toList.drop 1)).all (fun (a, next) => a.1 < next.1) = true) (hv : ps.toList.map (fun q => q.1) = vs.map (fun v => v.toInt)) (hx : ∀ v ∈ vs, x ≠ v) (ht : (pc : Int) + dflt = (tgt : Int)) (k : PW g X ex Q cells slots sh h tgt L st) : PW g X ex Q cells slots sh h pc L (.int x :: st) :=
  fun H locs ls hH hS hL => lv_lookup cx.1 cx.2.1 hd.1 hp (lsw_out (fun q hq e => by
    have hm : q.1 ∈ ps.toList.map (fun q => q.1) := List.mem_map_of_mem hq
    rw [hv] at hm
    obtain ⟨v, hv1, hv2⟩ := List.mem_map.mp hm
    exact hx v hv1 (Int32.toInt_inj.mp (by rw [← e, ← hv2])))) ht (k H locs ls hH hS hL)
noncomputable def ddivO (x y : UInt64) : Option UInt64 := if (FP.ddiv x y) &&& 0x7fffffffffffffff ≤ 0x7ff0000000000000 then some (FP.ddiv x y) else none
noncomputable def fdivO (x y : UInt32) : Option UInt32 := if (FP.fdiv x y) &&& 0x7fffffff ≤ 0x7f800000 then some (FP.fdiv x y) else none
noncomputable def f2dO (x : UInt32) : Option UInt64 := if (FP.f2d x) &&& 0x7fffffffffffffff ≤ 0x7ff0000000000000 then some (FP.f2d x) else none
theorem PW.ddiv {x y : UInt64} {ρ : Type} {F : UInt64 → Option ρ} {r : Option ρ} (cx : Cx g X own b) (hd : Dx b pc .ddiv 1 n) (hf : (ddivO x y).bind F = r) (hr : r ≠ none) (k : ∀ z : UInt64, F z = r → PW g X ex Q cells slots sh h n L (.double z :: st)) : PW g X ex Q cells slots sh h pc L (.double y :: .double x :: st) := by
  obtain ⟨hd, rfl⟩ := hd
  obtain ⟨v, e, hf⟩ := bndO hf hr
  unfold ddivO at e
  split at e
  case isTrue hn =>
    cases e
    exact fun H locs ls hH hS hL => lv_ddiv cx.1 cx.2.1 hd hn (k _ hf H locs ls hH hS hL)
  case isFalse hn => cases e
theorem PW.fdiv {x y : UInt32} {ρ : Type} {F : UInt32 → Option ρ} {r : Option ρ} (cx : Cx g X own b) (hd : Dx b pc .fdiv 1 n) (hf : (fdivO x y).bind F = r) (hr : r ≠ none) (k : ∀ z : UInt32, F z = r → PW g X ex Q cells slots sh h n L (.float z :: st)) : PW g X ex Q cells slots sh h pc L (.float y :: .float x :: st) := by
  obtain ⟨hd, rfl⟩ := hd
  obtain ⟨v, e, hf⟩ := bndO hf hr
  unfold fdivO at e
  split at e
  case isTrue hn =>
    cases e
    exact fun H locs ls hH hS hL => lv_fdiv cx.1 cx.2.1 hd hn (k _ hf H locs ls hH hS hL)
  case isFalse hn => cases e
theorem PW.f2d {x : UInt32} {ρ : Type} {F : UInt64 → Option ρ} {r : Option ρ} (cx : Cx g X own b) (hd : Dx b pc .f2d 1 n) (hf : (f2dO x).bind F = r) (hr : r ≠ none) (k : ∀ z : UInt64, F z = r → PW g X ex Q cells slots sh h n L (.double z :: st)) : PW g X ex Q cells slots sh h pc L (.float x :: st) := by
  obtain ⟨hd, rfl⟩ := hd
  obtain ⟨v, e, hf⟩ := bndO hf hr
  unfold f2dO at e
  split at e
  case isTrue hn =>
    cases e
    exact fun H locs ls hH hS hL => lv_f2d cx.1 cx.2.1 hd hn (k _ hf H locs ls hH hS hL)
  case isFalse hn => cases e
theorem PW.dconst0 (cx : Cx g X own b) (hd : Dx b pc (.dconst 0) 1 n) (k : PW g X ex Q cells slots sh h n L (.double 0 :: st)) : PW g X ex Q cells slots sh h pc L st := by
  obtain ⟨hd, rfl⟩ := hd
  exact fun H locs ls hH hS hL => lv_dconst0 cx.1 cx.2.1 hd (k H locs ls hH hS hL)
theorem PW.fconst0 (cx : Cx g X own b) (hd : Dx b pc (.fconst 0) 1 n) (k : PW g X ex Q cells slots sh h n L (.float 0 :: st)) : PW g X ex Q cells slots sh h pc L st := by
  obtain ⟨hd, rfl⟩ := hd
  exact fun H locs ls hH hS hL => lv_fconst0 cx.1 cx.2.1 hd (k H locs ls hH hS hL)
theorem PW.dcmp {x y : UInt64} {op : CmpOp} (cx : Cx g X own b) (hd : Dx b pc (.dcmp op) 1 n) (k : PW g X ex Q cells slots sh h n L (.int (Op.cmpValue (FP.dcmp x y) op) :: st)) : PW g X ex Q cells slots sh h pc L (.double y :: .double x :: st) := by
  obtain ⟨hd, rfl⟩ := hd
  exact fun H locs ls hH hS hL => lv_dcmp cx.1 cx.2.1 hd (k H locs ls hH hS hL)
theorem PW.dload {i : Nat} {x : UInt64} (cx : Cx g X own b) (hd : Dx b pc (.dload i) 2 n) (hl : lk L i = some (.double x)) (k : PW g X ex Q cells slots sh h n L (.double x :: st)) : PW g X ex Q cells slots sh h pc L st := by
  obtain ⟨hd, rfl⟩ := hd
  exact fun H locs ls hH hS hL => lv_dload cx.1 cx.2.1 hd (hL.2.2 _ _ hl) (k H locs ls hH hS hL)
theorem lv_setD {ls : Array Slot} {nL : Nat} {L : List (Option Value)} {i : Nat} {v : Value} {l : List (Nat × Value)} (hL : ∀ (j : Nat) (w : Value), lk L j = some w → (j, w) ∈ l) (hf : lfree L i = true)
    (h : lv_has ls nL ((i, v) :: l.filter (fun q => !(q.1 == i) && (!(q.1 == i + 1) && !(q.1 + 1 == i && q.2.category == 2))))) : LV ls nL (lset (lset L (i + 1) none) i (some v)) := by
  refine LV.of h (fun j w hj => ?_)
  by_cases e : j = i
  · subst e
    have := lk_lset _ j v w hj
    subst this
    exact List.mem_cons_self
  · rw [lk_lset_ne _ i j _ e] at hj
    by_cases e1 : j = i + 1
    · exfalso
      have : ∀ (L : List (Option Value)) (i : Nat), lk (lset L i none) i = none := by
        intro L
        induction L with
        | nil => intro i; simp [lset, lk]
        | cons a l ih => intro i; cases i with
          | zero => simp [lset, lk]
          | succ i => exact ih i
      rw [e1, this] at hj
      cases hj
    rw [lk_lset_ne L (i + 1) j _ e1] at hj
    refine List.mem_cons_of_mem _ (List.mem_filter.mpr ⟨hL j w hj, ?_⟩)
    have h1 : (j == i) = false := by simpa using e
    have h3 : (j == i + 1) = false := by simpa using e1
    simp only [h1, h3, Bool.not_false, Bool.true_and]
    by_cases e2 : j + 1 = i
    · subst e2
      simp only [lfree, hj, beq_iff_eq] at hf
      simp [hf]
    · simp [e2]
theorem PW.dstore {i : Nat} {x : UInt64} {L' : List (Option Value)} (cx : Cx g X own b) (hd : Dx b pc (.dstore i) 2 n) (hi : i + 1 < X.2.2.2.2.2.2.2.2.maxLocals) (hf : lfree L i = true) (hL' : lset (lset L (i + 1) none) i (some (.double x)) = L') (k : PW g X ex Q cells slots sh h n L' st) : PW g X ex Q cells slots sh h pc L (.double x :: st) := by
  obtain ⟨hd, rfl⟩ := hd
  subst hL'
  exact fun H locs ls hH hS hL => lv_dstore cx.1 cx.2.1 hd hL.has hi rfl (fun ls' hl' => k H locs ls' hH hS (lv_setD (fun j w hj => (lass_mem L 0 (j, w)).mpr ⟨j, by simp, hj⟩) hf hl'))
theorem PW.lconst {i : Fin 2} {v : Int64} (cx : Cx g X own b) (hd : Dx b pc (.lconst i) 1 n) (hv : Int64.ofNat (i : Nat) = v) (k : PW g X ex Q cells slots sh h n L (.long v :: st)) : PW g X ex Q cells slots sh h pc L st := by
  obtain ⟨hd, rfl⟩ := hd
  exact fun H locs ls hH hS hL => lv_lconst cx.1 cx.2.1 hd hv (k H locs ls hH hS hL)
/-- a constant of Command by its number, or null -/
noncomputable def cmdV (g : GT) (z : Int32) : Value := if z = -1 then .null else .ref (ga g z.toNatClampNeg)
theorem le_rn {g : GT} {sh : List Shp} {h : Hp} {v r0 : Int32} (hf : some v = some r0) : PE (some (cmdV g r0)) sh h (some (cmdV g v)) sh h := by cases hf; exact ⟨rfl, rfl, rfl⟩
theorem PW.aretC {post : Option Value → List Shp → Hp → Prop} {v : Int32} {C : String} (cx : Cx g X own b) (hr : X.2.2.2.2.2.2.2.1.sig.returnType = some (.object C)) (hd : Dx b pc .areturn 1 n) (nv : v ≠ -1) (hp : post (some (cmdV g v)) sh h) : PW g X ex (QE g X ex post cells slots) cells slots sh h pc L [.ref (ga g v.toNatClampNeg)] := by
  have e : cmdV g v = .ref (ga g v.toNatClampNeg) := if_neg nv
  rw [e] at hp
  exact PW.aret cx hr hd hp
theorem PW.aretM {post : Option Value → List Shp → Hp → Prop} {C : String} (cx : Cx g X own b) (hr : X.2.2.2.2.2.2.2.1.sig.returnType = some (.object C)) (hd : Dx b pc .areturn 1 n) (hp : post (some (cmdV g (-1))) sh h) : PW g X ex (QE g X ex post cells slots) cells slots sh h pc L [.null] := by
  have e : cmdV g (-1) = .null := if_pos rfl
  rw [e] at hp
  exact PW.aretN cx hr hd hp
theorem PW.aaldM {i : Int32} {ρ : Type} {F : Int32 → Option ρ} {r : Option ρ} (cx : Cx g X own b) (hd : Dx b pc .aaload 1 n) (hf : (cmO i).bind F = r) (hr : r ≠ none) (k : ∀ v : Int32, v ≠ -1 → F v = r → PW g X ex Q cells slots sh h n L (.ref (ga g v.toNatClampNeg) :: st)) : PW g X ex Q cells slots sh h pc L (.int i :: .ref (ga g 50) :: st) := by
  refine PW.aaldC cx hd (F := fun v => if v = -1 then none else F v) (r := r) ?_ hr (fun v hv => ?_)
  · obtain ⟨v, e, hf⟩ := bndO hf hr
    rw [e]
    show (if v = -1 then none else F v) = r
    have nv : v ≠ -1 := by
      unfold cmO at e
      split at e
      · cases e
      · rename_i hc
        cases e
        intro q
        have h12 : i.toNatClampNeg < 12 := by
          rcases Nat.lt_or_ge i.toNatClampNeg 12 with a | a
          · exact a
          · exact absurd (Or.inr a) hc
        have := congrArg Int32.toInt q
        rw [nI_toInt (by omega)] at this
        have e2 : (-1 : Int32).toInt = -1 := by decide
        omega
    rw [if_neg nv, hf]
  · by_cases nv : v = -1
    · rw [if_pos nv] at hv
      exact absurd hv.symm hr
    · rw [if_neg nv] at hv
      exact k v nv hv
theorem PW.callVRN {D MC MS : Nat} {y : MT} {d nA idx a ci : Nat} {ts : List SlT} {q : vw_C} {As st0 : List Value} {ρ : Type} {x : Option Int32} {A : Option ρ} {B : Int32 → Option ρ} {r : Option ρ} (cx : Cx g X own b) (hR : RmG X.2.2.1 D MC MS) (hd : Dx b pc (.invokevirtual idx) 3 n) (hl : KL own idx y) (hm : MV y nA) (hsh : sh[a]? = some (.inl (ci, ts))) (hq : clX[ci]? = some q) (hqc : q.1 = y.1.cls) (hnA : As.length = nA) (hst0 : st0 = As.reverse ++ .ref (gB g + a) :: st) (hcat : (st.map fun v => v.category).sum ≤ 8) (hD : d + 1 ≤ D) (hloc : 8 + (y.2.2.1 + 11) + 40 * d ≤ 40 * D) (hmc : cells ≤ MC) (hms : slots ≤ MS) (hf : (x.bind fun t => if t = -1 then A else B t) = r) (hr : r ≠ none)
    (hC : ∀ t, x = some t → Ct g y d 0 0 ex (.ref (gB g + a) :: As) sh h (PE (some (cmdV g t)) sh h)) (kA : A = r → PW g X ex Q cells slots sh h n L (.null :: st)) (kB : ∀ v, B v = r → PW g X ex Q cells slots sh h n L (.ref (ga g v.toNatClampNeg) :: st)) : PW g X ex Q cells slots sh h pc L st0 := by
  obtain ⟨v, e, hf⟩ := bndO hf hr
  refine PW.callV cx hR hd hl hm hsh hq hqc hnA hst0 hcat hD hloc (mc := 0) (ms := 0) hmc hms (hC v e) (fun o sh1 h1 hp => ?_)
  obtain ⟨rfl, rfl, rfl⟩ := hp
  by_cases nv : v = -1
  · rw [if_pos nv] at hf
    have e2 : cmdV g v = .null := if_pos nv
    rw [e2]
    exact kA hf
  · rw [if_neg nv] at hf
    have e2 : cmdV g v = .ref (ga g v.toNatClampNeg) := if_neg nv
    rw [e2]
    exact kB v hf
theorem PW.ifnullN {o : Int} {tgt : Nat} (cx : Cx g X own b) (hd : Dj b pc (.ifnull o) o n tgt) (k : PW g X ex Q cells slots sh h tgt L st) : PW g X ex Q cells slots sh h pc L (.null :: st) := by
  obtain ⟨hd, rfl, ht⟩ := hd
  exact fun H locs ls hH hS hL => lv_ifnullN cx.1 cx.2.1 hd ht (k H locs ls hH hS hL)
theorem PW.ifnonnullN {o : Int} {tgt : Nat} (cx : Cx g X own b) (hd : Dj b pc (.ifnonnull o) o n tgt) (k : PW g X ex Q cells slots sh h n L st) : PW g X ex Q cells slots sh h pc L (.null :: st) := by
  obtain ⟨hd, rfl, ht⟩ := hd
  exact fun H locs ls hH hS hL => lv_ifnonnullN cx.1 cx.2.1 hd (k H locs ls hH hS hL)
theorem PW.ifnonnullR {x : Nat} {o : Int} {tgt : Nat} (cx : Cx g X own b) (hd : Dj b pc (.ifnonnull o) o n tgt) (k : PW g X ex Q cells slots sh h tgt L st) : PW g X ex Q cells slots sh h pc L (.ref x :: st) := by
  obtain ⟨hd, rfl, ht⟩ := hd
  exact fun H locs ls hH hS hL => lv_ifnonnull cx.1 cx.2.1 hd ht (k H locs ls hH hS hL)
theorem PW.astoreN {i : Nat} {L' : List (Option Value)} (cx : Cx g X own b) (hd : Dx b pc (.astore i) 2 n) (hi : i < X.2.2.2.2.2.2.2.2.maxLocals) (hf : lfree L i = true) (hL' : lset L i (some .null) = L') (k : PW g X ex Q cells slots sh h n L' st) : PW g X ex Q cells slots sh h pc L (.null :: st) := by
  obtain ⟨hd, rfl⟩ := hd
  subst hL'
  exact fun H locs ls hH hS hL => lv_astoreN cx.1 cx.2.1 hd hL.has hi rfl (fun ls' hl' => k H locs ls' hH hS (lv_setL (fun j w hj => (lass_mem L 0 (j, w)).mpr ⟨j, by simp, hj⟩) hf hl'))
theorem PW.astoreN_n {i : Fin 4} {L' : List (Option Value)} (cx : Cx g X own b) (hd : Dx b pc (.astore_n i) 1 n) (hi : i.val < X.2.2.2.2.2.2.2.2.maxLocals) (hf : lfree L i.val = true) (hL' : lset L i.val (some .null) = L') (k : PW g X ex Q cells slots sh h n L' st) : PW g X ex Q cells slots sh h pc L (.null :: st) := by
  obtain ⟨hd, rfl⟩ := hd
  subst hL'
  exact fun H locs ls hH hS hL => lv_astore_nN cx.1 cx.2.1 hd rfl hL.has hi rfl (fun ls' hl' => k H locs ls' hH hS (lv_setL (fun j w hj => (lass_mem L 0 (j, w)).mpr ⟨j, by simp, hj⟩) hf hl'))
theorem PW.aloadN_n {i : Fin 4} (cx : Cx g X own b) (hd : Dx b pc (.aload_n i) 1 n) (hl : lk L i.val = some .null) (k : PW g X ex Q cells slots sh h n L (.null :: st)) : PW g X ex Q cells slots sh h pc L st := by
  obtain ⟨hd, rfl⟩ := hd
  exact fun H locs ls hH hS hL => lv_aload_nN cx.1 cx.2.1 hd rfl (hL.2.2 _ _ hl) (k H locs ls hH hS hL)
theorem PW.widen {k m : Nat} (h1 : cells ≤ k) (h2 : slots ≤ m) (kk : PW g X ex Q k m sh h pc L st) : PW g X ex Q cells slots sh h pc L st :=
  fun H locs ls hH hS hL => W.widen h1 h2 (kk H locs ls hH hS hL)
end R9
