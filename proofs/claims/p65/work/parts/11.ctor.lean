/-! ===== objects and rows that are made: the world grows at its end ===== -/
theorem at_app {sh0 l : List Shp} {B k : Nat} {c : Shp} (hB : sh0.length = B) (h : l[k]? = some c) : (sh0 ++ l)[B + k]? = some c := by
  rw [← hB, List.getElem?_append_right (by omega)]
  rwa [Nat.add_sub_cancel_left]
theorem set_app {sh0 l : List Shp} {B k : Nat} {c : Shp} (hB : sh0.length = B) : (sh0 ++ l).set (B + k) c = sh0 ++ l.set k c := by
  rw [← hB, List.set_append_right _ _ (by omega), Nat.add_sub_cancel_left]
def dfv : SlT → Value := fun t => match t.1 with
  | 4 => .null
  | _ => .int 0
def dfOk (ts : List SlT) : Bool := ts.all (fun t => t.1 == 0 || t.1 == 1 || t.1 == 4)
theorem slvs_zero (g : GT) : ∀ (ts : List SlT) (i : Nat), dfOk ts = true → slvs g (fun _ => 0) i ts = ts.map dfv
  | [], _, _ => rfl
  | t :: ts, i, h => by
    simp only [dfOk, List.all_cons, Bool.and_eq_true, Bool.or_eq_true, beq_iff_eq] at h
    have h2 := slvs_zero g ts (i + 1) (by simpa [dfOk] using h.2)
    simp only [slvs, List.map_cons]
    rw [h2]
    congr 1
    rcases h.1 with (a | a) | a <;> simp [slv, dfv, a]
theorem rd_zero {h : Hp} {k : Nat} (hz : row k h = 0) : rd h k = fun _ => 0 := by
  funext i
  simp only [rd, hz, rgt, Nat.zero_shiftRight, Nat.zero_mod]
  rfl
theorem slvs_set (g : GT) (f : Nat → Int32) (t' : SlT) : ∀ (ts : List SlT) (i k : Nat), slvs g f i (ts.set k t') = (slvs g f i ts).set k (slv g t' (f (i + k)))
  | [], i, k => rfl
  | a :: ts, i, 0 => rfl
  | a :: ts, i, k + 1 => by
    simp only [List.set_cons_succ, slvs]
    rw [slvs_set g f t' ts (i + 1) k]
    congr 4
    omega
section R11
variable {g : GT} {X : XT} {own : String} {b : ByteArray} {Q : State → Prop} {cells slots : Nat} {sh0 l : List Shp} {h : Hp} {pc n : Nat} {L : List (Option Value)} {st : List Value}
theorem PW.newP {D MC MS ci N idx B : Nat} {C : String} {T : u_T} {ts : List SlT} (cx : Cx g X own b) (hR : RmG X.2.2.1 D MC MS) (hd : Dx b pc (.new idx) 3 n) (hcl : Cond.classLink own idx C ∈ TG) (hinst : Cond.instantiable C N ∈ TG) (hini : Cond.initialized C ∈ TG) (hq : clX[ci]? = some (C, T, N)) {j : Nat} {l' : List Shp} (hj : l.length = j) (hl' : l ++ [.inl (ci, ts)] = l') (hB : sh0.length = B) (hz : row (B + j) h = 0)
    (ty : Nat → FieldType) (hty : ∀ k, k < N → parseFieldDescriptor (T k).2.2.1 = some (ty k)) (hok : dfOk ts = true) (hdf : ∀ j, j < N → defaultValue (ty j) = vp_V (ts.map dfv) j) (hmc : cells + 1 ≤ MC) (hms : slots + N ≤ MS) (k : PW g X true Q (cells + 1) (slots + N) (sh0 ++ l') h n L (.ref (gB g + (B + j)) :: st)) : PW g X true Q cells slots (sh0 ++ l) h pc L st := by
  subst hj hl'
  obtain ⟨hd, rfl⟩ := hd
  intro H locs ls hH hS hL
  have hts := cx.2.2.2.1
  have hKn := cx.2.2.2.2.1.1.1 ci _ hq
  have hz0 : H.size = gB g + (B + l.length) := by rw [hH.2.2 rfl, List.length_append, hB]
  have hlen : (sh0 ++ l).length = B + l.length := by rw [List.length_append, hB]
  refine W.newcK cx.1 cx.2.1 cx.2.2.1 (hts _ hcl) (hts _ hinst) (hts _ hini) rfl hd (Nat.le_trans hmc hR.2.2.1) (Nat.le_trans hms hR.2.2.2) hKn.2.1 hz0 fun H1 kC hkC e1 z1 o1 => ?_
  have hb := u_born ty hts (cls_in ci _ hq) hKn hkC e1 hty
  rw [← List.append_assoc] at k
  refine k H1 locs ls (HOK.push hH ?_ (by rw [z1, hz0]) (fun q hq => o1 q (by rw [← hz0]; exact hq))) ⟨Nat.le_trans hS.1 (by omega), fun x h1 h2 => (o1 x (by rw [← hz0]; exact Nat.lt_of_lt_of_le h1 hS.1)).trans (hS.2.1 x h1 h2), hS.2.2⟩ hL
  rw [hlen, rd_zero hz]
  refine ⟨_, hq, ?_⟩
  show t_OB (gB g + (B + l.length)) ((gD g).1 ci) N ((gD g).2 ci) H1 (vp_V (slvs g (fun _ => 0) 0 ts))
  rw [slvs_zero g ts 0 hok]
  exact hb.to hdf
theorem PW.newarrP {D MC MS N tyk B : Nat} {vN : Int32} {at_ : ArrayType} {ty : FieldType} (cx : Cx g X own b) (hR : RmG X.2.2.1 D MC MS) (hd : Dx b pc (.newarray at_) 2 n) (hty : newarray.typeOf at_ = ty) (harr : Cond.arrayClass ty ∈ TG) (htk : (tysG g)[tyk]? = some (gc g tyk, ty)) (hra : ∀ (U : State) (c : ClassId), va_RA U c ty → U.vm.findClass ("[" ++ ty.toString) = some c) (hva : ∀ c : ClassId, vp_cell c (N, arc g tyk [] (fun _ => 0)) = arrV c N (fun _ => defaultValue ty)) (hN : vN = nI N ∧ N < 2 ^ 31) (hby : N * componentBytes ty ≤ 536870912) {j : Nat} {l' : List Shp} (hj : l.length = j) (hl' : l ++ [.inr (tyk, N, [])] = l') (hB : sh0.length = B) (hz : row (B + j) h = 0) (hmc : cells + 1 ≤ MC) (hms : slots + N ≤ MS) (k : PW g X true Q (cells + 1) (slots + N) (sh0 ++ l') h n L (.ref (gB g + (B + j)) :: st)) : PW g X true Q cells slots (sh0 ++ l) h pc L (.int vN :: st) := by
  subst hj hl'
  obtain ⟨hd, rfl⟩ := hd
  obtain ⟨rfl, hN⟩ := hN
  subst hty
  intro H locs ls hH hS hL
  have hts := cx.2.2.2.1
  have hz0 : H.size = gB g + (B + l.length) := by rw [hH.2.2 rfl, List.length_append, hB]
  have hlen : (sh0 ++ l).length = B + l.length := by rw [List.length_append, hB]
  have hcl : (nI N).toNatClampNeg = N := nI_clamp hN
  refine va_newaK cx.1 cx.2.1 (hts _ harr) rfl hd rfl (nI_pos hN) hcl hby (Nat.le_trans hmc hR.2.2.1) (Nat.le_trans hms hR.2.2.2) hz0 fun H1 cA e1 z1 o1 hAr hNm => ?_
  have hc : cA = gc g tyk := by
    have := hra _ _ (cx.2.2.2.2.1.1.2 tyk _ htk).2
    exact Option.some.inj (hNm.symm.trans this)
  subst hc
  rw [← List.append_assoc] at k
  refine k H1 locs ls (HOK.push hH ?_ (by rw [z1, hz0]) (fun q hq => o1 q (by rw [← hz0]; exact hq))) ⟨Nat.le_trans hS.1 (by omega), fun x h1 h2 => (o1 x (by rw [← hz0]; exact Nat.lt_of_lt_of_le h1 hS.1)).trans (hS.2.1 x h1 h2), hS.2.2⟩ hL
  rw [hlen, rd_zero hz]
  show H1[gB g + (B + l.length)]? = some (vp_cell (gc g tyk) (N, arc g tyk [] (fun _ => 0)))
  rw [hva]
  exact e1
theorem PW.anewP {D MC MS N idx B : Nat} {vN : Int32} (cx : Cx g X own b) (hR : RmG X.2.2.1 D MC MS) (hd : Dx b pc (.anewarray idx) 3 n) (hcl : Cond.classLink own idx RX1 ∈ TG) (hov : Cond.arrayOver (.object RX1) ∈ NT) (hN : vN = nI N ∧ N < 2 ^ 31) (hby : N * 4 ≤ 536870912) {j : Nat} {l' : List Shp} (hj : l.length = j) (hl' : l ++ [.inr (4, N, List.replicate N none)] = l') (hB : sh0.length = B) (hmc : cells + 1 ≤ MC) (hms : slots + N ≤ MS) (k : PW g X true Q (cells + 1) (slots + N) (sh0 ++ l') h n L (.ref (gB g + (B + j)) :: st)) : PW g X true Q cells slots (sh0 ++ l) h pc L (.int vN :: st) := by
  subst hj hl'
  obtain ⟨hd, rfl⟩ := hd
  obtain ⟨rfl, hN⟩ := hN
  intro H locs ls hH hS hL
  have hts := cx.2.2.2.1
  have hz0 : H.size = gB g + (B + l.length) := by rw [hH.2.2 rfl, List.length_append, hB]
  have hlen : (sh0 ++ l).length = B + l.length := by rw [List.length_append, hB]
  have hcN : (nI N).toNatClampNeg = N := nI_clamp hN
  refine W.anew cx.1 cx.2.1 cx.2.2.1 (hts _ hcl) (cx.nt hov) rfl hd rfl (nI_pos hN) (by rw [hcN]; exact hby) (Nat.le_trans hmc hR.2.2.1) (by rw [hcN]; exact Nat.le_trans hms hR.2.2.2) fun cA kA comp f1 f2 f3 f4 => ?_
  rw [hcN]
  have hc : cA = gc g 4 := by
    obtain ⟨-, -, -, -, -, hh⟩ := (cx.2.2.2.2.1.1.2 4 _ rfl).2
    exact Option.some.inj (f1.symm.trans hh)
  subst hc
  rw [← List.append_assoc] at k
  have e1 : (H.push ({ cls := gc g 4, slots := Array.replicate N .null, vm := .none } : Cell))[H.size]? = some (arrV (gc g 4) N (fun _ => .null)) := by rw [Array.getElem?_push_size, ← arrV_new]
  have o1 : ∀ q : Nat, q < H.size → (H.push ({ cls := gc g 4, slots := Array.replicate N .null, vm := .none } : Cell))[q]? = H[q]? := fun q hq => by rw [Array.getElem?_push, if_neg (Nat.ne_of_lt hq)]
  rw [hz0]
  refine k _ locs ls (HOK.push hH ?_ (by rw [Array.size_push]) (fun q hq => o1 q hq)) ⟨Nat.le_trans hS.1 (by rw [Array.size_push]; omega), fun x h1 h2 => (o1 x (Nat.lt_of_lt_of_le h1 hS.1)).trans (hS.2.1 x h1 h2), hS.2.2⟩ hL
  rw [hlen]
  rw [hz0] at e1
  show (H.push _)[gB g + (B + l.length)]? = some (vp_cell (gc g 4) (N, arc g 4 (List.replicate N none) _))
  rw [e1]
  show some (arrV (gc g 4) N (fun _ => .null)) = some (arrV (gc g 4) N (fun j => va_rf ((fun j => ((List.replicate N none).getD j none).map (fun a => gB g + a)) j)))
  congr 2
  funext j
  have : (List.replicate N (none : Option Nat)).getD j none = none := by
    rw [List.getD_eq_getElem?_getD, List.getElem?_replicate]
    split <;> rfl
  show Value.null = va_rf (((List.replicate N (none : Option Nat)).getD j none).map (fun a => gB g + a))
  rw [this]
  rfl
/-- a field gets its object (final, in the constructor) -/
theorem PW.putRefP {ci kf idx B j p : Nat} {ts : List SlT} {C : String} {T : u_T} {N : Nat} {ty : FieldType} (cx : Cx g X own b) (hin : X.2.2.2.2.2.2.2.1.name = "<init>") (hd : Dx b pc (.putfield idx) 3 n) (hq : clX[ci]? = some (C, T, N)) (hk : kf < N) (hCC : (T kf).1 = C) (hown : C = own) (hlink : Cond.fieldLink own idx C (T kf).2.1 (T kf).2.2.1 ∈ TG) (hfin : (T kf).2.2.2 = true) (hdsc : parseFieldDescriptor (T kf).2.2.1 = some ty) (hfit : ∀ a : Nat, fits ty (.ref a) = true) (hnar : ∀ a : Nat, narrow ty (.ref a) = .ref a) (hB : sh0.length = B) (hj : l[j]? = some (.inl (ci, ts))) (ht : kf < ts.length) {l' : List Shp} (hl' : l.set j (.inl (ci, ts.set kf (2, p))) = l')
    (kk : PW g X true Q cells slots (sh0 ++ l') h n L st) : PW g X true Q cells slots (sh0 ++ l) h pc L (.ref (gB g + p) :: .ref (gB g + (B + j)) :: st) := by
  obtain ⟨hd, rfl⟩ := hd
  subst hown hl'
  intro H locs ls hH hS hL
  obtain ⟨ty0, hty, hnm⟩ := cls_ty ci _ hq
  have hin2 := cls_in ci _ hq
  have hts := cx.2.2.2.1
  have hK := cx.2.2.2.2.1.1
  have hsh := at_app hB hj
  have hap := va_apart (own := C) hts hin2 ty0 hty hnm hK hq
  obtain ⟨r, h1, cell, q1, q2, q3, q4⟩ := hH.1 (B + j) _ hsh
  have hr : r = (C, T, N) := Option.some.inj (h1.symm.trans hq)
  subst hr
  obtain ⟨hS', hfc, kC, hkC, hkind⟩ := hK.1 ci _ hq
  obtain ⟨cf, kf', fi, f, hi, hsl⟩ := hS' kf hk
  have hlay := hts _ (hin2 _ (u_in_lay hk))
  unfold u_lay at hlay
  rw [if_pos hfin] at hlay
  have hst := (u_facts hfc hkC (u_lays hts hin2 hk) hi).1
  have hcf : X.2.2.2.2.1.cls = cf := by
    obtain ⟨_, _, c', _, _, _, -, -, hf', -, -, -, hown2, -⟩ := Cond.laysFinal_spec hlay
    have e1 : c' = cf := by have := hi.symm.trans hf'; simp at this; exact this.1.symm
    rw [hCC] at hown2
    rw [← e1]; exact Option.some.inj (cx.2.2.1.symm.trans hown2)
  have h6 := u_fits hfc hkC hkind (Or.inr hlay) hi hdsc (hnar (gB g + p)) (hfit (gB g + p))
  refine W.putFinK cx.1 cx.2.1 cx.2.2.1 (hts _ hlink) (by rw [← hCC]; rw [← hCC] at hi; exact hi) hst hcf hin (by rw [q2]; exact h6) q1 q3 (by rw [hsl]; exact k2_hasslot (q4 kf hk)) rfl rfl hd fun H' e1 e2 e3 => ?_
  rw [hsl] at e1 ⊢
  rw [← set_app (k := j) (c := .inl (ci, ts.set kf (2, p))) hB] at kk
  refine kk H' _ ls (hH.setc hsh ?_ e2 e3) (hS.put e2 e3 (Nat.le_add_right _ _)) hL
  refine ⟨_, hq, ?_⟩
  have hlen : kf < (slvs g (rd h (B + j)) 0 ts).length := by rw [slvs_len]; exact ht
  show t_OB (gB g + (B + j)) ((gD g).1 ci) N ((gD g).2 ci) H' (vp_V (slvs g (rd h (B + j)) 0 (ts.set kf (2, p))))
  rw [slvs_set]
  exact t_OB.to (V := updV (vp_V (slvs g (rd h (B + j)) 0 ts)) kf (.ref (gB g + p))) ⟨_, e1, q2, q3, t_set q4 hap hk (.ref (gB g + p))⟩ (fun i _ => vp_updV_set hlen (.ref (gB g + p)) i)
/-- the token field gets its first constant -/
theorem PW.putTokP {ci kf idx B j : Nat} {ts : List SlT} {C : String} {T : u_T} {N : Nat} {x : Int32} {E : String} (cx : Cx g X own b) (hd : Dx b pc (.putfield idx) 3 n) (hq : clX[ci]? = some (C, T, N)) (hk : kf < N) (hCC : (T kf).1 = C) (hlink : Cond.fieldLink own idx C (T kf).2.1 (T kf).2.2.1 ∈ TG) (hfin : (T kf).2.2.2 = false) (hdsc : parseFieldDescriptor (T kf).2.2.1 = some (.object E)) (hB : sh0.length = B) (hj : l[j]? = some (.inl (ci, ts))) (ht : kf < ts.length) {l' : List Shp} (hl' : l.set j (.inl (ci, ts.set kf (3, 0))) = l')
    (kk : PW g X true Q cells slots (sh0 ++ l') (up2 h (B + j) kf x) n L st) : PW g X true Q cells slots (sh0 ++ l) h pc L (.ref (ga g x.toNatClampNeg) :: .ref (gB g + (B + j)) :: st) := by
  obtain ⟨hd, rfl⟩ := hd
  subst hl'
  intro H locs ls hH hS hL
  obtain ⟨ty0, hty, hnm⟩ := cls_ty ci _ hq
  have hin2 := cls_in ci _ hq
  have hts := cx.2.2.2.1
  have hK := cx.2.2.2.2.1.1
  have hsh := at_app hB hj
  have hap := va_apart (own := own) hts hin2 ty0 hty hnm hK hq
  obtain ⟨r, h1, cell, q1, q2, q3, q4⟩ := hH.1 (B + j) _ hsh
  have hr : r = (C, T, N) := Option.some.inj (h1.symm.trans hq)
  subst hr
  obtain ⟨hS', hfc, kC, hkC, hkind⟩ := hK.1 ci _ hq
  obtain ⟨cf, kf', fi, f, hi, hsl⟩ := hS' kf hk
  have hlay := hts _ (hin2 _ (u_in_lay hk))
  unfold u_lay at hlay
  rw [if_neg (by rw [hfin]; decide)] at hlay
  have hst := (u_facts hfc hkC (u_lays hts hin2 hk) hi).1
  have h6 := u_store hfc hkC hkind hlay hi hdsc (v := .ref (ga g x.toNatClampNeg)) rfl rfl
  have hi' : X.2.2.2.1.fieldFound? C (T kf).2.1 (T kf).2.2.1 = some (cf, kf', fi, f) := by rw [← hCC]; rw [← hCC] at hi; exact hi
  refine W.putK cx.1 cx.2.1 (f := f) ⟨cx.2.2.1, hts _ hlink, ⟨_, _, _, hi'⟩, hst⟩ (by rw [q2]; exact h6) q1 q3 (by rw [hsl]; exact k2_hasslot (q4 kf hk)) rfl rfl hd fun H' e1 e2 e3 => ?_
  rw [hsl] at e1 ⊢
  rw [← set_app (k := j) (c := .inl (ci, ts.set kf (3, 0))) hB] at kk
  have hlen : kf < (slvs g (rd h (B + j)) 0 ts).length := by rw [slvs_len]; exact ht
  refine kk H' _ ls ?_ (hS.put e2 e3 (Nat.le_add_right _ _)) hL
  have hl : B + j < (sh0 ++ l).length := (List.getElem?_eq_some_iff.mp hsh).1
  refine ⟨fun i d hi => ?_, by rw [e2, List.length_set]; exact hH.2.1, fun e => by rw [e2, List.length_set]; exact hH.2.2 e⟩
  by_cases e : i = B + j
  · subst e
    rw [List.getElem?_set_self hl] at hi
    cases hi
    rw [rd_up2_self]
    refine ⟨_, hq, ?_⟩
    show t_OB (gB g + (B + j)) ((gD g).1 ci) N ((gD g).2 ci) H' (vp_V (slvs g (upd (rd h (B + j)) kf x) 0 (ts.set kf (3, 0))))
    have e9 : slvs g (upd (rd h (B + j)) kf x) 0 (ts.set kf (3, 0)) = (slvs g (rd h (B + j)) 0 ts).set kf (.ref (ga g x.toNatClampNeg)) := by
      have a1 := slvs_upd g (rd h (B + j)) x (ts.set kf (3, 0)) 0 kf (3, 0) (by rw [List.getElem?_set_self ht])
      rw [Nat.zero_add] at a1
      rw [a1, slvs_set, List.set_set]
      rfl
    rw [e9]
    exact t_OB.to (V := updV (vp_V (slvs g (rd h (B + j)) 0 ts)) kf (.ref (ga g x.toNatClampNeg))) ⟨_, e1, q2, q3, t_set q4 hap hk (.ref (ga g x.toNatClampNeg))⟩ (fun i _ => vp_updV_set hlen (.ref (ga g x.toNatClampNeg)) i)
  · rw [List.getElem?_set_ne (fun q => e q.symm)] at hi
    rw [rd_up2_ne e]
    exact (hH.1 i d hi).kept (e3 _ (by show gB g + i ≠ gB g + (B + j); omega))
/-- an Archive comes into the row of archives -/
theorem PW.aastP {B j p i N : Nat} {vi : Int32} {rs : List (Option Nat)} {ts : List SlT} (cx : Cx g X own b) (hd : Dx b pc .aastore 1 n) (hB : sh0.length = B) (hj : l[j]? = some (.inr (4, N, rs))) (hp : (sh0 ++ l)[p]? = some (.inl (0, ts))) (hi : vi = nI i ∧ i < N ∧ N < 2 ^ 31 ∧ i < rs.length) {l' : List Shp} (hl' : l.set j (.inr (4, N, rs.set i (some p))) = l')
    (kk : PW g X true Q cells slots (sh0 ++ l') h n L st) : PW g X true Q cells slots (sh0 ++ l) h pc L (.ref (gB g + p) :: .int vi :: .ref (gB g + (B + j)) :: st) := by
  obtain ⟨hd, rfl⟩ := hd
  subst hl'
  obtain ⟨rfl, hiN, hN, hir⟩ := hi
  intro H locs ls hH hS hL
  have hK := cx.2.2.2.2.1.1
  have hsh := at_app hB hj
  have hc0 : H[gB g + (B + j)]? = some (vp_cell (gc g 4) (N, .inr (.inr (.inr (.inr (fun j => (rs.getD j none).map (fun a => gB g + a))))))) := hH.1 (B + j) _ hsh
  obtain ⟨r', hr', cellV, g1, g2, g3, -⟩ := hH.1 p _ hp
  have hrr : r' = (RX1, TX1, 18) := Option.some.inj (hr'.symm.trans rfl)
  have hcls := (hK.1 0 _ rfl).2
  obtain ⟨kA, comp, k1, k2, k3, -⟩ := (hK.2 4 _ rfl).2
  have hcomp : comp = (gD g).1 0 := Option.some.inj (k3.symm.trans hcls.1)
  subst hcomp
  obtain ⟨kC, hkC, -⟩ := hcls.2
  have hcl : (nI i).toNatClampNeg = i := nI_clamp (by omega)
  refine W.aast cx.1 cx.2.1 hc0 (fun q h => by cases h) (fun h => by cases h) k1 k2 rfl hkC ⟨nI_pos (by omega), by show _ < (arrV _ _ _).slots.size; rw [arrV_size, hcl]; exact hiN⟩ g1 (fun q h => by rw [g3] at h; cases h) (by rw [g2]; exact hkC) (by rw [g2]; exact va_assign hcls) rfl rfl hd fun H1 e z oq => ?_
  rw [← set_app (k := j) (c := .inr (4, N, rs.set i (some p))) hB] at kk
  refine kk H1 _ ls (hH.setc hsh ?_ z oq) (hS.put z oq (Nat.le_add_right _ _)) hL
  show H1[gB g + (B + j)]? = some (vp_cell (gc g 4) (N, .inr (.inr (.inr (.inr (fun j => ((rs.set i (some p)).getD j none).map (fun a => gB g + a)))))))
  rw [e, hcl, vp_cell_q, vp_cell_q, arrV_store]
  congr 2
  funext q
  by_cases hq : q = i
  · subst hq
    simp [updV, va_rf, List.getD_eq_getElem?_getD, List.getElem?_set_self hir]
  · simp [updV, hq, List.getD_eq_getElem?_getD, List.getElem?_set_ne (fun e => hq e.symm)]
theorem PW.objI {sh : List Shp} {ex : Bool} {D MC MS idx a : Nat} (cx : Cx g X own b) (hR : RmG X.2.2.1 D MC MS) (hd : Dx b pc (.invokespecial idx) 3 n) (hl : Cond.methodLink own idx Lib.objectInit ∈ TG) (hi : Cond.instanceMethod Lib.objectInit ∈ TG ∧ Cond.code Lib.objectInit ⟨#[0xb1]⟩ 1 none ∈ TG) (hD : 1 ≤ D) (hcat : (st.map fun v => v.category).sum ≤ 8) (k : PW g X ex Q cells slots sh h n L st) : PW g X ex Q cells slots sh h pc L (.ref a :: st) := by
  obtain ⟨hd, rfl⟩ := hd
  intro H locs ls hH hS hL
  have hts := cx.2.2.2.1
  exact W.objInit cx.1 cx.2.1 cx.2.2.1 (hts _ hl) (hts _ hi.1) (hts _ hi.2) rfl hL.1 rfl hd (Nat.le_trans hD hR.1) (by show 2 * 0 + _ + 12 ≤ _; have := hR.2.1; omega) (k H locs ls hH hS hL)
/-- a constructor is called -/
theorem PW.callI {sh : List Shp} {ex : Bool} {D MC MS : Nat} {y : MT} {d mc ms idx a : Nat} {post : Option Value → List Shp → Hp → Prop} (cx : Cx g X own b) (hR : RmG X.2.2.1 D MC MS) (hd : Dx b pc (.invokespecial idx) 3 n) (hl : KL own idx y) (hm : MI y 0) (hii : Cond.instanceMethod y.1 ∈ TG) (hy1 : y.1.name = "<init>") (hret : y.2.2.2 = none) (hcat : (st.map fun v => v.category).sum ≤ 8) (hD : d + 1 ≤ D) (hloc : 8 + (y.2.2.1 + 11) + 40 * d ≤ 40 * D) (hmc : cells + mc ≤ MC) (hms : slots + ms ≤ MS)
    (hC : Ct g y d mc ms ex [.ref a] sh h post) (k : ∀ (o : Option Value) (sh1 : List Shp) (h1 : Hp), post o sh1 h1 → PW g X ex Q (cells + mc) (slots + ms) sh1 h1 n L (o.toList ++ st)) : PW g X ex Q cells slots sh h pc L (.ref a :: st) := by
  obtain ⟨hd, rfl⟩ := hd
  obtain ⟨hcode, hini, hy, hpar⟩ := hm
  intro H locs ls hH hS hL
  have hts := cx.2.2.2.1
  have hlen : ∀ sig, parseMethodDescriptor y.1.desc = some sig → 0 = sig.parameters.length := by
    intro sig hs
    rw [hs] at hpar
    exact (Option.some.inj hpar).symm
  have hpre : PreS X.2.2.2.1 H (PcG g ex sh h [.ref a]) (.ref a :: []) := ⟨PcG.blind, PcG.at cx hH hS⟩
  have hRR : (rmd d mc ms).frames + 1 ≤ X.2.2.1.frames ∧ 8 + (y.2.2.1 + 11) + (rmd d mc ms).locals ≤ X.2.2.1.locals := ⟨Nat.le_trans hD hR.1, Nat.le_trans hloc hR.2.1⟩
  have hff : cells + mc ≤ X.2.2.1.cells ∧ slots + ms ≤ X.2.2.1.slots := ⟨Nat.le_trans hmc hR.2.2.1, Nat.le_trans hms hR.2.2.2⟩
  have hws := wsM_at hts hcode
  have hc2 := hts _ hcode
  have hmem : Cond.code y.1 y.2.1 y.2.2.1 y.2.2.2 ∈ wsM y := List.mem_cons_self
  rw [hret] at hc2 hmem
  rcases hl with hl | ⟨host, hl⟩
  · exact PW.after (va_runI (Ts := TG) (n := 0) ⟨cx.1, cx.2.1, rfl, cx.2.2.1, hts⟩ hC ⟨⟨rfl, rfl, hRR.1, hRR.2, hws, hmem, hc2, hts _ hini, hy, hlen, hts _ hl⟩, hy1, hts _ hii⟩ hpre rfl rfl hL.1 rfl (lv_room hcat) hd hff) hS hL k
  · exact PW.after (va_runIN (Ts := TG) (n := 0) ⟨cx.1, cx.2.1, rfl, cx.2.2.1, hts⟩ hC ⟨⟨⟨rfl, rfl, hRR.1, hRR.2, hws, hmem⟩, hc2, hts _ hini, hy, hlen, Cx.nt cx hl⟩, hy1, hts _ hii⟩ hpre rfl rfl hL.1 rfl (lv_room hcat) hd hff) hS hL k
theorem PW.icmp_geT {sh : List Shp} {ex : Bool} {x y : Int32} {o : Int} {tgt : Nat} (cx : Cx g X own b) (hd : Dj b pc (.if_icmp .ge o) o n tgt) (hc : y ≤ x) (k : PW g X ex Q cells slots sh h tgt L st) : PW g X ex Q cells slots sh h pc L (.int y :: .int x :: st) :=
  PW.icmp_ge (ρ := Unit) (A := some ()) (B := none) (r := some ()) cx hd (if_pos hc) (fun _ => k) (fun e => by cases e)
theorem PW.icmp_geF {sh : List Shp} {ex : Bool} {x y : Int32} {o : Int} {tgt : Nat} (cx : Cx g X own b) (hd : Dj b pc (.if_icmp .ge o) o n tgt) (hc : ¬ y ≤ x) (k : PW g X ex Q cells slots sh h n L st) : PW g X ex Q cells slots sh h pc L (.int y :: .int x :: st) :=
  PW.icmp_ge (ρ := Unit) (A := none) (B := some ()) (r := some ()) cx hd (if_neg hc) (fun e => by cases e) (fun _ => k)
theorem PW.shEq {ex : Bool} {sh sh' : List Shp} (e : sh = sh') (k : PW g X ex Q cells slots sh' h pc L st) : PW g X ex Q cells slots sh h pc L st := e ▸ k
end R11
def arcL (a : Nat) : List Shp := [shA a, .inr (0, 12, []), .inr (0, 96, []), .inr (0, 12, []), .inr (0, 12, []), .inr (0, 12, []), .inr (0, 12, []), .inr (0, 4, []), .inr (0, 36, []), .inr (0, 5, []), .inr (0, 5, [])]
def txtL : List Shp := [.inl (2, [(2, 48), (0, 0), (0, 0), (3, 0), (0, 0), (0, 0), (1, 0)]), .inr (1, 600, [])]
def scrO : Shp := .inl (1, [(2, 36), (2, 47), (0, 0), (0, 0), (0, 0), (0, 0), (2, 49), (2, 50), (0, 0), (0, 0), (0, 0)])
def scrL : List Shp := [scrO] ++ arcL 36 ++ txtL ++ [.inr (0, 2, []), .inr (0, 2, [])]
theorem row_up2 {h : Hp} {a i k : Nat} {x : Int32} (e : k ≠ a) : row k (up2 h a i x) = row k h := row_srow_ne _ _ _ _ e
