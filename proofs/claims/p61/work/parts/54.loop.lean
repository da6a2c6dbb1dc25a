/-! ===== the law's loop, and the walk from its entry ===== -/
def shL : List Shp := shX ++ (shM ++ [.inr (3, 1, [])])
theorem shX_len : shX.length = 140 := by decide +kernel
theorem shM_len : shM.length = 10 := by decide +kernel
theorem shL_X : XSh shL := fun k c h => by
  rw [shL, List.getElem?_append_left (List.getElem?_eq_some_iff.mp h).1]; exact h
theorem shL_M : MSh shL := fun k c h => by
  rw [shL, List.getElem?_append_right (by rw [shX_len]; omega), shX_len, Nat.add_sub_cancel_left, List.getElem?_append_left (List.getElem?_eq_some_iff.mp h).1]; exact h
theorem shL_o : shL[150]? = some (.inr (3, 1, [])) := by decide +kernel
theorem and63 (v : Int32) : ∃ k, k < 64 ∧ v &&& 63 = nI k := by
  refine ⟨(v &&& 63).toBitVec.toNat, ?_, ?_⟩
  · rw [Int32.toBitVec_and, BitVec.toNat_and]; exact Nat.lt_of_le_of_lt Nat.and_le_right (by decide)
  · apply Int32.toBitVec_inj.mp
    show _ = BitVec.ofNat 32 _
    rw [BitVec.ofNat_toNat, BitVec.setWidth_eq]
theorem sub6_toInt {N : Nat} (h : N < 2 ^ 20) : (nI N - 6).toInt = (N : Int) - 6 := by
  have h6 : (6 : Int32).toInt = 6 := by decide
  rw [Int32.toInt_sub, nI_toInt (by omega), h6]
  exact Int.bmod_eq_of_le (by omega) (by omega)
abbrev Ll (g : GT) (b : Nat) (i : Int32) : List (Option Value) := [some (.ref b), some (.ref (gB g + 0)), some (.ref (gB g + 140)), some (.ref (gB g + 150)), some (.int i), none, none, none, none]
set_option maxRecDepth 20000 in
set_option maxHeartbeats 4000000 in
theorem law_loop {g : GT} {X : XT} {Q : State → Prop} {b N NM c0 s0 : Nat} {xs : Nat → Int32} {sh : List Shp} (hx : XSh sh) (hm : MSh sh) (ho : sh[150]? = some (.inr (3, 1, []))) (cx : Cx g X RL code) (hR : RmG X.2.2.1 40 601024 7293034) (hml : X.2.2.2.2.2.2.2.2.maxLocals = 9) (hX : va_X b N xs X.2.2.2.1 X.2.2.2.1.heap) (hbB : b < X.2.2.2.1.heap.size ∧ b < gB g)
    (hN : N ≤ NM) (hNM : NM < 2 ^ 20) (hc : c0 + NM + 10 ≤ 601024) (hs : s0 + 4 * NM + 50 ≤ 7293034) (Inv : Nat → Hp → Prop) (hstep : ∀ (j : Nat) (h : Hp), 6 * j + 6 ≤ NM → Inv j h → ∀ k < 64, ∀ a1 a2 a3 a4 a5 : Int32, ∃ r, lawStep k h a1 a2 a3 a4 a5 = some r ∧ Inv (j + 1) r)
    (hend : ∀ (cells slots : Nat) (h : Hp) (i : Int32), cells ≤ 601024 → slots ≤ 7293034 → PW g X false Q cells slots sh h 1995 (Ll g b i) []) : ∀ (f j : Nat) (h : Hp), N < 6 * (f + j) → 6 * j ≤ N + 5 → Inv j h → PW g X false Q (c0 + 4 * j) (s0 + 24 * j) sh h 23 (Ll g b (nI (6 * j))) []
  | 0, j, h, hf, hj, hi => by
    refine PW.iload cx qL_law_23 rfl ?_
    refine PW.aload_n cx qL_law_25 rfl ?_
    refine PW.sclen cx qL_law_26 hX hbB ?_
    refine PW.bipush (v := 6) cx qL_law_27 rfl ?_
    refine PW.isub cx qL_law_29 ?_
    have hlt : nI N - 6 < nI (6 * j) := by
      rw [Int32.lt_iff_toInt_lt, sub6_toInt (by omega), nI_toInt (by omega)]; omega
    refine PW.icmp_gt (A := some true) (B := some false) cx qL_law_30 (if_pos hlt) (fun _ => hend _ _ _ _ (by omega) (by omega)) (fun e => by cases e)
  | f + 1, j, h, hf, hj, hi => by
    refine PW.iload cx qL_law_23 rfl ?_
    refine PW.aload_n cx qL_law_25 rfl ?_
    refine PW.sclen cx qL_law_26 hX hbB ?_
    refine PW.bipush (v := 6) cx qL_law_27 rfl ?_
    refine PW.isub cx qL_law_29 ?_
    by_cases hlt : nI N - 6 < nI (6 * j)
    · exact PW.icmp_gt (A := some true) (B := some false) cx qL_law_30 (if_pos hlt) (fun _ => hend _ _ _ _ (by omega) (by omega)) (fun e => by cases e)
    refine PW.icmp_gt (A := some true) (B := some false) cx qL_law_30 (if_neg hlt) (fun e => by cases e) (fun _ => ?_)
    have h6 : 6 * j + 6 ≤ N := by
      rw [Int32.lt_iff_toInt_lt, sub6_toInt (by omega), nI_toInt (by omega)] at hlt; omega
    have hin : ∀ k, k < 6 → vp_in (nI (6 * j + k)) N := fun k hk => vp_in_nI (by omega) (by omega)
    refine PW.aload_n cx qL_law_33 rfl ?_
    refine PW.iload cx qL_law_34 rfl ?_
    refine PW.sld cx qL_law_36 hX hbB ⟨hin 0 (by omega), rfl⟩ ?_
    refine PW.bipush (v := 63) cx qL_law_37 rfl ?_
    refine PW.iand cx qL_law_39 ?_
    obtain ⟨k, hk, hke⟩ := and63 (xs (nI (6 * j)).toNatClampNeg)
    rw [hke]
    obtain ⟨r, hr, hi2⟩ := hstep j h (by omega) hi k hk (xs (nI (6 * j) + 1).toNatClampNeg) (xs (nI (6 * j) + 2).toNatClampNeg) (xs (nI (6 * j) + 3).toNatClampNeg) (xs (nI (6 * j) + 4).toNatClampNeg) (xs (nI (6 * j) + 5).toNatClampNeg)
    refine law_switch hx hm ho cx hR hml hX hbB ⟨(nI_add (6 * j) 1) ▸ hin 1 (by omega), rfl⟩ ⟨(nI_add (6 * j) 2) ▸ hin 2 (by omega), rfl⟩ ⟨(nI_add (6 * j) 3) ▸ hin 3 (by omega), rfl⟩ ⟨(nI_add (6 * j) 4) ▸ hin 4 (by omega), rfl⟩ ⟨(nI_add (6 * j) 5) ▸ hin 5 (by omega), rfl⟩ (by omega) (by omega) h r k hk hr ?_
    refine PW.iinc (v := 6) (L' := Ll g b (nI (6 * j) + 6)) cx qL_law_1989 rfl rfl (by rw [hml]; decide) rfl rfl ?_
    refine PW.goto cx qL_law_1992 ?_
    have e6 : nI (6 * j) + 6 = nI (6 * (j + 1)) := nI_add (6 * j) 6
    rw [e6]
    exact law_loop hx hm ho cx hR hml hX hbB hN hNM hc hs Inv hstep hend f (j + 1) r (by omega) (by omega) hi2
