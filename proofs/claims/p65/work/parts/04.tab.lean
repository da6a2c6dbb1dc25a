/-! ===== the words that every method of ours is given; what they say of the classes of the world ===== -/
def TG : List Cond := lw_tbl.filter goodWord
theorem tg {w : Cond} (i : Nat) (h : lw_tbl[i]? = some w) (hg : goodWord w = true) : w ∈ TG := List.mem_filter.mpr ⟨List.mem_of_getElem? h, hg⟩
theorem tg_good {w : Cond} (h : w ∈ TG) : goodWord w = true := (List.mem_filter.mp h).2
/-- words that change when a class warms up, but stay true: links to nest mates, casts -/
def nestWord : Cond → Bool
  | .methodLinkNest .. => true
  | .fieldLinkNest .. => true
  | .castable .. => true
  | .declares .. => true
  | .arrayOver (.object _) => true
  | _ => false
def NT : List Cond := lw_tbl.filter nestWord
theorem tn {w : Cond} (i : Nat) (h : lw_tbl[i]? = some w) (hg : nestWord w = true) : w ∈ NT := List.mem_filter.mpr ⟨List.mem_of_getElem? h, hg⟩
theorem nt_word {w : Cond} (h : w ∈ NT) : nestWord w = true := (List.mem_filter.mp h).2
theorem nt_use {w : Cond} (h : w ∈ NT) {A : Array Value} {U : State} (hZ : va_Nw w U) : w.before A U = true := by
  have := nt_word h
  cases w <;> first | exact va_Nw.use rfl hZ | exact hZ | (exfalso; exact Bool.false_ne_true this)
theorem nt_of {w : Cond} (h : w ∈ NT) {A : Array Value} {U : State} (hZ : w.before A U = true) : va_Nw w U := by
  have := nt_word h
  cases w <;> first | exact va_Nw.of rfl hZ | exact hZ | (exfalso; exact Bool.false_ne_true this)
theorem nt_same {w : Cond} (h : w ∈ NT) {u U : State} (e : u.vm = U.vm) (hZ : va_Nw w u) : va_Nw w U := by
  have := nt_word h
  cases w <;> first | exact va_Nw.same rfl e hZ | (exfalso; exact Bool.false_ne_true this) | (rename_i t; cases t <;> first | exact va_AO.moved (e ▸ Vm.Alike.refl u.vm) hZ | (exfalso; exact Bool.false_ne_true this))
theorem nt_warm {w : Cond} (h : w ∈ NT) {s U : State} (hW : s.WarmedH U.vm) (hZ : va_Nw w s) : va_Nw w U := by
  have := nt_word h
  cases w <;> first | exact va_Nw.warmM hW hZ | exact va_Nw.warmF hW hZ | exact va_Nw.warmC hW hZ | exact va_Nw.warmD hW hZ | (exfalso; exact Bool.false_ne_true this) | (rename_i t; cases t <;> first | exact va_AO.moved hW.alike hZ | (exfalso; exact Bool.false_ne_true this))
/-- classes whose objects lie in the world -/
abbrev clX : List vw_C := [(RX1, TX1, 18), (RX3, TX3, 11), (RX4, TX4, 7), (RX6, TX6, 10)]
theorem in_1 : ∀ w ∈ u_ws RX1 TX1 18, w ∈ TG := by decide +kernel
theorem in_3 : ∀ w ∈ u_ws RX3 TX3 11, w ∈ TG := by decide +kernel
theorem in_4 : ∀ w ∈ u_ws RX4 TX4 7, w ∈ TG := by decide +kernel
theorem in_6 : ∀ w ∈ u_ws RX6 TX6 10, w ∈ TG := by decide +kernel
theorem cls_in : ∀ (ci : Nat) (q : vw_C), clX[ci]? = some q → ∀ w ∈ u_ws q.1 q.2.1 q.2.2, w ∈ TG := by
  intro ci q h
  match ci, h with
  | 0, h => cases h; exact in_1
  | 1, h => cases h; exact in_3
  | 2, h => cases h; exact in_4
  | 3, h => cases h; exact in_6
  | k + 4, h => simp [clX] at h
theorem cls_ty : ∀ (ci : Nat) (q : vw_C), clX[ci]? = some q → ∃ ty0 : Nat → FieldType, (∀ k, k < q.2.2 → parseFieldDescriptor (q.2.1 k).2.2.1 = some (ty0 k)) ∧ ∀ a, a < q.2.2 → ∀ b, b < q.2.2 → a ≠ b → (q.2.1 a).2.1 ≠ (q.2.1 b).2.1 := by
  intro ci q h
  match ci, h with
  | 0, h => cases h; exact ⟨tyX1, tyX1_ok, nmX1⟩
  | 1, h => cases h; exact ⟨tyX3, tyX3_ok, nmX3⟩
  | 2, h => cases h; exact ⟨tyX4, tyX4_ok, nmX4⟩
  | 3, h => cases h; exact ⟨tyX6, tyX6_ok, nmX6⟩
  | k + 4, h => simp [clX] at h
