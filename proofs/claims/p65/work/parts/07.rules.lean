/-! ===== shapes of the two objects' worlds; rows of the walk that carry a function's value along ===== -/
def b2i (x : Bool) : Int32 := match x with
  | true => 1
  | false => 0
def nm {α β : Type} (x : α) (F : α → β) : β := F x
def lt {α β : Type} (x : α) (F : α → β) : β := F x
theorem lt_split {α β : Type} {x : α} {F : α → β} {r : β} (h : lt x F = r) : ∃ j : α, j = x ∧ F j = r := ⟨x, rfl, h⟩
theorem bndO {α β : Type} {x : Option α} {F : α → Option β} {r : Option β} (h : x.bind F = r) (hr : r ≠ none) : ∃ v, x = some v ∧ F v = r := by
  cases x with
  | none => exact absurd h.symm hr
  | some v => exact ⟨v, rfl, h⟩
theorem sne {α : Type} {x : α} : some x ≠ none := fun h => by cases h
def bcase {α : Type} (e : Bool) (A B : α) : α := match e with
  | true => A
  | false => B
def FU : Nat := 1000003
def mxI (x y : Int32) : Int32 := if x < y then y else x
def mnI (x y : Int32) : Int32 := if y < x then y else x
def abI (x : Int32) : Int32 := if 0 ≤ x then x else 0 - x
def i2cI (x : Int32) : Int32 := (x.toUInt32 % 65536).toInt32
def Lsub (a b : List (Option Value)) : Prop := ∀ (i : Nat) (v : Value), lk a i = some v → lk b i = some v
theorem Lsub.nil {b : List (Option Value)} : Lsub [] b := fun i v h => by simp [lk] at h
theorem Lsub.keep {x : Option Value} {a b : List (Option Value)} (h : Lsub a b) : Lsub (x :: a) (x :: b) := fun i v hv => by
  cases i with
  | zero => exact hv
  | succ i => exact h i v hv
theorem Lsub.drop {x : Option Value} {a b : List (Option Value)} (h : Lsub a b) : Lsub (none :: a) (x :: b) := fun i v hv => by
  cases i with
  | zero => simp [lk] at hv
  | succ i => exact h i v hv
theorem nb0 : narrow .boolean (.int 0) = .int 0 := by decide
theorem nb1 : narrow .boolean (.int 1) = .int 1 := by decide
theorem nbb (x : Bool) : narrow .boolean (.int (b2i x)) = .int (b2i x) := by cases x <;> decide

theorem le_ri {sh : List Shp} {h : Hp} {v r0 : Int32} (hf : some v = some r0) : PE (some (.int r0)) sh h (some (.int v)) sh h := by cases hf; exact ⟨rfl, rfl, rfl⟩
theorem le_wi {sh : List Shp} {v : Int32} {h1 : Hp} {r0 : Int32 × Hp} (hf : some (v, h1) = some r0) : PE (some (.int r0.1)) sh r0.2 (some (.int v)) sh h1 := by cases hf; exact ⟨rfl, rfl, rfl⟩
theorem le_rz {sh : List Shp} {h : Hp} {v r0 : Bool} (hf : some v = some r0) : PE (some (.int (b2i r0))) sh h (some (.int (b2i v))) sh h := by cases hf; exact ⟨rfl, rfl, rfl⟩
theorem le_wz {sh : List Shp} {v : Bool} {h1 : Hp} {r0 : Bool × Hp} (hf : some (v, h1) = some r0) : PE (some (.int (b2i r0.1))) sh r0.2 (some (.int (b2i v))) sh h1 := by cases hf; exact ⟨rfl, rfl, rfl⟩
theorem le_rd {sh : List Shp} {h : Hp} {v r0 : UInt64} (hf : some v = some r0) : PE (some (.double r0)) sh h (some (.double v)) sh h := by cases hf; exact ⟨rfl, rfl, rfl⟩
theorem le_wd {sh : List Shp} {v : UInt64} {h1 : Hp} {r0 : UInt64 × Hp} (hf : some (v, h1) = some r0) : PE (some (.double r0.1)) sh r0.2 (some (.double v)) sh h1 := by cases hf; exact ⟨rfl, rfl, rfl⟩
theorem le_rf {sh : List Shp} {h : Hp} {v r0 : UInt32} (hf : some v = some r0) : PE (some (.float r0)) sh h (some (.float v)) sh h := by cases hf; exact ⟨rfl, rfl, rfl⟩
theorem le_wf {sh : List Shp} {v : UInt32} {h1 : Hp} {r0 : UInt32 × Hp} (hf : some (v, h1) = some r0) : PE (some (.float r0.1)) sh r0.2 (some (.float v)) sh h1 := by cases hf; exact ⟨rfl, rfl, rfl⟩
theorem le_rt {g : GT} {sh : List Shp} {h : Hp} {v r0 : Int32} (hf : some v = some r0) : PE (some (.ref (ga g (r0 : Int32).toNatClampNeg))) sh h (some (.ref (ga g (v : Int32).toNatClampNeg))) sh h := by cases hf; exact ⟨rfl, rfl, rfl⟩
theorem le_wt {g : GT} {sh : List Shp} {v : Int32} {h1 : Hp} {r0 : Int32 × Hp} (hf : some (v, h1) = some r0) : PE (some (.ref (ga g (r0.1 : Int32).toNatClampNeg))) sh r0.2 (some (.ref (ga g (v : Int32).toNatClampNeg))) sh h1 := by cases hf; exact ⟨rfl, rfl, rfl⟩
theorem le_wv {sh : List Shp} {h1 r0 : Hp} (hf : some h1 = some r0) : PE none sh r0 none sh h1 := by cases hf; exact ⟨rfl, rfl, rfl⟩
theorem le_rv {sh : List Shp} {h : Hp} {r0 : Unit} (_ : some () = some r0) : PE none sh h none sh h := ⟨rfl, rfl, rfl⟩

def shA (a : Nat) : Shp := .inl (0, [(0, 0), (0, 0), (0, 0), (0, 0), (0, 0), (0, 0), (2, a + 1), (2, a + 2), (2, a + 3), (2, a + 4), (2, a + 5), (2, a + 6), (0, 0), (2, a + 7), (2, a + 8), (0, 0), (2, a + 9), (2, a + 10)])
def AS (sh : List Shp) (a : Nat) : Prop := sh[a]? = some (shA a) ∧ sh[a + 1]? = some (.inr (0, 12, [])) ∧ sh[a + 2]? = some (.inr (0, 96, [])) ∧ sh[a + 3]? = some (.inr (0, 12, [])) ∧ sh[a + 4]? = some (.inr (0, 12, [])) ∧ sh[a + 5]? = some (.inr (0, 12, [])) ∧ sh[a + 6]? = some (.inr (0, 12, [])) ∧ sh[a + 7]? = some (.inr (0, 4, [])) ∧ sh[a + 8]? = some (.inr (0, 36, [])) ∧ sh[a + 9]? = some (.inr (0, 5, [])) ∧ sh[a + 10]? = some (.inr (0, 5, []))
theorem AS.r1 {sh : List Shp} {a : Nat} (h : AS sh a) : sh[a + 1]? = some (.inr (0, 12, [])) := h.2.1
theorem AS.r2 {sh : List Shp} {a : Nat} (h : AS sh a) : sh[a + 2]? = some (.inr (0, 96, [])) := h.2.2.1
theorem AS.r3 {sh : List Shp} {a : Nat} (h : AS sh a) : sh[a + 3]? = some (.inr (0, 12, [])) := h.2.2.2.1
theorem AS.r4 {sh : List Shp} {a : Nat} (h : AS sh a) : sh[a + 4]? = some (.inr (0, 12, [])) := h.2.2.2.2.1
theorem AS.r5 {sh : List Shp} {a : Nat} (h : AS sh a) : sh[a + 5]? = some (.inr (0, 12, [])) := h.2.2.2.2.2.1
theorem AS.r6 {sh : List Shp} {a : Nat} (h : AS sh a) : sh[a + 6]? = some (.inr (0, 12, [])) := h.2.2.2.2.2.2.1
theorem AS.r7 {sh : List Shp} {a : Nat} (h : AS sh a) : sh[a + 7]? = some (.inr (0, 4, [])) := h.2.2.2.2.2.2.2.1
theorem AS.r8 {sh : List Shp} {a : Nat} (h : AS sh a) : sh[a + 8]? = some (.inr (0, 36, [])) := h.2.2.2.2.2.2.2.2.1
theorem AS.r9 {sh : List Shp} {a : Nat} (h : AS sh a) : sh[a + 9]? = some (.inr (0, 5, [])) := h.2.2.2.2.2.2.2.2.2.1
theorem AS.r10 {sh : List Shp} {a : Nat} (h : AS sh a) : sh[a + 10]? = some (.inr (0, 5, [])) := h.2.2.2.2.2.2.2.2.2.2
def shX : List Shp := [
  .inl (3, [(2, 1), (2, 12), (2, 23), (1, 0), (2, 34), (0, 0), (0, 0), (2, 35), (2, 51), (0, 0)]),
  shA 1,
  .inr (0, 12, []),
  .inr (0, 96, []),
  .inr (0, 12, []),
  .inr (0, 12, []),
  .inr (0, 12, []),
  .inr (0, 12, []),
  .inr (0, 4, []),
  .inr (0, 36, []),
  .inr (0, 5, []),
  .inr (0, 5, []),
  shA 12,
  .inr (0, 12, []),
  .inr (0, 96, []),
  .inr (0, 12, []),
  .inr (0, 12, []),
  .inr (0, 12, []),
  .inr (0, 12, []),
  .inr (0, 4, []),
  .inr (0, 36, []),
  .inr (0, 5, []),
  .inr (0, 5, []),
  shA 23,
  .inr (0, 12, []),
  .inr (0, 96, []),
  .inr (0, 12, []),
  .inr (0, 12, []),
  .inr (0, 12, []),
  .inr (0, 12, []),
  .inr (0, 4, []),
  .inr (0, 36, []),
  .inr (0, 5, []),
  .inr (0, 5, []),
  .inr (4, 8, [some 52, some 63, some 74, some 85, some 96, some 107, some 118, some 129]),
  .inl (1, [(2, 36), (2, 47), (0, 0), (0, 0), (0, 0), (0, 0), (2, 49), (2, 50), (0, 0), (0, 0), (0, 0)]),
  shA 36,
  .inr (0, 12, []),
  .inr (0, 96, []),
  .inr (0, 12, []),
  .inr (0, 12, []),
  .inr (0, 12, []),
  .inr (0, 12, []),
  .inr (0, 4, []),
  .inr (0, 36, []),
  .inr (0, 5, []),
  .inr (0, 5, []),
  .inl (2, [(2, 48), (0, 0), (0, 0), (3, 0), (0, 0), (0, 0), (1, 0)]),
  .inr (1, 600, []),
  .inr (0, 2, []),
  .inr (0, 2, []),
  .inr (1, 81, []),
  shA 52,
  .inr (0, 12, []),
  .inr (0, 96, []),
  .inr (0, 12, []),
  .inr (0, 12, []),
  .inr (0, 12, []),
  .inr (0, 12, []),
  .inr (0, 4, []),
  .inr (0, 36, []),
  .inr (0, 5, []),
  .inr (0, 5, []),
  shA 63,
  .inr (0, 12, []),
  .inr (0, 96, []),
  .inr (0, 12, []),
  .inr (0, 12, []),
  .inr (0, 12, []),
  .inr (0, 12, []),
  .inr (0, 4, []),
  .inr (0, 36, []),
  .inr (0, 5, []),
  .inr (0, 5, []),
  shA 74,
  .inr (0, 12, []),
  .inr (0, 96, []),
  .inr (0, 12, []),
  .inr (0, 12, []),
  .inr (0, 12, []),
  .inr (0, 12, []),
  .inr (0, 4, []),
  .inr (0, 36, []),
  .inr (0, 5, []),
  .inr (0, 5, []),
  shA 85,
  .inr (0, 12, []),
  .inr (0, 96, []),
  .inr (0, 12, []),
  .inr (0, 12, []),
  .inr (0, 12, []),
  .inr (0, 12, []),
  .inr (0, 4, []),
  .inr (0, 36, []),
  .inr (0, 5, []),
  .inr (0, 5, []),
  shA 96,
  .inr (0, 12, []),
  .inr (0, 96, []),
  .inr (0, 12, []),
  .inr (0, 12, []),
  .inr (0, 12, []),
  .inr (0, 12, []),
  .inr (0, 4, []),
  .inr (0, 36, []),
  .inr (0, 5, []),
  .inr (0, 5, []),
  shA 107,
  .inr (0, 12, []),
  .inr (0, 96, []),
  .inr (0, 12, []),
  .inr (0, 12, []),
  .inr (0, 12, []),
  .inr (0, 12, []),
  .inr (0, 4, []),
  .inr (0, 36, []),
  .inr (0, 5, []),
  .inr (0, 5, []),
  shA 118,
  .inr (0, 12, []),
  .inr (0, 96, []),
  .inr (0, 12, []),
  .inr (0, 12, []),
  .inr (0, 12, []),
  .inr (0, 12, []),
  .inr (0, 4, []),
  .inr (0, 36, []),
  .inr (0, 5, []),
  .inr (0, 5, []),
  shA 129,
  .inr (0, 12, []),
  .inr (0, 96, []),
  .inr (0, 12, []),
  .inr (0, 12, []),
  .inr (0, 12, []),
  .inr (0, 12, []),
  .inr (0, 4, []),
  .inr (0, 36, []),
  .inr (0, 5, []),
  .inr (0, 5, [])]
def shM : List Shp := [
  .inl (4, [(2, 141), (2, 142), (2, 143), (2, 144), (2, 145), (0, 0), (1, 0), (2, 146), (2, 147), (0, 0), (0, 0), (0, 0), (0, 0), (2, 148), (0, 0), (0, 0), (0, 0), (0, 0), (0, 0), (0, 0), (0, 0), (2, 149)]),
  .inr (0, 106, []),
  .inr (0, 106, []),
  .inr (0, 106, []),
  .inr (0, 848, []),
  .inr (0, 106, []),
  .inr (0, 600, []),
  .inr (0, 600, []),
  .inr (2, 90, []),
  .inr (0, 3, [])]
def XSh (sh : List Shp) : Prop := ∀ (k : Nat) (c : Shp), shX[k]? = some c → sh[k]? = some c
def MSh (sh : List Shp) : Prop := ∀ (k : Nat) (c : Shp), shM[k]? = some c → sh[140 + k]? = some c
theorem as_1 {sh : List Shp} (hx : XSh sh) : AS sh 1 := ⟨hx 1 _ rfl, hx 2 _ rfl, hx 3 _ rfl, hx 4 _ rfl, hx 5 _ rfl, hx 6 _ rfl, hx 7 _ rfl, hx 8 _ rfl, hx 9 _ rfl, hx 10 _ rfl, hx 11 _ rfl⟩
theorem as_12 {sh : List Shp} (hx : XSh sh) : AS sh 12 := ⟨hx 12 _ rfl, hx 13 _ rfl, hx 14 _ rfl, hx 15 _ rfl, hx 16 _ rfl, hx 17 _ rfl, hx 18 _ rfl, hx 19 _ rfl, hx 20 _ rfl, hx 21 _ rfl, hx 22 _ rfl⟩
theorem as_23 {sh : List Shp} (hx : XSh sh) : AS sh 23 := ⟨hx 23 _ rfl, hx 24 _ rfl, hx 25 _ rfl, hx 26 _ rfl, hx 27 _ rfl, hx 28 _ rfl, hx 29 _ rfl, hx 30 _ rfl, hx 31 _ rfl, hx 32 _ rfl, hx 33 _ rfl⟩
theorem as_36 {sh : List Shp} (hx : XSh sh) : AS sh 36 := ⟨hx 36 _ rfl, hx 37 _ rfl, hx 38 _ rfl, hx 39 _ rfl, hx 40 _ rfl, hx 41 _ rfl, hx 42 _ rfl, hx 43 _ rfl, hx 44 _ rfl, hx 45 _ rfl, hx 46 _ rfl⟩
theorem as_52 {sh : List Shp} (hx : XSh sh) : AS sh 52 := ⟨hx 52 _ rfl, hx 53 _ rfl, hx 54 _ rfl, hx 55 _ rfl, hx 56 _ rfl, hx 57 _ rfl, hx 58 _ rfl, hx 59 _ rfl, hx 60 _ rfl, hx 61 _ rfl, hx 62 _ rfl⟩
theorem as_63 {sh : List Shp} (hx : XSh sh) : AS sh 63 := ⟨hx 63 _ rfl, hx 64 _ rfl, hx 65 _ rfl, hx 66 _ rfl, hx 67 _ rfl, hx 68 _ rfl, hx 69 _ rfl, hx 70 _ rfl, hx 71 _ rfl, hx 72 _ rfl, hx 73 _ rfl⟩
theorem as_74 {sh : List Shp} (hx : XSh sh) : AS sh 74 := ⟨hx 74 _ rfl, hx 75 _ rfl, hx 76 _ rfl, hx 77 _ rfl, hx 78 _ rfl, hx 79 _ rfl, hx 80 _ rfl, hx 81 _ rfl, hx 82 _ rfl, hx 83 _ rfl, hx 84 _ rfl⟩
theorem as_85 {sh : List Shp} (hx : XSh sh) : AS sh 85 := ⟨hx 85 _ rfl, hx 86 _ rfl, hx 87 _ rfl, hx 88 _ rfl, hx 89 _ rfl, hx 90 _ rfl, hx 91 _ rfl, hx 92 _ rfl, hx 93 _ rfl, hx 94 _ rfl, hx 95 _ rfl⟩
theorem as_96 {sh : List Shp} (hx : XSh sh) : AS sh 96 := ⟨hx 96 _ rfl, hx 97 _ rfl, hx 98 _ rfl, hx 99 _ rfl, hx 100 _ rfl, hx 101 _ rfl, hx 102 _ rfl, hx 103 _ rfl, hx 104 _ rfl, hx 105 _ rfl, hx 106 _ rfl⟩
theorem as_107 {sh : List Shp} (hx : XSh sh) : AS sh 107 := ⟨hx 107 _ rfl, hx 108 _ rfl, hx 109 _ rfl, hx 110 _ rfl, hx 111 _ rfl, hx 112 _ rfl, hx 113 _ rfl, hx 114 _ rfl, hx 115 _ rfl, hx 116 _ rfl, hx 117 _ rfl⟩
theorem as_118 {sh : List Shp} (hx : XSh sh) : AS sh 118 := ⟨hx 118 _ rfl, hx 119 _ rfl, hx 120 _ rfl, hx 121 _ rfl, hx 122 _ rfl, hx 123 _ rfl, hx 124 _ rfl, hx 125 _ rfl, hx 126 _ rfl, hx 127 _ rfl, hx 128 _ rfl⟩
theorem as_129 {sh : List Shp} (hx : XSh sh) : AS sh 129 := ⟨hx 129 _ rfl, hx 130 _ rfl, hx 131 _ rfl, hx 132 _ rfl, hx 133 _ rfl, hx 134 _ rfl, hx 135 _ rfl, hx 136 _ rfl, hx 137 _ rfl, hx 138 _ rfl, hx 139 _ rfl⟩
theorem sh_0 {sh : List Shp} (hx : XSh sh) : sh[0]? = some (.inl (3, [(2, 1), (2, 12), (2, 23), (1, 0), (2, 34), (0, 0), (0, 0), (2, 35), (2, 51), (0, 0)])) := hx 0 _ rfl
theorem sh_34 {sh : List Shp} (hx : XSh sh) : sh[34]? = some (.inr (4, 8, [some 52, some 63, some 74, some 85, some 96, some 107, some 118, some 129])) := hx 34 _ rfl
theorem sh_35 {sh : List Shp} (hx : XSh sh) : sh[35]? = some (.inl (1, [(2, 36), (2, 47), (0, 0), (0, 0), (0, 0), (0, 0), (2, 49), (2, 50), (0, 0), (0, 0), (0, 0)])) := hx 35 _ rfl
theorem sh_47 {sh : List Shp} (hx : XSh sh) : sh[47]? = some (.inl (2, [(2, 48), (0, 0), (0, 0), (3, 0), (0, 0), (0, 0), (1, 0)])) := hx 47 _ rfl
theorem sh_48 {sh : List Shp} (hx : XSh sh) : sh[48]? = some (.inr (1, 600, [])) := hx 48 _ rfl
theorem sh_49 {sh : List Shp} (hx : XSh sh) : sh[49]? = some (.inr (0, 2, [])) := hx 49 _ rfl
theorem sh_50 {sh : List Shp} (hx : XSh sh) : sh[50]? = some (.inr (0, 2, [])) := hx 50 _ rfl
theorem sh_51 {sh : List Shp} (hx : XSh sh) : sh[51]? = some (.inr (1, 81, [])) := hx 51 _ rfl
theorem sh_140 {sh : List Shp} (hx : MSh sh) : sh[140]? = some (.inl (4, [(2, 141), (2, 142), (2, 143), (2, 144), (2, 145), (0, 0), (1, 0), (2, 146), (2, 147), (0, 0), (0, 0), (0, 0), (0, 0), (2, 148), (0, 0), (0, 0), (0, 0), (0, 0), (0, 0), (0, 0), (0, 0), (2, 149)])) := hx 0 _ rfl
theorem sh_141 {sh : List Shp} (hx : MSh sh) : sh[141]? = some (.inr (0, 106, [])) := hx 1 _ rfl
theorem sh_142 {sh : List Shp} (hx : MSh sh) : sh[142]? = some (.inr (0, 106, [])) := hx 2 _ rfl
theorem sh_143 {sh : List Shp} (hx : MSh sh) : sh[143]? = some (.inr (0, 106, [])) := hx 3 _ rfl
theorem sh_144 {sh : List Shp} (hx : MSh sh) : sh[144]? = some (.inr (0, 848, [])) := hx 4 _ rfl
theorem sh_145 {sh : List Shp} (hx : MSh sh) : sh[145]? = some (.inr (0, 106, [])) := hx 5 _ rfl
theorem sh_146 {sh : List Shp} (hx : MSh sh) : sh[146]? = some (.inr (0, 600, [])) := hx 6 _ rfl
theorem sh_147 {sh : List Shp} (hx : MSh sh) : sh[147]? = some (.inr (0, 600, [])) := hx 7 _ rfl
theorem sh_148 {sh : List Shp} (hx : MSh sh) : sh[148]? = some (.inr (2, 90, [])) := hx 8 _ rfl
theorem sh_149 {sh : List Shp} (hx : MSh sh) : sh[149]? = some (.inr (0, 3, [])) := hx 9 _ rfl
theorem as_past {sh : List Shp} (hx : XSh sh) (i : Nat) (hi : i < 8) : AS sh (52 + 11 * i) := by
  match i, hi with
  | 0, _ => exact as_52 hx
  | 1, _ => exact as_63 hx
  | 2, _ => exact as_74 hx
  | 3, _ => exact as_85 hx
  | 4, _ => exact as_96 hx
  | 5, _ => exact as_107 hx
  | 6, _ => exact as_118 hx
  | 7, _ => exact as_129 hx
  | k + 8, h => omega
section Rows7
variable {g : GT} {X : XT} {own : String} {b : ByteArray} {ex : Bool} {Q : State → Prop} {cells slots : Nat} {sh : List Shp} {h : Hp} {pc n : Nat} {L : List (Option Value)} {st : List Value}

theorem PW.callVRI {D MC MS : Nat} {y : MT} {d nA idx a ci : Nat} {ts : List SlT} {q : vw_C} {As st0 : List Value} {ρ : Type} {x : Option (Int32)} {F : Int32 → Option ρ} {r : Option ρ} (cx : Cx g X own b) (hR : RmG X.2.2.1 D MC MS) (hd : Dx b pc (.invokevirtual idx) 3 n) (hl : KL own idx y) (hm : MV y nA) (hsh : sh[a]? = some (.inl (ci, ts))) (hq : clX[ci]? = some q) (hqc : q.1 = y.1.cls) (hnA : As.length = nA) (hst0 : st0 = As.reverse ++ .ref (gB g + a) :: st) (hcat : (st.map fun v => v.category).sum ≤ 8) (hD : d + 1 ≤ D) (hloc : 8 + (y.2.2.1 + 11) + 40 * d ≤ 40 * D) (hmc : cells ≤ MC) (hms : slots ≤ MS) (hf : x.bind F = r) (hr : r ≠ none) (hC : ∀ v : Int32, x = some v → Ct g y d 0 0 ex (.ref (gB g + a) :: As) sh h (PE (some (.int v)) sh h)) (k : ∀ v : Int32, F v = r → PW g X ex Q cells slots sh h n L (.int v :: st)) : PW g X ex Q cells slots sh h pc L st0 := by
  obtain ⟨v, e, hf⟩ := bndO hf hr
  refine PW.callV cx hR hd hl hm hsh hq hqc hnA hst0 hcat hD hloc (mc := 0) (ms := 0) hmc hms (hC v e) (fun o sh1 h1 hp => ?_)
  obtain ⟨rfl, rfl, rfl⟩ := hp
  exact k _ hf
theorem PW.callSRI {D MC MS : Nat} {y : MT} {d nA idx : Nat} {As st0 : List Value} {ρ : Type} {x : Option (Int32)} {F : Int32 → Option ρ} {r : Option ρ} (cx : Cx g X own b) (hR : RmG X.2.2.1 D MC MS) (hd : Dx b pc (.invokestatic idx) 3 n) (hl : KL own idx y) (hm : MSt y nA) (hnA : As.length = nA) (hst0 : st0 = As.reverse ++ st) (hcat : (st.map fun v => v.category).sum ≤ 8) (hD : d + 1 ≤ D) (hloc : 8 + (y.2.2.1 + 11) + 40 * d ≤ 40 * D) (hmc : cells ≤ MC) (hms : slots ≤ MS) (hf : x.bind F = r) (hr : r ≠ none) (hC : ∀ v : Int32, x = some v → Ct g y d 0 0 ex As sh h (PE (some (.int v)) sh h)) (k : ∀ v : Int32, F v = r → PW g X ex Q cells slots sh h n L (.int v :: st)) : PW g X ex Q cells slots sh h pc L st0 := by
  obtain ⟨v, e, hf⟩ := bndO hf hr
  refine PW.callS cx hR hd hl hm hnA hst0 hcat hD hloc (mc := 0) (ms := 0) hmc hms (hC v e) (fun o sh1 h1 hp => ?_)
  obtain ⟨rfl, rfl, rfl⟩ := hp
  exact k _ hf
theorem PW.callVRB {D MC MS : Nat} {y : MT} {d nA idx a ci : Nat} {ts : List SlT} {q : vw_C} {As st0 : List Value} {ρ : Type} {x : Option (Bool)} {F : Bool → Option ρ} {r : Option ρ} (cx : Cx g X own b) (hR : RmG X.2.2.1 D MC MS) (hd : Dx b pc (.invokevirtual idx) 3 n) (hl : KL own idx y) (hm : MV y nA) (hsh : sh[a]? = some (.inl (ci, ts))) (hq : clX[ci]? = some q) (hqc : q.1 = y.1.cls) (hnA : As.length = nA) (hst0 : st0 = As.reverse ++ .ref (gB g + a) :: st) (hcat : (st.map fun v => v.category).sum ≤ 8) (hD : d + 1 ≤ D) (hloc : 8 + (y.2.2.1 + 11) + 40 * d ≤ 40 * D) (hmc : cells ≤ MC) (hms : slots ≤ MS) (hf : x.bind F = r) (hr : r ≠ none) (hC : ∀ v : Bool, x = some v → Ct g y d 0 0 ex (.ref (gB g + a) :: As) sh h (PE (some (.int (b2i v))) sh h)) (k : ∀ v : Bool, F v = r → PW g X ex Q cells slots sh h n L (.int (b2i v) :: st)) : PW g X ex Q cells slots sh h pc L st0 := by
  obtain ⟨v, e, hf⟩ := bndO hf hr
  refine PW.callV cx hR hd hl hm hsh hq hqc hnA hst0 hcat hD hloc (mc := 0) (ms := 0) hmc hms (hC v e) (fun o sh1 h1 hp => ?_)
  obtain ⟨rfl, rfl, rfl⟩ := hp
  exact k _ hf
theorem PW.callSRB {D MC MS : Nat} {y : MT} {d nA idx : Nat} {As st0 : List Value} {ρ : Type} {x : Option (Bool)} {F : Bool → Option ρ} {r : Option ρ} (cx : Cx g X own b) (hR : RmG X.2.2.1 D MC MS) (hd : Dx b pc (.invokestatic idx) 3 n) (hl : KL own idx y) (hm : MSt y nA) (hnA : As.length = nA) (hst0 : st0 = As.reverse ++ st) (hcat : (st.map fun v => v.category).sum ≤ 8) (hD : d + 1 ≤ D) (hloc : 8 + (y.2.2.1 + 11) + 40 * d ≤ 40 * D) (hmc : cells ≤ MC) (hms : slots ≤ MS) (hf : x.bind F = r) (hr : r ≠ none) (hC : ∀ v : Bool, x = some v → Ct g y d 0 0 ex As sh h (PE (some (.int (b2i v))) sh h)) (k : ∀ v : Bool, F v = r → PW g X ex Q cells slots sh h n L (.int (b2i v) :: st)) : PW g X ex Q cells slots sh h pc L st0 := by
  obtain ⟨v, e, hf⟩ := bndO hf hr
  refine PW.callS cx hR hd hl hm hnA hst0 hcat hD hloc (mc := 0) (ms := 0) hmc hms (hC v e) (fun o sh1 h1 hp => ?_)
  obtain ⟨rfl, rfl, rfl⟩ := hp
  exact k _ hf
theorem PW.callVRT {D MC MS : Nat} {y : MT} {d nA idx a ci : Nat} {ts : List SlT} {q : vw_C} {As st0 : List Value} {ρ : Type} {x : Option (Int32)} {F : Int32 → Option ρ} {r : Option ρ} (cx : Cx g X own b) (hR : RmG X.2.2.1 D MC MS) (hd : Dx b pc (.invokevirtual idx) 3 n) (hl : KL own idx y) (hm : MV y nA) (hsh : sh[a]? = some (.inl (ci, ts))) (hq : clX[ci]? = some q) (hqc : q.1 = y.1.cls) (hnA : As.length = nA) (hst0 : st0 = As.reverse ++ .ref (gB g + a) :: st) (hcat : (st.map fun v => v.category).sum ≤ 8) (hD : d + 1 ≤ D) (hloc : 8 + (y.2.2.1 + 11) + 40 * d ≤ 40 * D) (hmc : cells ≤ MC) (hms : slots ≤ MS) (hf : x.bind F = r) (hr : r ≠ none) (hC : ∀ v : Int32, x = some v → Ct g y d 0 0 ex (.ref (gB g + a) :: As) sh h (PE (some (.ref (ga g (v : Int32).toNatClampNeg))) sh h)) (k : ∀ v : Int32, F v = r → PW g X ex Q cells slots sh h n L (.ref (ga g (v : Int32).toNatClampNeg) :: st)) : PW g X ex Q cells slots sh h pc L st0 := by
  obtain ⟨v, e, hf⟩ := bndO hf hr
  refine PW.callV cx hR hd hl hm hsh hq hqc hnA hst0 hcat hD hloc (mc := 0) (ms := 0) hmc hms (hC v e) (fun o sh1 h1 hp => ?_)
  obtain ⟨rfl, rfl, rfl⟩ := hp
  exact k _ hf
theorem PW.callSRT {D MC MS : Nat} {y : MT} {d nA idx : Nat} {As st0 : List Value} {ρ : Type} {x : Option (Int32)} {F : Int32 → Option ρ} {r : Option ρ} (cx : Cx g X own b) (hR : RmG X.2.2.1 D MC MS) (hd : Dx b pc (.invokestatic idx) 3 n) (hl : KL own idx y) (hm : MSt y nA) (hnA : As.length = nA) (hst0 : st0 = As.reverse ++ st) (hcat : (st.map fun v => v.category).sum ≤ 8) (hD : d + 1 ≤ D) (hloc : 8 + (y.2.2.1 + 11) + 40 * d ≤ 40 * D) (hmc : cells ≤ MC) (hms : slots ≤ MS) (hf : x.bind F = r) (hr : r ≠ none) (hC : ∀ v : Int32, x = some v → Ct g y d 0 0 ex As sh h (PE (some (.ref (ga g (v : Int32).toNatClampNeg))) sh h)) (k : ∀ v : Int32, F v = r → PW g X ex Q cells slots sh h n L (.ref (ga g (v : Int32).toNatClampNeg) :: st)) : PW g X ex Q cells slots sh h pc L st0 := by
  obtain ⟨v, e, hf⟩ := bndO hf hr
  refine PW.callS cx hR hd hl hm hnA hst0 hcat hD hloc (mc := 0) (ms := 0) hmc hms (hC v e) (fun o sh1 h1 hp => ?_)
  obtain ⟨rfl, rfl, rfl⟩ := hp
  exact k _ hf
theorem PW.callVRD {D MC MS : Nat} {y : MT} {d nA idx a ci : Nat} {ts : List SlT} {q : vw_C} {As st0 : List Value} {ρ : Type} {x : Option (UInt64)} {F : UInt64 → Option ρ} {r : Option ρ} (cx : Cx g X own b) (hR : RmG X.2.2.1 D MC MS) (hd : Dx b pc (.invokevirtual idx) 3 n) (hl : KL own idx y) (hm : MV y nA) (hsh : sh[a]? = some (.inl (ci, ts))) (hq : clX[ci]? = some q) (hqc : q.1 = y.1.cls) (hnA : As.length = nA) (hst0 : st0 = As.reverse ++ .ref (gB g + a) :: st) (hcat : (st.map fun v => v.category).sum ≤ 8) (hD : d + 1 ≤ D) (hloc : 8 + (y.2.2.1 + 11) + 40 * d ≤ 40 * D) (hmc : cells ≤ MC) (hms : slots ≤ MS) (hf : x.bind F = r) (hr : r ≠ none) (hC : ∀ v : UInt64, x = some v → Ct g y d 0 0 ex (.ref (gB g + a) :: As) sh h (PE (some (.double v)) sh h)) (k : ∀ v : UInt64, F v = r → PW g X ex Q cells slots sh h n L (.double v :: st)) : PW g X ex Q cells slots sh h pc L st0 := by
  obtain ⟨v, e, hf⟩ := bndO hf hr
  refine PW.callV cx hR hd hl hm hsh hq hqc hnA hst0 hcat hD hloc (mc := 0) (ms := 0) hmc hms (hC v e) (fun o sh1 h1 hp => ?_)
  obtain ⟨rfl, rfl, rfl⟩ := hp
  exact k _ hf
theorem PW.callSRD {D MC MS : Nat} {y : MT} {d nA idx : Nat} {As st0 : List Value} {ρ : Type} {x : Option (UInt64)} {F : UInt64 → Option ρ} {r : Option ρ} (cx : Cx g X own b) (hR : RmG X.2.2.1 D MC MS) (hd : Dx b pc (.invokestatic idx) 3 n) (hl : KL own idx y) (hm : MSt y nA) (hnA : As.length = nA) (hst0 : st0 = As.reverse ++ st) (hcat : (st.map fun v => v.category).sum ≤ 8) (hD : d + 1 ≤ D) (hloc : 8 + (y.2.2.1 + 11) + 40 * d ≤ 40 * D) (hmc : cells ≤ MC) (hms : slots ≤ MS) (hf : x.bind F = r) (hr : r ≠ none) (hC : ∀ v : UInt64, x = some v → Ct g y d 0 0 ex As sh h (PE (some (.double v)) sh h)) (k : ∀ v : UInt64, F v = r → PW g X ex Q cells slots sh h n L (.double v :: st)) : PW g X ex Q cells slots sh h pc L st0 := by
  obtain ⟨v, e, hf⟩ := bndO hf hr
  refine PW.callS cx hR hd hl hm hnA hst0 hcat hD hloc (mc := 0) (ms := 0) hmc hms (hC v e) (fun o sh1 h1 hp => ?_)
  obtain ⟨rfl, rfl, rfl⟩ := hp
  exact k _ hf
theorem PW.callVRF {D MC MS : Nat} {y : MT} {d nA idx a ci : Nat} {ts : List SlT} {q : vw_C} {As st0 : List Value} {ρ : Type} {x : Option (UInt32)} {F : UInt32 → Option ρ} {r : Option ρ} (cx : Cx g X own b) (hR : RmG X.2.2.1 D MC MS) (hd : Dx b pc (.invokevirtual idx) 3 n) (hl : KL own idx y) (hm : MV y nA) (hsh : sh[a]? = some (.inl (ci, ts))) (hq : clX[ci]? = some q) (hqc : q.1 = y.1.cls) (hnA : As.length = nA) (hst0 : st0 = As.reverse ++ .ref (gB g + a) :: st) (hcat : (st.map fun v => v.category).sum ≤ 8) (hD : d + 1 ≤ D) (hloc : 8 + (y.2.2.1 + 11) + 40 * d ≤ 40 * D) (hmc : cells ≤ MC) (hms : slots ≤ MS) (hf : x.bind F = r) (hr : r ≠ none) (hC : ∀ v : UInt32, x = some v → Ct g y d 0 0 ex (.ref (gB g + a) :: As) sh h (PE (some (.float v)) sh h)) (k : ∀ v : UInt32, F v = r → PW g X ex Q cells slots sh h n L (.float v :: st)) : PW g X ex Q cells slots sh h pc L st0 := by
  obtain ⟨v, e, hf⟩ := bndO hf hr
  refine PW.callV cx hR hd hl hm hsh hq hqc hnA hst0 hcat hD hloc (mc := 0) (ms := 0) hmc hms (hC v e) (fun o sh1 h1 hp => ?_)
  obtain ⟨rfl, rfl, rfl⟩ := hp
  exact k _ hf
theorem PW.callSRF {D MC MS : Nat} {y : MT} {d nA idx : Nat} {As st0 : List Value} {ρ : Type} {x : Option (UInt32)} {F : UInt32 → Option ρ} {r : Option ρ} (cx : Cx g X own b) (hR : RmG X.2.2.1 D MC MS) (hd : Dx b pc (.invokestatic idx) 3 n) (hl : KL own idx y) (hm : MSt y nA) (hnA : As.length = nA) (hst0 : st0 = As.reverse ++ st) (hcat : (st.map fun v => v.category).sum ≤ 8) (hD : d + 1 ≤ D) (hloc : 8 + (y.2.2.1 + 11) + 40 * d ≤ 40 * D) (hmc : cells ≤ MC) (hms : slots ≤ MS) (hf : x.bind F = r) (hr : r ≠ none) (hC : ∀ v : UInt32, x = some v → Ct g y d 0 0 ex As sh h (PE (some (.float v)) sh h)) (k : ∀ v : UInt32, F v = r → PW g X ex Q cells slots sh h n L (.float v :: st)) : PW g X ex Q cells slots sh h pc L st0 := by
  obtain ⟨v, e, hf⟩ := bndO hf hr
  refine PW.callS cx hR hd hl hm hnA hst0 hcat hD hloc (mc := 0) (ms := 0) hmc hms (hC v e) (fun o sh1 h1 hp => ?_)
  obtain ⟨rfl, rfl, rfl⟩ := hp
  exact k _ hf
theorem PW.callVRV {D MC MS : Nat} {y : MT} {d nA idx a ci : Nat} {ts : List SlT} {q : vw_C} {As st0 : List Value} {ρ : Type} {x : Option (Unit)} {F : Unit → Option ρ} {r : Option ρ} (cx : Cx g X own b) (hR : RmG X.2.2.1 D MC MS) (hd : Dx b pc (.invokevirtual idx) 3 n) (hl : KL own idx y) (hm : MV y nA) (hsh : sh[a]? = some (.inl (ci, ts))) (hq : clX[ci]? = some q) (hqc : q.1 = y.1.cls) (hnA : As.length = nA) (hst0 : st0 = As.reverse ++ .ref (gB g + a) :: st) (hcat : (st.map fun v => v.category).sum ≤ 8) (hD : d + 1 ≤ D) (hloc : 8 + (y.2.2.1 + 11) + 40 * d ≤ 40 * D) (hmc : cells ≤ MC) (hms : slots ≤ MS) (hf : x.bind F = r) (hr : r ≠ none) (hC : ∀ v : Unit, x = some v → Ct g y d 0 0 ex (.ref (gB g + a) :: As) sh h (PE none sh h)) (k : ∀ v : Unit, F v = r → PW g X ex Q cells slots sh h n L (st)) : PW g X ex Q cells slots sh h pc L st0 := by
  obtain ⟨v, e, hf⟩ := bndO hf hr
  refine PW.callV cx hR hd hl hm hsh hq hqc hnA hst0 hcat hD hloc (mc := 0) (ms := 0) hmc hms (hC v e) (fun o sh1 h1 hp => ?_)
  obtain ⟨rfl, rfl, rfl⟩ := hp
  exact k _ hf
theorem PW.callSRV {D MC MS : Nat} {y : MT} {d nA idx : Nat} {As st0 : List Value} {ρ : Type} {x : Option (Unit)} {F : Unit → Option ρ} {r : Option ρ} (cx : Cx g X own b) (hR : RmG X.2.2.1 D MC MS) (hd : Dx b pc (.invokestatic idx) 3 n) (hl : KL own idx y) (hm : MSt y nA) (hnA : As.length = nA) (hst0 : st0 = As.reverse ++ st) (hcat : (st.map fun v => v.category).sum ≤ 8) (hD : d + 1 ≤ D) (hloc : 8 + (y.2.2.1 + 11) + 40 * d ≤ 40 * D) (hmc : cells ≤ MC) (hms : slots ≤ MS) (hf : x.bind F = r) (hr : r ≠ none) (hC : ∀ v : Unit, x = some v → Ct g y d 0 0 ex As sh h (PE none sh h)) (k : ∀ v : Unit, F v = r → PW g X ex Q cells slots sh h n L (st)) : PW g X ex Q cells slots sh h pc L st0 := by
  obtain ⟨v, e, hf⟩ := bndO hf hr
  refine PW.callS cx hR hd hl hm hnA hst0 hcat hD hloc (mc := 0) (ms := 0) hmc hms (hC v e) (fun o sh1 h1 hp => ?_)
  obtain ⟨rfl, rfl, rfl⟩ := hp
  exact k _ hf
theorem PW.callVWI {D MC MS : Nat} {y : MT} {d nA idx a ci : Nat} {ts : List SlT} {q : vw_C} {As st0 : List Value} {ρ : Type} {x : Option (Int32 × Hp)} {F : Int32 × Hp → Option ρ} {r : Option ρ} (cx : Cx g X own b) (hR : RmG X.2.2.1 D MC MS) (hd : Dx b pc (.invokevirtual idx) 3 n) (hl : KL own idx y) (hm : MV y nA) (hsh : sh[a]? = some (.inl (ci, ts))) (hq : clX[ci]? = some q) (hqc : q.1 = y.1.cls) (hnA : As.length = nA) (hst0 : st0 = As.reverse ++ .ref (gB g + a) :: st) (hcat : (st.map fun v => v.category).sum ≤ 8) (hD : d + 1 ≤ D) (hloc : 8 + (y.2.2.1 + 11) + 40 * d ≤ 40 * D) (hmc : cells ≤ MC) (hms : slots ≤ MS) (hf : x.bind F = r) (hr : r ≠ none) (hC : ∀ v : Int32 × Hp, x = some v → Ct g y d 0 0 ex (.ref (gB g + a) :: As) sh h (PE (some (.int v.1)) sh v.2)) (k : ∀ v : Int32 × Hp, F v = r → PW g X ex Q cells slots sh v.2 n L (.int v.1 :: st)) : PW g X ex Q cells slots sh h pc L st0 := by
  obtain ⟨v, e, hf⟩ := bndO hf hr
  refine PW.callV cx hR hd hl hm hsh hq hqc hnA hst0 hcat hD hloc (mc := 0) (ms := 0) hmc hms (hC v e) (fun o sh1 h1 hp => ?_)
  obtain ⟨rfl, rfl, rfl⟩ := hp
  exact k _ hf
theorem PW.callSWI {D MC MS : Nat} {y : MT} {d nA idx : Nat} {As st0 : List Value} {ρ : Type} {x : Option (Int32 × Hp)} {F : Int32 × Hp → Option ρ} {r : Option ρ} (cx : Cx g X own b) (hR : RmG X.2.2.1 D MC MS) (hd : Dx b pc (.invokestatic idx) 3 n) (hl : KL own idx y) (hm : MSt y nA) (hnA : As.length = nA) (hst0 : st0 = As.reverse ++ st) (hcat : (st.map fun v => v.category).sum ≤ 8) (hD : d + 1 ≤ D) (hloc : 8 + (y.2.2.1 + 11) + 40 * d ≤ 40 * D) (hmc : cells ≤ MC) (hms : slots ≤ MS) (hf : x.bind F = r) (hr : r ≠ none) (hC : ∀ v : Int32 × Hp, x = some v → Ct g y d 0 0 ex As sh h (PE (some (.int v.1)) sh v.2)) (k : ∀ v : Int32 × Hp, F v = r → PW g X ex Q cells slots sh v.2 n L (.int v.1 :: st)) : PW g X ex Q cells slots sh h pc L st0 := by
  obtain ⟨v, e, hf⟩ := bndO hf hr
  refine PW.callS cx hR hd hl hm hnA hst0 hcat hD hloc (mc := 0) (ms := 0) hmc hms (hC v e) (fun o sh1 h1 hp => ?_)
  obtain ⟨rfl, rfl, rfl⟩ := hp
  exact k _ hf
theorem PW.callVWB {D MC MS : Nat} {y : MT} {d nA idx a ci : Nat} {ts : List SlT} {q : vw_C} {As st0 : List Value} {ρ : Type} {x : Option (Bool × Hp)} {F : Bool × Hp → Option ρ} {r : Option ρ} (cx : Cx g X own b) (hR : RmG X.2.2.1 D MC MS) (hd : Dx b pc (.invokevirtual idx) 3 n) (hl : KL own idx y) (hm : MV y nA) (hsh : sh[a]? = some (.inl (ci, ts))) (hq : clX[ci]? = some q) (hqc : q.1 = y.1.cls) (hnA : As.length = nA) (hst0 : st0 = As.reverse ++ .ref (gB g + a) :: st) (hcat : (st.map fun v => v.category).sum ≤ 8) (hD : d + 1 ≤ D) (hloc : 8 + (y.2.2.1 + 11) + 40 * d ≤ 40 * D) (hmc : cells ≤ MC) (hms : slots ≤ MS) (hf : x.bind F = r) (hr : r ≠ none) (hC : ∀ v : Bool × Hp, x = some v → Ct g y d 0 0 ex (.ref (gB g + a) :: As) sh h (PE (some (.int (b2i v.1))) sh v.2)) (k : ∀ v : Bool × Hp, F v = r → PW g X ex Q cells slots sh v.2 n L (.int (b2i v.1) :: st)) : PW g X ex Q cells slots sh h pc L st0 := by
  obtain ⟨v, e, hf⟩ := bndO hf hr
  refine PW.callV cx hR hd hl hm hsh hq hqc hnA hst0 hcat hD hloc (mc := 0) (ms := 0) hmc hms (hC v e) (fun o sh1 h1 hp => ?_)
  obtain ⟨rfl, rfl, rfl⟩ := hp
  exact k _ hf
theorem PW.callSWB {D MC MS : Nat} {y : MT} {d nA idx : Nat} {As st0 : List Value} {ρ : Type} {x : Option (Bool × Hp)} {F : Bool × Hp → Option ρ} {r : Option ρ} (cx : Cx g X own b) (hR : RmG X.2.2.1 D MC MS) (hd : Dx b pc (.invokestatic idx) 3 n) (hl : KL own idx y) (hm : MSt y nA) (hnA : As.length = nA) (hst0 : st0 = As.reverse ++ st) (hcat : (st.map fun v => v.category).sum ≤ 8) (hD : d + 1 ≤ D) (hloc : 8 + (y.2.2.1 + 11) + 40 * d ≤ 40 * D) (hmc : cells ≤ MC) (hms : slots ≤ MS) (hf : x.bind F = r) (hr : r ≠ none) (hC : ∀ v : Bool × Hp, x = some v → Ct g y d 0 0 ex As sh h (PE (some (.int (b2i v.1))) sh v.2)) (k : ∀ v : Bool × Hp, F v = r → PW g X ex Q cells slots sh v.2 n L (.int (b2i v.1) :: st)) : PW g X ex Q cells slots sh h pc L st0 := by
  obtain ⟨v, e, hf⟩ := bndO hf hr
  refine PW.callS cx hR hd hl hm hnA hst0 hcat hD hloc (mc := 0) (ms := 0) hmc hms (hC v e) (fun o sh1 h1 hp => ?_)
  obtain ⟨rfl, rfl, rfl⟩ := hp
  exact k _ hf
theorem PW.callVWT {D MC MS : Nat} {y : MT} {d nA idx a ci : Nat} {ts : List SlT} {q : vw_C} {As st0 : List Value} {ρ : Type} {x : Option (Int32 × Hp)} {F : Int32 × Hp → Option ρ} {r : Option ρ} (cx : Cx g X own b) (hR : RmG X.2.2.1 D MC MS) (hd : Dx b pc (.invokevirtual idx) 3 n) (hl : KL own idx y) (hm : MV y nA) (hsh : sh[a]? = some (.inl (ci, ts))) (hq : clX[ci]? = some q) (hqc : q.1 = y.1.cls) (hnA : As.length = nA) (hst0 : st0 = As.reverse ++ .ref (gB g + a) :: st) (hcat : (st.map fun v => v.category).sum ≤ 8) (hD : d + 1 ≤ D) (hloc : 8 + (y.2.2.1 + 11) + 40 * d ≤ 40 * D) (hmc : cells ≤ MC) (hms : slots ≤ MS) (hf : x.bind F = r) (hr : r ≠ none) (hC : ∀ v : Int32 × Hp, x = some v → Ct g y d 0 0 ex (.ref (gB g + a) :: As) sh h (PE (some (.ref (ga g (v.1 : Int32).toNatClampNeg))) sh v.2)) (k : ∀ v : Int32 × Hp, F v = r → PW g X ex Q cells slots sh v.2 n L (.ref (ga g (v.1 : Int32).toNatClampNeg) :: st)) : PW g X ex Q cells slots sh h pc L st0 := by
  obtain ⟨v, e, hf⟩ := bndO hf hr
  refine PW.callV cx hR hd hl hm hsh hq hqc hnA hst0 hcat hD hloc (mc := 0) (ms := 0) hmc hms (hC v e) (fun o sh1 h1 hp => ?_)
  obtain ⟨rfl, rfl, rfl⟩ := hp
  exact k _ hf
theorem PW.callSWT {D MC MS : Nat} {y : MT} {d nA idx : Nat} {As st0 : List Value} {ρ : Type} {x : Option (Int32 × Hp)} {F : Int32 × Hp → Option ρ} {r : Option ρ} (cx : Cx g X own b) (hR : RmG X.2.2.1 D MC MS) (hd : Dx b pc (.invokestatic idx) 3 n) (hl : KL own idx y) (hm : MSt y nA) (hnA : As.length = nA) (hst0 : st0 = As.reverse ++ st) (hcat : (st.map fun v => v.category).sum ≤ 8) (hD : d + 1 ≤ D) (hloc : 8 + (y.2.2.1 + 11) + 40 * d ≤ 40 * D) (hmc : cells ≤ MC) (hms : slots ≤ MS) (hf : x.bind F = r) (hr : r ≠ none) (hC : ∀ v : Int32 × Hp, x = some v → Ct g y d 0 0 ex As sh h (PE (some (.ref (ga g (v.1 : Int32).toNatClampNeg))) sh v.2)) (k : ∀ v : Int32 × Hp, F v = r → PW g X ex Q cells slots sh v.2 n L (.ref (ga g (v.1 : Int32).toNatClampNeg) :: st)) : PW g X ex Q cells slots sh h pc L st0 := by
  obtain ⟨v, e, hf⟩ := bndO hf hr
  refine PW.callS cx hR hd hl hm hnA hst0 hcat hD hloc (mc := 0) (ms := 0) hmc hms (hC v e) (fun o sh1 h1 hp => ?_)
  obtain ⟨rfl, rfl, rfl⟩ := hp
  exact k _ hf
theorem PW.callVWD {D MC MS : Nat} {y : MT} {d nA idx a ci : Nat} {ts : List SlT} {q : vw_C} {As st0 : List Value} {ρ : Type} {x : Option (UInt64 × Hp)} {F : UInt64 × Hp → Option ρ} {r : Option ρ} (cx : Cx g X own b) (hR : RmG X.2.2.1 D MC MS) (hd : Dx b pc (.invokevirtual idx) 3 n) (hl : KL own idx y) (hm : MV y nA) (hsh : sh[a]? = some (.inl (ci, ts))) (hq : clX[ci]? = some q) (hqc : q.1 = y.1.cls) (hnA : As.length = nA) (hst0 : st0 = As.reverse ++ .ref (gB g + a) :: st) (hcat : (st.map fun v => v.category).sum ≤ 8) (hD : d + 1 ≤ D) (hloc : 8 + (y.2.2.1 + 11) + 40 * d ≤ 40 * D) (hmc : cells ≤ MC) (hms : slots ≤ MS) (hf : x.bind F = r) (hr : r ≠ none) (hC : ∀ v : UInt64 × Hp, x = some v → Ct g y d 0 0 ex (.ref (gB g + a) :: As) sh h (PE (some (.double v.1)) sh v.2)) (k : ∀ v : UInt64 × Hp, F v = r → PW g X ex Q cells slots sh v.2 n L (.double v.1 :: st)) : PW g X ex Q cells slots sh h pc L st0 := by
  obtain ⟨v, e, hf⟩ := bndO hf hr
  refine PW.callV cx hR hd hl hm hsh hq hqc hnA hst0 hcat hD hloc (mc := 0) (ms := 0) hmc hms (hC v e) (fun o sh1 h1 hp => ?_)
  obtain ⟨rfl, rfl, rfl⟩ := hp
  exact k _ hf
theorem PW.callSWD {D MC MS : Nat} {y : MT} {d nA idx : Nat} {As st0 : List Value} {ρ : Type} {x : Option (UInt64 × Hp)} {F : UInt64 × Hp → Option ρ} {r : Option ρ} (cx : Cx g X own b) (hR : RmG X.2.2.1 D MC MS) (hd : Dx b pc (.invokestatic idx) 3 n) (hl : KL own idx y) (hm : MSt y nA) (hnA : As.length = nA) (hst0 : st0 = As.reverse ++ st) (hcat : (st.map fun v => v.category).sum ≤ 8) (hD : d + 1 ≤ D) (hloc : 8 + (y.2.2.1 + 11) + 40 * d ≤ 40 * D) (hmc : cells ≤ MC) (hms : slots ≤ MS) (hf : x.bind F = r) (hr : r ≠ none) (hC : ∀ v : UInt64 × Hp, x = some v → Ct g y d 0 0 ex As sh h (PE (some (.double v.1)) sh v.2)) (k : ∀ v : UInt64 × Hp, F v = r → PW g X ex Q cells slots sh v.2 n L (.double v.1 :: st)) : PW g X ex Q cells slots sh h pc L st0 := by
  obtain ⟨v, e, hf⟩ := bndO hf hr
  refine PW.callS cx hR hd hl hm hnA hst0 hcat hD hloc (mc := 0) (ms := 0) hmc hms (hC v e) (fun o sh1 h1 hp => ?_)
  obtain ⟨rfl, rfl, rfl⟩ := hp
  exact k _ hf
theorem PW.callVWF {D MC MS : Nat} {y : MT} {d nA idx a ci : Nat} {ts : List SlT} {q : vw_C} {As st0 : List Value} {ρ : Type} {x : Option (UInt32 × Hp)} {F : UInt32 × Hp → Option ρ} {r : Option ρ} (cx : Cx g X own b) (hR : RmG X.2.2.1 D MC MS) (hd : Dx b pc (.invokevirtual idx) 3 n) (hl : KL own idx y) (hm : MV y nA) (hsh : sh[a]? = some (.inl (ci, ts))) (hq : clX[ci]? = some q) (hqc : q.1 = y.1.cls) (hnA : As.length = nA) (hst0 : st0 = As.reverse ++ .ref (gB g + a) :: st) (hcat : (st.map fun v => v.category).sum ≤ 8) (hD : d + 1 ≤ D) (hloc : 8 + (y.2.2.1 + 11) + 40 * d ≤ 40 * D) (hmc : cells ≤ MC) (hms : slots ≤ MS) (hf : x.bind F = r) (hr : r ≠ none) (hC : ∀ v : UInt32 × Hp, x = some v → Ct g y d 0 0 ex (.ref (gB g + a) :: As) sh h (PE (some (.float v.1)) sh v.2)) (k : ∀ v : UInt32 × Hp, F v = r → PW g X ex Q cells slots sh v.2 n L (.float v.1 :: st)) : PW g X ex Q cells slots sh h pc L st0 := by
  obtain ⟨v, e, hf⟩ := bndO hf hr
  refine PW.callV cx hR hd hl hm hsh hq hqc hnA hst0 hcat hD hloc (mc := 0) (ms := 0) hmc hms (hC v e) (fun o sh1 h1 hp => ?_)
  obtain ⟨rfl, rfl, rfl⟩ := hp
  exact k _ hf
theorem PW.callSWF {D MC MS : Nat} {y : MT} {d nA idx : Nat} {As st0 : List Value} {ρ : Type} {x : Option (UInt32 × Hp)} {F : UInt32 × Hp → Option ρ} {r : Option ρ} (cx : Cx g X own b) (hR : RmG X.2.2.1 D MC MS) (hd : Dx b pc (.invokestatic idx) 3 n) (hl : KL own idx y) (hm : MSt y nA) (hnA : As.length = nA) (hst0 : st0 = As.reverse ++ st) (hcat : (st.map fun v => v.category).sum ≤ 8) (hD : d + 1 ≤ D) (hloc : 8 + (y.2.2.1 + 11) + 40 * d ≤ 40 * D) (hmc : cells ≤ MC) (hms : slots ≤ MS) (hf : x.bind F = r) (hr : r ≠ none) (hC : ∀ v : UInt32 × Hp, x = some v → Ct g y d 0 0 ex As sh h (PE (some (.float v.1)) sh v.2)) (k : ∀ v : UInt32 × Hp, F v = r → PW g X ex Q cells slots sh v.2 n L (.float v.1 :: st)) : PW g X ex Q cells slots sh h pc L st0 := by
  obtain ⟨v, e, hf⟩ := bndO hf hr
  refine PW.callS cx hR hd hl hm hnA hst0 hcat hD hloc (mc := 0) (ms := 0) hmc hms (hC v e) (fun o sh1 h1 hp => ?_)
  obtain ⟨rfl, rfl, rfl⟩ := hp
  exact k _ hf
theorem PW.callVWV {D MC MS : Nat} {y : MT} {d nA idx a ci : Nat} {ts : List SlT} {q : vw_C} {As st0 : List Value} {ρ : Type} {x : Option (Hp)} {F : Hp → Option ρ} {r : Option ρ} (cx : Cx g X own b) (hR : RmG X.2.2.1 D MC MS) (hd : Dx b pc (.invokevirtual idx) 3 n) (hl : KL own idx y) (hm : MV y nA) (hsh : sh[a]? = some (.inl (ci, ts))) (hq : clX[ci]? = some q) (hqc : q.1 = y.1.cls) (hnA : As.length = nA) (hst0 : st0 = As.reverse ++ .ref (gB g + a) :: st) (hcat : (st.map fun v => v.category).sum ≤ 8) (hD : d + 1 ≤ D) (hloc : 8 + (y.2.2.1 + 11) + 40 * d ≤ 40 * D) (hmc : cells ≤ MC) (hms : slots ≤ MS) (hf : x.bind F = r) (hr : r ≠ none) (hC : ∀ v : Hp, x = some v → Ct g y d 0 0 ex (.ref (gB g + a) :: As) sh h (PE none sh v)) (k : ∀ v : Hp, F v = r → PW g X ex Q cells slots sh v n L (st)) : PW g X ex Q cells slots sh h pc L st0 := by
  obtain ⟨v, e, hf⟩ := bndO hf hr
  refine PW.callV cx hR hd hl hm hsh hq hqc hnA hst0 hcat hD hloc (mc := 0) (ms := 0) hmc hms (hC v e) (fun o sh1 h1 hp => ?_)
  obtain ⟨rfl, rfl, rfl⟩ := hp
  exact k _ hf
theorem PW.callSWV {D MC MS : Nat} {y : MT} {d nA idx : Nat} {As st0 : List Value} {ρ : Type} {x : Option (Hp)} {F : Hp → Option ρ} {r : Option ρ} (cx : Cx g X own b) (hR : RmG X.2.2.1 D MC MS) (hd : Dx b pc (.invokestatic idx) 3 n) (hl : KL own idx y) (hm : MSt y nA) (hnA : As.length = nA) (hst0 : st0 = As.reverse ++ st) (hcat : (st.map fun v => v.category).sum ≤ 8) (hD : d + 1 ≤ D) (hloc : 8 + (y.2.2.1 + 11) + 40 * d ≤ 40 * D) (hmc : cells ≤ MC) (hms : slots ≤ MS) (hf : x.bind F = r) (hr : r ≠ none) (hC : ∀ v : Hp, x = some v → Ct g y d 0 0 ex As sh h (PE none sh v)) (k : ∀ v : Hp, F v = r → PW g X ex Q cells slots sh v n L (st)) : PW g X ex Q cells slots sh h pc L st0 := by
  obtain ⟨v, e, hf⟩ := bndO hf hr
  refine PW.callS cx hR hd hl hm hnA hst0 hcat hD hloc (mc := 0) (ms := 0) hmc hms (hC v e) (fun o sh1 h1 hp => ?_)
  obtain ⟨rfl, rfl, rfl⟩ := hp
  exact k _ hf
def paO (i : Int32) : Option Nat := if i < 0 ∨ 8 ≤ i.toNatClampNeg then none else some (52 + 11 * i.toNatClampNeg)
theorem PW.putiN {a idx ci k : Nat} {ts : List SlT} {x : Int32} {j : Nat} {ρ : Type} {F : Hp → ρ} {r : ρ} (cx : Cx g X own b) (hd : Dx b pc (.putfield idx) 3 n) (hsh : sh[a]? = some (.inl (ci, ts))) (ht : ts[k]? = some (0, j)) (hl : FP own idx ci k .int) (hf : nm (up2 h a k x) F = r) (kk : ∀ h' : Hp, F h' = r → PW g X ex Q cells slots sh h' n L st) : PW g X ex Q cells slots sh h pc L (.int x :: .ref (gB g + a) :: st) :=
  PW.putfV cx hd hsh ht hl rfl rfl rfl (kk _ hf)
theorem PW.putzN {a idx ci k : Nat} {ts : List SlT} {x : Int32} {j : Nat} {ρ : Type} {F : Hp → ρ} {r : ρ} (cx : Cx g X own b) (hd : Dx b pc (.putfield idx) 3 n) (hsh : sh[a]? = some (.inl (ci, ts))) (ht : ts[k]? = some (1, j)) (hl : FP own idx ci k .boolean) (hx : narrow .boolean (.int x) = .int x) (hfit : fits .boolean (.int x) = true) (hf : nm (up2 h a k x) F = r) (kk : ∀ h' : Hp, F h' = r → PW g X ex Q cells slots sh h' n L st) : PW g X ex Q cells slots sh h pc L (.int x :: .ref (gB g + a) :: st) :=
  PW.putfV cx hd hsh ht hl hx hfit rfl (kk _ hf)
theorem PW.putbN {a idx ci k : Nat} {ts : List SlT} {x : Bool} {j : Nat} {ρ : Type} {F : Hp → ρ} {r : ρ} (cx : Cx g X own b) (hd : Dx b pc (.putfield idx) 3 n) (hsh : sh[a]? = some (.inl (ci, ts))) (ht : ts[k]? = some (1, j)) (hl : FP own idx ci k .boolean) (hf : nm (up2 h a k (b2i x)) F = r) (kk : ∀ h' : Hp, F h' = r → PW g X ex Q cells slots sh h' n L st) : PW g X ex Q cells slots sh h pc L (.int (b2i x) :: .ref (gB g + a) :: st) :=
  PW.putfV cx hd hsh ht hl (nbb x) (by cases x <;> decide) rfl (kk _ hf)
theorem PW.putTN {a idx ci k : Nat} {ts : List SlT} {x : Int32} {j : Nat} {C : String} {ρ : Type} {F : Hp → ρ} {r : ρ} (cx : Cx g X own b) (hd : Dx b pc (.putfield idx) 3 n) (hsh : sh[a]? = some (.inl (ci, ts))) (ht : ts[k]? = some (3, j)) (hl : FP own idx ci k (.object C)) (hf : nm (up2 h a k x) F = r) (kk : ∀ h' : Hp, F h' = r → PW g X ex Q cells slots sh h' n L st) : PW g X ex Q cells slots sh h pc L (.ref (ga g x.toNatClampNeg) :: .ref (gB g + a) :: st) :=
  PW.putfV cx hd hsh ht hl rfl rfl rfl (kk _ hf)
theorem PW.bast {a N : Nat} {i x : Int32} {ρ : Type} {F : Hp → Option ρ} {r : Option ρ} (cx : Cx g X own b) (hd : Dx b pc .bastore 1 n) (hsh : sh[a]? = some (.inr (1, N, []))) (hf : (wrO h a N i x.toInt8.toInt32).bind F = r) (hr : r ≠ none) (k : ∀ h' : Hp, F h' = r → PW g X ex Q cells slots sh h' n L st) : PW g X ex Q cells slots sh h pc L (.int x :: .int i :: .ref (gB g + a) :: st) := by
  obtain ⟨hd, rfl⟩ := hd
  by_cases hy : i < 0 ∨ N ≤ i.toNatClampNeg
  · simp [wrO, hy] at hf
    exact absurd hf.symm hr
  · simp only [wrO, if_neg hy, Option.bind_some] at hf
    intro H locs ls hH hS hL
    have hP := hH.one hsh
    refine W.bast cx.1 cx.2.1 (hP 0 _ rfl) ((cx.2.2.2.2.1.1.2 1 _ rfl).1 N (fun j => .int (rd h a j))) (fun q => by cases q) (by show ¬ (i < 0 ∨ (arrV _ _ _).slots.size ≤ _); rw [arrV_size]; exact hy) rfl rfl hd fun H1 e z oq => ?_
    refine k _ hf H1 _ ls (hH.set hsh ?_ z oq) (hS.put z oq (Nat.le_add_right _ _)) hL
    show H1[gB g + a]? = some (vp_cell _ _)
    rw [e]
    show some ((vp_cell (gc g 1) (N, .inl (rd h a))).setSlot _ (.int x.toInt8.toInt32)) = some (vp_cell (gc g 1) (N, .inl (upd (rd h a) i.toNatClampNeg x.toInt8.toInt32)))
    rw [vp_cell_i, vp_cell_i, arrV_store]
    congr 2
    funext q
    by_cases hq : q = i.toNatClampNeg
    · subst hq
      simp [updV, upd]
    · simp [updV, upd, hq]
/-! the JDK's max, min, abs -/
def KM (own : String) (idx : Nat) (y : MethodName) (bytes : ByteArray) (k : Nat) : Prop := Cond.methodLink own idx y ∈ TG ∧ Cond.static y ∈ TG ∧ Cond.initialized "java/lang/Math" ∈ TG ∧ Cond.code y bytes k (some .int) ∈ TG
theorem PW.mmax {D MC MS idx : Nat} {x y : Int32} (cx : Cx g X own b) (hR : RmG X.2.2.1 D MC MS) (hd : Dx b pc (.invokestatic idx) 3 n) (hl : KM own idx Lib.Math.max.name Lib.Math.max.code 2) (hD : 1 ≤ D) (hcat : (st.map fun v => v.category).sum + 13 ≤ 40 * D) (hmc : cells ≤ MC) (hms : slots ≤ MS) (k : PW g X ex Q cells slots sh h n L (.int (mxI x y) :: st)) : PW g X ex Q cells slots sh h pc L (.int y :: .int x :: st) := by
  obtain ⟨hd, rfl⟩ := hd
  exact fun H locs ls hH hS hL => va_mmax cx.1 cx.2.1 hL.1.symm cx.2.2.1 (cx.2.2.2.1 _ hl.1) (cx.2.2.2.1 _ hl.2.1) (cx.2.2.2.1 _ hl.2.2.1) (cx.2.2.2.1 _ hl.2.2.2) (Nat.le_trans hD hR.1) (Nat.le_trans hcat hR.2.1) (Nat.le_trans hmc hR.2.2.1) (Nat.le_trans hms hR.2.2.2) hd (k H locs ls hH hS hL)
theorem PW.mmin {D MC MS idx : Nat} {x y : Int32} (cx : Cx g X own b) (hR : RmG X.2.2.1 D MC MS) (hd : Dx b pc (.invokestatic idx) 3 n) (hl : KM own idx Lib.Math.min.name Lib.Math.min.code 2) (hD : 1 ≤ D) (hcat : (st.map fun v => v.category).sum + 13 ≤ 40 * D) (hmc : cells ≤ MC) (hms : slots ≤ MS) (k : PW g X ex Q cells slots sh h n L (.int (mnI x y) :: st)) : PW g X ex Q cells slots sh h pc L (.int y :: .int x :: st) := by
  obtain ⟨hd, rfl⟩ := hd
  exact fun H locs ls hH hS hL => va_mmin cx.1 cx.2.1 hL.1.symm cx.2.2.1 (cx.2.2.2.1 _ hl.1) (cx.2.2.2.1 _ hl.2.1) (cx.2.2.2.1 _ hl.2.2.1) (cx.2.2.2.1 _ hl.2.2.2) (Nat.le_trans hD hR.1) (Nat.le_trans hcat hR.2.1) (Nat.le_trans hmc hR.2.2.1) (Nat.le_trans hms hR.2.2.2) hd (k H locs ls hH hS hL)
theorem PW.mabs {D MC MS idx : Nat} {x : Int32} (cx : Cx g X own b) (hR : RmG X.2.2.1 D MC MS) (hd : Dx b pc (.invokestatic idx) 3 n) (hl : KM own idx Lib.Math.abs.name Lib.Math.abs.code 1) (hD : 1 ≤ D) (hcat : (st.map fun v => v.category).sum + 13 ≤ 40 * D) (hmc : cells ≤ MC) (hms : slots ≤ MS) (k : PW g X ex Q cells slots sh h n L (.int (abI x) :: st)) : PW g X ex Q cells slots sh h pc L (.int x :: st) := by
  obtain ⟨hd, rfl⟩ := hd
  exact fun H locs ls hH hS hL => va_mabs cx.1 cx.2.1 hL.1.symm cx.2.2.1 (cx.2.2.2.1 _ hl.1) (cx.2.2.2.1 _ hl.2.1) (cx.2.2.2.1 _ hl.2.2.1) (cx.2.2.2.1 _ hl.2.2.2) (Nat.le_trans hD hR.1) (Nat.le_trans hcat hR.2.1) (Nat.le_trans hmc hR.2.2.1) (Nat.le_trans hms hR.2.2.2) hd (k H locs ls hH hS hL)
theorem PW.ldc {idx : Nat} {v : Int32} (cx : Cx g X own b) (hd : Dx b pc (.ldc idx) 2 n) (hl : Cond.constant own idx v ∈ TG) (k : PW g X ex Q cells slots sh h n L (.int v :: st)) : PW g X ex Q cells slots sh h pc L st := by
  obtain ⟨hd, rfl⟩ := hd
  exact fun H locs ls hH hS hL => lv_ldc cx.1 cx.2.1 cx.2.2.1 (cx.2.2.2.1 _ hl) hd (k H locs ls hH hS hL)
theorem PW.ldc_w {idx : Nat} {v : Int32} (cx : Cx g X own b) (hd : Dx b pc (.ldc_w idx) 3 n) (hl : Cond.constant own idx v ∈ TG) (k : PW g X ex Q cells slots sh h n L (.int v :: st)) : PW g X ex Q cells slots sh h pc L st := by
  obtain ⟨hd, rfl⟩ := hd
  exact fun H locs ls hH hS hL => lv_ldcw cx.1 cx.2.1 cx.2.2.1 (cx.2.2.2.1 _ hl) hd (k H locs ls hH hS hL)
theorem PW.ifnullR {x : Nat} {o : Int} {tgt : Nat} (cx : Cx g X own b) (hd : Dj b pc (.ifnull o) o n tgt) (k : PW g X ex Q cells slots sh h n L st) : PW g X ex Q cells slots sh h pc L (.ref x :: st) := by
  obtain ⟨hd, rfl, ht⟩ := hd
  exact fun H locs ls hH hS hL => lv_ifnull cx.1 cx.2.1 hd (k H locs ls hH hS hL)
theorem PW.aaldP {i : Int32} {ρ : Type} {F : Nat → Option ρ} {r : Option ρ} (cx : Cx g X own b) (hd : Dx b pc .aaload 1 n) (hx : XSh sh) (hf : (paO i).bind F = r) (hr : r ≠ none) (k : ∀ p : Nat, AS sh p → F p = r → PW g X ex Q cells slots sh h n L (.ref (gB g + p) :: st)) : PW g X ex Q cells slots sh h pc L (.int i :: .ref (gB g + 34) :: st) := by
  obtain ⟨hd, rfl⟩ := hd
  by_cases hy : i < 0 ∨ 8 ≤ i.toNatClampNeg
  · simp [paO, hy] at hf
    exact absurd hf.symm hr
  · simp only [paO, if_neg hy, Option.bind_some] at hf
    have hlt : i.toNatClampNeg < 8 := Nat.not_le.mp fun q => hy (Or.inr q)
    intro H locs ls hH hS hL
    have e : (conc g (.inr (4, 8, [some 52, some 63, some 74, some 85, some 96, some 107, some 118, some 129])) (rd h 34)) = .inl (gc g 4, 8, .inr (.inr (.inr (.inr (fun j => ([some 52, some 63, some 74, some 85, some 96, some 107, some 118, some 129].getD j none).map (fun a => gB g + a)))))) := rfl
    have hP := hH.one (sh_34 hx)
    refine va_aldq cx.1 cx.2.1 cx.2.2.2.2.1.1 hP 0 4 (C := RX1) rfl rfl hy hd ?_
    have hv : va_rf (([some 52, some 63, some 74, some 85, some 96, some 107, some 118, some 129].getD i.toNatClampNeg none).map (fun a => gB g + a)) = .ref (gB g + (52 + 11 * i.toNatClampNeg)) := by
      generalize i.toNatClampNeg = j at hlt
      match j, hlt with
      | 0, _ => rfl
      | 1, _ => rfl
      | 2, _ => rfl
      | 3, _ => rfl
      | 4, _ => rfl
      | 5, _ => rfl
      | 6, _ => rfl
      | 7, _ => rfl
      | k + 8, h => omega
    show WX g X H locs cells slots Q (F0 _ _ _ (va_rf _ :: st))
    rw [hv]
    exact k _ (as_past hx _ hlt) hf H locs ls hH hS hL
/-! constants of enums, the switch map, the row of commands; Strings -/
def acO (x y : Int32) : Option Bool := if x.toNatClampNeg < 7 ∧ y.toNatClampNeg < 7 then some (decide (x.toNatClampNeg = y.toNatClampNeg)) else if (10 ≤ x.toNatClampNeg ∧ x.toNatClampNeg < 22) ∧ (10 ≤ y.toNatClampNeg ∧ y.toNatClampNeg < 22) then some (decide (x.toNatClampNeg = y.toNatClampNeg)) else none
theorem acO_spec {x y : Int32} {e : Bool} (cx : Cx g X own b) (h : acO x y = some e) : ga g x.toNatClampNeg = ga g y.toNatClampNeg ↔ e = true := by
  have h1 := cx.2.2.2.2.1.2.1.1.2
  have h2 := cx.2.2.2.2.1.2.1.2.1.2
  unfold acO at h
  split at h
  · rename_i hc
    cases h
    simp only [decide_eq_true_eq]
    exact ⟨fun q => h1 _ _ hc.1 hc.2 q, fun q => by rw [q]⟩
  · split at h
    · rename_i hc
      cases h
      simp only [decide_eq_true_eq]
      refine ⟨fun q => ?_, fun q => by rw [q]⟩
      have := h2 (x.toNatClampNeg - 10) (y.toNatClampNeg - 10) (by show _ < 12; omega) (by show _ < 12; omega) (by
        show ga g (10 + _) = ga g (10 + _)
        rw [show 10 + (x.toNatClampNeg - 10) = x.toNatClampNeg by omega, show 10 + (y.toNatClampNeg - 10) = y.toNatClampNeg by omega]; exact q)
      omega
    · cases h
theorem PW.acmp_eq {x y : Int32} {o : Int} {tgt : Nat} {ρ : Type} {A B : Option ρ} {r : Option ρ} (cx : Cx g X own b) (hd : Dj b pc (.if_acmp .eq o) o n tgt) (hf : ((acO x y).bind fun e => bcase e A B) = r) (hr : r ≠ none) (kA : A = r → PW g X ex Q cells slots sh h tgt L st) (kB : B = r → PW g X ex Q cells slots sh h n L st) : PW g X ex Q cells slots sh h pc L (.ref (ga g y.toNatClampNeg) :: .ref (ga g x.toNatClampNeg) :: st) := by
  obtain ⟨hd, rfl, ht⟩ := hd
  obtain ⟨e, he, hf⟩ := bndO hf hr
  have hs := acO_spec cx he
  refine fun H locs ls hH hS hL => lv_acmp_eq (rx := some (ga g x.toNatClampNeg)) (ry := some (ga g y.toNatClampNeg)) cx.1 cx.2.1 hd ht (fun q => ?_) (fun q => ?_)
  · have : e = true := hs.mp (Option.some.inj q)
    subst this
    exact kA hf H locs ls hH hS hL
  · have : e = false := by
      cases e
      · rfl
      · exact absurd (congrArg some (hs.mpr rfl)) q
    subst this
    exact kB hf H locs ls hH hS hL
theorem PW.acmp_ne {x y : Int32} {o : Int} {tgt : Nat} {ρ : Type} {A B : Option ρ} {r : Option ρ} (cx : Cx g X own b) (hd : Dj b pc (.if_acmp .ne o) o n tgt) (hf : ((acO x y).bind fun e => bcase e A B) = r) (hr : r ≠ none) (kA : A = r → PW g X ex Q cells slots sh h n L st) (kB : B = r → PW g X ex Q cells slots sh h tgt L st) : PW g X ex Q cells slots sh h pc L (.ref (ga g y.toNatClampNeg) :: .ref (ga g x.toNatClampNeg) :: st) := by
  obtain ⟨hd, rfl, ht⟩ := hd
  obtain ⟨e, he, hf⟩ := bndO hf hr
  have hs := acO_spec cx he
  refine fun H locs ls hH hS hL => lv_acmp_ne (rx := some (ga g x.toNatClampNeg)) (ry := some (ga g y.toNatClampNeg)) cx.1 cx.2.1 hd ht (fun q => ?_) (fun q => ?_)
  · have : e = false := by
      cases e
      · rfl
      · exact absurd (congrArg some (hs.mpr rfl)) q
    subst this
    exact kB hf H locs ls hH hS hL
  · have : e = true := hs.mp (Option.some.inj q)
    subst this
    exact kA hf H locs ls hH hS hL
theorem PW.gsT {idx : Nat} {v : Int32} {f : String} (cx : Cx g X own b) (hd : Dx b pc (.getstatic idx) 3 n) (hv : v.toNatClampNeg < 7) (hn : tokNm.getD v.toNatClampNeg "" = f) (hl : Cond.fieldLink own idx RX5 f "LClipHibernation$Token;" ∈ TG) (k : PW g X ex Q cells slots sh h n L (.ref (ga g v.toNatClampNeg) :: st)) : PW g X ex Q cells slots sh h pc L st := by
  obtain ⟨hd, rfl⟩ := hd
  subst hn
  exact fun H locs ls hH hS hL => va_gets cx.1 cx.2.1 (cx.2.2.2.2.1.2.1.1.1 _ hv).1 hS cx.2.2.1 (cx.2.2.2.1 _ hl) (fun _ q => q) hd (k H locs ls hH hS hL)
theorem PW.gsC {idx i : Nat} {v : Int32} {f : String} (cx : Cx g X own b) (hd : Dx b pc (.getstatic idx) 3 n) (hv : i < 12 ∧ v.toNatClampNeg = 10 + i) (hn : cmdNm.getD i "" = f) (hl : Cond.fieldLink own idx RX2 f "LClipHibernation$Command;" ∈ TG) (k : PW g X ex Q cells slots sh h n L (.ref (ga g v.toNatClampNeg) :: st)) : PW g X ex Q cells slots sh h pc L st := by
  obtain ⟨hd, rfl⟩ := hd
  subst hn
  rw [hv.2] at k
  exact fun H locs ls hH hS hL => va_gets cx.1 cx.2.1 (cx.2.2.2.2.1.2.1.2.1.1 i hv.1).1 hS cx.2.2.1 (cx.2.2.2.1 _ hl) (fun _ q => q) hd (k H locs ls hH hS hL)
theorem PW.gsW {idx : Nat} (cx : Cx g X own b) (hd : Dx b pc (.getstatic idx) 3 n) (hl : Cond.fieldLink own idx RX0 "$SwitchMap$ClipHibernation$Command" "[I" ∈ TG) (k : PW g X ex Q cells slots sh h n L (.ref (ga g 51) :: st)) : PW g X ex Q cells slots sh h pc L st := by
  obtain ⟨hd, rfl⟩ := hd
  exact fun H locs ls hH hS hL => va_gets cx.1 cx.2.1 cx.2.2.2.2.1.2.1.2.2.2.2.2.2.2.2.1.1 hS cx.2.2.1 (cx.2.2.2.1 _ hl) (fun _ q => q) hd (k H locs ls hH hS hL)
theorem PW.gsK {idx : Nat} (cx : Cx g X own b) (hd : Dx b pc (.getstatic idx) 3 n) (hl : Cond.fieldLink own idx RX3 "COMMANDS" "[LClipHibernation$Command;" ∈ TG) (k : PW g X ex Q cells slots sh h n L (.ref (ga g 50) :: st)) : PW g X ex Q cells slots sh h pc L st := by
  obtain ⟨hd, rfl⟩ := hd
  exact fun H locs ls hH hS hL => va_gets cx.1 cx.2.1 cx.2.2.2.2.1.2.1.2.2.2.2.2.2.2.1.1 hS cx.2.2.1 (cx.2.2.2.1 _ hl) (fun _ q => q) hd (k H locs ls hH hS hL)
def swO (i : Int32) : Option Int32 := if i < 0 ∨ 12 ≤ i.toNatClampNeg then none else some (swV i.toNatClampNeg)
theorem PW.swm {i : Int32} {ρ : Type} {F : Int32 → Option ρ} {r : Option ρ} (cx : Cx g X own b) (hd : Dx b pc .iaload 1 n) (hf : (swO i).bind F = r) (hr : r ≠ none) (k : ∀ z : Int32, F z = r → PW g X ex Q cells slots sh h n L (.int z :: st)) : PW g X ex Q cells slots sh h pc L (.int i :: .ref (ga g 51) :: st) := by
  obtain ⟨hd, rfl⟩ := hd
  by_cases hy : i < 0 ∨ 12 ≤ i.toNatClampNeg
  · simp [swO, hy] at hf
    exact absurd hf.symm hr
  · simp only [swO, if_neg hy, Option.bind_some] at hf
    exact fun H locs ls hH hS hL => va_ti cx.1 cx.2.1 cx.2.2.2.2.1.2.1.2.2.2.2.2.2.2.2.1.2 hS hy rfl hd (k _ hf H locs ls hH hS hL)
def cmO (i : Int32) : Option Int32 := if i < 0 ∨ 12 ≤ i.toNatClampNeg then none else some (nI (10 + i.toNatClampNeg))
theorem PW.cmlen {v : Int32} (cx : Cx g X own b) (hd : Dx b pc .arraylength 1 n) (hv : nI 12 = v) (k : PW g X ex Q cells slots sh h n L (.int v :: st)) : PW g X ex Q cells slots sh h pc L (.ref (ga g 50) :: st) := by
  obtain ⟨hd, rfl⟩ := hd
  exact fun H locs ls hH hS hL => va_tlen cx.1 cx.2.1 cx.2.2.2.2.1.2.1.2.2.2.2.2.2.2.1.2 hS hv hd (k H locs ls hH hS hL)
def slO (c : Int32) : Option Int32 := if 100 ≤ c.toNatClampNeg ∧ c.toNatClampNeg < 116 then some (nI (sx_len.getD (c.toNatClampNeg - 100) 0)) else none
def scO (c i : Int32) : Option Int32 := if 100 ≤ c.toNatClampNeg ∧ c.toNatClampNeg < 116 ∧ ¬ (i < 0 ∨ sx_len.getD (c.toNatClampNeg - 100) 0 ≤ i.toNatClampNeg) then some ((sx_byt.getD (c.toNatClampNeg - 100) []).getD i.toNatClampNeg 0) else none
def orO (c : Int32) : Option Int32 := if 10 ≤ c.toNatClampNeg ∧ c.toNatClampNeg < 22 then some (nI (c.toNatClampNeg - 10)) else none
def SK (own : String) (idx : Nat) (v : Int32) : Prop := ∃ (tx : String) (c : Nat), (own, idx, tx, c) ∈ sx_refs ∧ v.toNatClampNeg = 100 + c
theorem PW.ldcS {idx : Nat} {v : Int32} (cx : Cx g X own b) (hd : Dx b pc (.ldc idx) 2 n) (hk : SK own idx v) (k : PW g X ex Q cells slots sh h n L (.ref (ga g v.toNatClampNeg) :: st)) : PW g X ex Q cells slots sh h pc L st := by
  obtain ⟨hd, rfl⟩ := hd
  obtain ⟨tx, c, hm, hv⟩ := hk
  rw [hv] at k
  exact fun H locs ls hH hS hL => va_ldcS cx.1 cx.2.1 cx.2.2.1 (cx.2.2.2.2.1.2.1.2.2.2.2.1 _ hm) hd (k H locs ls hH hS hL)
end Rows7
