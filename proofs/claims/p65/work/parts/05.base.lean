/-! ===== BASE: a world whose places lie at fixed addresses B + k; all that changes in it is ints ===== -/
abbrev SlT : Type := Nat × Nat
abbrev Shp : Type := (Nat × List SlT) ⊕ (Nat × Nat × List (Option Nat))
abbrev Hp : Type := List Nat
/-- a row of numbers: 32 bits each in one natural number; the heap: a list of rows -/
def rgt (r i : Nat) : Int32 := Int32.ofNat ((r >>> (32 * i)) % 4294967296)
def rst (r i : Nat) (x : Int32) : Nat := r ^^^ ((((r >>> (32 * i)) % 4294967296) ^^^ x.toBitVec.toNat) <<< (32 * i))
theorem r_toNat (x : Int32) : Int32.ofNat x.toBitVec.toNat = x := by
  apply Int32.toBitVec_inj.mp
  show BitVec.ofNat 32 x.toBitVec.toNat = x.toBitVec
  simp
theorem rgt_rst_self (r i : Nat) (x : Int32) : rgt (rst r i x) i = x := by
  have hx : x.toBitVec.toNat < 2 ^ 32 := x.toBitVec.isLt
  have e : (rst r i x >>> (32 * i)) % 4294967296 = x.toBitVec.toNat := by
    apply Nat.eq_of_testBit_eq
    intro j
    rw [show (4294967296 : Nat) = 2 ^ 32 from rfl]
    simp only [rst, Nat.testBit_mod_two_pow, Nat.testBit_shiftRight, Nat.testBit_xor, Nat.testBit_shiftLeft, show (4294967296 : Nat) = 2 ^ 32 from rfl]
    by_cases hj : j < 32
    · simp [hj, show 32 * i + j - 32 * i = j by omega]
    · have : x.toBitVec.toNat.testBit j = false := Nat.testBit_lt_two_pow (Nat.lt_of_lt_of_le hx (Nat.pow_le_pow_right (by decide) (by omega)))
      simp [hj, this]
  unfold rgt
  rw [e, r_toNat]
theorem rgt_rst_ne (r i j : Nat) (x : Int32) (h : j ≠ i) : rgt (rst r i x) j = rgt r j := by
  have hx : x.toBitVec.toNat < 2 ^ 32 := x.toBitVec.isLt
  have e : (rst r i x >>> (32 * j)) % 4294967296 = (r >>> (32 * j)) % 4294967296 := by
    apply Nat.eq_of_testBit_eq
    intro k
    rw [show (4294967296 : Nat) = 2 ^ 32 from rfl]
    simp only [rst, Nat.testBit_mod_two_pow, Nat.testBit_shiftRight, Nat.testBit_xor, Nat.testBit_shiftLeft, show (4294967296 : Nat) = 2 ^ 32 from rfl]
    by_cases hk : k < 32
    · by_cases hl : 32 * i ≤ 32 * j + k
      · have hb : ¬ (32 * j + k - 32 * i < 32) := by omega
        have : x.toBitVec.toNat.testBit (32 * j + k - 32 * i) = false := Nat.testBit_lt_two_pow (Nat.lt_of_lt_of_le hx (Nat.pow_le_pow_right (by decide) (by omega)))
        simp [hb, this]
      · simp [hl]
    · simp [hk]
  unfold rgt
  rw [e]
def cprow (n a b : Nat) : Nat := a % 2 ^ (32 * n) + (b >>> (32 * n)) <<< (32 * n)
theorem rgt_cprow (n a b j : Nat) : rgt (cprow n a b) j = if j < n then rgt a j else rgt b j := by
  have hm : a % 2 ^ (32 * n) < 2 ^ (32 * n) := Nat.mod_lt _ (Nat.pow_pos (by decide))
  have e0 : ∀ k, (cprow n a b).testBit k = if k < 32 * n then a.testBit k else b.testBit k := by
    intro k
    unfold cprow
    rw [Nat.shiftLeft_eq, Nat.add_comm, Nat.mul_comm, Nat.testBit_two_pow_mul_add _ hm]
    by_cases hk : k < 32 * n
    · simp [hk, Nat.testBit_mod_two_pow]
    · simp [hk, Nat.testBit_shiftRight, show 32 * n + (k - 32 * n) = k by omega]
  have e : (cprow n a b >>> (32 * j)) % 4294967296 = if j < n then (a >>> (32 * j)) % 4294967296 else (b >>> (32 * j)) % 4294967296 := by
    have e1 : ∀ x k : Nat, (x % 4294967296).testBit k = (decide (k < 32) && x.testBit k) := fun x k => by
      rw [show (4294967296 : Nat) = 2 ^ 32 from rfl, Nat.testBit_mod_two_pow]
    apply Nat.eq_of_testBit_eq
    intro k
    by_cases hj : j < n
    · rw [if_pos hj, e1, e1, Nat.testBit_shiftRight, Nat.testBit_shiftRight, e0]
      by_cases hk : k < 32
      · rw [if_pos (by omega : 32 * j + k < 32 * n)]
      · simp [hk]
    · rw [if_neg hj, e1, e1, Nat.testBit_shiftRight, Nat.testBit_shiftRight, e0]
      by_cases hk : k < 32
      · rw [if_neg (by omega : ¬ 32 * j + k < 32 * n)]
      · simp [hk]
  unfold rgt
  rw [e]
  by_cases hj : j < n <;> simp [hj]
noncomputable def row (k : Nat) : Hp → Nat := Nat.rec (fun l => l.headD 0) (fun _ ih l => ih l.tail) k
noncomputable def srow (k v : Nat) : Hp → Hp := Nat.rec (fun l => v :: l.tail) (fun _ ih l => l.headD 0 :: ih l.tail) k
theorem row_srow_self : ∀ (k v : Nat) (h : Hp), row k (srow k v h) = v
  | 0, _, _ => rfl
  | k + 1, v, h => row_srow_self k v h.tail
theorem row_srow_ne : ∀ (k j v : Nat) (h : Hp), j ≠ k → row j (srow k v h) = row j h
  | 0, 0, _, _, e => absurd rfl e
  | 0, _ + 1, _, _, _ => rfl
  | _ + 1, 0, _, _, _ => rfl
  | k + 1, j + 1, v, h, e => row_srow_ne k j v h.tail (fun q => e (by rw [q]))
theorem row_nil : ∀ k : Nat, row k [] = 0
  | 0 => rfl
  | k + 1 => row_nil k
noncomputable def rd (h : Hp) (k : Nat) : Nat → Int32 := fun i => rgt (row k h) i
abbrev GT : Type := Launch × Nat × va_G × (Nat → ClassId) × (Nat → Nat)
abbrev gB (g : GT) : Nat := g.2.1
abbrev gD (g : GT) : va_G := g.2.2.1
abbrev gc (g : GT) : Nat → ClassId := g.2.2.2.1
abbrev ga (g : GT) : Nat → Nat := g.2.2.2.2
abbrev gA (g : GT) : Nat → Prop := fun q => gB g ≤ q
/-- the value of a field by its kind: an int, a boolean, the object at a place, a Token, null -/
def slv (g : GT) (t : SlT) (x : Int32) : Value := match t.1 with
  | 2 => .ref (gB g + t.2)
  | 3 => .ref (ga g x.toNatClampNeg)
  | 4 => .null
  | _ => .int x
def slvs (g : GT) (f : Nat → Int32) : Nat → List SlT → List Value
  | _, [] => []
  | i, t :: ts => slv g t (f i) :: slvs g f (i + 1) ts
theorem slvs_get (g : GT) (f : Nat → Int32) : ∀ (ts : List SlT) (i k : Nat) (t : SlT), ts[k]? = some t → (slvs g f i ts)[k]? = some (slv g t (f (i + k)))
  | [], i, k, t, h => by simp at h
  | a :: ts, i, 0, t, h => by simp at h; subst h; rfl
  | a :: ts, i, k + 1, t, h => by
    simp only [List.getElem?_cons_succ] at h
    have := slvs_get g f ts (i + 1) k t h
    simp only [slvs, List.getElem?_cons_succ]
    rw [this]
    congr 3
    omega
theorem slvs_len (g : GT) (f : Nat → Int32) : ∀ (ts : List SlT) (i : Nat), (slvs g f i ts).length = ts.length
  | [], _ => rfl
  | _ :: ts, i => by simp [slvs, slvs_len g f ts (i + 1)]
theorem slvs_eq (g : GT) (f f' : Nat → Int32) : ∀ (ts : List SlT) (i : Nat), (∀ k, i ≤ k → f k = f' k) → slvs g f i ts = slvs g f' i ts
  | [], _, _ => rfl
  | t :: ts, i, h => by
    simp only [slvs]
    rw [h i (Nat.le_refl i), slvs_eq g f f' ts (i + 1) (fun k hk => h k (by omega))]
theorem slvs_upd (g : GT) (f : Nat → Int32) (x : Int32) : ∀ (ts : List SlT) (i k : Nat) (t : SlT), ts[k]? = some t → slvs g (upd f (i + k) x) i ts = (slvs g f i ts).set k (slv g t x)
  | [], i, k, t, h => by simp at h
  | a :: ts, i, 0, t, h => by
    simp at h; subst h
    simp only [slvs, Nat.add_zero, List.set_cons_zero]
    rw [slvs_eq g (upd f i x) f ts (i + 1) (fun k hk => by simp [upd]; omega)]
    simp [upd]
  | a :: ts, i, k + 1, t, h => by
    simp only [List.getElem?_cons_succ] at h
    have := slvs_upd g f x ts (i + 1) k t h
    simp only [slvs, List.set_cons_succ]
    rw [← this, show i + 1 + k = i + (k + 1) by omega]
    congr 2
    simp [upd]
def arc (g : GT) (ty : Nat) (rs : List (Option Nat)) (f : Nat → Int32) : ((Nat → Int32) ⊕ (Nat → Int64) ⊕ (Nat → UInt32) ⊕ (Nat → UInt64) ⊕ (Nat → Option Nat)) := match ty with
  | 3 => .inr (.inl (fun j => (f j).toInt64))
  | 4 => .inr (.inr (.inr (.inr (fun j => (rs.getD j none).map (fun a => gB g + a)))))
  | _ => .inl f
def conc (g : GT) (c : Shp) (f : Nat → Int32) : va_E := match c with
  | .inl (ci, ts) => .inr (ci, slvs g f 0 ts)
  | .inr (ty, n, rs) => .inl (gc g ty, n, arc g ty rs f)
noncomputable def up2 (h : Hp) (k i : Nat) (x : Int32) : Hp := srow k (rst (row k h) i x) h
theorem rd_up2_self (h : Hp) (k i : Nat) (x : Int32) : rd (up2 h k i x) k = upd (rd h k) i x := by
  funext j
  simp only [rd, up2, row_srow_self, upd]
  by_cases e : j = i
  · subst e; simp [rgt_rst_self]
  · simp [e, rgt_rst_ne _ _ _ _ e]
theorem rd_up2_ne {h : Hp} {k j i : Nat} {x : Int32} (n : j ≠ k) : rd (up2 h k i x) j = rd h j := by
  funext q
  simp only [rd, up2, row_srow_ne _ _ _ _ n]
/-- the first n numbers of row a come into row d -/
noncomputable def acp (h : Hp) (d a n : Nat) : Hp := srow d (cprow n (row a h) (row d h)) h
theorem rd_acp_self (h : Hp) (d a n : Nat) : rd (acp h d a n) d = fun j => if j < n then rd h a j else rd h d j := by
  funext j
  simp only [rd, acp, row_srow_self, rgt_cprow]
theorem rd_acp_ne {h : Hp} {d j a n : Nat} (e : j ≠ d) : rd (acp h d a n) j = rd h j := by
  funext q
  simp only [rd, acp, row_srow_ne _ _ _ _ e]
abbrev XT : Type := Program × Env × Room × State × MethodId × Array Value × List Frame × Method × Code
abbrev MT : Type := MethodName × ByteArray × Nat × Option FieldType
def wsM (y : MT) : List Cond := .code y.1 y.2.1 y.2.2.1 y.2.2.2 :: TG
theorem goodM {Ts : List Cond} {y : MT} (hT : ∀ w ∈ TG, w ∈ Ts) (hy : Cond.code y.1 y.2.1 y.2.2.1 y.2.2.2 ∈ TG) : GoodIn Ts (wsM y) := by
  intro w hw
  rcases List.mem_cons.mp hw with rfl | h
  · exact ⟨hT _ hy, good_of_word (tg_good hy)⟩
  · exact ⟨hT _ h, good_of_word (tg_good h)⟩
theorem good_add {Ts ws : List Cond} {w : Cond} (hw : w ∈ TG) (hT : ∀ w ∈ TG, w ∈ Ts) (h : GoodIn Ts ws) : GoodIn Ts (w :: ws) := by
  intro v hv
  rcases List.mem_cons.mp hv with rfl | hv
  · exact ⟨hT _ hw, good_of_word (tg_good hw)⟩
  · exact h v hv
def rmd (d mc ms : Nat) : Room := { frames := d, cells := mc, slots := ms, locals := 40 * d }
def tysG (g : GT) : List (ClassId × FieldType) := [(gc g 0, .int), (gc g 1, .byte), (gc g 2, .int), (gc g 3, .int), (gc g 4, .object RX1)]
/-- the heap holds the world -/
def HOK (g : GT) (ex : Bool) (sh : List Shp) (h : Hp) (H : Heap) : Prop :=
  (∀ (k : Nat) (c : Shp), sh[k]? = some c → va_at (gD g) clX (gB g + k, conc g c (rd h k)) H) ∧ gB g + sh.length ≤ H.size ∧ (ex = true → H.size = gB g + sh.length)
theorem HOK.setr {g : GT} {ex : Bool} {sh : List Shp} {h h' : Hp} {H H1 : Heap} {k : Nat} {c : Shp} (P : HOK g ex sh h H) (hk : sh[k]? = some c) (hn : ∀ j, j ≠ k → rd h' j = rd h j) (he : va_at (gD g) clX (gB g + k, conc g c (rd h' k)) H1) (z : H1.size = H.size) (oq : ∀ q : Nat, q ≠ gB g + k → H1[q]? = H[q]?) : HOK g ex sh h' H1 := by
  refine ⟨fun j d hj => ?_, by rw [z]; exact P.2.1, fun e => by rw [z]; exact P.2.2 e⟩
  by_cases e : j = k
  · subst e
    rw [hk] at hj; cases hj
    exact he
  · rw [hn j e]
    exact (P.1 j d hj).kept (oq _ (by show gB g + j ≠ gB g + k; omega))
theorem HOK.set {g : GT} {ex : Bool} {sh : List Shp} {h : Hp} {H H1 : Heap} {k i : Nat} {x : Int32} {c : Shp} (P : HOK g ex sh h H) (hk : sh[k]? = some c) (he : va_at (gD g) clX (gB g + k, conc g c (upd (rd h k) i x)) H1) (z : H1.size = H.size) (oq : ∀ q : Nat, q ≠ gB g + k → H1[q]? = H[q]?) : HOK g ex sh (up2 h k i x) H1 :=
  P.setr hk (fun _ e => rd_up2_ne e) (by rw [rd_up2_self]; exact he) z oq
theorem HOK.setc {g : GT} {ex : Bool} {sh : List Shp} {h : Hp} {H H1 : Heap} {k : Nat} {c c' : Shp} (P : HOK g ex sh h H) (hk : sh[k]? = some c) (he : va_at (gD g) clX (gB g + k, conc g c' (rd h k)) H1) (z : H1.size = H.size) (oq : ∀ q : Nat, q ≠ gB g + k → H1[q]? = H[q]?) : HOK g ex (sh.set k c') h H1 := by
  have hl : k < sh.length := (List.getElem?_eq_some_iff.mp hk).1
  refine ⟨fun j d hj => ?_, by rw [z, List.length_set]; exact P.2.1, fun e => by rw [z, List.length_set]; exact P.2.2 e⟩
  by_cases e : j = k
  · subst e
    rw [List.getElem?_set_self hl] at hj; cases hj
    exact he
  · rw [List.getElem?_set_ne (fun q => e q.symm)] at hj
    exact (P.1 j d hj).kept (oq _ (by show gB g + j ≠ gB g + k; omega))
theorem HOK.push {g : GT} {sh : List Shp} {h : Hp} {H H1 : Heap} {c : Shp} (P : HOK g true sh h H) (he : va_at (gD g) clX (gB g + sh.length, conc g c (rd h sh.length)) H1) (z : H1.size = H.size + 1) (oq : ∀ q : Nat, q < H.size → H1[q]? = H[q]?) : HOK g true (sh ++ [c]) h H1 := by
  have hz := P.2.2 rfl
  refine ⟨fun j d hj => ?_, by rw [z, List.length_append, hz]; simp; omega, fun _ => by rw [z, List.length_append, hz]; simp; omega⟩
  by_cases hl : j < sh.length
  · rw [List.getElem?_append_left hl] at hj
    have hh := P.1 j d hj
    exact hh.kept (oq _ hh.lt)
  · rw [List.getElem?_append_right (by omega)] at hj
    have h0 : j - sh.length < 1 := (List.getElem?_eq_some_iff.mp hj).1
    have e : j = sh.length := by omega
    subst e
    rw [Nat.sub_self] at hj
    cases hj
    exact he
/-! ===== what lies outside the world: constants of enums, String constants, static rows ===== -/
def sx_len : List Nat := [4, 4, 5, 5, 4, 3, 3, 4, 4, 5, 5, 6, 7, 169, 169, 169]
def sx_byt : List (List Int32) := [[99, 108, 105, 112],
  [114, 101, 101, 108],
  [115, 99, 101, 110, 101],
  [115, 108, 101, 101, 112],
  [119, 97, 107, 101],
  [99, 117, 116],
  [97, 105, 114],
  [102, 101, 101, 100],
  [102, 111, 111, 100],
  [112, 97, 105, 110, 116],
  [119, 101, 101, 107, 115],
  [114, 101, 112, 101, 97, 116],
  [97, 114, 99, 104, 105, 118, 101],
  [97, 114, 99, 104, 105, 118, 101, 59, 32, 99, 108, 105, 112, 32, 49, 50, 51, 59, 32, 99, 108, 105, 112, 32, 51, 50, 49, 52, 59, 32, 99, 108, 105, 112, 32, 52, 52, 59, 32, 99, 108, 105, 112, 32, 49, 50, 51, 52, 53, 54, 55, 56, 59, 32, 99, 108, 105, 112, 32, 57, 59, 32, 114, 101, 101, 108, 32, 51, 59, 32, 114, 101, 101, 108, 32, 53, 59, 32, 115, 99, 101, 110, 101, 32, 50, 59, 32, 115, 99, 101, 110, 101, 32, 49, 59, 32, 115, 108, 101, 101, 112, 32, 48, 32, 48, 59, 32, 115, 108, 101, 101, 112, 32, 49, 32, 48, 59, 32, 115, 108, 101, 101, 112, 32, 50, 32, 49, 59, 32, 115, 108, 101, 101, 112, 32, 51, 32, 49, 59, 32, 119, 101, 101, 107, 115, 32, 50, 59, 32, 99, 117, 116, 32, 49, 32, 51, 48, 59, 32, 102, 101, 101, 100, 32, 52, 32, 50, 48, 59],
  [97, 114, 99, 104, 105, 118, 101, 59, 32, 99, 108, 105, 112, 32, 49, 50, 51, 59, 32, 99, 108, 105, 112, 32, 51, 50, 49, 52, 59, 32, 99, 108, 105, 112, 32, 52, 52, 59, 32, 99, 108, 105, 112, 32, 49, 50, 51, 52, 53, 54, 55, 56, 59, 32, 99, 108, 105, 112, 32, 57, 59, 32, 114, 101, 101, 108, 32, 51, 59, 32, 114, 101, 101, 108, 32, 53, 59, 32, 115, 99, 101, 110, 101, 32, 50, 59, 32, 115, 99, 101, 110, 101, 32, 49, 59, 32, 115, 108, 101, 101, 112, 32, 48, 32, 48, 59, 32, 115, 108, 101, 101, 112, 32, 49, 32, 48, 59, 32, 115, 108, 101, 101, 112, 32, 50, 32, 49, 59, 32, 115, 108, 101, 101, 112, 32, 51, 32, 49, 59, 32, 119, 101, 101, 107, 115, 32, 50, 59, 32, 99, 117, 116, 32, 49, 32, 51, 48, 59, 32, 102, 101, 101, 100, 32, 52, 32, 50, 48, 59],
  [97, 114, 99, 104, 105, 118, 101, 59, 32, 99, 108, 105, 112, 32, 49, 50, 51, 59, 32, 99, 108, 105, 112, 32, 51, 50, 49, 52, 59, 32, 99, 108, 105, 112, 32, 52, 52, 59, 32, 99, 108, 105, 112, 32, 49, 50, 51, 52, 53, 54, 55, 56, 59, 32, 99, 108, 105, 112, 32, 57, 59, 32, 114, 101, 101, 108, 32, 51, 59, 32, 114, 101, 101, 108, 32, 53, 59, 32, 115, 99, 101, 110, 101, 32, 50, 59, 32, 115, 99, 101, 110, 101, 32, 49, 59, 32, 115, 108, 101, 101, 112, 32, 48, 32, 48, 59, 32, 115, 108, 101, 101, 112, 32, 49, 32, 48, 59, 32, 115, 108, 101, 101, 112, 32, 50, 32, 49, 59, 32, 115, 108, 101, 101, 112, 32, 51, 32, 49, 59, 32, 119, 101, 101, 107, 115, 32, 50, 59, 32, 99, 117, 116, 32, 49, 32, 51, 48, 59, 32, 102, 101, 101, 100, 32, 52, 32, 50, 48, 59]]
def sx_refs : List (String × Nat × String × Nat) := [("ClipHibernation", 41, "archive; clip 123; clip 3214; clip 44; clip 12345678; clip 9; reel 3; reel 5; scene 2; scene 1; sleep 0 0; sleep 1 0; sleep 2 1; sleep 3 1; weeks 2; cut 1 30; feed 4 20;", 13),
  ("ClipHibernation$Script", 86, "archive", 12),
  ("ClipHibernation$Command", 100, "repeat", 11),
  ("ClipHibernation$Command", 64, "clip", 0),
  ("ClipHibernation$Command", 70, "reel", 1),
  ("ClipHibernation$Command", 73, "scene", 2),
  ("ClipHibernation$Command", 76, "sleep", 3),
  ("ClipHibernation$Command", 79, "wake", 4),
  ("ClipHibernation$Command", 82, "cut", 5),
  ("ClipHibernation$Command", 85, "air", 6),
  ("ClipHibernation$Command", 88, "feed", 7),
  ("ClipHibernation$Command", 91, "food", 8),
  ("ClipHibernation$Command", 94, "paint", 9),
  ("ClipHibernation$Command", 97, "weeks", 10)]
def tokNm : List String := ["WORD", "NUMBER", "OPEN", "CLOSE", "SEMICOLON", "END", "WRONG"]
def cmdNm : List String := ["CLIP", "REEL", "SCENE", "SLEEP", "WAKE", "CUT", "AIR", "FEED", "FOOD", "PAINT", "WEEKS", "REPEAT"]
def cmdF : List (String × String × String × List Int32) := [("java/lang/Enum", "ordinal", "I", [0, 1, 2, 3, 4, 5, 6, 7, 8, 9, 10, 11])]
def St1 (g : GT) (U : State) (H : Heap) : Prop := va_En RX5 "LClipHibernation$Token;" tokNm [] (fun k => ga g k) (gA g) U H
def St2 (g : GT) (U : State) (H : Heap) : Prop := va_En RX2 "LClipHibernation$Command;" cmdNm cmdF (fun k => ga g (10 + k)) (gA g) U H
def St3 (g : GT) (U : State) (H : Heap) : Prop := va_Ef 12 RX2 "word" "Ljava/lang/String;" (fun k => .ref (ga g (100 + k))) (fun k => ga g (10 + k)) (gA g) U H
def St4 (g : GT) (U : State) (H : Heap) : Prop := ∀ i : Nat, i < 16 → vk_S 1 [sx_len.getD i 0] [sx_byt.getD i []] (fun _ => ga g (100 + i)) (fun _ => ga g (150 + i)) (gA g) U H
def St5 (g : GT) (U : State) : Prop := ∀ q ∈ sx_refs, vk_R q.1 q.2.1 q.2.2.1 (ga g (100 + q.2.2.2)) U
def St6 (_ : State) : Prop := True
/-- the law's script -/
def St7 (g : GT) (U : State) (H : Heap) : Prop := va_T .int (ga g 60) (ga g 61) (fun j => .int (nI (ga g (1000 + j)))) (gA g) U H
def St8 (g : GT) (U : State) (H : Heap) : Prop := va_Z RX3 "COMMANDS" "[LClipHibernation$Command;" (.ref (ga g 50)) (gA g) U H ∧ va_T (.object RX2) (ga g 50) 12 (fun j => .ref (ga g (10 + j))) (gA g) U H
/-- the switch map: REPEAT has no case -/
def swV (j : Nat) : Int32 := if j = 11 then 0 else nI (j + 1)
def St9 (g : GT) (U : State) (H : Heap) : Prop := va_Z RX0 "$SwitchMap$ClipHibernation$Command" "[I" (.ref (ga g 51)) (gA g) U H ∧ va_T .int (ga g 51) 12 (fun j => .int (swV j)) (gA g) U H
def St10 (g : GT) (U : State) (H : Heap) : Prop := va_Z "java/lang/String" "COMPACT_STRINGS" "Z" (.int 1) (gA g) U H ∧ va_Zq "jdk/internal/util/Preconditions" "SIOOBE_FORMATTER" "Ljava/util/function/BiFunction;" (gA g) U H
def St11 (_ : State) : Prop := True
def St (g : GT) (U : State) (H : Heap) : Prop := St1 g U H ∧ St2 g U H ∧ St3 g U H ∧ St4 g U H ∧ St5 g U ∧ St6 U ∧ St7 g U H ∧ St8 g U H ∧ St9 g U H ∧ St10 g U H ∧ St11 U
theorem St.mk {g : GT} {s U : State} {H0 H : Heap} (h : St g s H0) (hvm : s.vm.Alike U.vm) (hR : ∀ (o : String) (k : Nat) (t : String) (a : Nat), vk_R o k t a s → vk_R o k t a U) (hq : ∀ a : Nat, a < H0.size → ¬ (gA g) a → H[a]? = H0[a]?) : St g U H := by
  obtain ⟨h1, h2, h3, h4, h5, h6, h7, h8, h9, h10, h11⟩ := h
  exact ⟨va_En.kept (va_En.moved hvm h1) hq, va_En.kept (va_En.moved hvm h2) hq, va_Ef.kept (va_Ef.moved hvm h3) hq, fun i hi => vk_S.kept (vk_S.moved hvm (h4 i hi)) hq,
    fun q hm => hR _ _ _ _ (h5 q hm), h6,
    va_T.kept (va_T.moved hvm h7) hq, ⟨va_Z.kept (va_Z.moved hvm h8.1) hq, va_T.kept (va_T.moved hvm h8.2) hq⟩,
    ⟨va_Z.kept (va_Z.moved hvm h9.1) hq, va_T.kept (va_T.moved hvm h9.2) hq⟩, ⟨va_Z.kept (va_Z.moved hvm h10.1) hq, va_Zq.kept (va_Zq.moved hvm h10.2) hq⟩, h11⟩
theorem St.call {g : GT} {s U : State} {H : Heap} {locs : List Loc} (h : St g s s.heap) (hS : va_S (gA g) s.heap H locs) (hW : s.WarmedH U.vm) : St g U H :=
  St.mk h hW.alike (fun _ _ _ _ hr => vk_R.warm hW hr) hS.2.1
theorem St.calling {g : GT} {U : State} {f : JFrame} {mk : MethodId} {a : Array Value} (h : St g U U.heap) : St g (U.calling f mk a) (U.calling f mk a).heap :=
  St.mk (s := U) (H0 := U.heap) h (Vm.Alike.refl U.vm) (fun _ _ _ _ hr => vk_R.same (u := U) (U := U.calling f mk a) rfl hr) (fun _ _ _ => rfl)
/-! ===== what is given of the machine at a method's start, and the walk ===== -/
def GS (g : GT) (U : State) : Prop := va_K (gD g) clX (tysG g) U ∧ St g U U.heap ∧ g.1.stackTraces = false ∧ ∀ w ∈ NT, va_Nw w U
theorem GS.call {g : GT} {s U : State} {H : Heap} {locs : List Loc} (h : GS g s) (hB : gB g ≤ s.heap.size) (hS : va_S (gA g) s.heap H locs) (hU : U.heap = H) (hW : s.WarmedH U.vm) : GS g U :=
  ⟨va_K.moved hW.alike h.1, by rw [hU]; exact St.call h.2.1 hS hW, h.2.2.1, fun w hw => nt_warm hw hW (h.2.2.2 w hw)⟩
theorem GS.calling {g : GT} {U : State} {f : JFrame} {mk : MethodId} {a : Array Value} (h : GS g U) : GS g (U.calling f mk a) :=
  ⟨va_K.moved (u := U) (U := U.calling f mk a) (Vm.Alike.refl U.vm) h.1, St.calling h.2.1, h.2.2.1, fun w hw => nt_same (u := U) (U := U.calling f mk a) hw rfl (h.2.2.2 w hw)⟩
def Cx (g : GT) (X : XT) (own : String) (b : ByteArray) : Prop :=
  X.1.tables.exec = Jvm.exec ∧ X.2.2.2.2.2.2.2.2.code = b ∧ X.2.2.2.1.vm.findClass own = some X.2.2.2.2.1.cls ∧ (∀ w ∈ TG, w.before X.2.2.2.2.2.1 X.2.2.2.1 = true) ∧ GS g X.2.2.2.1 ∧ X.2.2.2.2.2.2.2.1.locks = false ∧ gB g ≤ X.2.2.2.1.heap.size
theorem Cx.nt {g : GT} {X : XT} {own : String} {b : ByteArray} (cx : Cx g X own b) {w : Cond} (hw : w ∈ NT) {A : Array Value} : w.before A X.2.2.2.1 = true := nt_use hw (cx.2.2.2.2.1.2.2.2 w hw)
abbrev WX (g : GT) (X : XT) (H : Heap) (locs : List Loc) (cells slots : Nat) (Q : State → Prop) (fr : JFrame) : Prop :=
  W X.1 g.1 X.2.1 X.2.2.1 X.2.2.2.1 X.2.2.2.2.1 X.2.2.2.2.2.1 X.2.2.2.2.2.2.1 X.2.2.2.2.2.2.2.1 X.2.2.2.2.2.2.2.2 H locs cells slots Q fr
/-- a method's locals, by their places -/
def lk : List (Option Value) → Nat → Option Value
  | [], _ => none
  | a :: _, 0 => a
  | _ :: l, n + 1 => lk l n
def lset : List (Option Value) → Nat → Option Value → List (Option Value)
  | [], _, _ => []
  | _ :: l, 0, v => v :: l
  | a :: l, n + 1, v => a :: lset l n v
def lass : Nat → List (Option Value) → List (Nat × Value)
  | _, [] => []
  | i, none :: l => lass (i + 1) l
  | i, some v :: l => (i, v) :: lass (i + 1) l
theorem lass_mem : ∀ (L : List (Option Value)) (i : Nat) (q : Nat × Value), q ∈ lass i L ↔ ∃ k, q.1 = i + k ∧ lk L k = some q.2
  | [], i, q => by simp [lass, lk]
  | none :: l, i, q => by
    rw [lass, lass_mem l (i + 1) q]
    constructor
    · rintro ⟨k, h1, h2⟩; exact ⟨k + 1, by omega, h2⟩
    · rintro ⟨k, h1, h2⟩
      cases k with
      | zero => simp [lk] at h2
      | succ k => exact ⟨k, by omega, h2⟩
  | some v :: l, i, q => by
    rw [lass, List.mem_cons, lass_mem l (i + 1) q]
    constructor
    · rintro (h | ⟨k, h1, h2⟩)
      · subst h; exact ⟨0, rfl, rfl⟩
      · exact ⟨k + 1, by omega, h2⟩
    · rintro ⟨k, h1, h2⟩
      cases k with
      | zero =>
        left
        simp only [lk, Option.some.injEq] at h2
        obtain ⟨a, b⟩ := q
        simp at h1 h2
        rw [h1, h2]
      | succ k => exact Or.inr ⟨k, by omega, h2⟩
/-- the locals of the frame are known as L says -/
def LV (ls : Array Slot) (nL : Nat) (L : List (Option Value)) : Prop := ls.size = nL ∧ lv_wf ls ∧ ∀ (i : Nat) (v : Value), lk L i = some v → ls[i]? = some (.val v)
theorem LV.has {ls : Array Slot} {nL : Nat} {L : List (Option Value)} (h : LV ls nL L) : lv_has ls nL (lass 0 L) := ⟨h.1, h.2.1, fun q hq => by
  obtain ⟨k, h1, h2⟩ := (lass_mem L 0 q).mp hq
  rw [h1, Nat.zero_add]; exact h.2.2 k q.2 h2⟩
theorem LV.of {ls : Array Slot} {nL : Nat} {L : List (Option Value)} {l : List (Nat × Value)} (h : lv_has ls nL l) (hl : ∀ (i : Nat) (v : Value), lk L i = some v → (i, v) ∈ l) : LV ls nL L := ⟨h.1, h.2.1, fun i v hi => h.2.2 (i, v) (hl i v hi)⟩
theorem lk_lset_ne : ∀ (L : List (Option Value)) (i j : Nat) (v : Option Value), j ≠ i → lk (lset L i v) j = lk L j
  | [], _, _, _, _ => rfl
  | _ :: l, 0, 0, _, h => absurd rfl h
  | _ :: l, 0, _ + 1, _, _ => rfl
  | _ :: l, _ + 1, 0, _, _ => rfl
  | a :: l, i + 1, j + 1, v, h => lk_lset_ne l i j v (fun e => h (by rw [e]))
theorem lk_lset : ∀ (L : List (Option Value)) (i : Nat) (v w : Value), lk (lset L i (some v)) i = some w → w = v
  | [], _, _, _, h => by simp [lset, lk] at h
  | _ :: l, 0, v, w, h => by simp [lset, lk] at h; exact h.symm
  | _ :: l, i + 1, v, w, h => lk_lset l i v w h
/-- no value of two slots is listed that the store at i would break -/
def lfree (L : List (Option Value)) (i : Nat) : Bool := match i with
  | 0 => true
  | k + 1 => match lk L k with
    | some v => v.category == 1
    | none => true
theorem lv_setL {ls : Array Slot} {nL : Nat} {L : List (Option Value)} {i : Nat} {v : Value} {l : List (Nat × Value)} (hL : ∀ (j : Nat) (w : Value), lk L j = some w → (j, w) ∈ l) (hf : lfree L i = true)
    (h : lv_has ls nL ((i, v) :: l.filter (fun q => !(q.1 == i) && !(q.1 + 1 == i && q.2.category == 2)))) : LV ls nL (lset L i (some v)) := by
  refine LV.of h (fun j w hj => ?_)
  by_cases e : j = i
  · subst e
    have := lk_lset L j v w hj
    subst this
    exact List.mem_cons_self
  · rw [lk_lset_ne L i j _ e] at hj
    refine List.mem_cons_of_mem _ (List.mem_filter.mpr ⟨hL j w hj, ?_⟩)
    have h1 : (j == i) = false := by simpa using e
    simp only [h1, Bool.not_false, Bool.true_and]
    by_cases e2 : j + 1 = i
    · subst e2
      simp only [lfree, hj, beq_iff_eq] at hf
      simp [hf]
    · simp [e2]
def PW (g : GT) (X : XT) (ex : Bool) (Q : State → Prop) (cells slots : Nat) (sh : List Shp) (h : Hp) (pc : Nat) (L : List (Option Value)) (st : List Value) : Prop :=
  ∀ (H : Heap) (locs : List Loc) (ls : Array Slot), HOK g ex sh h H → va_S (gA g) X.2.2.2.1.heap H locs → LV ls X.2.2.2.2.2.2.2.2.maxLocals L → WX g X H locs cells slots Q (F0 X.2.2.2.2.1 pc ls st)
def Dx (b : ByteArray) (pc : Nat) (i : Instr) (len n : Nat) : Prop := decode b pc = .ok (i, len) ∧ pc + len = n
section PWrows
variable {g : GT} {X : XT} {own : String} {b : ByteArray} {ex : Bool} {Q : State → Prop} {cells slots : Nat} {sh : List Shp} {h : Hp} {pc n : Nat} {L : List (Option Value)} {st : List Value}
theorem PW.pcEq {pc' : Nat} (e : pc' = pc) (k : PW g X ex Q cells slots sh h pc' L st) : PW g X ex Q cells slots sh h pc L st := e ▸ k
theorem PW.hpEq {h' : Hp} (e : h = h') (k : PW g X ex Q cells slots sh h' pc L st) : PW g X ex Q cells slots sh h pc L st := e ▸ k
theorem PW.locs {L' : List (Option Value)} (e : ∀ (i : Nat) (v : Value), lk L' i = some v → lk L i = some v) (k : PW g X ex Q cells slots sh h pc L' st) : PW g X ex Q cells slots sh h pc L st :=
  fun H locs ls hH hS hL => k H locs ls hH hS ⟨hL.1, hL.2.1, fun i v hi => hL.2.2 i v (e i v hi)⟩
theorem PW.iconst {z : Int} {v : Int32} (cx : Cx g X own b) (hd : Dx b pc (.iconst z) 1 n) (hv : Int32.ofInt z = v) (k : PW g X ex Q cells slots sh h n L (.int v :: st)) : PW g X ex Q cells slots sh h pc L st := by
  obtain ⟨hd, rfl⟩ := hd
  exact fun H locs ls hH hS hL => lv_iconst cx.1 cx.2.1 hd hv (k H locs ls hH hS hL)
theorem PW.bipush {z : Int} {v : Int32} (cx : Cx g X own b) (hd : Dx b pc (.bipush z) 2 n) (hv : (Int8.ofInt z).toInt32 = v) (k : PW g X ex Q cells slots sh h n L (.int v :: st)) : PW g X ex Q cells slots sh h pc L st := by
  obtain ⟨hd, rfl⟩ := hd
  exact fun H locs ls hH hS hL => lv_bipush cx.1 cx.2.1 hd hv (k H locs ls hH hS hL)
theorem PW.sipush {z : Int} {v : Int32} (cx : Cx g X own b) (hd : Dx b pc (.sipush z) 3 n) (hv : (Int16.ofInt z).toInt32 = v) (k : PW g X ex Q cells slots sh h n L (.int v :: st)) : PW g X ex Q cells slots sh h pc L st := by
  obtain ⟨hd, rfl⟩ := hd
  exact fun H locs ls hH hS hL => lv_sipush cx.1 cx.2.1 hd hv (k H locs ls hH hS hL)
theorem PW.iload_n {i : Fin 4} {x : Int32} (cx : Cx g X own b) (hd : Dx b pc (.iload_n i) 1 n) (hl : lk L i.val = some (.int x)) (k : PW g X ex Q cells slots sh h n L (.int x :: st)) : PW g X ex Q cells slots sh h pc L st := by
  obtain ⟨hd, rfl⟩ := hd
  exact fun H locs ls hH hS hL => lv_iload_n cx.1 cx.2.1 hd rfl (hL.2.2 _ _ hl) (k H locs ls hH hS hL)
theorem PW.iload {i : Nat} {x : Int32} (cx : Cx g X own b) (hd : Dx b pc (.iload i) 2 n) (hl : lk L i = some (.int x)) (k : PW g X ex Q cells slots sh h n L (.int x :: st)) : PW g X ex Q cells slots sh h pc L st := by
  obtain ⟨hd, rfl⟩ := hd
  exact fun H locs ls hH hS hL => lv_iload cx.1 cx.2.1 hd (hL.2.2 _ _ hl) (k H locs ls hH hS hL)
theorem PW.aload_n {i : Fin 4} {x : Nat} (cx : Cx g X own b) (hd : Dx b pc (.aload_n i) 1 n) (hl : lk L i.val = some (.ref x)) (k : PW g X ex Q cells slots sh h n L (.ref x :: st)) : PW g X ex Q cells slots sh h pc L st := by
  obtain ⟨hd, rfl⟩ := hd
  exact fun H locs ls hH hS hL => lv_aload_n cx.1 cx.2.1 hd rfl (hL.2.2 _ _ hl) (k H locs ls hH hS hL)
theorem PW.aload {i : Nat} {x : Nat} (cx : Cx g X own b) (hd : Dx b pc (.aload i) 2 n) (hl : lk L i = some (.ref x)) (k : PW g X ex Q cells slots sh h n L (.ref x :: st)) : PW g X ex Q cells slots sh h pc L st := by
  obtain ⟨hd, rfl⟩ := hd
  exact fun H locs ls hH hS hL => lv_aload cx.1 cx.2.1 hd (hL.2.2 _ _ hl) (k H locs ls hH hS hL)
theorem PW.istore_n {i : Fin 4} {x : Int32} {L' : List (Option Value)} (cx : Cx g X own b) (hd : Dx b pc (.istore_n i) 1 n) (hi : i.val < X.2.2.2.2.2.2.2.2.maxLocals) (hf : lfree L i.val = true) (hL' : lset L i.val (some (.int x)) = L') (k : PW g X ex Q cells slots sh h n L' st) : PW g X ex Q cells slots sh h pc L (.int x :: st) := by
  obtain ⟨hd, rfl⟩ := hd
  subst hL'
  exact fun H locs ls hH hS hL => lv_istore_n cx.1 cx.2.1 hd rfl hL.has hi rfl (fun ls' hl' => k H locs ls' hH hS (lv_setL (fun j w hj => (lass_mem L 0 (j, w)).mpr ⟨j, by simp, hj⟩) hf hl'))
theorem PW.istore {i : Nat} {x : Int32} {L' : List (Option Value)} (cx : Cx g X own b) (hd : Dx b pc (.istore i) 2 n) (hi : i < X.2.2.2.2.2.2.2.2.maxLocals) (hf : lfree L i = true) (hL' : lset L i (some (.int x)) = L') (k : PW g X ex Q cells slots sh h n L' st) : PW g X ex Q cells slots sh h pc L (.int x :: st) := by
  obtain ⟨hd, rfl⟩ := hd
  subst hL'
  exact fun H locs ls hH hS hL => lv_istore cx.1 cx.2.1 hd hL.has hi rfl (fun ls' hl' => k H locs ls' hH hS (lv_setL (fun j w hj => (lass_mem L 0 (j, w)).mpr ⟨j, by simp, hj⟩) hf hl'))
theorem PW.astore_n {i : Fin 4} {x : Nat} {L' : List (Option Value)} (cx : Cx g X own b) (hd : Dx b pc (.astore_n i) 1 n) (hi : i.val < X.2.2.2.2.2.2.2.2.maxLocals) (hf : lfree L i.val = true) (hL' : lset L i.val (some (.ref x)) = L') (k : PW g X ex Q cells slots sh h n L' st) : PW g X ex Q cells slots sh h pc L (.ref x :: st) := by
  obtain ⟨hd, rfl⟩ := hd
  subst hL'
  exact fun H locs ls hH hS hL => lv_astore_n cx.1 cx.2.1 hd rfl hL.has hi rfl (fun ls' hl' => k H locs ls' hH hS (lv_setL (fun j w hj => (lass_mem L 0 (j, w)).mpr ⟨j, by simp, hj⟩) hf hl'))
theorem PW.astore {i : Nat} {x : Nat} {L' : List (Option Value)} (cx : Cx g X own b) (hd : Dx b pc (.astore i) 2 n) (hi : i < X.2.2.2.2.2.2.2.2.maxLocals) (hf : lfree L i = true) (hL' : lset L i (some (.ref x)) = L') (k : PW g X ex Q cells slots sh h n L' st) : PW g X ex Q cells slots sh h pc L (.ref x :: st) := by
  obtain ⟨hd, rfl⟩ := hd
  subst hL'
  exact fun H locs ls hH hS hL => lv_astore cx.1 cx.2.1 hd hL.has hi rfl (fun ls' hl' => k H locs ls' hH hS (lv_setL (fun j w hj => (lass_mem L 0 (j, w)).mpr ⟨j, by simp, hj⟩) hf hl'))
theorem PW.iinc {i : Nat} {z : Int} {x v : Int32} {L' : List (Option Value)} (cx : Cx g X own b) (hd : Dx b pc (.iinc i z) 3 n) (hl : lk L i = some (.int x)) (hv : Int32.ofInt z = v) (hi : i < X.2.2.2.2.2.2.2.2.maxLocals) (hf : lfree L i = true) (hL' : lset L i (some (.int (x + v))) = L') (k : PW g X ex Q cells slots sh h n L' st) : PW g X ex Q cells slots sh h pc L st := by
  obtain ⟨hd, rfl⟩ := hd
  subst hL' hv
  intro H locs ls hH hS hL
  have hm : (i, Value.int x) ∈ lass 0 L := (lass_mem L 0 (i, .int x)).mpr ⟨i, by simp, hl⟩
  obtain ⟨q, hq⟩ := List.getElem?_of_mem hm
  exact lv_iinc cx.1 cx.2.1 hd hL.has hq rfl hi rfl (fun ls' hl' => k H locs ls' hH hS (lv_setL (fun j w hj => (lass_mem L 0 (j, w)).mpr ⟨j, by simp, hj⟩) hf hl'))
theorem PW.iadd {x y : Int32} (cx : Cx g X own b) (hd : Dx b pc .iadd 1 n) (k : PW g X ex Q cells slots sh h n L (.int (x + y) :: st)) : PW g X ex Q cells slots sh h pc L (.int y :: .int x :: st) := by
  obtain ⟨hd, rfl⟩ := hd
  exact fun H locs ls hH hS hL => lv_iadd cx.1 cx.2.1 hd (k H locs ls hH hS hL)
theorem PW.isub {x y : Int32} (cx : Cx g X own b) (hd : Dx b pc .isub 1 n) (k : PW g X ex Q cells slots sh h n L (.int (x - y) :: st)) : PW g X ex Q cells slots sh h pc L (.int y :: .int x :: st) := by
  obtain ⟨hd, rfl⟩ := hd
  exact fun H locs ls hH hS hL => lv_isub cx.1 cx.2.1 hd (k H locs ls hH hS hL)
theorem PW.imul {x y : Int32} (cx : Cx g X own b) (hd : Dx b pc .imul 1 n) (k : PW g X ex Q cells slots sh h n L (.int (x * y) :: st)) : PW g X ex Q cells slots sh h pc L (.int y :: .int x :: st) := by
  obtain ⟨hd, rfl⟩ := hd
  exact fun H locs ls hH hS hL => lv_imul cx.1 cx.2.1 hd (k H locs ls hH hS hL)
def iush (x y : Int32) : Int32 := (x.toUInt32 >>> (y.toUInt32 &&& Int32.toUInt32 31)).toInt32
theorem PW.iand {x y : Int32} (cx : Cx g X own b) (hd : Dx b pc .iand 1 n) (k : PW g X ex Q cells slots sh h n L (.int (x &&& y) :: st)) : PW g X ex Q cells slots sh h pc L (.int y :: .int x :: st) := by
  obtain ⟨hd, rfl⟩ := hd
  exact fun H locs ls hH hS hL => lv_iand cx.1 cx.2.1 hd (k H locs ls hH hS hL)
theorem PW.ior {x y : Int32} (cx : Cx g X own b) (hd : Dx b pc .ior 1 n) (k : PW g X ex Q cells slots sh h n L (.int (x ||| y) :: st)) : PW g X ex Q cells slots sh h pc L (.int y :: .int x :: st) := by
  obtain ⟨hd, rfl⟩ := hd
  exact fun H locs ls hH hS hL => lv_ior cx.1 cx.2.1 hd (k H locs ls hH hS hL)
theorem PW.ixor {x y : Int32} (cx : Cx g X own b) (hd : Dx b pc .ixor 1 n) (k : PW g X ex Q cells slots sh h n L (.int (x ^^^ y) :: st)) : PW g X ex Q cells slots sh h pc L (.int y :: .int x :: st) := by
  obtain ⟨hd, rfl⟩ := hd
  exact fun H locs ls hH hS hL => lv_ixor cx.1 cx.2.1 hd (k H locs ls hH hS hL)
theorem PW.ishl {x y : Int32} (cx : Cx g X own b) (hd : Dx b pc .ishl 1 n) (k : PW g X ex Q cells slots sh h n L (.int (x <<< (y &&& 31)) :: st)) : PW g X ex Q cells slots sh h pc L (.int y :: .int x :: st) := by
  obtain ⟨hd, rfl⟩ := hd
  exact fun H locs ls hH hS hL => lv_ishl cx.1 cx.2.1 hd (k H locs ls hH hS hL)
theorem PW.ishr {x y : Int32} (cx : Cx g X own b) (hd : Dx b pc .ishr 1 n) (k : PW g X ex Q cells slots sh h n L (.int (x >>> (y &&& 31)) :: st)) : PW g X ex Q cells slots sh h pc L (.int y :: .int x :: st) := by
  obtain ⟨hd, rfl⟩ := hd
  exact fun H locs ls hH hS hL => lv_ishr cx.1 cx.2.1 hd (k H locs ls hH hS hL)
theorem PW.iushr {x y : Int32} (cx : Cx g X own b) (hd : Dx b pc .iushr 1 n) (k : PW g X ex Q cells slots sh h n L (.int (iush x y) :: st)) : PW g X ex Q cells slots sh h pc L (.int y :: .int x :: st) := by
  obtain ⟨hd, rfl⟩ := hd
  exact fun H locs ls hH hS hL => lv_iushr cx.1 cx.2.1 hd rfl (k H locs ls hH hS hL)
theorem PW.ineg {x : Int32} (cx : Cx g X own b) (hd : Dx b pc .ineg 1 n) (k : PW g X ex Q cells slots sh h n L (.int (-x) :: st)) : PW g X ex Q cells slots sh h pc L (.int x :: st) := by
  obtain ⟨hd, rfl⟩ := hd
  exact fun H locs ls hH hS hL => lv_ineg cx.1 cx.2.1 hd (k H locs ls hH hS hL)
theorem PW.i2b {x : Int32} (cx : Cx g X own b) (hd : Dx b pc .i2b 1 n) (k : PW g X ex Q cells slots sh h n L (.int x.toInt8.toInt32 :: st)) : PW g X ex Q cells slots sh h pc L (.int x :: st) := by
  obtain ⟨hd, rfl⟩ := hd
  exact fun H locs ls hH hS hL => lv_i2b cx.1 cx.2.1 hd rfl (k H locs ls hH hS hL)
theorem PW.i2c {x : Int32} (cx : Cx g X own b) (hd : Dx b pc .i2c 1 n) (k : PW g X ex Q cells slots sh h n L (.int (x.toUInt32 % 65536).toInt32 :: st)) : PW g X ex Q cells slots sh h pc L (.int x :: st) := by
  obtain ⟨hd, rfl⟩ := hd
  exact fun H locs ls hH hS hL => lv_i2c cx.1 cx.2.1 hd rfl (k H locs ls hH hS hL)
theorem PW.i2l {x : Int32} (cx : Cx g X own b) (hd : Dx b pc .i2l 1 n) (k : PW g X ex Q cells slots sh h n L (.long x.toInt64 :: st)) : PW g X ex Q cells slots sh h pc L (.int x :: st) := by
  obtain ⟨hd, rfl⟩ := hd
  exact fun H locs ls hH hS hL => lv_i2l cx.1 cx.2.1 hd rfl (k H locs ls hH hS hL)
theorem PW.i2f {x : Int32} (cx : Cx g X own b) (hd : Dx b pc .i2f 1 n) (k : PW g X ex Q cells slots sh h n L (.float (FP.i2f x) :: st)) : PW g X ex Q cells slots sh h pc L (.int x :: st) := by
  obtain ⟨hd, rfl⟩ := hd
  exact fun H locs ls hH hS hL => lv_i2f cx.1 cx.2.1 hd (k H locs ls hH hS hL)
theorem PW.i2d {x : Int32} (cx : Cx g X own b) (hd : Dx b pc .i2d 1 n) (k : PW g X ex Q cells slots sh h n L (.double (FP.i2d x) :: st)) : PW g X ex Q cells slots sh h pc L (.int x :: st) := by
  obtain ⟨hd, rfl⟩ := hd
  exact fun H locs ls hH hS hL => lv_i2d cx.1 cx.2.1 hd (k H locs ls hH hS hL)
theorem PW.idivK {x y : Int32} (cx : Cx g X own b) (hd : Dx b pc .idiv 1 n) (hy : ¬ y = 0) (k : PW g X ex Q cells slots sh h n L (.int (x / y) :: st)) : PW g X ex Q cells slots sh h pc L (.int y :: .int x :: st) := by
  obtain ⟨hd, rfl⟩ := hd
  exact fun H locs ls hH hS hL => lv_idiv cx.1 cx.2.1 hd hy (k H locs ls hH hS hL)
theorem PW.iremK {x y : Int32} (cx : Cx g X own b) (hd : Dx b pc .irem 1 n) (hy : ¬ y = 0) (k : PW g X ex Q cells slots sh h n L (.int (x - x / y * y) :: st)) : PW g X ex Q cells slots sh h pc L (.int y :: .int x :: st) := by
  obtain ⟨hd, rfl⟩ := hd
  exact fun H locs ls hH hS hL => lv_irem cx.1 cx.2.1 hd hy (k H locs ls hH hS hL)
theorem PW.dup {v : Value} (cx : Cx g X own b) (hd : Dx b pc .dup 1 n) (hv : v.category = 1) (k : PW g X ex Q cells slots sh h n L (v :: v :: st)) : PW g X ex Q cells slots sh h pc L (v :: st) := by
  obtain ⟨hd, rfl⟩ := hd
  exact fun H locs ls hH hS hL => lv_dup cx.1 cx.2.1 hd hv (k H locs ls hH hS hL)
theorem PW.dup2 {v w : Value} (cx : Cx g X own b) (hd : Dx b pc .dup2 1 n) (hv : v.category = 1) (hw : w.category = 1) (k : PW g X ex Q cells slots sh h n L (v :: w :: v :: w :: st)) : PW g X ex Q cells slots sh h pc L (v :: w :: st) := by
  obtain ⟨hd, rfl⟩ := hd
  exact fun H locs ls hH hS hL => lv_dup2_11 cx.1 cx.2.1 hd hv hw (k H locs ls hH hS hL)
theorem PW.pop {v : Value} (cx : Cx g X own b) (hd : Dx b pc .pop 1 n) (hv : v.category = 1) (k : PW g X ex Q cells slots sh h n L (st)) : PW g X ex Q cells slots sh h pc L (v :: st) := by
  obtain ⟨hd, rfl⟩ := hd
  exact fun H locs ls hH hS hL => lv_pop cx.1 cx.2.1 hd hv (k H locs ls hH hS hL)
theorem PW.null  (cx : Cx g X own b) (hd : Dx b pc .aconst_null 1 n) (k : PW g X ex Q cells slots sh h n L (.null :: st)) : PW g X ex Q cells slots sh h pc L (st) := by
  obtain ⟨hd, rfl⟩ := hd
  exact fun H locs ls hH hS hL => lv_null cx.1 cx.2.1 hd (k H locs ls hH hS hL)
theorem PW.lcmp {x y : Int64} (cx : Cx g X own b) (hd : Dx b pc .lcmp 1 n) (k : PW g X ex Q cells slots sh h n L (.int (lg_cmp x y) :: st)) : PW g X ex Q cells slots sh h pc L (.long y :: .long x :: st) := by
  obtain ⟨hd, rfl⟩ := hd
  exact fun H locs ls hH hS hL => W.lcmp cx.1 cx.2.1 hd (k H locs ls hH hS hL)
def dvO (x y : Int32) : Option Int32 := if y = 0 then none else some (x / y)
def rmO (x y : Int32) : Option Int32 := if y = 0 then none else some (x - x / y * y)
theorem PW.idiv {x y : Int32} {ρ : Type} {F : Int32 → Option ρ} {r : Option ρ} (cx : Cx g X own b) (hd : Dx b pc .idiv 1 n) (hf : (dvO x y).bind F = r) (hr : r ≠ none) (k : ∀ z : Int32, F z = r → PW g X ex Q cells slots sh h n L (.int z :: st)) : PW g X ex Q cells slots sh h pc L (.int y :: .int x :: st) := by
  obtain ⟨hd, rfl⟩ := hd
  by_cases hy : y = 0
  · simp [dvO, hy] at hf
    exact absurd hf.symm hr
  · simp only [dvO, if_neg hy, Option.bind_some] at hf
    exact fun H locs ls hH hS hL => lv_idiv cx.1 cx.2.1 hd hy (k _ hf H locs ls hH hS hL)
theorem PW.irem {x y : Int32} {ρ : Type} {F : Int32 → Option ρ} {r : Option ρ} (cx : Cx g X own b) (hd : Dx b pc .irem 1 n) (hf : (rmO x y).bind F = r) (hr : r ≠ none) (k : ∀ z : Int32, F z = r → PW g X ex Q cells slots sh h n L (.int z :: st)) : PW g X ex Q cells slots sh h pc L (.int y :: .int x :: st) := by
  obtain ⟨hd, rfl⟩ := hd
  by_cases hy : y = 0
  · simp [rmO, hy] at hf
    exact absurd hf.symm hr
  · simp only [rmO, if_neg hy, Option.bind_some] at hf
    exact fun H locs ls hH hS hL => lv_irem cx.1 cx.2.1 hd hy (k _ hf H locs ls hH hS hL)
def Dj (b : ByteArray) (pc : Nat) (i : Instr) (off : Int) (n tgt : Nat) : Prop := decode b pc = .ok (i, 3) ∧ pc + 3 = n ∧ (pc : Int) + off = (tgt : Int)
theorem PW.goto {o : Int} {tgt : Nat} (cx : Cx g X own b) (hd : Dj b pc (.goto o) o n tgt) (k : PW g X ex Q cells slots sh h tgt L st) : PW g X ex Q cells slots sh h pc L st := by
  obtain ⟨hd, rfl, ht⟩ := hd
  exact fun H locs ls hH hS hL => lv_goto cx.1 cx.2.1 hd ht (k H locs ls hH hS hL)
theorem PW.if_eq {x : Int32} {o : Int} {tgt : Nat} {ρ : Type} {A B : Option ρ} {r : Option ρ} (cx : Cx g X own b) (hd : Dj b pc (.ifCond .eq o) o n tgt) (hf : (if x = 0 then A else B) = r) (kA : A = r → PW g X ex Q cells slots sh h tgt L st) (kB : B = r → PW g X ex Q cells slots sh h n L st) : PW g X ex Q cells slots sh h pc L (.int x :: st) := by
  obtain ⟨hd, rfl, ht⟩ := hd
  exact fun H locs ls hH hS hL => lv_if_eq cx.1 cx.2.1 hd ht (fun c0 => kA (by rw [if_pos c0] at hf; exact hf) H locs ls hH hS hL) (fun c0 => kB (by rw [if_neg c0] at hf; exact hf) H locs ls hH hS hL)
theorem PW.icmp_eq {x y : Int32} {o : Int} {tgt : Nat} {ρ : Type} {A B : Option ρ} {r : Option ρ} (cx : Cx g X own b) (hd : Dj b pc (.if_icmp .eq o) o n tgt) (hf : (if x = y then A else B) = r) (kA : A = r → PW g X ex Q cells slots sh h tgt L st) (kB : B = r → PW g X ex Q cells slots sh h n L st) : PW g X ex Q cells slots sh h pc L (.int y :: .int x :: st) := by
  obtain ⟨hd, rfl, ht⟩ := hd
  exact fun H locs ls hH hS hL => lv_icmp_eq cx.1 cx.2.1 hd ht (fun c0 => kA (by rw [if_pos c0] at hf; exact hf) H locs ls hH hS hL) (fun c0 => kB (by rw [if_neg c0] at hf; exact hf) H locs ls hH hS hL)
theorem PW.if_ne {x : Int32} {o : Int} {tgt : Nat} {ρ : Type} {A B : Option ρ} {r : Option ρ} (cx : Cx g X own b) (hd : Dj b pc (.ifCond .ne o) o n tgt) (hf : (if x = 0 then A else B) = r) (kA : A = r → PW g X ex Q cells slots sh h n L st) (kB : B = r → PW g X ex Q cells slots sh h tgt L st) : PW g X ex Q cells slots sh h pc L (.int x :: st) := by
  obtain ⟨hd, rfl, ht⟩ := hd
  exact fun H locs ls hH hS hL => lv_if_ne cx.1 cx.2.1 hd ht (fun c0 => kB (by rw [if_neg c0] at hf; exact hf) H locs ls hH hS hL) (fun c0 => kA (by rw [if_pos c0] at hf; exact hf) H locs ls hH hS hL)
theorem PW.icmp_ne {x y : Int32} {o : Int} {tgt : Nat} {ρ : Type} {A B : Option ρ} {r : Option ρ} (cx : Cx g X own b) (hd : Dj b pc (.if_icmp .ne o) o n tgt) (hf : (if x = y then A else B) = r) (kA : A = r → PW g X ex Q cells slots sh h n L st) (kB : B = r → PW g X ex Q cells slots sh h tgt L st) : PW g X ex Q cells slots sh h pc L (.int y :: .int x :: st) := by
  obtain ⟨hd, rfl, ht⟩ := hd
  exact fun H locs ls hH hS hL => lv_icmp_ne cx.1 cx.2.1 hd ht (fun c0 => kB (by rw [if_neg c0] at hf; exact hf) H locs ls hH hS hL) (fun c0 => kA (by rw [if_pos c0] at hf; exact hf) H locs ls hH hS hL)
theorem PW.if_lt {x : Int32} {o : Int} {tgt : Nat} {ρ : Type} {A B : Option ρ} {r : Option ρ} (cx : Cx g X own b) (hd : Dj b pc (.ifCond .lt o) o n tgt) (hf : (if x < 0 then A else B) = r) (kA : A = r → PW g X ex Q cells slots sh h tgt L st) (kB : B = r → PW g X ex Q cells slots sh h n L st) : PW g X ex Q cells slots sh h pc L (.int x :: st) := by
  obtain ⟨hd, rfl, ht⟩ := hd
  exact fun H locs ls hH hS hL => lv_if_lt cx.1 cx.2.1 hd ht (fun c0 => kA (by rw [if_pos c0] at hf; exact hf) H locs ls hH hS hL) (fun c0 => kB (by rw [if_neg c0] at hf; exact hf) H locs ls hH hS hL)
theorem PW.icmp_lt {x y : Int32} {o : Int} {tgt : Nat} {ρ : Type} {A B : Option ρ} {r : Option ρ} (cx : Cx g X own b) (hd : Dj b pc (.if_icmp .lt o) o n tgt) (hf : (if x < y then A else B) = r) (kA : A = r → PW g X ex Q cells slots sh h tgt L st) (kB : B = r → PW g X ex Q cells slots sh h n L st) : PW g X ex Q cells slots sh h pc L (.int y :: .int x :: st) := by
  obtain ⟨hd, rfl, ht⟩ := hd
  exact fun H locs ls hH hS hL => lv_icmp_lt cx.1 cx.2.1 hd ht (fun c0 => kA (by rw [if_pos c0] at hf; exact hf) H locs ls hH hS hL) (fun c0 => kB (by rw [if_neg c0] at hf; exact hf) H locs ls hH hS hL)
theorem PW.if_ge {x : Int32} {o : Int} {tgt : Nat} {ρ : Type} {A B : Option ρ} {r : Option ρ} (cx : Cx g X own b) (hd : Dj b pc (.ifCond .ge o) o n tgt) (hf : (if 0 ≤ x then A else B) = r) (kA : A = r → PW g X ex Q cells slots sh h tgt L st) (kB : B = r → PW g X ex Q cells slots sh h n L st) : PW g X ex Q cells slots sh h pc L (.int x :: st) := by
  obtain ⟨hd, rfl, ht⟩ := hd
  exact fun H locs ls hH hS hL => lv_if_ge cx.1 cx.2.1 hd ht (fun c0 => kA (by rw [if_pos c0] at hf; exact hf) H locs ls hH hS hL) (fun c0 => kB (by rw [if_neg c0] at hf; exact hf) H locs ls hH hS hL)
theorem PW.icmp_ge {x y : Int32} {o : Int} {tgt : Nat} {ρ : Type} {A B : Option ρ} {r : Option ρ} (cx : Cx g X own b) (hd : Dj b pc (.if_icmp .ge o) o n tgt) (hf : (if y ≤ x then A else B) = r) (kA : A = r → PW g X ex Q cells slots sh h tgt L st) (kB : B = r → PW g X ex Q cells slots sh h n L st) : PW g X ex Q cells slots sh h pc L (.int y :: .int x :: st) := by
  obtain ⟨hd, rfl, ht⟩ := hd
  exact fun H locs ls hH hS hL => lv_icmp_ge cx.1 cx.2.1 hd ht (fun c0 => kA (by rw [if_pos c0] at hf; exact hf) H locs ls hH hS hL) (fun c0 => kB (by rw [if_neg c0] at hf; exact hf) H locs ls hH hS hL)
theorem PW.if_gt {x : Int32} {o : Int} {tgt : Nat} {ρ : Type} {A B : Option ρ} {r : Option ρ} (cx : Cx g X own b) (hd : Dj b pc (.ifCond .gt o) o n tgt) (hf : (if 0 < x then A else B) = r) (kA : A = r → PW g X ex Q cells slots sh h tgt L st) (kB : B = r → PW g X ex Q cells slots sh h n L st) : PW g X ex Q cells slots sh h pc L (.int x :: st) := by
  obtain ⟨hd, rfl, ht⟩ := hd
  exact fun H locs ls hH hS hL => lv_if_gt cx.1 cx.2.1 hd ht (fun c0 => kA (by rw [if_pos c0] at hf; exact hf) H locs ls hH hS hL) (fun c0 => kB (by rw [if_neg c0] at hf; exact hf) H locs ls hH hS hL)
theorem PW.icmp_gt {x y : Int32} {o : Int} {tgt : Nat} {ρ : Type} {A B : Option ρ} {r : Option ρ} (cx : Cx g X own b) (hd : Dj b pc (.if_icmp .gt o) o n tgt) (hf : (if y < x then A else B) = r) (kA : A = r → PW g X ex Q cells slots sh h tgt L st) (kB : B = r → PW g X ex Q cells slots sh h n L st) : PW g X ex Q cells slots sh h pc L (.int y :: .int x :: st) := by
  obtain ⟨hd, rfl, ht⟩ := hd
  exact fun H locs ls hH hS hL => lv_icmp_gt cx.1 cx.2.1 hd ht (fun c0 => kA (by rw [if_pos c0] at hf; exact hf) H locs ls hH hS hL) (fun c0 => kB (by rw [if_neg c0] at hf; exact hf) H locs ls hH hS hL)
theorem PW.if_le {x : Int32} {o : Int} {tgt : Nat} {ρ : Type} {A B : Option ρ} {r : Option ρ} (cx : Cx g X own b) (hd : Dj b pc (.ifCond .le o) o n tgt) (hf : (if x ≤ 0 then A else B) = r) (kA : A = r → PW g X ex Q cells slots sh h tgt L st) (kB : B = r → PW g X ex Q cells slots sh h n L st) : PW g X ex Q cells slots sh h pc L (.int x :: st) := by
  obtain ⟨hd, rfl, ht⟩ := hd
  exact fun H locs ls hH hS hL => lv_if_le cx.1 cx.2.1 hd ht (fun c0 => kA (by rw [if_pos c0] at hf; exact hf) H locs ls hH hS hL) (fun c0 => kB (by rw [if_neg c0] at hf; exact hf) H locs ls hH hS hL)
theorem PW.icmp_le {x y : Int32} {o : Int} {tgt : Nat} {ρ : Type} {A B : Option ρ} {r : Option ρ} (cx : Cx g X own b) (hd : Dj b pc (.if_icmp .le o) o n tgt) (hf : (if x ≤ y then A else B) = r) (kA : A = r → PW g X ex Q cells slots sh h tgt L st) (kB : B = r → PW g X ex Q cells slots sh h n L st) : PW g X ex Q cells slots sh h pc L (.int y :: .int x :: st) := by
  obtain ⟨hd, rfl, ht⟩ := hd
  exact fun H locs ls hH hS hL => lv_icmp_le cx.1 cx.2.1 hd ht (fun c0 => kA (by rw [if_pos c0] at hf; exact hf) H locs ls hH hS hL) (fun c0 => kB (by rw [if_neg c0] at hf; exact hf) H locs ls hH hS hL)
/-! ===== fields ===== -/
def FL (own : String) (idx ci k : Nat) : Prop := ∃ (C : String) (T : u_T) (N : Nat), clX[ci]? = some (C, T, N) ∧ k < N ∧ (T k).1 = C ∧ (Cond.fieldLink own idx C (T k).2.1 (T k).2.2.1 ∈ TG ∨ ∃ host, Cond.fieldLinkNest own idx C (T k).2.1 (T k).2.2.1 host ∈ NT)
theorem HOK.one {k : Nat} {c : Shp} {H : Heap} (P : HOK g ex sh h H) (hk : sh[k]? = some c) : va_P (gD g) clX [(gB g + k, conc g c (rd h k))] H := by
  intro j q hj
  have h0 : j < 1 := (List.getElem?_eq_some_iff.mp hj).1
  rw [show j = 0 by omega] at hj
  cases hj
  exact P.1 k c hk
theorem PW.getf {a idx ci k : Nat} {ts : List SlT} {t : SlT} {v : Value} (cx : Cx g X own b) (hd : Dx b pc (.getfield idx) 3 n) (hsh : sh[a]? = some (.inl (ci, ts))) (ht : ts[k]? = some t) (hl : FL own idx ci k) (hv : slv g t (rd h a k) = v) (kk : PW g X ex Q cells slots sh h n L (v :: st)) : PW g X ex Q cells slots sh h pc L (.ref (gB g + a) :: st) := by
  obtain ⟨hd, rfl⟩ := hd
  obtain ⟨C, T, N, hc, hk, hCC, hlink⟩ := hl
  subst hv
  intro H locs ls hH hS hL
  have hP := hH.one hsh
  have hv : (slvs g (rd h a) 0 ts)[k]? = some (slv g t (rd h a k)) := by
    have := slvs_get g (rd h a) ts 0 k t ht
    rwa [Nat.zero_add] at this
  rcases hlink with hlink | ⟨host, hlink⟩
  · exact va_get (ref := C) cx.1 cx.2.1 cx.2.2.2.1 (cls_in ci _ hc) cx.2.2.1 cx.2.2.2.2.1.1 hP 0 rfl hc k hk (cx.2.2.2.1 _ hlink) (by rw [hCC]; exact fun _ h => h) hv hd (kk H locs ls hH hS hL)
  · exact va_getN (ref := C) cx.1 cx.2.1 cx.2.2.2.1 (cls_in ci _ hc) cx.2.2.1 cx.2.2.2.2.1.1 hP 0 rfl hc k hk (Cx.nt cx hlink) (by rw [hCC]; exact fun _ h => h) hv hd (kk H locs ls hH hS hL)
/-- a field that may be put: what the tables say of it -/
def FP (own : String) (idx ci k : Nat) (ty : FieldType) : Prop := FL own idx ci k ∧ ∀ (C : String) (T : u_T) (N : Nat), clX[ci]? = some (C, T, N) → (T k).2.2.2 = false ∧ parseFieldDescriptor (T k).2.2.1 = some ty
theorem PW.putfV {a idx ci k : Nat} {ts : List SlT} {t : SlT} {v : Value} {x : Int32} {ty : FieldType} (cx : Cx g X own b) (hd : Dx b pc (.putfield idx) 3 n) (hsh : sh[a]? = some (.inl (ci, ts))) (ht : ts[k]? = some t) (hl : FP own idx ci k ty) (hn : narrow ty v = v) (hfit : fits ty v = true) (hv : slv g t x = v) (kk : PW g X ex Q cells slots sh (up2 h a k x) n L st) : PW g X ex Q cells slots sh h pc L (v :: .ref (gB g + a) :: st) := by
  obtain ⟨hd, rfl⟩ := hd
  obtain ⟨⟨C, T, N, hc, hk, hCC, hlink⟩, hfp⟩ := hl
  obtain ⟨hfin, hdsc⟩ := hfp C T N hc
  subst hv
  intro H locs ls hH hS hL
  obtain ⟨ty0, hty, hnm⟩ := cls_ty ci _ hc
  have hin := cls_in ci _ hc
  have hts := cx.2.2.2.1
  have hK := cx.2.2.2.2.1.1
  have hap := va_apart (own := own) hts hin ty0 hty hnm hK hc
  obtain ⟨r, h1, cell, q1, q2, q3, q4⟩ := hH.1 a _ hsh
  have hr : r = (C, T, N) := Option.some.inj (h1.symm.trans hc)
  subst hr
  obtain ⟨hS', hfc, kC, hkC, hkind⟩ := hK.1 ci _ hc
  obtain ⟨cf, kf, fi, f, hi, hsl⟩ := hS' k hk
  have hlay := hts _ (hin _ (u_in_lay hk))
  unfold u_lay at hlay
  rw [if_neg (by rw [hfin]; decide)] at hlay
  have hst := (u_facts hfc hkC (u_lays hts hin hk) hi).1
  have h6 := u_store hfc hkC hkind hlay hi hdsc hn hfit
  have hi' : X.2.2.2.1.fieldFound? C (T k).2.1 (T k).2.2.1 = some (cf, kf, fi, f) := by rw [← hCC]; exact hi
  have hlen : k < (slvs g (rd h a) 0 ts).length := by rw [slvs_len]; exact (List.getElem?_eq_some_iff.mp ht).1
  have fin : ∀ (H' : Heap), H'[gB g + a]? = some (cell.setSlot f.slot (slv g t x)) → H'.size = H.size → (∀ q, q ≠ gB g + a → H'[q]? = H[q]?) → WX g X H' (locs ++ [⟨gB g + a, f.slot⟩]) cells slots Q (F0 X.2.2.2.2.1 (pc + 3) ls st) := by
    intro H' e1 e2 e3
    rw [hsl] at e1 ⊢
    refine kk H' _ ls (hH.set hsh ?_ e2 e3) (hS.put e2 e3 (Nat.le_add_right _ _)) hL
    refine ⟨_, hc, ?_⟩
    have e9 : slvs g (upd (rd h a) k x) 0 ts = (slvs g (rd h a) 0 ts).set k (slv g t x) := by
      have := slvs_upd g (rd h a) x ts 0 k t ht
      rwa [Nat.zero_add] at this
    show t_OB (gB g + a) ((gD g).1 ci) N ((gD g).2 ci) H' (vp_V (slvs g (upd (rd h a) k x) 0 ts))
    rw [e9]
    exact t_OB.to (V := updV (vp_V (slvs g (rd h a) 0 ts)) k (slv g t x)) ⟨_, e1, q2, q3, t_set q4 hap hk (slv g t x)⟩ (fun j _ => vp_updV_set hlen (slv g t x) j)
  rcases hlink with hlink | ⟨host, hlink⟩
  · exact W.putK cx.1 cx.2.1 (f := f) ⟨cx.2.2.1, hts _ hlink, ⟨_, _, _, hi'⟩, hst⟩ (by rw [q2]; exact h6) q1 q3 (by rw [hsl]; exact k2_hasslot (q4 k hk)) rfl rfl hd fin
  · exact va_WputK cx.1 cx.2.1 (f := f) cx.2.2.1 (Cx.nt cx hlink) hi' hst (by rw [q2]; exact h6) q1 q3 (by rw [hsl]; exact k2_hasslot (q4 k hk)) rfl rfl hd fin
theorem PW.puti {a idx ci k : Nat} {ts : List SlT} {x : Int32} {j : Nat} (cx : Cx g X own b) (hd : Dx b pc (.putfield idx) 3 n) (hsh : sh[a]? = some (.inl (ci, ts))) (ht : ts[k]? = some (0, j)) (hl : FP own idx ci k .int) (kk : PW g X ex Q cells slots sh (up2 h a k x) n L st) : PW g X ex Q cells slots sh h pc L (.int x :: .ref (gB g + a) :: st) :=
  PW.putfV cx hd hsh ht hl rfl rfl rfl kk
/-! ===== arrays ===== -/
def rdO (N : Nat) (f : Nat → Int32) (i : Int32) : Option Int32 := if i < 0 ∨ N ≤ i.toNatClampNeg then none else some (f i.toNatClampNeg)
noncomputable def wrO (h : Hp) (k N : Nat) (i x : Int32) : Option Hp := if i < 0 ∨ N ≤ i.toNatClampNeg then none else some (up2 h k i.toNatClampNeg x)
theorem PW.iald {a N : Nat} {i : Int32} {ρ : Type} {F : Int32 → Option ρ} {r : Option ρ} (cx : Cx g X own b) (hd : Dx b pc .iaload 1 n) (hsh : sh[a]? = some (.inr (0, N, []))) (hf : (rdO N (rd h a) i).bind F = r) (hr : r ≠ none) (k : ∀ z : Int32, F z = r → PW g X ex Q cells slots sh h n L (.int z :: st)) : PW g X ex Q cells slots sh h pc L (.int i :: .ref (gB g + a) :: st) := by
  obtain ⟨hd, rfl⟩ := hd
  by_cases hy : i < 0 ∨ N ≤ i.toNatClampNeg
  · simp [rdO, hy] at hf
    exact absurd hf.symm hr
  · simp only [rdO, if_neg hy, Option.bind_some] at hf
    exact fun H locs ls hH hS hL => va_iald cx.1 cx.2.1 cx.2.2.2.2.1.1 (hH.one hsh) 0 0 rfl rfl hy hd (k _ hf H locs ls hH hS hL)
theorem PW.bald {a N : Nat} {i : Int32} {ρ : Type} {F : Int32 → Option ρ} {r : Option ρ} (cx : Cx g X own b) (hd : Dx b pc .baload 1 n) (hsh : sh[a]? = some (.inr (1, N, []))) (hf : (rdO N (rd h a) i).bind F = r) (hr : r ≠ none) (k : ∀ z : Int32, F z = r → PW g X ex Q cells slots sh h n L (.int z :: st)) : PW g X ex Q cells slots sh h pc L (.int i :: .ref (gB g + a) :: st) := by
  obtain ⟨hd, rfl⟩ := hd
  by_cases hy : i < 0 ∨ N ≤ i.toNatClampNeg
  · simp [rdO, hy] at hf
    exact absurd hf.symm hr
  · simp only [rdO, if_neg hy, Option.bind_some] at hf
    exact fun H locs ls hH hS hL => va_bald cx.1 cx.2.1 cx.2.2.2.2.1.1 (hH.one hsh) 0 1 rfl rfl hy hd (k _ hf H locs ls hH hS hL)
theorem PW.iast {a N : Nat} {i x : Int32} {ρ : Type} {F : Hp → Option ρ} {r : Option ρ} (cx : Cx g X own b) (hd : Dx b pc .iastore 1 n) (hsh : sh[a]? = some (.inr (0, N, []))) (hf : (wrO h a N i x).bind F = r) (hr : r ≠ none) (k : ∀ h' : Hp, F h' = r → PW g X ex Q cells slots sh h' n L st) : PW g X ex Q cells slots sh h pc L (.int x :: .int i :: .ref (gB g + a) :: st) := by
  obtain ⟨hd, rfl⟩ := hd
  by_cases hy : i < 0 ∨ N ≤ i.toNatClampNeg
  · simp [wrO, hy] at hf
    exact absurd hf.symm hr
  · simp only [wrO, if_neg hy, Option.bind_some] at hf
    intro H locs ls hH hS hL
    have hP := hH.one hsh
    refine W.iast cx.1 cx.2.1 (hP 0 _ rfl) ((cx.2.2.2.2.1.1.2 0 _ rfl).1 N (fun j => .int (rd h a j))) (fun q => by cases q) (by show ¬ (i < 0 ∨ (arrV _ _ _).slots.size ≤ _); rw [arrV_size]; exact hy) rfl rfl hd fun H1 e z oq => ?_
    refine k _ hf H1 _ ls (hH.set hsh ?_ z oq) (hS.put z oq (Nat.le_add_right _ _)) hL
    show H1[gB g + a]? = some (vp_cell _ _)
    rw [e]
    show some ((vp_cell (gc g 0) (N, .inl (rd h a))).setSlot _ _) = some (vp_cell (gc g 0) (N, .inl (upd (rd h a) i.toNatClampNeg x)))
    rw [vp_cell_i, vp_cell_i, arrV_store]
    congr 2
    funext q
    by_cases hq : q = i.toNatClampNeg
    · subst hq
      simp [updV, upd]
    · simp [updV, upd, hq]
end PWrows
