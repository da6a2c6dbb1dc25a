/-! ===== loops; the archive of the class: what holds of its rows; reads ===== -/
set_option maxRecDepth 16384 in
theorem loopI {β σ : Type} (F : Nat → σ → Nat → Option β) (N : Nat) (I : σ → Nat → Prop) (P : β → Prop) (hs : ∀ (n : Nat) (s : σ) (v : Nat), v ≤ N → I s v → (∃ r, F (n + 1) s v = some r ∧ P r) ∨ (v < N ∧ ∃ s', I s' (v + 1) ∧ F (n + 1) s v = F n s' (v + 1))) : ∀ (n : Nat) (s : σ) (v : Nat), v ≤ N → N - v < n → I s v → ∃ r, F n s v = some r ∧ P r
  | 0, _, _, _, hn, _ => absurd hn (Nat.not_lt_zero _)
  | n + 1, s, v, hv, hn, hi => by
    rcases hs n s v hv hi with ⟨r, e, p⟩ | ⟨hl, s', hi', e⟩
    · exact ⟨r, e, p⟩
    · obtain ⟨r, e', p⟩ := loopI F N I P hs n s' (v + 1) (by omega) (by omega) hi'
      exact ⟨r, e.trans e', p⟩
set_option maxRecDepth 16384 in
theorem loop0 {β σ : Type} (F : Nat → σ → Nat → Option β) (N : Nat) (I : σ → Nat → Prop) (P : β → Prop) (hN : N ≤ 1000000) (hs : ∀ (n : Nat) (s : σ) (v : Nat), v ≤ N → I s v → (∃ r, F (n + 1) s v = some r ∧ P r) ∨ (v < N ∧ ∃ s', I s' (v + 1) ∧ F (n + 1) s v = F n s' (v + 1))) (s : σ) (hi : I s 0) : ∃ r, F FU s 0 = some r ∧ P r :=
  loopI F N I P hs FU s 0 (Nat.zero_le _) (by unfold FU; omega) hi
set_option maxRecDepth 16384 in
theorem bO {α β : Type} {x : Option α} {r : α} (e : x = some r) (F : α → Option β) : x.bind F = F r := by rw [e]; rfl
def Sc (n : Nat) (x : Int32) : Prop := ∃ k, k ≤ n ∧ x = nI k
def Bv (x : Int32) : Prop := x = -1 ∨ x = -2 ∨ ∃ k, k < 12 ∧ x = nI k
def Bd (f : Nat → Int32) : Prop := ∀ i, i < 36 → Bv (f i)
def Arc (h : Hp) (a : Nat) : Prop := Sc 12 (rd h a 5) ∧ Sc 4 (rd h a 12) ∧ Sc 5 (rd h a 15) ∧ Sm 12 8 (rd h (a + 1)) ∧ Sm 96 9 (rd h (a + 2)) ∧ Sm 12 996 (rd h (a + 3)) ∧ Sm 12 99 (rd h (a + 5)) ∧ Sm 4 9 (rd h (a + 7)) ∧ Bd (rd h (a + 8))
set_option maxRecDepth 16384 in
theorem Arc.cg {h h' : Hp} {a : Nat} (I : Arc h a) (e : ∀ k, a ≤ k → k < a + 11 → rd h' k = rd h k) : Arc h' a := by
  unfold Arc at I ⊢
  rw [e a (by omega) (by omega), e (a + 1) (by omega) (by omega), e (a + 2) (by omega) (by omega), e (a + 3) (by omega) (by omega), e (a + 5) (by omega) (by omega), e (a + 7) (by omega) (by omega), e (a + 8) (by omega) (by omega)]
  exact I
section
variable {h : Hp} {a : Nat}
set_option maxRecDepth 16384 in
theorem Arc.clips (I : Arc h a) : ∃ k, k ≤ 12 ∧ rd h a 5 = nI k := I.1
set_option maxRecDepth 16384 in
theorem Arc.reels (I : Arc h a) : ∃ k, k ≤ 4 ∧ rd h a 12 = nI k := I.2.1
set_option maxRecDepth 16384 in
theorem Arc.scenes (I : Arc h a) : ∃ k, k ≤ 5 ∧ rd h a 15 = nI k := I.2.2.1
set_option maxRecDepth 16384 in
theorem Arc.len (I : Arc h a) : Sm 12 8 (rd h (a + 1)) := I.2.2.2.1
set_option maxRecDepth 16384 in
theorem Arc.cols (I : Arc h a) : Sm 96 9 (rd h (a + 2)) := I.2.2.2.2.1
set_option maxRecDepth 16384 in
theorem Arc.hash (I : Arc h a) : Sm 12 996 (rd h (a + 3)) := I.2.2.2.2.2.1
set_option maxRecDepth 16384 in
theorem Arc.fats (I : Arc h a) : Sm 12 99 (rd h (a + 5)) := I.2.2.2.2.2.2.1
set_option maxRecDepth 16384 in
theorem Arc.beds (I : Arc h a) : Sm 4 9 (rd h (a + 7)) := I.2.2.2.2.2.2.2.1
set_option maxRecDepth 16384 in
theorem Arc.bed (I : Arc h a) : Bd (rd h (a + 8)) := I.2.2.2.2.2.2.2.2
set_option maxRecDepth 16384 in
theorem r12 {k c : Nat} (hc : c < 12) : rdO 12 (rd h k) (nI c) = some (rd h k c) := rdO_in hc (by decide)
set_option maxRecDepth 16384 in
theorem r4 {k c : Nat} (hc : c < 4) : rdO 4 (rd h k) (nI c) = some (rd h k c) := rdO_in hc (by decide)
set_option maxRecDepth 16384 in
theorem r5 {k c : Nat} (hc : c < 5) : rdO 5 (rd h k) (nI c) = some (rd h k c) := rdO_in hc (by decide)
set_option maxRecDepth 16384 in
theorem nI_ix9 (r b : Nat) : nI r * 9 + nI b = nI (r * 9 + b) := by
  rw [show (9 : Int32) = nI 9 from rfl, pk_mul, nI_add]
set_option maxRecDepth 16384 in
theorem coloursOf_ok (I : Arc h a) {c : Nat} (hc : c < 12) : ∃ v, A_coloursOf h a (nI c) = some v := by
  obtain ⟨l, hl, el⟩ := I.len c hc
  obtain ⟨r, e, -⟩ := loop0 (fun n s v => A_coloursOf_L4 h a (nI c) n s (nI v)) 8 (fun _ _ => True) (fun _ => True) (by decide) (fun n s v hv _ => by
    rw [A_coloursOf_L4, r12 hc, Option.bind_some, el]
    by_cases q : l ≤ v
    · exact Or.inl ⟨_, if_pos (nI_le q (by omega)), trivial⟩
    · obtain ⟨k, hk, ek⟩ := colourAt_ok (a := a) (c := c) (i := v) I.cols (by omega)
      rw [if_neg (nI_ge (by omega) (by omega)), ek, Option.bind_some, nI_1]
      exact Or.inr ⟨by omega, _, trivial, rfl⟩) 0 trivial
  exact ⟨r, by unfold A_coloursOf; exact bO e _⟩
end
