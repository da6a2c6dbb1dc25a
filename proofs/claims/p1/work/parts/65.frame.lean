/-! ===== what the copies of the model leave as it was ===== -/
set_option maxRecDepth 16384 in
theorem rdO_in {N v : Nat} {f : Nat → Int32} (hv : v < N) (hN : N < 2 ^ 31) : rdO N f (nI v) = some (f v) := by
  unfold rdO
  rw [if_neg (nI_in hv hN), nI_clamp (by omega)]
set_option maxRecDepth 16384 in
theorem wrO_in {h : Hp} {k N v : Nat} {x : Int32} (hv : v < N) (hN : N < 2 ^ 31) : wrO h k N (nI v) x = some (up2 h k v x) := by
  unfold wrO
  rw [if_neg (nI_in hv hN), nI_clamp (by omega)]
set_option maxRecDepth 16384 in
theorem begins_L : ∀ (n v : Nat) (h : Hp), v ≤ 106 → 106 - v < n → ∃ h', M_begins_L2 n (nI v) h = some h' ∧ ∀ k, k ≠ 142 → rd h' k = rd h k
  | 0, v, h, _, hn => absurd hn (Nat.not_lt_zero _)
  | n + 1, v, h, hv, hn => by
    unfold M_begins_L2
    by_cases e : v = 106
    · subst e
      exact ⟨h, if_pos (by decide), fun _ _ => rfl⟩
    · rw [if_neg (fun q => by have := (nI_leI (a := 106) (by decide) (by omega)).mp q; omega), rdO_in (by omega) (by decide), Option.bind_some, wrO_in (by omega) (by decide), Option.bind_some, nI_1]
      obtain ⟨h', e1, e2⟩ := begins_L n (v + 1) (up2 h 142 v (rd h 141 v)) (by omega) (by omega)
      exact ⟨h', e1, fun k hk => (e2 k hk).trans (rd_up2_ne hk)⟩
set_option maxRecDepth 16384 in
theorem begins_ok (h : Hp) : ∃ h', M_begins h = some h' ∧ ∀ k, k ≠ 142 → rd h' k = rd h k := by
  obtain ⟨h', e1, e2⟩ := begins_L FU 0 h (by omega) (by unfold FU; omega)
  refine ⟨h', ?_, e2⟩
  unfold M_begins
  rw [show (0 : Int32) = nI 0 from rfl, e1]
  rfl
set_option maxRecDepth 16384 in
theorem remember_L (c : Nat) (hc : c < 8) : ∀ (n v : Nat) (h : Hp), rd h 140 5 = nI c → v ≤ 106 → 106 - v < n → ∃ h', M_remember_L52 n (nI v) h = some h' ∧ ∀ k, k ≠ 144 → rd h' k = rd h k
  | 0, v, h, _, _, hn => absurd hn (Nat.not_lt_zero _)
  | n + 1, v, h, hr, hv, hn => by
    unfold M_remember_L52
    by_cases e : v = 106
    · subst e
      exact ⟨h, if_pos (by decide), fun _ _ => rfl⟩
    · have em : (106 : Int32) * nI c + nI v = nI (106 * c + v) := by
        rw [show (106 : Int32) = nI 106 from rfl, ← nI_add]
        congr 1
        exact (Int32.ofNat_mul 106 c).symm
      rw [if_neg (fun q => by have := (nI_leI (a := 106) (by decide) (by omega)).mp q; omega), rdO_in (by omega) (by decide), Option.bind_some, hr, em, wrO_in (by omega) (by decide), Option.bind_some, nI_1]
      obtain ⟨h', e1, e2⟩ := remember_L c hc n (v + 1) (up2 h 144 (106 * c + v) (rd h 142 v)) (by rw [rd_up2_ne (by decide)]; exact hr) (by omega) (by omega)
      exact ⟨h', e1, fun k hk => (e2 k hk).trans (rd_up2_ne hk)⟩
set_option maxRecDepth 16384 in
theorem remember_ok {c : Nat} (hc : c < 8) {h : Hp} (hr : rd h 140 5 = nI c) (t : Int32) : ∃ h', M_remember h t = some (t, h') ∧ (∀ k, k ≠ 144 → k ≠ 140 → rd h' k = rd h k) ∧ rd h' 140 = upd (rd h 140) 5 (nI (c + 1)) := by
  obtain ⟨h', e1, e2⟩ := remember_L c hc FU 0 h hr (by omega) (by unfold FU; omega)
  refine ⟨up2 h' 140 5 (rd h' 140 5 + 1), ?_, fun k h1 h2 => (rd_up2_ne h2).trans (e2 k h1), ?_⟩
  · unfold M_remember
    dsimp only [lt]
    rw [if_neg, show (0 : Int32) = nI 0 from rfl, e1]
    · rfl
    · rw [hr]
      intro q
      have := (nI_eq (b := 8) (by omega) (by decide)).mp q
      omega
  · rw [rd_up2_self, e2 140 (by decide), hr, nI_1]
