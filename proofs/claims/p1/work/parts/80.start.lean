/-! ===== p1: the walk of the law's body ===== -/
theorem whole_start {p : Program} {e : Env} {s : State} {m : MethodId} {below : List Frame} {meth : Method} {c : Code} (l : Launch) (hflags : l.flags = flags0) {b L : Nat} {xs : Nat → Int32} (hL : L ≤ 6) (C0 : lw_At p s m meth c b L xs) : W p l e room_1 s m #[Value.ref b] below meth c s.heap [] 0 0 (lw_Z below #[Value.ref b] s) (entryFrame m ([Value.ref b] : List Value).toArray 9) :=
  whole_of 6 (Nat.le_refl _) (fun j h => j = 0 → h = HM) (fun _ => rfl) (fun j h hj hI k hk a1 a2 a3 a4 a5 => by
    obtain rfl : j = 0 := by omega
    obtain rfl := hI rfl
    obtain ⟨r, hr⟩ := Option.isSome_iff_exists.mp (step_all k hk a1 a2 a3 a4 a5)
    exact ⟨r, hr, fun q => by cases q⟩) l hflags hL C0
