/-! ===== the walk of the law's body ===== -/
theorem whole_start {p : Program} {e : Env} {s : State} {m : MethodId} {below : List Frame} {meth : Method} {c : Code} (l : Launch) (hflags : l.flags = flags0) {b L : Nat} {xs : Nat → Int32} (hL : L ≤ 3072) (C0 : lw_At p s m meth c b L xs) : W p l e room_1 s m #[Value.ref b] below meth c s.heap [] 0 0 (lw_Z below #[Value.ref b] s) (entryFrame m ([Value.ref b] : List Value).toArray 9) :=
  whole_of 3072 (Nat.le_refl _) (fun _ h => Iv h) Iv_HM (fun _ _ _ hI k hk a1 a2 a3 a4 a5 => step_all hI k hk a1 a2 a3 a4 a5) l hflags hL C0
