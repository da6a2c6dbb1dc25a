theorem whole_start {p : Program} {e : Env} {s : State} {m : MethodId} {below : List Frame} {meth : Method} {c : Code} (l : Launch) (hflags : l.flags = flags0) {b L : Nat} {xs : Nat → Int32} (hL : L ≤ 260) (C0 : lw_At p s m meth c b L xs) : W p l e room_1 s m #[Value.ref b] below meth c s.heap [] 0 0 (lw_Z below #[Value.ref b] s) (entryFrame m ([Value.ref b] : List Value).toArray 8) :=
  whole_of Inv Inv_HC (holds_true Ary_HC) (fun k c h hk H => step_y k c hk H) (fun h a b H ha hb => by
    obtain ⟨I, e, c, ring⟩ := H
    exact isSame_y I ring (by omega) (by omega) (by omega) (by omega)) l hflags hL C0
