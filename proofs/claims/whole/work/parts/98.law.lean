/-- the law, from its entry -/
theorem whole_start {p : Program} {e : Env} {s : State} {m : MethodId} {below : List Frame} {meth : Method} {c : Code} (l : Launch) {b L : Nat} {xs : Nat → Int32} (hL : L ≤ 3072) (C0 : lw_At p s m meth c b L xs) : W p l e room_1 s m #[Value.ref b] below meth c s.heap [] 0 0 (lw_Z below #[Value.ref b] s) (entryFrame m ([Value.ref b] : List Value).toArray 4) :=
  z_bridge2 (I0 := fun _ _ => 0) (R0 := z_R0 .null .null (.retAddr 2)) (J0 := fun _ _ => 0) (F0 := fun _ _ => 0) l hL C0 (z_law2 hL (fun _ _ _ _ _ => rfl))
