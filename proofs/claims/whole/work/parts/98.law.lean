theorem z_law {L : Nat} {xs : Nat → Int32} (hL : L ≤ 3072) : z_WP (z_X0 L xs) z_P0 60 m_Law_law 0 (z_ent 4 [.retAddr 1]) [] (fun _ _ => 0) (fun _ _ => .null) (fun _ _ => 0) (fun _ _ => 0) 0 0 0 (fun v _ _ _ _ _ => v = some (.int 1)) := by
  sorry
/-- the law, from its entry -/
theorem whole_start {p : Program} {e : Env} {s : State} {m : MethodId} {below : List Frame} {meth : Method} {c : Code} (l : Launch) {b L : Nat} {xs : Nat → Int32} (hL : L ≤ 3072) (C0 : lw_At p s m meth c b L xs) : W p l e room_1 s m #[Value.ref b] below meth c s.heap [] 0 0 (lw_Z below #[Value.ref b] s) (entryFrame m ([Value.ref b] : List Value).toArray 4) := z_bridge l hL C0 (z_law hL)
