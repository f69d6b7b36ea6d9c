/-! the way from the machine to the plain reading, whatever the tables hold before anything is made -/
theorem z_bridge2 {I0 : z_I} {R0 : z_R} {J0 : z_J} {F0 : z_F} {p : Program} {e : Env} {s : State} {m : MethodId} {below : List Frame} {meth : Method} {c : Code} (l : Launch) {b L : Nat} {xs : Nat → Int32} (hL : L ≤ 3072) (C0 : lw_At p s m meth c b L xs)
    (hW : z_WP (z_X0 L xs) z_P0 60 m_Law_law 0 (z_ent 4 [.retAddr 1]) [] I0 R0 J0 F0 0 0 0 (fun v _ _ _ _ _ => v = some (.int 1))) :
    W p l e room_1 s m #[Value.ref b] below meth c s.heap [] 0 0 (lw_Z below #[Value.ref b] s) (entryFrame m ([Value.ref b] : List Value).toArray 4) := by
  obtain ⟨hx, hb, hr, hml, hown, hts, hX, hbl, hlocks, hgv⟩ := C0
  have htb : ∀ w ∈ z_tb, w.before #[Value.ref b] s = true := fun w hw => hts w (List.mem_filter.mp hw).1
  obtain ⟨ex, he1, hE⟩ := z_ex_start hts hgv hX hbl hL
  obtain ⟨D, cA, hK⟩ := z_K_start htb
  have hS := hW (z_S l D cA s.heap.size ex L xs) z_S_mo z_S_cl
  have hl := lv_entry ([.ref b]) (n := 4) (Nat.le_of_ble_eq_true rfl)
  rw [lg_entry_eq]
  generalize (lg_sl ([.ref b]) ++ List.replicate (4 - (lg_sl ([.ref b])).length) Slot.unset).toArray = ls at hl ⊢
  have hl : lv_has ls 4 [(0, .ref b)] := hl
  refine hS p e room_1 s m _ below meth c s.heap [] ls _ (fun i => i) (fun i => i) 0 ⟨hx, hb, hml, hown, htb, fun h => absurd h (by decide), hK, hE, Nat.le_refl _, by decide, by decide, by decide, by decide, by decide⟩ ⟨fun k q h => by simp [z_w] at h, fun i j p q h => by simp [z_w] at h, fun k q h => by simp [z_w] at h⟩ va_S.rf ?_ ⟨fun v hv => (by cases hv), ?_, fun i k h => absurd h (Nat.not_lt_zero _)⟩ ⟨Nat.le_refl _, fun _ _ => rfl⟩ (Nat.zero_le _) (Nat.zero_le _) ?_
  · refine z_lv_mono hl fun q hq => ?_
    have hq : q ∈ [(0, ex 1)] := hq
    rw [he1] at hq
    exact hq
  · intro i v h
    match i, h with
    | 0, h => cases h; trivial
    | 1, h => cases h
    | 2, h => cases h
    | 3, h => cases h
    | _ + 4, h => cases h
  · intro v I R J F cn uc us H locs ls' pc ad hq hHR hS' hv hR hG huc hus hrok
    subst hq
    refine va_forget (fun q hq => hS'.2.2 q hq) ?_
    refine W.widen huc hus ?_
    exact lw_ret (d0 := s.drawn) (Drawn.sameBut.refl s.drawn lw_cs) hx hb hr hlocks hrok.2
