/-- the law's run on the machine out of the plain reading of its code -/
theorem z_K_start {args : Array Value} {s : State} (hts : ∀ w ∈ z_tb, w.before args s = true) : ∃ (D : va_G) (cA : Nat → ClassId), va_K D z_cl (z_tys cA) s := by
  have h : ∀ ci : Nat, ∃ d : ClassId × (Nat → Nat), ∀ q, z_cl[ci]? = some q → u_Kn s q.1 q.2.1 q.2.2 d.1 d.2 := by
    intro ci
    cases hc : z_cl[ci]? with
    | none => exact ⟨(0, fun _ => 0), fun q hq => by cases hq⟩
    | some q =>
      obtain ⟨cC, iS, hk⟩ := u_known hts (z_hin ci q hc) (hts _ (z_ic ci q hc).1)
      exact ⟨(cC, iS), fun q' hq => by cases hq; exact hk⟩
  obtain ⟨c1, k1, m1, f1, g1, i1⟩ := Cond.arrayClass_spec (hts _ z_ac1)
  obtain ⟨c2, k2, m2, f2, g2, i2⟩ := Cond.arrayClass_spec (hts _ z_ac2)
  obtain ⟨c3, k3, m3, f3, g3, i3⟩ := Cond.arrayClass_spec (hts _ z_ac3)
  obtain ⟨c4, k4, m4, f4, g4, i4⟩ := Cond.arrayClass_spec (hts _ z_ac4)
  refine ⟨(fun ci => (Classical.choose (h ci)).1, fun ci => (Classical.choose (h ci)).2), fun k => if k = 1 then c1 else if k = 2 then c2 else if k = 3 then c3 else c4, fun c q hq => Classical.choose_spec (h c) q hq, fun k q hk => ?_⟩
  match k, hk with
  | 0, hk => cases hk; exact ⟨fun n z => ⟨fun k h => (by cases h), k1, g1, m1, i1⟩, f1⟩
  | 1, hk => cases hk; exact ⟨fun n z => ⟨fun k h => (by cases h), k2, g2, m2, i2⟩, f2⟩
  | 2, hk => cases hk; exact ⟨fun n z => ⟨fun k h => (by cases h), k3, g3, m3, i3⟩, f3⟩
  | 3, hk => cases hk; exact ⟨fun n z => ⟨fun k h => (by cases h), k4, g4, m4, i4⟩, f4⟩
  | _ + 4, hk => cases hk
theorem z_bridge {p : Program} {e : Env} {s : State} {m : MethodId} {below : List Frame} {meth : Method} {c : Code} (l : Launch) {b L : Nat} {xs : Nat → Int32} (hL : L ≤ 3072) (C0 : lw_At p s m meth c b L xs)
    (hW : z_WP (z_X0 L xs) z_P0 60 m_Law_law 0 (z_ent 4 [.retAddr 1]) [] (fun _ _ => 0) (fun _ _ => .null) (fun _ _ => 0) (fun _ _ => 0) 0 0 0 (fun v _ _ _ _ _ => v = some (.int 1))) :
    W p l e room_1 s m #[Value.ref b] below meth c s.heap [] 0 0 (lw_Z below #[Value.ref b] s) (entryFrame m ([Value.ref b] : List Value).toArray 4) := by
  obtain ⟨hx, hb, hr, hml, hown, hts, hX, hbl, hlocks, hgv⟩ := C0
  have htb : ∀ w ∈ z_tb, w.before #[Value.ref b] s = true := fun w hw => hts w (List.mem_filter.mp hw).1
  obtain ⟨ex, he1, hE⟩ := z_ex_start hts hgv hX hbl hL
  obtain ⟨D, cA, hK⟩ := z_K_start htb
  have hS := hW (z_S l D cA s.heap.size ex L xs) z_S_mo z_S_cl
  have hl := lv_entry ([.ref b]) (n := 4) (Nat.le_of_ble_eq_true rfl)
  rw [lg_entry_eq]
  generalize (lg_sl ([.ref b]) ++ List.replicate (4 - (lg_sl ([.ref b])).length) Slot.unset).toArray = ls at hl ⊢
  have hl : lv_has ls 4 [(0, .ref b)] := hl
  refine hS p e room_1 s m _ below meth c s.heap [] ls _ (fun i => i) (fun i => i) 0 ⟨hx, hb, hml, hown, htb, fun h => absurd h (by decide), hK, hE, Nat.le_refl _, by decide, by decide, by decide, by decide, by decide⟩ ⟨fun k q h => by simp [z_w] at h, fun i j p q h => by simp [z_w] at h, fun k q h => by simp [z_w] at h⟩ va_S.rf ?_ ⟨fun v hv => (by cases hv), ?_, fun i k h => absurd h (Nat.not_lt_zero _)⟩ ⟨Nat.le_refl _, fun _ _ => rfl⟩ (Nat.zero_le _) (Nat.zero_le _) ?_
  · refine z_lv_mono hl fun q hq => ?_
    have hq : q ∈ [(0, ex 1)] := hq
    rw [he1] at hq
    exact hq
  · intro i v h
    match i, h with
    | 0, h => cases h; trivial
    | 1, h => cases h
    | 2, h => cases h
    | 3, h => cases h
    | _ + 4, h => cases h
  · intro v I R J F cn uc us H locs ls' pc ad hq hHR hS' hv hR hG huc hus hrok
    subst hq
    refine va_forget (fun q hq => hS'.2.2 q hq) ?_
    refine W.widen huc hus ?_
    exact lw_ret (d0 := s.drawn) (Drawn.sameBut.refl s.drawn lw_cs) hx hb hr hlocks hrok.2
