/-! a try of the class, whole -/
section
variable {L : Nat} {xs : Nat → Int32} {d : Nat} {kp sp wd : Value} {I : z_I} {s : z_sg} {R : z_R} {J : z_J} {F : z_F} {cn : Nat} {Q : z_Q} {n k bus : Nat} {f0 : Int32}
theorem cm_max {a b : Int32} {I : z_I} {R : z_R} (hQ : Q (some (.int (if b ≤ a then a else b))) I R J F cn) : z_M (z_X0 L xs) z_P0 d m_Math_max [.int a, .int b] I R J F cn Q := by
  refine z_WP_gos [] 1000 fun K C hK hC => ?_
  conv => whnf
  refine ⟨fun h => ?_, fun h => ?_⟩
  · conv => whnf
    first
      | (rw [if_neg (Int32.not_le.mpr h)] at hQ; exact hQ)
      | (rw [if_pos h] at hQ; exact hQ)
      | (rw [if_neg h] at hQ; exact hQ)
  · conv => whnf
    first
      | (rw [if_pos (Int32.not_lt.mp h)] at hQ; exact hQ)
      | (rw [if_neg h] at hQ; exact hQ)
      | (rw [if_pos h] at hQ; exact hQ)
theorem cm_min {a b : Int32} {I : z_I} {R : z_R} (hQ : Q (some (.int (if a ≤ b then a else b))) I R J F cn) : z_M (z_X0 L xs) z_P0 d m_Math_min [.int a, .int b] I R J F cn Q := by
  refine z_WP_gos [] 1000 fun K C hK hC => ?_
  conv => whnf
  refine ⟨fun h => ?_, fun h => ?_⟩
  · conv => whnf
    first
      | (rw [if_neg (Int32.not_le.mpr h)] at hQ; exact hQ)
      | (rw [if_pos h] at hQ; exact hQ)
      | (rw [if_neg h] at hQ; exact hQ)
  · conv => whnf
    first
      | (rw [if_pos (Int32.not_lt.mp h)] at hQ; exact hQ)
      | (rw [if_neg h] at hQ; exact hQ)
      | (rw [if_pos h] at hQ; exact hQ)
theorem wR_slot {I' : z_I} {took : Int32} {w : Nat → Int32} (hb : bus < 2) (hk : k < 2 ^ 30) (h : wR I w n k)
    (h11 : I' 11 = upd (upd (upd (I 11) (bus * 6 + 3) (I 11 (bus * 6 + 3) + nI 1)) (bus * 6 + 4) (I 11 (bus * 6 + 4) + took)) (bus * 6 + 5) (if took ≤ I 11 (bus * 6 + 5) then I 11 (bus * 6 + 5) else took))
    (h16 : I' 16 = upd (upd (I 16) 3 (nI ((k + 1) % 40))) 4 (nI (k + 1))) (h17 : I' 17 = upd (I 17) (k % 40) (nI (100 + bus))) (hI : ∀ b, 10 ≤ b → b ≤ 15 → b ≠ 11 → I' b = I b)
    {s' : z_sg} (hs : s' = m_counts ((s.1, s_trails w k (nI (100 + bus)), s.2.2) : z_sg) bus took) : wR I' s'.2.1 n (k + 1) := by
  obtain ⟨⟨a1, a2, a3, a4, a5⟩, b5, ⟨t0, t1, t3, t4, t5, t6⟩⟩ := h
  have i10 := hI 10 (by omega) (by omega) (by omega)
  have i12 := hI 12 (by omega) (by omega) (by omega)
  have i13 := hI 13 (by omega) (by omega) (by omega)
  have i14 := hI 14 (by omega) (by omega) (by omega)
  have i15 := hI 15 (by omega) (by omega) (by omega)
  have o : ∀ j, j ≠ 10 → (j < 2220 ∨ 2260 ≤ j) → j ≠ 2305 + 5 * bus + 2 → j ≠ 2305 + 5 * bus + 3 → j ≠ 2305 + 5 * bus + 4 → s'.2.1 j = w j := fun j h1 h2 h3 h4 h5 => by
    rw [hs]
    show upd (upd (upd (s_trails w k (nI (100 + bus))) (2305 + 5 * bus + 2) _) (2305 + 5 * bus + 2 + 1) _) (2305 + 5 * bus + 2 + 2) _ j = _
    rw [pk_un (by omega), pk_un (by omega), pk_un (by omega), s_trails_o h1 h2]
  have ot : ∀ j, 2220 ≤ j ∧ j < 2260 ∨ j = 10 → s'.2.1 j = s_trails w k (nI (100 + bus)) j := fun j hj => by
    rw [hs]
    show upd (upd (upd (s_trails w k (nI (100 + bus))) (2305 + 5 * bus + 2) _) (2305 + 5 * bus + 2 + 1) _) (2305 + 5 * bus + 2 + 2) _ j = _
    rw [pk_un (by omega), pk_un (by omega), pk_un (by omega)]
  have st : ∀ j, 2305 ≤ j → s_trails w k (nI (100 + bus)) j = w j := fun j hj => s_trails_o (by omega) (by omega)
  have e2 : s'.2.1 (2305 + 5 * bus + 2) = w (2305 + 5 * bus + 2) + nI 1 := by
    rw [hs]
    show upd (upd (upd (s_trails w k (nI (100 + bus))) (2305 + 5 * bus + 2) (s_trails w k (nI (100 + bus)) (2305 + 5 * bus + 2) + nI 1)) (2305 + 5 * bus + 2 + 1) _) (2305 + 5 * bus + 2 + 2) _ (2305 + 5 * bus + 2) = _
    rw [pk_un (by omega), pk_un (by omega), pk_us, st _ (by omega)]
  have e3 : s'.2.1 (2305 + 5 * bus + 3) = w (2305 + 5 * bus + 3) + took := by
    rw [hs]
    show upd (upd (upd (s_trails w k (nI (100 + bus))) (2305 + 5 * bus + 2) _) (2305 + 5 * bus + 2 + 1) (s_trails w k (nI (100 + bus)) (2305 + 5 * bus + 2 + 1) + took)) (2305 + 5 * bus + 2 + 2) _ (2305 + 5 * bus + 3) = _
    rw [pk_un (by omega), pk_us, st _ (by omega)]
  have e4 : s'.2.1 (2305 + 5 * bus + 4) = if took ≤ w (2305 + 5 * bus + 4) then w (2305 + 5 * bus + 4) else took := by
    rw [hs]
    show upd (upd (upd (s_trails w k (nI (100 + bus))) (2305 + 5 * bus + 2) _) (2305 + 5 * bus + 2 + 1) _) (2305 + 5 * bus + 2 + 2) (if took ≤ s_trails w k (nI (100 + bus)) (2305 + 5 * bus + 2 + 2) then s_trails w k (nI (100 + bus)) (2305 + 5 * bus + 2 + 2) else took) (2305 + 5 * bus + 4) = _
    rw [pk_us, st _ (by omega)]
  have hk40 : k % 40 < 40 := Nat.mod_lt _ (by decide)
  have r3 : I 11 (bus * 6 + 3) = w (2305 + 5 * bus + 2) := a2 bus hb 2 (by omega)
  have r4 : I 11 (bus * 6 + 4) = w (2305 + 5 * bus + 3) := a2 bus hb 3 (by omega)
  have r5 : I 11 (bus * 6 + 5) = w (2305 + 5 * bus + 4) := a2 bus hb 4 (by omega)
  refine ⟨⟨fun b hb2 => ?_, fun b hb2 j hj => ?_, fun b hb => ?_, fun b hb => ?_, ?_⟩, ?_, ?_⟩
  · rw [h11, pk_un (by omega), pk_un (by omega), pk_un (by omega), o _ (by omega) (by omega) (by omega) (by omega) (by omega)]; exact a1 b hb2
  · rw [h11]
    by_cases x5 : b = bus ∧ j = 4
    · obtain ⟨rfl, rfl⟩ := x5
      rw [e4, ← r5]; exact pk_us
    by_cases x4 : b = bus ∧ j = 3
    · obtain ⟨rfl, rfl⟩ := x4
      rw [e3, ← r4, pk_un (by omega)]; exact pk_us
    by_cases x3 : b = bus ∧ j = 2
    · obtain ⟨rfl, rfl⟩ := x3
      rw [e2, ← r3, pk_un (by omega), pk_un (by omega)]; exact pk_us
    rw [pk_un (by omega), pk_un (by omega), pk_un (by omega), o _ (by omega) (by omega) (by omega) (by omega) (by omega)]; exact a2 b hb2 j hj
  · rw [i12, i13, nsl_c (w := w) fun k hk => o _ (by omega) (by omega) (by omega) (by omega) (by omega)]; exact a3 b hb
  · rw [o _ (by omega) (by omega) (by omega) (by omega) (by omega)]; exact a4 b hb
  · obtain ⟨m0, m1, m3, m4, m5, m6⟩ := a5
    rw [i14, i15]
    refine ⟨m0, m1, m3, m4, by rw [o _ (by omega) (by omega) (by omega) (by omega) (by omega)]; exact m5, fun r hr hr2 => ?_⟩
    rw [o _ (by omega) (by omega) (by omega) (by omega) (by omega), o _ (by omega) (by omega) (by omega) (by omega) (by omega), o _ (by omega) (by omega) (by omega) (by omega) (by omega), o _ (by omega) (by omega) (by omega) (by omega) (by omega)]
    exact m6 r hr hr2
  · rw [i10, o _ (by omega) (by omega) (by omega) (by omega) (by omega)]; exact b5
  · rw [h16, h17]
    refine ⟨by rw [pk_un (by omega), pk_un (by omega)]; exact t0, by rw [pk_un (by omega), pk_un (by omega)]; exact t1, by rw [pk_un (by omega), pk_us], pk_us, ?_, fun r hr => ?_⟩
    · rw [ot _ (by omega)]; exact pk_us
    · rw [ot _ (by omega)]
      unfold s_trails
      rw [pk_un (j := 2220 + r) (k := 10) (by omega)]
      by_cases e : r = k % 40
      · subst e; rw [pk_us, pk_us]
      · rw [pk_un e, pk_un (j := 2220 + r) (by omega)]; exact t6 r hr
theorem cw_close {took : Int32} (hb : bus < 2) (hk : k < 2 ^ 30) (h : wR I s.2.1 n k)
    (hQ : ∀ I', fr [11, 16, 17] I I' → wR I' (m_counts (m_trails s (nI (100 + bus))) bus took).2.1 n (k + 1) → Q none I' (z_R0 kp sp wd) J F cn) : z_M (z_X0 L xs) z_P0 (d + 1) m_Wires_closeSlot [.ref 10, .int (nI bus), .int took] I (z_R0 kp sp wd) J F cn Q := by
  obtain ⟨t0, t1, t3, t4, t5, t6⟩ := h.2.2
  have hk40 : k % 40 < 40 := Nat.mod_lt _ (by decide)
  have hkc : (s.2.1 10).toNatClampNeg = k := by rw [t5, nI_clamp (by omega)]
  have es : m_counts (m_trails s (nI (100 + bus))) bus took = m_counts ((s.1, s_trails s.2.1 k (nI (100 + bus)), s.2.2) : z_sg) bus took := by
    unfold m_trails; rw [hkc]
  refine z_WP_gos [] 1000 fun K C hK hC => ?_
  conv => whnf
  refine hC _ _ _ _ _ _ _ _ _ _ (fun _ _ _ _ _ _ q => q) (cw_claim16 (rx := I 16) (n := k) rfl t0 t1 t3 t4 ?_)
  conv => whnf
  repeat ((first | refine And.intro (by (conv => arg 2; whnf); (try simp only [z_lit, nI_add, pk_mul, z_pr1, z_pr2]); exact z_in (by omega) (by decide)) ?_ | refine z_bt1 (by decide) ?_ | refine z_bf1 (by decide) ?_ | refine z_bt2 (by decide) ?_ | refine z_bf2 (by decide) ?_); conv => whnf)
  simp (disch := omega) only [z_lit, nI_add, pk_mul, z_pr1, z_pr2, nI_clamp, z_up_row, z_row_s, z_row_n, z_row_row, pk_us, pk_un]
  refine hC _ _ _ _ _ _ _ _ _ _ (fun _ _ _ _ _ _ q => q) (cm_max ?_)
  conv => whnf
  repeat ((first | refine And.intro (by (conv => arg 2; whnf); (try simp only [z_lit, nI_add, pk_mul, z_pr1, z_pr2]); exact z_in (by omega) (by decide)) ?_ | refine z_bt1 (by decide) ?_ | refine z_bf1 (by decide) ?_ | refine z_bt2 (by decide) ?_ | refine z_bf2 (by decide) ?_); conv => whnf)
  simp (disch := omega) only [z_lit, nI_add, pk_mul, z_pr1, z_pr2, nI_clamp, z_up_row, z_row_s, z_row_n, z_row_row, pk_us, pk_un]
  refine hQ _ ?_ (wR_slot (I := I) hb hk h ?_ rfl ?_ (fun b h1 h2 h3 => ?_) es)
  · exact fr_w (fr_w (fr_w fr_r (by decide)) (by decide)) (by decide)
  · rfl
  · show upd (I 17) (k % 40 * 1) _ = _
    rw [Nat.mul_one]
  · rw [z_row_n _ _ h3, z_row_n _ _ (by omega), z_row_n _ _ (by omega)]
/-- between tries -/
def yR (I : z_I) (F : z_F) (s : z_sg) (n k : Nat) : Prop := uRel I F s.2.1 ∧ wR I s.2.1 n k ∧ (I 1 7 = s.2.1 2 ∧ I 1 8 = s.2.1 3) ∧ I 29 7 = s.1 7 ∧ kW s.2.1 ∧ v01 (s.1 6)
theorem xR_yR (h : xR I F s n k bus f0) : yR I F s n k := ⟨h.1, h.2.1, h.2.2.1, h.2.2.2.1.2.2.2, h.2.2.2.2.1, h.2.2.2.2.2⟩
theorem yR_xR {I' : z_I} (h : yR I F s n k) (hI : ∀ b, b ≠ 29 → I' b = I b) (h4 : I' 29 4 = nI bus) (h5 : I' 29 5 = z_bi (s_held s.2.1 bus)) (h6 : I' 29 6 = nI 0) (h7 : I' 29 7 = I 29 7) : xR I' F s n k bus (s.1 4) := by
  obtain ⟨a, b, ⟨c1, c2⟩, d, e, f⟩ := h
  refine ⟨uRel_of a (fun b h1 h2 => hI b (by omega)) (fun _ _ => rfl), wR_of b (fun b h1 h2 => hI b (by omega)) (fun _ _ => rfl), ⟨?_, ?_⟩, ⟨h4, h5, ?_, by rw [h7]; exact d⟩, e, f⟩
  · rw [hI 1 (by omega)]; exact c1
  · rw [hI 1 (by omega)]; exact c2
  · rw [h6]; exact (Int32.add_zero _).symm
theorem sub_f0 {a b c : Int32} : a + b + c - a = b + c := by
  rw [Int32.add_assoc, Int32.add_comm, Int32.add_sub_cancel]
/-- the slot is let go -/
theorem xR_slot {I' : z_I} {r1 : z_sg} (h : xR I F r1 n k bus f0) (hb : bus < 2) (hf : fr [11, 16, 17] (z_row I 29 (upd (I 29) 6 (I 29 6 + nI 4))) I') (hR : wR I' (m_counts (m_trails r1 (nI (100 + bus))) bus (I 29 6 + nI 4)).2.1 n (k + 1)) : xR I' F (m_slot r1 bus f0) n (k + 1) bus f0 ∧ I' 29 6 = I 29 6 + nI 4 := by
  obtain ⟨d1, d2, d3, d4⟩ := h.2.2.2.1
  have g29 : I' 29 = upd (I 29) 6 (I 29 6 + nI 4) := (hf 29 (by decide)).trans (z_row_s _ _ _)
  have g : ∀ b, b < 10 → I' b = I b := fun b hb => (hf b (by simp only [List.mem_cons, List.not_mem_nil, or_false, not_or]; omega)).trans (z_row_n _ _ (by omega))
  have e4 : (m_slot r1 bus f0).1 4 = r1.1 4 + nI 4 := rfl
  have e : r1.1 4 + nI 4 - f0 = I 29 6 + nI 4 := by rw [d3]; exact sub_f0
  have ew : (m_slot r1 bus f0).2.1 = (m_counts (m_trails r1 (nI (100 + bus))) bus (I 29 6 + nI 4)).2.1 := by
    rw [← e]; rfl
  have o : ∀ j, j = 2 ∨ j = 3 ∨ (31 ≤ j ∧ j < 1584) ∨ (2260 ≤ j ∧ j < 2305) → (m_slot r1 bus f0).2.1 j = r1.2.1 j := fun j hj => by
    rw [ew, m_counts_o hb (by omega)]
    exact s_trails_o (by omega) (by omega)
  refine ⟨xR_of h g o (by rw [ew]; exact hR) (by rw [g29, pk_un (by omega)]) (by rw [g29, pk_un (by omega)]) ?_ ?_ h.2.2.2.2.2, by rw [g29, pk_us]⟩
  · rw [e4, g29, pk_us, d3]; exact Int32.add_assoc _ _ _
  · rw [g29, pk_un (by omega)]; exact d4
theorem xR_tally {I' : z_I} {t o : Nat} (h : xR I F s n k bus f0) (ht : t < 9) (ho : o ≤ 4) (hI : I' = z_row I 9 (upd (I 9) (t * 5 + o) (I 9 (t * 5 + o) + nI 1))) : xR I' F (m_tally s t (nI o)) n k bus f0 := by
  subst hI
  obtain ⟨⟨u1, u2, u3, u4⟩, b', ⟨c1, c2⟩, ⟨d1, d2, d3, d4⟩, kk, f⟩ := h
  have e : (m_tally s t (nI o)).2.1 = upd s.2.1 (2260 + 5 * t + o) (s.2.1 (2260 + 5 * t + o) + nI 1) := by
    unfold m_tally m_w; rw [nI_clamp (by omega)]
  have q : ∀ j, j < 2260 ∨ 2305 ≤ j → (m_tally s t (nI o)).2.1 j = s.2.1 j := fun j hj => by rw [e, pk_un (by omega)]
  have i : ∀ b, b ≠ 9 → (z_row I 9 (upd (I 9) (t * 5 + o) (I 9 (t * 5 + o) + nI 1))) b = I b := fun b hb => z_row_n _ _ hb
  refine ⟨⟨uT_of u1 rfl (fun j h1 h2 => q j (by omega)), fun j hj => ?_, fun j hj => ?_, fun j hj => ?_⟩, wR_of b' (fun b h1 h2 => i b (by omega)) (fun j hj => q j (by omega)), ⟨?_, ?_⟩, ⟨d1, ?_, d3, d4⟩, kW_of kk (fun j hj => q j (by omega)), f⟩
  · rw [q _ (by omega)]; exact u2 j hj
  · rw [q _ (by omega), q _ (by omega), q _ (by omega), q _ (by omega)]; exact u3 j hj
  · rw [z_row_s, e]
    by_cases z : j = t * 5 + o
    · subst z
      rw [pk_us, u4 _ (by omega), show 2260 + (t * 5 + o) = 2260 + 5 * t + o by omega, pk_us]
    · rw [pk_un z, pk_un (by omega)]; exact u4 j hj
  · rw [q _ (by omega)]; exact c1
  · rw [q _ (by omega)]; exact c2
  · rw [s_held_c (q 3 (by omega)) (fun j hj => q j (by omega))]; exact d2
theorem att_one {t o : Nat} {kind sub m to st : Int32} {r1 : z_sg} {b0 : Int32} (h : xR I F r1 n k bus f0) (hb : bus < 2) (hk : k < 2 ^ 30) (ht : t < 9) (ho : o ≤ 4) (k3 : ¬ kind = nI 3) (k2 : ¬ kind = nI 2)
    (hQ : ∀ I', xR I' F (m_tally (m_slot r1 bus f0) t (nI o)) n (k + 1) bus f0 → fr cT I I' → I' 30 = I 30 → Q (some (.int (nI o))) I' (z_R0 kp sp wd) J F cn) :
    z_WP (z_X0 L xs) z_P0 (d + 5) m_Trial_attempt 132 [some (.ref 29), some (.int b0), some (.int kind), some (.int (nI t)), some (.int sub), some (.int m), some (.int to), some (.int st), some (.int (nI o))] [] I (z_R0 kp sp wd) J F cn 0 0 Q := by
  obtain ⟨d1, d2, d3, d4⟩ := h.2.2.2.1
  refine z_WP_gos [] 1000 fun K C hK hC => ?_
  conv => whnf
  simp (disch := omega) only [z_lit, nI_add, pk_mul, z_pr1, z_pr2, nI_clamp, z_up_row, z_row_s, z_row_n, z_row_row, pk_us, pk_un]
  rw [d1]
  refine hC _ _ _ _ _ _ _ _ _ _ (fun _ _ _ _ _ _ q => q) (cw_close (s := r1) (n := n) (k := k) hb hk h.2.1 (fun I' f r => ?_))
  conv => whnf
  obtain ⟨x1, e1⟩ := xR_slot h hb f r
  repeat ((first | refine And.intro (by (conv => arg 2; whnf); (try simp only [z_lit, nI_add, pk_mul, z_pr1, z_pr2]); exact z_in (by omega) (by decide)) ?_ | refine z_bt1 (by decide) ?_ | refine z_bf1 (by decide) ?_ | refine z_bt2 (by decide) ?_ | refine z_bf2 (by decide) ?_ | refine z_bt1 (by first | exact k3 | exact k2) ?_ | refine z_bf1 (by first | exact k3 | exact k2) ?_ | refine z_bt2 (by first | exact k3 | exact k2) ?_ | refine z_bf2 (by first | exact k3 | exact k2) ?_); conv => whnf)
  simp (disch := omega) only [z_lit, nI_add, pk_mul, z_pr1, z_pr2, nI_clamp, z_up_row, z_row_s, z_row_n, z_row_row, pk_us, pk_un]
  refine hQ _ (xR_tally x1 ht ho rfl) ?_ ?_
  · exact fr_w (fr_t (fr_w fr_r (by decide)) (fr_m f (by decide))) (by decide)
  · rw [z_row_n _ _ (by omega), f 30 (by decide), z_row_n _ _ (by omega)]
theorem att_all {o : Nat} {tt sub m to st : Int32} {r1 : z_sg} {b0 : Int32} (h : xR I F r1 n k bus f0) (hb : bus < 2) (hk : k < 2 ^ 30) (ho : o ≤ 4)
    (hQ : ∀ I', xR I' F (m_slot r1 bus f0) n (k + 1) bus f0 → fr cT I I' → Q (some (.int (nI o))) I' (z_R0 kp sp wd) J F cn) :
    z_WP (z_X0 L xs) z_P0 (d + 5) m_Trial_attempt 132 [some (.ref 29), some (.int b0), some (.int (nI 3)), some (.int tt), some (.int sub), some (.int m), some (.int to), some (.int st), some (.int (nI o))] [] I (z_R0 kp sp wd) J F cn 0 0 Q := by
  obtain ⟨d1, d2, d3, d4⟩ := h.2.2.2.1
  refine z_WP_gos [] 1000 fun K C hK hC => ?_
  conv => whnf
  simp (disch := omega) only [z_lit, nI_add, pk_mul, z_pr1, z_pr2, nI_clamp, z_up_row, z_row_s, z_row_n, z_row_row, pk_us, pk_un]
  rw [d1]
  refine hC _ _ _ _ _ _ _ _ _ _ (fun _ _ _ _ _ _ q => q) (cw_close (s := r1) (n := n) (k := k) hb hk h.2.1 (fun I' f r => ?_))
  conv => whnf
  obtain ⟨x1, e1⟩ := xR_slot h hb f r
  repeat ((first | refine And.intro (by (conv => arg 2; whnf); (try simp only [z_lit, nI_add, pk_mul, z_pr1, z_pr2]); exact z_in (by omega) (by decide)) ?_ | refine z_bt1 (by decide) ?_ | refine z_bf1 (by decide) ?_ | refine z_bt2 (by decide) ?_ | refine z_bf2 (by decide) ?_); conv => whnf)
  exact hQ _ x1 (fr_t (fr_w fr_r (by decide)) (fr_m f (by decide)))
theorem att_pass {t v o : Nat} {sub m st : Int32} {r1 : z_sg} {b0 : Int32} (h : xR I F r1 n k bus f0) (hb : bus < 2) (hk : k < 2 ^ 30) (ht : t < 8) (hv : v < 8) (ho : o ≤ 4)
    (hQ : ∀ I', xR I' F (m_tally (m_tally (m_slot r1 bus f0) t (nI o)) v (nI o)) n (k + 1) bus f0 → fr cT I I' → Q (some (.int (nI o))) I' (z_R0 kp sp wd) J F cn) :
    z_WP (z_X0 L xs) z_P0 (d + 5) m_Trial_attempt 132 [some (.ref 29), some (.int b0), some (.int (nI 2)), some (.int (nI t)), some (.int sub), some (.int m), some (.int (nI v)), some (.int st), some (.int (nI o))] [] I (z_R0 kp sp wd) J F cn 0 0 Q := by
  obtain ⟨d1, d2, d3, d4⟩ := h.2.2.2.1
  refine z_WP_gos [] 1000 fun K C hK hC => ?_
  conv => whnf
  simp (disch := omega) only [z_lit, nI_add, pk_mul, z_pr1, z_pr2, nI_clamp, z_up_row, z_row_s, z_row_n, z_row_row, pk_us, pk_un]
  rw [d1]
  refine hC _ _ _ _ _ _ _ _ _ _ (fun _ _ _ _ _ _ q => q) (cw_close (s := r1) (n := n) (k := k) hb hk h.2.1 (fun I' f r => ?_))
  conv => whnf
  obtain ⟨x1, e1⟩ := xR_slot h hb f r
  repeat ((first | refine And.intro (by (conv => arg 2; whnf); (try simp only [z_lit, nI_add, pk_mul, z_pr1, z_pr2]); exact z_in (by omega) (by decide)) ?_ | refine z_bt1 (by decide) ?_ | refine z_bf1 (by decide) ?_ | refine z_bt2 (by decide) ?_ | refine z_bf2 (by decide) ?_); conv => whnf)
  simp (disch := omega) only [z_lit, nI_add, pk_mul, z_pr1, z_pr2, nI_clamp, z_up_row, z_row_s, z_row_n, z_row_row, pk_us, pk_un]
  have x2 := xR_tally (t := t) (o := o) x1 (by omega) ho rfl
  refine hQ _ (xR_tally x2 (by omega) ho ?_) ?_
  · rw [z_row_s, z_row_row]
  · exact fr_w (fr_t (fr_w fr_r (by decide)) (fr_m f (by decide))) (by decide)
end
