/-! the model: a try of a line -/
def m_try1 (s : z_sg) (i bus : Nat) : z_sg × Int32 :=
  if lnn s.2.1 i 0 = 0 then m_tries s (m_sends s bus (lnn s.2.1 i 1) (lnn s.2.1 i 2 - 1) (lnn s.2.1 i 3)) bus (lnn s.2.1 i 1)
  else if lnn s.2.1 i 0 = 1 then m_tries s (m_gets s bus (lnn s.2.1 i 1) (lnn s.2.1 i 2 - 1) (lnn s.2.1 i 3)) bus (lnn s.2.1 i 1)
  else if lnn s.2.1 i 0 = 2 then m_pair s (m_passes s bus (lnn s.2.1 i 1) (lnn s.2.1 i 2 - 1) (lnn s.2.1 i 4) (lnn s.2.1 i 5 - 1) (lnn s.2.1 i 3)) bus (lnn s.2.1 i 1) (lnn s.2.1 i 4)
  else if lnn s.2.1 i 0 = 3 then (m_slot (m_tellsAll s bus (lnn s.2.1 i 2 - 1) (lnn s.2.1 i 3)).1 bus (s.1 4), (m_tellsAll s bus (lnn s.2.1 i 2 - 1) (lnn s.2.1 i 3)).2)
  else if lnn s.2.1 i 0 = 4 then m_tries s (m_modes s bus (lnn s.2.1 i 1) (lnn s.2.1 i 10)) bus (lnn s.2.1 i 1)
  else m_tries s (m_modes s bus (lnn s.2.1 i 1) 0) bus (lnn s.2.1 i 1)
/-- the bounds of a line, one by one -/
theorem ln_k {w : Nat → Int32} {i : Nat} (h : ln_ok w i) : lnn w i 0 = 0 ∨ lnn w i 0 = 1 ∨ lnn w i 0 = 2 ∨ lnn w i 0 = 3 ∨ lnn w i 0 = 4 ∨ lnn w i 0 = 5 := by have := h.2.1; omega
theorem ln_s {w : Nat → Int32} {i : Nat} (h : ln_ok w i) (hk : lnn w i 0 ≤ 3) : lnn w i 2 - 1 < 6 ∧ lnn w i 2 - 1 + 1 = lnn w i 2 ∧ 1 ≤ lnn w i 3 ∧ lnn w i 3 ≤ 8 := by
  obtain ⟨-, -, -, -, h1, h2, h3, h4, -⟩ := h
  have := h2 hk; have := h4 hk; omega
theorem ln_t {w : Nat → Int32} {i : Nat} (h : ln_ok w i) : lnn w i 1 < 9 ∧ (lnn w i 0 ≠ 5 → lnn w i 1 < 8) := by
  obtain ⟨-, h0, h1, h2, -⟩ := h
  exact ⟨by omega, fun z => h2 (by omega)⟩
theorem ln_p {w : Nat → Int32} {i : Nat} (h : ln_ok w i) (hk : lnn w i 0 = 2) : lnn w i 4 < 8 ∧ lnn w i 5 - 1 < 6 ∧ lnn w i 5 - 1 + 1 = lnn w i 5 ∧ lnn w i 4 ≠ lnn w i 1 := by
  obtain ⟨-, -, -, -, -, -, -, -, h1, h2, h3, -⟩ := h
  have := h3 hk; omega
theorem ln_c {w : Nat → Int32} {i : Nat} (h : ln_ok w i) : lnn w i 10 < 32 := by
  obtain ⟨-, -, -, -, -, -, -, -, -, -, -, -, -, -, -, h1, -⟩ := h
  exact h1
section
variable {L : Nat} {xs : Nat → Int32} {d : Nat} {kp sp wd : Value} {I : z_I} {s : z_sg} {R : z_R} {J : z_J} {F : z_F} {cn : Nat} {Q : z_Q}
theorem trs_ok {r : z_sg × Int32} {bus t B : Nat} (hb : bus < 2) (ht : t < 9) (ho : oc r.2) (h : m_ok r.1 B) (hB : B < 2 ^ 29) : m_ok (m_tries s r bus t).1 (B + 1) := by
  unfold m_tries; exact m_tally_ok ho ht (m_slot_ok hb h hB)
theorem par_ok {r : z_sg × Int32} {bus t v B : Nat} (hb : bus < 2) (ht : t < 9) (hv : v < 9) (ho : oc r.2) (h : m_ok r.1 B) (hB : B < 2 ^ 29) : m_ok (m_pair s r bus t v).1 (B + 1) := by
  unfold m_pair; exact m_tally_ok ho hv (m_tally_ok ho ht (m_slot_ok hb h hB))
theorem trs_o {r : z_sg × Int32} {bus t j : Nat} (hb : bus < 2) (ht : t < 9) (ho : oc r.2) (hj : j ≤ 4 ∨ (6 ≤ j ∧ j ≤ 9) ∨ (31 ≤ j ∧ j < 48) ∨ (56 ≤ j ∧ j < 112) ∨ (192 ≤ j ∧ j < 576) ∨ (1344 ≤ j ∧ j < 2220) ∨ 2572 ≤ j) (h : r.1.2.1 j = s.2.1 j) : (m_tries s r bus t).1.2.1 j = s.2.1 j := by
  unfold m_tries; exact (m_tally_o ho ht hj).trans ((m_slot_o hb hj).trans h)
theorem par_o {r : z_sg × Int32} {bus t v j : Nat} (hb : bus < 2) (ht : t < 9) (hv : v < 9) (ho : oc r.2) (hj : j ≤ 4 ∨ (6 ≤ j ∧ j ≤ 9) ∨ (31 ≤ j ∧ j < 48) ∨ (56 ≤ j ∧ j < 112) ∨ (192 ≤ j ∧ j < 576) ∨ (1344 ≤ j ∧ j < 2220) ∨ 2572 ≤ j) (h : r.1.2.1 j = s.2.1 j) : (m_pair s r bus t v).1.2.1 j = s.2.1 j := by
  unfold m_pair; exact (m_tally_o ho hv hj).trans ((m_tally_o ho ht hj).trans ((m_slot_o hb hj).trans h))
theorem trs_2 {r : z_sg × Int32} {bus t : Nat} : (m_tries s r bus t).2 = r.2 := rfl
theorem par_2 {r : z_sg × Int32} {bus t v : Nat} : (m_pair s r bus t v).2 = r.2 := rfl
theorem try1_k0 {i bus : Nat} (h : lnn s.2.1 i 0 = 0) : m_try1 s i bus = m_tries s (m_sends s bus (lnn s.2.1 i 1) (lnn s.2.1 i 2 - 1) (lnn s.2.1 i 3)) bus (lnn s.2.1 i 1) := by unfold m_try1; rw [if_pos h]
theorem try1_k1 {i bus : Nat} (h : lnn s.2.1 i 0 = 1) : m_try1 s i bus = m_tries s (m_gets s bus (lnn s.2.1 i 1) (lnn s.2.1 i 2 - 1) (lnn s.2.1 i 3)) bus (lnn s.2.1 i 1) := by unfold m_try1; rw [if_neg (by omega), if_pos h]
theorem try1_k2 {i bus : Nat} (h : lnn s.2.1 i 0 = 2) : m_try1 s i bus = m_pair s (m_passes s bus (lnn s.2.1 i 1) (lnn s.2.1 i 2 - 1) (lnn s.2.1 i 4) (lnn s.2.1 i 5 - 1) (lnn s.2.1 i 3)) bus (lnn s.2.1 i 1) (lnn s.2.1 i 4) := by unfold m_try1; rw [if_neg (by omega), if_neg (by omega), if_pos h]
theorem try1_k3 {i bus : Nat} (h : lnn s.2.1 i 0 = 3) : m_try1 s i bus = (m_slot (m_tellsAll s bus (lnn s.2.1 i 2 - 1) (lnn s.2.1 i 3)).1 bus (s.1 4), (m_tellsAll s bus (lnn s.2.1 i 2 - 1) (lnn s.2.1 i 3)).2) := by unfold m_try1; rw [if_neg (by omega), if_neg (by omega), if_neg (by omega), if_pos h]
theorem try1_3a {i bus : Nat} (h : lnn s.2.1 i 0 = 3) : (m_try1 s i bus).1 = m_slot (m_tellsAll s bus (lnn s.2.1 i 2 - 1) (lnn s.2.1 i 3)).1 bus (s.1 4) := by rw [try1_k3 h]
theorem try1_3b {i bus : Nat} (h : lnn s.2.1 i 0 = 3) : (m_try1 s i bus).2 = (m_tellsAll s bus (lnn s.2.1 i 2 - 1) (lnn s.2.1 i 3)).2 := by rw [try1_k3 h]
theorem try1_k4 {i bus : Nat} (h : lnn s.2.1 i 0 = 4) : m_try1 s i bus = m_tries s (m_modes s bus (lnn s.2.1 i 1) (lnn s.2.1 i 10)) bus (lnn s.2.1 i 1) := by unfold m_try1; rw [if_neg (by omega), if_neg (by omega), if_neg (by omega), if_neg (by omega), if_pos h]
theorem try1_k5 {i bus : Nat} (h : lnn s.2.1 i 0 = 5) : m_try1 s i bus = m_tries s (m_modes s bus (lnn s.2.1 i 1) 0) bus (lnn s.2.1 i 1) := by unfold m_try1; rw [if_neg (by omega), if_neg (by omega), if_neg (by omega), if_neg (by omega), if_neg (by omega)]
theorem try1_oc {i bus : Nat} (ho : ln_ok s.2.1 i) : oc (m_try1 s i bus).2 := by
  rcases ln_k ho with h | h | h | h | h | h
  · rw [try1_k0 h, trs_2]; exact oc_sends
  · rw [try1_k1 h, trs_2]; exact oc_gets
  · rw [try1_k2 h, par_2]; exact oc_passes
  · rw [try1_3b h]; exact oc_tellsAll
  · rw [try1_k4 h, trs_2]; exact oc_modes
  · rw [try1_k5 h, trs_2]; exact oc_modes
theorem try1_ok {i bus B : Nat} (ho : ln_ok s.2.1 i) (hb : bus < 2) (hs : m_ok s B) (hB : B + 60 < 2 ^ 29) : m_ok (m_try1 s i bus).1 (B + 21) := by
  have ht := ln_t ho
  rcases ln_k ho with h | h | h | h | h | h <;> first | rw [try1_k0 h] | rw [try1_k1 h] | rw [try1_k2 h] | rw [try1_3a h] | rw [try1_k4 h] | rw [try1_k5 h]
  · obtain ⟨a, b, c, e⟩ := ln_s ho (by omega)
    exact trs_ok hb ht.1 oc_sends (m_sends_ok hb (ht.2 (by omega)) a e hs (by omega)) (by omega)
  · obtain ⟨a, b, c, e⟩ := ln_s ho (by omega)
    exact trs_ok hb ht.1 oc_gets (m_gets_ok hb (ht.2 (by omega)) a e hs (by omega)) (by omega)
  · obtain ⟨a, b, c, e⟩ := ln_s ho (by omega)
    obtain ⟨p1, p2, p3, p4⟩ := ln_p ho h
    exact par_ok hb ht.1 (by omega) oc_passes (m_passes_ok hb (ht.2 (by omega)) a p1 p2 e hs (by omega)) (by omega)
  · obtain ⟨a, b, c, e⟩ := ln_s ho (by omega)
    exact m_slot_ok hb (m_tellsAll_ok hb a e hs (by omega)) (by omega)
  · exact trs_ok hb ht.1 oc_modes (m_modes_ok hb ht.1 hs (by omega)) (by omega)
  · exact trs_ok hb ht.1 oc_modes (m_modes_ok hb ht.1 hs (by omega)) (by omega)
theorem try1_o {i bus j : Nat} (ho : ln_ok s.2.1 i) (hb : bus < 2) (hj : j ≤ 4 ∨ (6 ≤ j ∧ j ≤ 9) ∨ (31 ≤ j ∧ j < 48) ∨ (56 ≤ j ∧ j < 112) ∨ (192 ≤ j ∧ j < 576) ∨ (1344 ≤ j ∧ j < 1536) ∨ (1584 ≤ j ∧ j < 2220) ∨ 2572 ≤ j) : (m_try1 s i bus).1.2.1 j = s.2.1 j := by
  have ht := ln_t ho
  have hj2 : j ≤ 4 ∨ (6 ≤ j ∧ j ≤ 9) ∨ (31 ≤ j ∧ j < 48) ∨ (56 ≤ j ∧ j < 112) ∨ (192 ≤ j ∧ j < 576) ∨ (1344 ≤ j ∧ j < 2220) ∨ 2572 ≤ j := by omega
  rcases ln_k ho with h | h | h | h | h | h <;> first | rw [try1_k0 h] | rw [try1_k1 h] | rw [try1_k2 h] | rw [try1_3a h] | rw [try1_k4 h] | rw [try1_k5 h]
  · obtain ⟨a, b, c, e⟩ := ln_s ho (by omega)
    exact trs_o hb ht.1 oc_sends hj2 (m_sends_o hb (ht.2 (by omega)) a e hj2)
  · obtain ⟨a, b, c, e⟩ := ln_s ho (by omega)
    exact trs_o hb ht.1 oc_gets hj2 (m_gets_o hb (ht.2 (by omega)) a e hj)
  · obtain ⟨a, b, c, e⟩ := ln_s ho (by omega)
    obtain ⟨p1, p2, p3, p4⟩ := ln_p ho h
    exact par_o hb ht.1 (by omega) oc_passes hj2 (m_passes_o hb (ht.2 (by omega)) a p1 p2 e hj2)
  · obtain ⟨a, b, c, e⟩ := ln_s ho (by omega)
    exact (m_slot_o hb hj2).trans (m_tellsAll_o hb a e hj2)
  · exact trs_o hb ht.1 oc_modes hj2 (m_modes_o hb ht.1 hj2)
  · exact trs_o hb ht.1 oc_modes hj2 (m_modes_o hb ht.1 hj2)
theorem try1_f {i bus j : Nat} (ho : ln_ok s.2.1 i) (hj : 9 ≤ j) : (m_try1 s i bus).1.1 j = s.1 j := by
  have one : ∀ (r : z_sg × Int32) t, r.1.1 j = s.1 j → (m_tries s r bus t).1.1 j = s.1 j := fun r t h => by
    unfold m_tries; rw [m_tally_f, m_slot_f hj]; exact h
  have two : ∀ (r : z_sg × Int32) t v, r.1.1 j = s.1 j → (m_pair s r bus t v).1.1 j = s.1 j := fun r t v h => by
    unfold m_pair; rw [m_tally_f, m_tally_f, m_slot_f hj]; exact h
  rcases ln_k ho with h | h | h | h | h | h
  · rw [try1_k0 h]; exact one _ _ (m_sends_f hj)
  · rw [try1_k1 h]; exact one _ _ (m_gets_f hj)
  · rw [try1_k2 h]; exact two _ _ _ (m_passes_f hj)
  · rw [try1_3a h]; exact (m_slot_f hj).trans (m_tellsAll_f hj)
  · rw [try1_k4 h]; exact one _ _ (m_modes_f hj)
  · rw [try1_k5 h]; exact one _ _ (m_modes_f hj)
theorem try1_fok {i bus : Nat} (ho : ln_ok s.2.1 i) (hb : bus < 2) (hf : m_fok s) : m_fok (m_try1 s i bus).1 := by
  have ht := ln_t ho
  by_cases h : lnn s.2.1 i 0 = 1
  · rw [try1_k1 h]
    obtain ⟨a, b, c, e⟩ := ln_s ho (by omega)
    refine m_fok_of (m_gets_fok hb (ht.2 (by omega)) a e hf) (fun c hc => ?_)
    unfold m_tries
    exact (m_tally_o oc_gets ht.1 (by omega)).trans (m_slot_o hb (by omega))
  · refine m_fok_of hf (fun c hc => ?_)
    have hj : ∀ j, 1536 ≤ j → j < 1584 → (m_try1 s i bus).1.2.1 j = s.2.1 j := by
      intro j h1 h2
      rcases ln_k ho with h' | h' | h' | h' | h' | h' <;> first | rw [try1_k0 h'] | rw [try1_k1 h'] | rw [try1_k2 h'] | rw [try1_3a h'] | rw [try1_k4 h'] | rw [try1_k5 h']
      · obtain ⟨a, b, c, e⟩ := ln_s ho (by omega)
        exact trs_o hb ht.1 oc_sends (by omega) (m_sends_o hb (ht.2 (by omega)) a e (by omega))
      · exact absurd h' h
      · obtain ⟨a, b, c, e⟩ := ln_s ho (by omega)
        obtain ⟨p1, p2, p3, p4⟩ := ln_p ho h'
        exact par_o hb ht.1 (by omega) oc_passes (by omega) (m_passes_o hb (ht.2 (by omega)) a p1 p2 e (by omega))
      · obtain ⟨a, b, c, e⟩ := ln_s ho (by omega)
        exact (m_slot_o hb (by omega)).trans (m_tellsAll_o hb a e (by omega))
      · exact trs_o hb ht.1 oc_modes (by omega) (m_modes_o hb ht.1 (by omega))
      · exact trs_o hb ht.1 oc_modes (by omega) (m_modes_o hb ht.1 (by omega))
    exact hj _ (by omega) (by omega)
/-- how many words, or the code -/
def l_n (w : Nat → Int32) (i : Nat) : Nat := if lnn w i 0 = 4 then lnn w i 10 else if lnn w i 0 = 5 then 0 else lnn w i 3
theorem sp_try1 {i bus B kk : Nat} (hi : i < 24) (ho : ln_ok s.2.1 i) (hb : bus < 2) (hkk : kk = if lnn s.2.1 i 0 = 5 then 4 else lnn s.2.1 i 0) (hs : m_ok s B) (hf : m_fok s) (hB : B + 60 < 2 ^ 29) (hQ : Q (some (.int (m_try1 s i bus).2)) (z_ms I (m_try1 s i bus).1) (z_R0 kp sp wd) J F cn) :
    z_M (z_X0 L xs) z_P0 (d + 7) m_Mod_tries [.ref 40, .int (nI bus), .int (nI kk), .int (nI (lnn s.2.1 i 1)), .int (nI (lnn s.2.1 i 2)), .int (nI (l_n s.2.1 i)), .int (nI (1584 + 14 * i))] (z_ms I s) (z_R0 kp sp wd) J F cn Q := by
  have ht := ln_t ho
  unfold l_n
  subst hkk
  rcases ln_k ho with h | h | h | h | h | h
  · rw [try1_k0 h] at hQ
    obtain ⟨a, b, c, e⟩ := ln_s ho (by omega)
    rw [if_neg (by omega), if_neg (by omega), if_neg (by omega), h, ← b]
    exact tries_send hb (ht.2 (by omega)) a e hs hB hQ
  · rw [try1_k1 h] at hQ
    obtain ⟨a, b, c, e⟩ := ln_s ho (by omega)
    rw [if_neg (by omega), if_neg (by omega), if_neg (by omega), h, ← b]
    exact tries_get hb (ht.2 (by omega)) a e hs (m_fok_fine hf) hB hQ
  · rw [try1_k2 h] at hQ
    obtain ⟨a, b, c, e⟩ := ln_s ho (by omega)
    obtain ⟨p1, p2, p3, p4⟩ := ln_p ho h
    rw [if_neg (by omega), if_neg (by omega), if_neg (by omega), h, ← b]
    exact tries_pass hb (ht.2 (by omega)) a p1 p2 e (by omega) (ho.1 4 (by omega)) (by rw [p3]; exact ho.1 5 (by omega)) hs hB hQ
  · rw [try1_3a h, try1_3b h] at hQ
    obtain ⟨a, b, c, e⟩ := ln_s ho (by omega)
    rw [if_neg (by omega), if_neg (by omega), if_neg (by omega), h, ← b]
    exact tries_all hb a e hs hB hQ
  · rw [try1_k4 h] at hQ
    rw [if_neg (by omega), if_pos h, h]
    exact tries_mode hb ht.1 (ln_c ho) hs hB hQ
  · rw [try1_k5 h] at hQ
    rw [if_pos h, if_neg (by omega), if_pos h]
    exact tries_mode hb ht.1 (by omega) hs hB hQ
end
