/-! what a try leaves alone -/
section
variable {L : Nat} {xs : Nat → Int32} {d : Nat} {kp sp wd : Value} {I : z_I} {s : z_sg} {R : z_R} {J : z_J} {F : z_F} {cn : Nat} {Q : z_Q}
theorem m_w_o {j k : Nat} {v : Int32} (h : j ≠ k) : (m_w s k v).2.1 j = s.2.1 j := pk_un h
theorem m_copy_o {a b n j : Nat} (h : j < b ∨ b + n ≤ j) : (m_copy s a b n).2.1 j = s.2.1 j := pk_cpy_out (by omega)
theorem m_ends_o {bus t j : Nat} (hb : bus < 2) (ht : t < 8) (hj : j ≤ 4 ∨ (6 ≤ j ∧ j ≤ 9) ∨ (31 ≤ j ∧ j < 48) ∨ (56 ≤ j ∧ j < 112) ∨ (192 ≤ j ∧ j < 576) ∨ (1344 ≤ j ∧ j < 2220) ∨ 2572 ≤ j) : (m_ends s bus t).1.2.1 j = s.2.1 j := by
  have e : (m_last s t).2.1 j = s.2.1 j := m_last_o (by omega)
  unfold m_ends
  simp only
  generalize m_last s t = s1 at e ⊢
  cases s_shut s1.2.1 t bus
  · exact (m_answers_o hb (by omega)).trans e
  · exact e
theorem m_sends_o {bus t u n j : Nat} (hb : bus < 2) (ht : t < 8) (hu : u < 6) (hn : n ≤ 8) (hj : j ≤ 4 ∨ (6 ≤ j ∧ j ≤ 9) ∨ (31 ≤ j ∧ j < 48) ∨ (56 ≤ j ∧ j < 112) ∨ (192 ≤ j ∧ j < 576) ∨ (1344 ≤ j ∧ j < 2220) ∨ 2572 ≤ j) : (m_sends s bus t u n).1.2.1 j = s.2.1 j := by
  have e : (m_lays (m_ready (s.1, s.2.1, upd s.2.2 0 (s_cmd (nI t) (nI 0) (nI (u + 1)) (nI n))) u n) bus (s.2.1 3) (1 + n)).1.2.1 j = s.2.1 j := m_lays_lo hb (by omega)
  unfold m_sends
  simp only
  generalize m_lays _ bus _ _ = r at e ⊢
  cases (s_hear _ t bus && _)
  · exact e
  · simp only [cond_true]
    have e2 : (m_begins r.1 t (s_cmd (nI t) (nI 0) (nI (u + 1)) (nI n))).2.1 j = s.2.1 j := (m_begins_o (by omega) (by omega) (by omega) (by omega)).trans e
    generalize m_begins r.1 t _ = s2 at e2 ⊢
    by_cases h : r.2 = nI 0
    · rw [if_pos h]
      have e3 : (m_taken s2 t u).1.2.1 j = s.2.1 j := (m_taken_o (by omega) (by omega) (by omega)).trans e2
      generalize m_taken s2 t u = q at e3 ⊢
      refine (m_ends_o hb ht hj).trans ?_
      cases q.2
      · exact e3
      · exact (m_copy_o (by omega)).trans e3
    · rw [if_neg h]
      exact (m_errs_o (by omega) (by omega) (by omega)).trans e2
theorem m_tw_o2 {bus t u n j : Nat} (hb : bus < 2) (ht : t < 8) (hj : j ≤ 4 ∨ (6 ≤ j ∧ j ≤ 9) ∨ (31 ≤ j ∧ j < 48) ∨ (56 ≤ j ∧ j < 112) ∨ (192 ≤ j ∧ j < 576) ∨ (1344 ≤ j ∧ j < 2220) ∨ 2572 ≤ j) : (m_tw s bus t u n).1.2.1 j = s.2.1 j := by
  have e : (m_last (m_taken s t u).1 t).2.1 j = s.2.1 j := (m_last_o (by omega)).trans (m_taken_o (by omega) (by omega) (by omega))
  unfold m_tw
  simp only
  generalize m_taken s t u = q at e ⊢
  cases s_shut (m_last q.1 t).2.1 t bus
  · exact (m_answers_o hb (by omega)).trans e
  · exact e
theorem m_keep_o {c n j : Nat} (hc : c < 48) (hn : n ≤ 8) (hj : j ≤ 4 ∨ (6 ≤ j ∧ j ≤ 9) ∨ (31 ≤ j ∧ j < 48) ∨ (56 ≤ j ∧ j < 112) ∨ (192 ≤ j ∧ j < 576) ∨ (1344 ≤ j ∧ j < 1536) ∨ (1584 ≤ j ∧ j < 2220) ∨ 2572 ≤ j) : (m_keep s c n).2.1 j = s.2.1 j := by
  have e : (m_copy s (192 + 8 * c) (960 + 8 * c) n).2.1 j = s.2.1 j := m_copy_o (by omega)
  unfold m_keep
  simp only
  generalize m_copy s (192 + 8 * c) (960 + 8 * c) n = s1 at e ⊢
  split
  · unfold m_smooths
    cases s_tame (s_bits s1.2.1 (960 + 8 * c))
    · exact e
    · exact (m_w_o (s := s1) (by omega)).trans e
  · exact e
theorem m_gets_o {bus t u n j : Nat} (hb : bus < 2) (ht : t < 8) (hu : u < 6) (hn : n ≤ 8) (hj : j ≤ 4 ∨ (6 ≤ j ∧ j ≤ 9) ∨ (31 ≤ j ∧ j < 48) ∨ (56 ≤ j ∧ j < 112) ∨ (192 ≤ j ∧ j < 576) ∨ (1344 ≤ j ∧ j < 1536) ∨ (1584 ≤ j ∧ j < 2220) ∨ 2572 ≤ j) : (m_gets s bus t u n).1.2.1 j = s.2.1 j := by
  have e : (m_lays (s.1, s.2.1, upd s.2.2 0 (s_cmd (nI t) (nI 1) (nI (u + 1)) (nI n))) bus (s.2.1 3) 1).1.2.1 j = s.2.1 j := m_lays_lo hb (by omega)
  unfold m_gets
  simp only
  generalize m_lays _ bus _ _ = r at e ⊢
  cases (s_hear _ t bus && _)
  · exact e
  · simp only [cond_true]
    have e3 : (m_tw (m_begins r.1 t (s_cmd (nI t) (nI 1) (nI (u + 1)) (nI n))) bus t u n).1.2.1 j = s.2.1 j := (m_tw_o2 hb ht (by omega)).trans ((m_begins_o (by omega) (by omega) (by omega) (by omega)).trans e)
    generalize m_tw _ bus t u n = q at e3 ⊢
    split
    · exact (m_keep_o (by omega) hn hj).trans e3
    · exact e3
theorem m_passes_o {bus t u v r n j : Nat} (hb : bus < 2) (ht : t < 8) (hu : u < 6) (hv : v < 8) (hr : r < 6) (hn : n ≤ 8) (hj : j ≤ 4 ∨ (6 ≤ j ∧ j ≤ 9) ∨ (31 ≤ j ∧ j < 48) ∨ (56 ≤ j ∧ j < 112) ∨ (192 ≤ j ∧ j < 576) ∨ (1344 ≤ j ∧ j < 2220) ∨ 2572 ≤ j) : (m_passes s bus t u v r n).1.2.1 j = s.2.1 j := by
  have e : (m_lays (s.1, s.2.1, upd (upd s.2.2 0 (s_cmd (nI v) (nI 0) (nI (r + 1)) (nI n))) 1 (s_cmd (nI t) (nI 1) (nI (u + 1)) (nI n))) bus (s.2.1 3) 2).1.2.1 j = s.2.1 j := m_lays_lo hb (by omega)
  unfold m_passes
  simp only
  generalize m_lays _ bus _ _ = l at e ⊢
  generalize (s_hear l.1.2.1 v bus && decide (l.2 &&& nI 1 = nI 0)) = he
  have e2 : (bif he then m_begins l.1 v (s_cmd (nI v) (nI 0) (nI (r + 1)) (nI n)) else l.1).2.1 j = s.2.1 j := by
    cases he
    · exact e
    · exact (m_begins_o (by omega) (by omega) (by omega) (by omega)).trans e
  generalize (bif he then m_begins l.1 v (s_cmd (nI v) (nI 0) (nI (r + 1)) (nI n)) else l.1) = s1 at e2 ⊢
  cases (s_hear s1.2.1 t bus && _)
  · exact e2
  · simp only [cond_true]
    have e3 : (m_begins s1 t (s_cmd (nI t) (nI 1) (nI (u + 1)) (nI n))).2.1 j = s.2.1 j := (m_begins_o (by omega) (by omega) (by omega) (by omega)).trans e2
    generalize m_begins s1 t _ = s2 at e3 ⊢
    have e4 : (m_tw (upd s2.1 8 (nI 0), s2.2.1, s2.2.2) bus t u n).1.2.1 j = s.2.1 j := (m_tw_o2 hb ht hj).trans e3
    generalize m_tw _ bus t u n = q at e4 ⊢
    by_cases h : q.2 = nI 0
    · rw [if_pos h]
      cases he
      · exact e4
      · simp only [cond_true]
        have e5 : (m_taken q.1 v r).1.2.1 j = s.2.1 j := (m_taken_o (by omega) (by omega) (by omega)).trans e4
        generalize m_taken q.1 v r = k at e5 ⊢
        refine (m_ends_o hb hv hj).trans ?_
        cases k.2
        · exact e5
        · exact (m_copy_o (by omega)).trans e5
    · rw [if_neg h]
      simp only
      split
      · cases he
        · exact e4
        · exact (m_errs_o (by omega) (by omega) (by omega)).trans e4
      · exact e4
theorem m_all1_o {bus t u n j : Nat} {tu : Int32} (ht : t < 8) (hu : u < 6) (hn : n ≤ 8) (hj : j ≤ 4 ∨ (6 ≤ j ∧ j ≤ 9) ∨ (31 ≤ j ∧ j < 48) ∨ (56 ≤ j ∧ j < 112) ∨ (192 ≤ j ∧ j < 576) ∨ (1344 ≤ j ∧ j < 2220) ∨ 2572 ≤ j) : (m_all1 s bus t u n tu).2.1 j = s.2.1 j := by
  unfold m_all1
  simp only
  cases (s_hear s.2.1 t bus && _)
  · rfl
  · simp only [cond_true]
    have e : (m_begins s t (s_cmdA u n)).2.1 j = s.2.1 j := m_begins_o (by omega) (by omega) (by omega) (by omega)
    generalize m_begins s t _ = s1 at e ⊢
    cases (decide (tu = nI 0) && s_legal s1.2.1 t u)
    · exact (m_errs_o (by omega) (by omega) (by omega)).trans e
    · simp only [cond_true]
      split
      · exact (m_last_o (by omega)).trans ((m_w_o (s := m_copy s1 (1344 + 8 * u) (576 + 8 * (6 * t + u)) n) (k := 184 + t) (by omega)).trans ((m_copy_o (by omega)).trans e))
      · exact e
theorem m_all_o {bus u n j : Nat} {tu : Int32} (hu : u < 6) (hn : n ≤ 8) (hj : j ≤ 4 ∨ (6 ≤ j ∧ j ≤ 9) ∨ (31 ≤ j ∧ j < 48) ∨ (56 ≤ j ∧ j < 112) ∨ (192 ≤ j ∧ j < 576) ∨ (1344 ≤ j ∧ j < 2220) ∨ 2572 ≤ j) : ∀ k, k ≤ 8 → (m_all s bus u n tu k).2.1 j = s.2.1 j
  | 0, _ => rfl
  | k + 1, h => (m_all1_o (by omega) hu hn hj).trans (m_all_o hu hn hj k (by omega))
theorem m_tellsAll_o {bus u n j : Nat} (hb : bus < 2) (hu : u < 6) (hn : n ≤ 8) (hj : j ≤ 4 ∨ (6 ≤ j ∧ j ≤ 9) ∨ (31 ≤ j ∧ j < 48) ∨ (56 ≤ j ∧ j < 112) ∨ (192 ≤ j ∧ j < 576) ∨ (1344 ≤ j ∧ j < 2220) ∨ 2572 ≤ j) : (m_tellsAll s bus u n).1.2.1 j = s.2.1 j := by
  have e : (m_lays (m_ready (s.1, s.2.1, upd s.2.2 0 (s_cmdA u n)) u n) bus (s.2.1 3) (1 + n)).1.2.1 j = s.2.1 j := m_lays_lo hb (by omega)
  unfold m_tellsAll
  simp only
  generalize m_lays _ bus _ _ = r at e ⊢
  exact (m_all_o hu hn hj 8 (by omega)).trans e
theorem m_toFirst_o {bus j : Nat} (hb : bus < 2) (hj : j ≤ 4 ∨ (6 ≤ j ∧ j ≤ 9) ∨ (31 ≤ j ∧ j < 48) ∨ (56 ≤ j ∧ j < 112) ∨ (192 ≤ j ∧ j < 576) ∨ (1344 ≤ j ∧ j < 2220) ∨ 2572 ≤ j) : (m_toFirst s bus).1.2.1 j = s.2.1 j := by
  have e : (m_lays (s.1, s.2.1, upd s.2.2 0 (s_cmd (nI 8) (nI 1) (nI 0) (nI 0))) bus (s.2.1 3) 1).1.2.1 j = s.2.1 j := m_lays_lo hb (by omega)
  unfold m_toFirst
  simp only
  generalize m_lays _ bus (s.2.1 3) _ = r at e ⊢
  split
  · exact e
  · exact (m_lays_lo hb (by omega)).trans e
theorem m_tellsMode_o {bus t code j : Nat} (hb : bus < 2) (ht : t < 8) (hj : j ≤ 4 ∨ (6 ≤ j ∧ j ≤ 9) ∨ (31 ≤ j ∧ j < 48) ∨ (56 ≤ j ∧ j < 112) ∨ (192 ≤ j ∧ j < 576) ∨ (1344 ≤ j ∧ j < 2220) ∨ 2572 ≤ j) : (m_tellsMode s bus t code).1.2.1 j = s.2.1 j := by
  unfold m_tellsMode
  simp only
  cases s_shut s.2.1 t bus
  · simp only [cond_false]
    have e : ∀ many, (m_answers (s.1, s.2.1, upd (upd s.2.2 0 (s.2.1 (136 + t))) 1 (s_mw s.2.1 t code)) bus t many).1.2.1 j = s.2.1 j := fun many => m_answers_o hb (by omega)
    have h2 := e (if nI code = nI 16 ∨ nI code = nI 18 ∨ nI code = nI 19 then 2 else 1)
    generalize m_answers _ bus t _ = r at h2 ⊢
    by_cases g : r.2 = nI 0
    · rw [if_pos g]
      simp only
      split
      · exact (m_w_o (by omega)).trans ((m_w_o (s := (_, r.1.2.1, r.1.2.2)) (by omega)).trans h2)
      · exact h2
    · rw [if_neg g]
      exact h2
  · rfl
theorem m_does_o {bus t j : Nat} (ht : t < 8) (hj : j ≤ 4 ∨ (6 ≤ j ∧ j ≤ 9) ∨ (31 ≤ j ∧ j < 48) ∨ (56 ≤ j ∧ j < 112) ∨ (192 ≤ j ∧ j < 576) ∨ (1344 ≤ j ∧ j < 2220) ∨ 2572 ≤ j) : ∀ code, (m_does s bus t code).2.1 j = s.2.1 j := by
  intro code
  have a1 : j ≠ 136 + t := by omega
  have a2 : j ≠ 128 + t := by omega
  have a3 : j ≠ 176 + t := by omega
  unfold m_does
  split
  · rfl
  · exact m_w_o (by omega)
  · rfl
  · exact m_w_o (by omega)
  · exact m_w_o (by omega)
  · exact m_w_o (by omega)
  · exact m_w_o (by omega)
  · exact (m_w_o (by omega)).trans ((m_w_o (by omega)).trans (m_w_o (by omega)))
  · rfl
  · exact m_w_o (by omega)
  · rfl
  · rfl
  · exact m_errs_o a1 a2 a3
theorem m_modes_o {bus t code j : Nat} (hb : bus < 2) (ht : t < 9) (hj : j ≤ 4 ∨ (6 ≤ j ∧ j ≤ 9) ∨ (31 ≤ j ∧ j < 48) ∨ (56 ≤ j ∧ j < 112) ∨ (192 ≤ j ∧ j < 576) ∨ (1344 ≤ j ∧ j < 2220) ∨ 2572 ≤ j) : (m_modes s bus t code).1.2.1 j = s.2.1 j := by
  unfold m_modes
  by_cases h8 : nI t = nI 8
  · rw [if_pos h8]
    exact m_toFirst_o hb hj
  · have ht8 : t < 8 := by
      apply Nat.lt_of_not_le; intro z
      exact h8 (by rw [show t = 8 by omega])
    rw [if_neg h8]
    simp only
    have h := fun (y : Nat → Int32) (many : Nat) => m_lays_lo (s := (s.1, s.2.1, y)) (who := s.2.1 3) (many := many) (j := j) hb (by omega)
    have h2 := h (upd (upd s.2.2 0 (s_cmd (nI t) (if nI code = nI 17 then nI 0 else nI 1) (nI 0) (nI code))) 1 (s.2.1 2 &&& nI 65535)) (if nI code = nI 17 then 2 else 1)
    generalize m_lays _ bus (s.2.1 3) _ = r at h2 ⊢
    simp only at h2
    cases (s_hear _ t bus && _)
    · exact h2
    · simp only [cond_true]
      have h3 : (bif s_apart code then (upd r.1.1 6 (nI 0), r.1.2.1, r.1.2.2) else m_begins (upd r.1.1 6 (nI 0), r.1.2.1, r.1.2.2) t (s_cmd (nI t) (if nI code = nI 17 then nI 0 else nI 1) (nI 0) (nI code)) : z_sg).2.1 j = s.2.1 j := by
        cases s_apart code
        · exact (m_begins_o (by omega) (by omega) (by omega) (by omega)).trans h2
        · exact h2
      generalize (bif s_apart code then (upd r.1.1 6 (nI 0), r.1.2.1, r.1.2.2) else m_begins (upd r.1.1 6 (nI 0), r.1.2.1, r.1.2.2) t (s_cmd (nI t) (if nI code = nI 17 then nI 0 else nI 1) (nI 0) (nI code)) : z_sg) = s1 at h3 ⊢
      by_cases g : r.2 = nI 0
      · rw [if_pos g]
        simp only
        have h4 : (bif s_apart code then m_does s1 bus t code else m_last (m_does s1 bus t code) t).2.1 j = s.2.1 j := by
          cases s_apart code
          · exact (m_last_o (by omega)).trans ((m_does_o ht8 hj _).trans h3)
          · exact (m_does_o ht8 hj _).trans h3
        generalize (bif s_apart code then m_does s1 bus t code else m_last (m_does s1 bus t code) t) = s2 at h4 ⊢
        have h5 := (m_tellsMode_o (code := code) hb ht8 hj).trans h4
        generalize m_tellsMode s2 bus t code = q at h5 ⊢
        split
        · exact (m_w_o (s := (upd q.1.1 6 (s2.1 6), q.1.2.1, q.1.2.2)) (by omega)).trans h5
        · exact h5
      · rw [if_neg g]
        exact (m_errs_o (by omega) (by omega) (by omega)).trans h3
theorem m_counts_o {bus j : Nat} {took : Int32} (hb : bus < 2) (hj : j < 2305 ∨ 2315 ≤ j) : (m_counts s bus took).2.1 j = s.2.1 j := by
  unfold m_counts
  simp only
  rw [pk_un (by omega), pk_un (by omega), pk_un (by omega)]
theorem m_slot_o {bus j : Nat} {fr : Int32} (hb : bus < 2) (hj : j ≤ 4 ∨ (6 ≤ j ∧ j ≤ 9) ∨ (31 ≤ j ∧ j < 48) ∨ (56 ≤ j ∧ j < 112) ∨ (192 ≤ j ∧ j < 576) ∨ (1344 ≤ j ∧ j < 2220) ∨ 2572 ≤ j) : (m_slot s bus fr).2.1 j = s.2.1 j := by
  unfold m_slot
  simp only
  rw [m_counts_o hb (by omega)]
  exact s_trails_o (by omega) (by omega)
theorem m_tally_o {t j : Nat} {is : Int32} (ho : oc is) (ht : t < 9) (hj : j ≤ 4 ∨ (6 ≤ j ∧ j ≤ 9) ∨ (31 ≤ j ∧ j < 48) ∨ (56 ≤ j ∧ j < 112) ∨ (192 ≤ j ∧ j < 576) ∨ (1344 ≤ j ∧ j < 2220) ∨ 2572 ≤ j) : (m_tally s t is).2.1 j = s.2.1 j := by
  obtain ⟨k, hk, rfl⟩ := ho
  unfold m_tally
  rw [nI_clamp (by omega)]
  exact m_w_o (by omega)
theorem m_slot_ok {bus B : Nat} {fr : Int32} (hb : bus < 2) (hs : m_ok s B) (hB : B < 2 ^ 29) : m_ok (m_slot s bus fr) (B + 1) := by
  obtain ⟨n, k, h1, h2, h3, h4⟩ := m_trails_ok (v := nI (100 + bus)) hs hB
  refine ⟨n, k, ?_, ?_, h3, h4⟩
  · unfold m_slot
    simp only
    rw [m_counts_o hb (by omega)]; exact h1
  · unfold m_slot
    simp only
    rw [m_counts_o hb (by omega)]; exact h2
theorem m_tally_ok {t B : Nat} {is : Int32} (ho : oc is) (ht : t < 9) (hs : m_ok s B) : m_ok (m_tally s t is) B := by
  obtain ⟨k, hk, rfl⟩ := ho
  unfold m_tally
  rw [nI_clamp (by omega)]
  exact m_w_ok (by omega) (by omega) hs
theorem m_trails_f {v : Int32} : (m_trails s v).1 = s.1 := rfl
theorem m_lays_f {bus many j : Nat} {who : Int32} (hj : 9 ≤ j) : (m_lays s bus who many).1.1 j = s.1 j := pk_un (by omega)
theorem m_last_f {t j : Nat} : (m_last s t).1 j = s.1 j := rfl
theorem m_errs_f {t j : Nat} : (m_errs s t).1 j = s.1 j := rfl
theorem m_begins_f {t j : Nat} {c : Int32} (hj : 9 ≤ j) : (m_begins s t c).1 j = s.1 j := pk_un (by omega)
theorem m_quiet_f {j : Nat} (hj : 9 ≤ j) : (m_quiet s).1 j = s.1 j := pk_un (by omega)
theorem m_taken_f {t u j : Nat} : (m_taken s t u).1.1 j = s.1 j := by
  unfold m_taken
  cases s_legal s.2.1 t u
  · rfl
  · rfl
theorem m_answers_f {bus t many j : Nat} (hj : 9 ≤ j) : (m_answers s bus t many).1.1 j = s.1 j := by
  have e : (m_lays (upd s.1 4 (s.1 4 + nI 8), s.2.1, s.2.2) bus (nI t) many).1.1 j = s.1 j := (m_lays_f hj).trans (pk_un (by omega))
  unfold m_answers
  simp only
  split
  · exact (pk_un (by omega)).trans e
  · exact e
theorem m_ends_f {bus t j : Nat} (hj : 9 ≤ j) : (m_ends s bus t).1.1 j = s.1 j := by
  unfold m_ends
  simp only
  cases s_shut (m_last s t).2.1 t bus
  · exact m_answers_f hj
  · exact m_quiet_f hj
theorem m_sends_f {bus t u n j : Nat} (hj : 9 ≤ j) : (m_sends s bus t u n).1.1 j = s.1 j := by
  have e : (m_lays (m_ready (s.1, s.2.1, upd s.2.2 0 (s_cmd (nI t) (nI 0) (nI (u + 1)) (nI n))) u n) bus (s.2.1 3) (1 + n)).1.1 j = s.1 j := m_lays_f hj
  unfold m_sends
  simp only
  generalize m_lays _ bus _ _ = r at e ⊢
  cases (s_hear _ t bus && _)
  · exact (m_quiet_f hj).trans e
  · simp only [cond_true]
    by_cases h : r.2 = nI 0
    · rw [if_pos h]
      refine (m_ends_f hj).trans ?_
      have e3 : (m_taken (m_begins r.1 t (s_cmd (nI t) (nI 0) (nI (u + 1)) (nI n))) t u).1.1 j = s.1 j := m_taken_f.trans ((m_begins_f hj).trans e)
      generalize m_taken _ t u = q at e3 ⊢
      cases q.2
      · exact e3
      · exact e3
    · rw [if_neg h]
      exact (m_quiet_f hj).trans (m_errs_f.trans ((m_begins_f hj).trans e))
theorem m_tw_f {bus t u n j : Nat} (hj : 9 ≤ j) : (m_tw s bus t u n).1.1 j = s.1 j := by
  have e : (m_last (m_taken s t u).1 t).1 j = s.1 j := m_taken_f
  unfold m_tw
  simp only
  generalize m_taken s t u = q at e ⊢
  cases s_shut (m_last q.1 t).2.1 t bus
  · exact (pk_un (by omega)).trans ((m_answers_f hj).trans e)
  · exact (m_quiet_f hj).trans e
theorem m_keep_f {c n j : Nat} : (m_keep s c n).1 j = s.1 j := by
  unfold m_keep
  simp only
  split
  · rfl
  · rfl
theorem m_gets_f {bus t u n j : Nat} (hj : 9 ≤ j) : (m_gets s bus t u n).1.1 j = s.1 j := by
  have e : (m_lays (s.1, s.2.1, upd s.2.2 0 (s_cmd (nI t) (nI 1) (nI (u + 1)) (nI n))) bus (s.2.1 3) 1).1.1 j = s.1 j := m_lays_f hj
  unfold m_gets
  simp only
  generalize m_lays _ bus _ _ = r at e ⊢
  cases (s_hear _ t bus && _)
  · exact (m_quiet_f hj).trans e
  · simp only [cond_true]
    have e3 : (m_tw (m_begins r.1 t (s_cmd (nI t) (nI 1) (nI (u + 1)) (nI n))) bus t u n).1.1 j = s.1 j := (m_tw_f hj).trans ((m_begins_f hj).trans e)
    generalize m_tw _ bus t u n = q at e3 ⊢
    split
    · exact m_keep_f.trans e3
    · exact e3
theorem m_passes_f {bus t u v r n j : Nat} (hj : 9 ≤ j) : (m_passes s bus t u v r n).1.1 j = s.1 j := by
  have e : (m_lays (s.1, s.2.1, upd (upd s.2.2 0 (s_cmd (nI v) (nI 0) (nI (r + 1)) (nI n))) 1 (s_cmd (nI t) (nI 1) (nI (u + 1)) (nI n))) bus (s.2.1 3) 2).1.1 j = s.1 j := m_lays_f hj
  unfold m_passes
  simp only
  generalize m_lays _ bus _ _ = l at e ⊢
  generalize (s_hear l.1.2.1 v bus && decide (l.2 &&& nI 1 = nI 0)) = he
  have e2 : (bif he then m_begins l.1 v (s_cmd (nI v) (nI 0) (nI (r + 1)) (nI n)) else l.1).1 j = s.1 j := by
    cases he
    · exact e
    · exact (m_begins_f hj).trans e
  generalize (bif he then m_begins l.1 v (s_cmd (nI v) (nI 0) (nI (r + 1)) (nI n)) else l.1) = s1 at e2 ⊢
  cases (s_hear s1.2.1 t bus && _)
  · exact (m_quiet_f hj).trans e2
  · simp only [cond_true]
    have e3 : (m_begins s1 t (s_cmd (nI t) (nI 1) (nI (u + 1)) (nI n))).1 j = s.1 j := (m_begins_f hj).trans e2
    generalize m_begins s1 t _ = s2 at e3 ⊢
    have e4 : (m_tw (upd s2.1 8 (nI 0), s2.2.1, s2.2.2) bus t u n).1.1 j = s.1 j := (m_tw_f hj).trans ((pk_un (by omega)).trans e3)
    generalize m_tw _ bus t u n = q at e4 ⊢
    by_cases h : q.2 = nI 0
    · rw [if_pos h]
      cases he
      · exact (m_quiet_f hj).trans e4
      · simp only [cond_true]
        refine (m_ends_f hj).trans ?_
        have e5 : (m_taken q.1 v r).1.1 j = s.1 j := m_taken_f.trans e4
        generalize m_taken q.1 v r = k at e5 ⊢
        cases k.2
        · exact e5
        · exact e5
    · rw [if_neg h]
      simp only
      split
      · cases he
        · exact e4
        · exact m_errs_f.trans e4
      · exact e4
theorem m_all1_f {bus t u n j : Nat} {tu : Int32} (hj : 9 ≤ j) : (m_all1 s bus t u n tu).1 j = s.1 j := by
  unfold m_all1
  simp only
  cases (s_hear s.2.1 t bus && _)
  · rfl
  · simp only [cond_true]
    have e : (m_begins s t (s_cmdA u n)).1 j = s.1 j := m_begins_f hj
    generalize m_begins s t _ = s1 at e ⊢
    cases (decide (tu = nI 0) && s_legal s1.2.1 t u)
    · exact e
    · simp only [cond_true]
      split
      · exact e
      · exact e
theorem m_all_f {bus u n j : Nat} {tu : Int32} (hj : 9 ≤ j) : ∀ k, (m_all s bus u n tu k).1 j = s.1 j
  | 0 => rfl
  | k + 1 => (m_all1_f hj).trans (m_all_f hj k)
theorem m_tellsAll_f {bus u n j : Nat} (hj : 9 ≤ j) : (m_tellsAll s bus u n).1.1 j = s.1 j := by
  have e : (m_lays (m_ready (s.1, s.2.1, upd s.2.2 0 (s_cmdA u n)) u n) bus (s.2.1 3) (1 + n)).1.1 j = s.1 j := m_lays_f hj
  unfold m_tellsAll
  simp only
  generalize m_lays _ bus _ _ = r at e ⊢
  exact (m_all_f hj 8).trans e
theorem m_toFirst_f {bus j : Nat} (hj : 9 ≤ j) : (m_toFirst s bus).1.1 j = s.1 j := by
  have e : (m_lays (s.1, s.2.1, upd s.2.2 0 (s_cmd (nI 8) (nI 1) (nI 0) (nI 0))) bus (s.2.1 3) 1).1.1 j = s.1 j := m_lays_f hj
  unfold m_toFirst
  simp only
  generalize m_lays _ bus (s.2.1 3) _ = r at e ⊢
  split
  · exact (m_quiet_f hj).trans ((pk_un (by omega)).trans e)
  · exact (m_lays_f hj).trans ((pk_un (by omega)).trans ((pk_un (by omega)).trans ((pk_un (by omega)).trans e)))
theorem m_tellsMode_f {bus t code j : Nat} (hj : 9 ≤ j) : (m_tellsMode s bus t code).1.1 j = s.1 j := by
  unfold m_tellsMode
  simp only
  cases s_shut s.2.1 t bus
  · simp only [cond_false]
    have e : ∀ many, (m_answers (s.1, s.2.1, upd (upd s.2.2 0 (s.2.1 (136 + t))) 1 (s_mw s.2.1 t code)) bus t many).1.1 j = s.1 j := fun many => m_answers_f hj
    have h2 := e (if nI code = nI 16 ∨ nI code = nI 18 ∨ nI code = nI 19 then 2 else 1)
    generalize m_answers _ bus t _ = r at h2 ⊢
    have h3 : (bif s_apart code || decide (nI code = nI 16) then upd r.1.1 7 (s.1 7) else r.1.1) j = s.1 j := by
      cases (s_apart code || decide (nI code = nI 16))
      · exact h2
      · exact (pk_un (by omega)).trans h2
    generalize (bif s_apart code || decide (nI code = nI 16) then upd r.1.1 7 (s.1 7) else r.1.1) = g at h3 ⊢
    by_cases q : r.2 = nI 0
    · rw [if_pos q]
      simp only
      split
      · exact h3
      · exact h3
    · rw [if_neg q]
      exact h3
  · exact m_quiet_f hj
theorem m_does_f {bus t j : Nat} (hj : 9 ≤ j) : ∀ code, (m_does s bus t code).1 j = s.1 j := by
  intro code
  have a : j ≠ 6 := by omega
  unfold m_does
  split
  · exact pk_un a
  all_goals rfl
theorem m_modes_f {bus t code j : Nat} (hj : 9 ≤ j) : (m_modes s bus t code).1.1 j = s.1 j := by
  unfold m_modes
  by_cases h8 : nI t = nI 8
  · rw [if_pos h8]
    exact m_toFirst_f hj
  · rw [if_neg h8]
    simp only
    have h := fun (y : Nat → Int32) (many : Nat) => m_lays_f (s := (s.1, s.2.1, y)) (bus := bus) (who := s.2.1 3) (many := many) hj
    have h2 := h (upd (upd s.2.2 0 (s_cmd (nI t) (if nI code = nI 17 then nI 0 else nI 1) (nI 0) (nI code))) 1 (s.2.1 2 &&& nI 65535)) (if nI code = nI 17 then 2 else 1)
    generalize m_lays _ bus (s.2.1 3) _ = r at h2 ⊢
    simp only at h2
    cases (s_hear _ t bus && _)
    · exact (m_quiet_f hj).trans h2
    · simp only [cond_true]
      have h3 : (bif s_apart code then (upd r.1.1 6 (nI 0), r.1.2.1, r.1.2.2) else m_begins (upd r.1.1 6 (nI 0), r.1.2.1, r.1.2.2) t (s_cmd (nI t) (if nI code = nI 17 then nI 0 else nI 1) (nI 0) (nI code)) : z_sg).1 j = s.1 j := by
        cases s_apart code
        · exact (m_begins_f hj).trans ((pk_un (by omega)).trans h2)
        · exact (pk_un (by omega)).trans h2
      generalize (bif s_apart code then (upd r.1.1 6 (nI 0), r.1.2.1, r.1.2.2) else m_begins (upd r.1.1 6 (nI 0), r.1.2.1, r.1.2.2) t (s_cmd (nI t) (if nI code = nI 17 then nI 0 else nI 1) (nI 0) (nI code)) : z_sg) = s1 at h3 ⊢
      by_cases g : r.2 = nI 0
      · rw [if_pos g]
        simp only
        have h4 : (bif s_apart code then m_does s1 bus t code else m_last (m_does s1 bus t code) t).1 j = s.1 j := by
          cases s_apart code
          · exact (m_does_f hj _).trans h3
          · exact (m_does_f hj _).trans h3
        generalize (bif s_apart code then m_does s1 bus t code else m_last (m_does s1 bus t code) t) = s2 at h4 ⊢
        have h5 := (m_tellsMode_f (s := s2) (bus := bus) (t := t) (code := code) hj).trans h4
        generalize m_tellsMode s2 bus t code = q at h5 ⊢
        split
        · exact (pk_un (by omega)).trans h5
        · exact (pk_un (by omega)).trans h5
      · rw [if_neg g]
        exact (m_quiet_f hj).trans h3
theorem m_slot_f {bus j : Nat} {fr : Int32} (hj : 9 ≤ j) : (m_slot s bus fr).1 j = s.1 j := pk_un (by omega)
theorem m_tally_f {t j : Nat} {is : Int32} : (m_tally s t is).1 j = s.1 j := rfl
end
