/-! the model's tries, by kind -/
section
variable {L : Nat} {xs : Nat → Int32} {d : Nat} {kp sp wd : Value} {I : z_I} {s : z_sg} {R : z_R} {J : z_J} {F : z_F} {cn : Nat} {Q : z_Q}
theorem m_sends_ok {bus t u n B : Nat} (hb : bus < 2) (ht : t < 8) (hu : u < 6) (hn : n ≤ 8) (hs : m_ok s B) (hB : B + 40 < 2 ^ 29) : m_ok (m_sends s bus t u n).1 (B + 20) := by
  have hs1 := m_lays_ok (s := m_ready (s.1, s.2.1, upd s.2.2 0 (s_cmd (nI t) (nI 0) (nI (u + 1)) (nI n))) u n) (who := s.2.1 3) (many := 1 + n) hb hs (by omega)
  unfold m_sends
  simp only
  generalize m_lays _ bus _ _ = r at hs1 ⊢
  cases (s_hear _ t bus && _)
  · exact m_ok_mo (s := m_quiet r.1) hs1 (by omega)
  · simp only [cond_true]
    have hs2 := m_begins_ok (c := s_cmd (nI t) (nI 0) (nI (u + 1)) (nI n)) ht hs1
    by_cases h : r.2 = nI 0
    · rw [if_pos h]
      have hs3 := m_taken_ok (u := u) ht hs2
      generalize m_taken _ t u = q at hs3 ⊢
      have hs4 : m_ok (bif q.2 then m_copy q.1 (1344 + 8 * u) (576 + 8 * (6 * t + u)) n else q.1) (B + (1 + n) + 1) := by
        cases q.2
        · exact hs3
        · exact m_copy_ok (by omega) (by omega) hs3
      exact m_ok_mo (m_ends_ok hb ht hs4 (by omega)) (by omega)
    · rw [if_neg h]
      exact m_ok_mo (s := m_quiet (m_errs _ t)) (m_errs_ok ht hs2) (by omega)
theorem m_keep_ok {c n B : Nat} (hc : c < 48) (hn : n ≤ 8) (hs : m_ok s B) : m_ok (m_keep s c n) B := by
  have h := m_copy_ok (a := 192 + 8 * c) (b := 960 + 8 * c) (n := n) (by omega) (by omega) hs
  unfold m_keep
  simp only
  generalize m_copy s (192 + 8 * c) (960 + 8 * c) n = s1 at h ⊢
  split
  · unfold m_smooths
    cases s_tame (s_bits s1.2.1 (960 + 8 * c))
    · exact h
    · exact m_w_ok (s := s1) (k := 1536 + c) (by omega) (by omega) h
  · exact h
theorem m_gets_ok {bus t u n B : Nat} (hb : bus < 2) (ht : t < 8) (hu : u < 6) (hn : n ≤ 8) (hs : m_ok s B) (hB : B + 40 < 2 ^ 29) : m_ok (m_gets s bus t u n).1 (B + 20) := by
  have hs1 := m_lays_ok (s := (s.1, s.2.1, upd s.2.2 0 (s_cmd (nI t) (nI 1) (nI (u + 1)) (nI n)))) (who := s.2.1 3) (many := 1) hb hs (by omega)
  unfold m_gets
  simp only
  generalize m_lays _ bus _ _ = r at hs1 ⊢
  cases (s_hear _ t bus && _)
  · exact m_ok_mo (s := m_quiet r.1) hs1 (by omega)
  · simp only [cond_true]
    have hs2 := m_begins_ok (c := s_cmd (nI t) (nI 1) (nI (u + 1)) (nI n)) ht hs1
    have hs3 := m_tw_ok (u := u) (n := n) hb ht hn hs2 (by omega)
    generalize m_tw _ bus t u n = q at hs3 ⊢
    split
    · exact m_ok_mo (m_keep_ok (by omega) hn hs3) (by omega)
    · exact m_ok_mo hs3 (by omega)
theorem m_passes_ok {bus t u v r n B : Nat} (hb : bus < 2) (ht : t < 8) (hu : u < 6) (hv : v < 8) (hr : r < 6) (hn : n ≤ 8) (hs : m_ok s B) (hB : B + 40 < 2 ^ 29) : m_ok (m_passes s bus t u v r n).1 (B + 20) := by
  have hs1 := m_lays_ok (s := (s.1, s.2.1, upd (upd s.2.2 0 (s_cmd (nI v) (nI 0) (nI (r + 1)) (nI n))) 1 (s_cmd (nI t) (nI 1) (nI (u + 1)) (nI n)))) (who := s.2.1 3) (many := 2) hb hs (by omega)
  unfold m_passes
  simp only
  generalize m_lays _ bus _ _ = l at hs1 ⊢
  generalize (s_hear l.1.2.1 v bus && decide (l.2 &&& nI 1 = nI 0)) = he
  have hs2 : m_ok (bif he then m_begins l.1 v (s_cmd (nI v) (nI 0) (nI (r + 1)) (nI n)) else l.1) (B + 3) := by
    cases he
    · exact hs1
    · exact m_begins_ok hv hs1
  generalize (bif he then m_begins l.1 v (s_cmd (nI v) (nI 0) (nI (r + 1)) (nI n)) else l.1) = s1 at hs2 ⊢
  cases (s_hear s1.2.1 t bus && _)
  · exact m_ok_mo (s := m_quiet s1) hs2 (by omega)
  · simp only [cond_true]
    have hs3 := m_begins_ok (c := s_cmd (nI t) (nI 1) (nI (u + 1)) (nI n)) ht hs2
    generalize m_begins s1 t _ = s2 at hs3 ⊢
    have hs4 := m_tw_ok (s := (upd s2.1 8 (nI 0), s2.2.1, s2.2.2)) (u := u) (n := n) hb ht hn hs3 (by omega)
    generalize m_tw _ bus t u n = q at hs4 ⊢
    by_cases h : q.2 = nI 0
    · rw [if_pos h]
      cases he
      · exact m_ok_mo (s := m_quiet q.1) hs4 (by omega)
      · simp only [cond_true]
        have hs5 := m_taken_ok (u := r) hv hs4
        generalize m_taken q.1 v r = k at hs5 ⊢
        have hs6 : m_ok (bif k.2 then m_copy k.1 (192 + 8 * (6 * t + u)) (576 + 8 * (6 * v + r)) n else k.1) (B + 3 + 10) := by
          cases k.2
          · exact hs5
          · exact m_copy_ok (by omega) (by omega) hs5
        exact m_ok_mo (m_ends_ok hb hv hs6 (by omega)) (by omega)
    · rw [if_neg h]
      simp only
      split
      · cases he
        · exact m_ok_mo hs4 (by omega)
        · exact m_ok_mo (m_errs_ok hv hs4) (by omega)
      · exact m_ok_mo hs4 (by omega)
theorem m_alls_ok {t B : Nat} (ht : t < 8) (hs : m_ok s B) : m_ok (m_alls s t) B := m_last_ok ht (m_w_ok (k := 184 + t) (by omega) (by omega) hs)
theorem m_all1_ok {bus t u n B : Nat} {tu : Int32} (ht : t < 8) (hu : u < 6) (hn : n ≤ 8) (hs : m_ok s B) : m_ok (m_all1 s bus t u n tu) B := by
  unfold m_all1
  simp only
  cases (s_hear s.2.1 t bus && _)
  · exact hs
  · simp only [cond_true]
    have h := m_begins_ok (c := s_cmdA u n) ht hs
    generalize m_begins s t _ = s1 at h ⊢
    cases (decide (tu = nI 0) && s_legal s1.2.1 t u)
    · exact m_errs_ok ht h
    · simp only [cond_true]
      split
      · exact m_alls_ok ht (m_copy_ok (by omega) (by omega) h)
      · exact h
theorem m_all_ok {bus u n B : Nat} {tu : Int32} (hu : u < 6) (hn : n ≤ 8) (hs : m_ok s B) : ∀ k, k ≤ 8 → m_ok (m_all s bus u n tu k) B
  | 0, _ => hs
  | k + 1, h => m_all1_ok (by omega) hu hn (m_all_ok hu hn hs k (by omega))
theorem m_tellsAll_ok {bus u n B : Nat} (hb : bus < 2) (hu : u < 6) (hn : n ≤ 8) (hs : m_ok s B) (hB : B + 40 < 2 ^ 29) : m_ok (m_tellsAll s bus u n).1 (B + 20) := by
  have h := m_lays_ok (s := m_ready (s.1, s.2.1, upd s.2.2 0 (s_cmdA u n)) u n) (who := s.2.1 3) (many := 1 + n) hb hs (by omega)
  unfold m_tellsAll
  simp only
  generalize m_lays _ bus _ _ = r at h ⊢
  exact m_ok_mo (m_all_ok (tu := r.2) hu hn h 8 (by omega)) (by omega)
theorem m_toFirst_ok {bus B : Nat} (hb : bus < 2) (hs : m_ok s B) (hB : B + 40 < 2 ^ 29) : m_ok (m_toFirst s bus).1 (B + 20) := by
  have hs1 := m_lays_ok (s := (s.1, s.2.1, upd s.2.2 0 (s_cmd (nI 8) (nI 1) (nI 0) (nI 0)))) (who := s.2.1 3) (many := 1) hb hs (by omega)
  unfold m_toFirst
  simp only
  generalize m_lays _ bus (s.2.1 3) _ = r at hs1 ⊢
  split
  · exact m_ok_mo (s := m_quiet (upd r.1.1 6 (nI 0), r.1.2.1, r.1.2.2)) hs1 (by omega)
  · have := m_lays_ok (s := (upd (upd (upd r.1.1 6 (nI 0)) 6 (nI 1)) 4 (r.1.1 4 + nI 8), r.1.2.1, upd r.1.2.2 0 (nI 16386))) (who := nI 8) (many := 1) hb hs1 (by omega)
    exact m_ok_mo this (by omega)
theorem m_came_ok {t B : Nat} (ht : t < 8) (hs : m_ok s B) : m_ok (m_came s t) B := m_w_ok (by omega) (by omega) (m_w_ok (by omega) (by omega) hs)
theorem m_tellsMode_ok {bus t code B : Nat} (hb : bus < 2) (ht : t < 8) (hs : m_ok s B) (hB : B + 40 < 2 ^ 29) : m_ok (m_tellsMode s bus t code).1 (B + 3) := by
  unfold m_tellsMode
  simp only
  cases s_shut s.2.1 t bus
  · simp only [cond_false]
    have h : ∀ many, many ≤ 2 → m_ok (m_answers (s.1, s.2.1, upd (upd s.2.2 0 (s.2.1 (136 + t))) 1 (s_mw s.2.1 t code)) bus t many).1 (B + 3) := fun many hm => m_ok_mo (m_answers_ok (s := (s.1, s.2.1, upd (upd s.2.2 0 (s.2.1 (136 + t))) 1 (s_mw s.2.1 t code))) hb hs (by omega)) (by omega)
    have h2 := h (if nI code = nI 16 ∨ nI code = nI 18 ∨ nI code = nI 19 then 2 else 1) (by split <;> omega)
    generalize m_answers _ bus t _ = r at h2 ⊢
    by_cases g : r.2 = nI 0
    · rw [if_pos g]
      simp only
      split
      · exact m_came_ok ht (s := (_, r.1.2.1, r.1.2.2)) h2
      · exact h2
    · rw [if_neg g]
      exact h2
  · exact m_ok_mo (s := m_quiet s) hs (by omega)
theorem m_modes_ok {bus t code B : Nat} (hb : bus < 2) (ht : t < 9) (hs : m_ok s B) (hB : B + 60 < 2 ^ 29) : m_ok (m_modes s bus t code).1 (B + 20) := by
  unfold m_modes
  by_cases h8 : nI t = nI 8
  · rw [if_pos h8]
    exact m_toFirst_ok hb hs (by omega)
  · have ht8 : t < 8 := by
      apply Nat.lt_of_not_le; intro z
      exact h8 (by rw [show t = 8 by omega])
    rw [if_neg h8]
    simp only
    have h := fun (y : Nat → Int32) (many : Nat) (h : many ≤ 2) => m_ok_mo (B' := B + 3) (m_lays_ok (s := (s.1, s.2.1, y)) (who := s.2.1 3) (many := many) hb hs (by omega)) (by omega)
    have h2 := h (upd (upd s.2.2 0 (s_cmd (nI t) (if nI code = nI 17 then nI 0 else nI 1) (nI 0) (nI code))) 1 (s.2.1 2 &&& nI 65535)) (if nI code = nI 17 then 2 else 1) (by split <;> omega)
    generalize m_lays _ bus (s.2.1 3) _ = r at h2 ⊢
    cases (s_hear _ t bus && _)
    · exact m_ok_mo (s := m_quiet r.1) h2 (by omega)
    · simp only [cond_true]
      have h3 : m_ok (bif s_apart code then (upd r.1.1 6 (nI 0), r.1.2.1, r.1.2.2) else m_begins (upd r.1.1 6 (nI 0), r.1.2.1, r.1.2.2) t (s_cmd (nI t) (if nI code = nI 17 then nI 0 else nI 1) (nI 0) (nI code))) (B + 3) := by
        cases s_apart code
        · exact m_begins_ok (s := (upd r.1.1 6 (nI 0), r.1.2.1, r.1.2.2)) ht8 h2
        · exact h2
      generalize (bif s_apart code then (upd r.1.1 6 (nI 0), r.1.2.1, r.1.2.2) else m_begins (upd r.1.1 6 (nI 0), r.1.2.1, r.1.2.2) t (s_cmd (nI t) (if nI code = nI 17 then nI 0 else nI 1) (nI 0) (nI code)) : z_sg) = s1 at h3 ⊢
      by_cases g : r.2 = nI 0
      · rw [if_pos g]
        simp only
        have h4 : m_ok (bif s_apart code then m_does s1 bus t code else m_last (m_does s1 bus t code) t) (B + 3) := by
          cases s_apart code
          · exact m_last_ok ht8 (m_does_ok ht8 h3 _)
          · exact m_does_ok ht8 h3 _
        generalize (bif s_apart code then m_does s1 bus t code else m_last (m_does s1 bus t code) t) = s2 at h4 ⊢
        have h5 := m_tellsMode_ok (code := code) hb ht8 h4 (by omega)
        generalize m_tellsMode s2 bus t code = q at h5 ⊢
        split
        · exact m_ok_mo (m_w_ok (by omega) (by omega) (s := (upd q.1.1 6 (s2.1 6), q.1.2.1, q.1.2.2)) h5) (by omega)
        · exact m_ok_mo (s := (upd q.1.1 6 (s2.1 6), q.1.2.1, q.1.2.2)) h5 (by omega)
      · rw [if_neg g]
        exact m_ok_mo (s := m_quiet (m_errs s1 t)) (m_errs_ok ht8 h3) (by omega)
end
