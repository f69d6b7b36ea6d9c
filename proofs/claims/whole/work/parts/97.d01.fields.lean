/-! fields of the model's that no frame changes -/
section
variable {s : z_sg}
theorem m_lays_h {bus many j : Nat} {who : Int32} (hj : j = 3 ∨ 9 ≤ j) : (m_lays s bus who many).1.1 j = s.1 j := pk_un (by omega)
theorem m_begins_h {t j : Nat} {c : Int32} (hj : j = 3 ∨ 9 ≤ j) : (m_begins s t c).1 j = s.1 j := pk_un (by omega)
theorem m_quiet_h {j : Nat} (hj : j = 3 ∨ 9 ≤ j) : (m_quiet s).1 j = s.1 j := pk_un (by omega)
theorem m_answers_h {bus t many j : Nat} (hj : j = 3 ∨ 9 ≤ j) : (m_answers s bus t many).1.1 j = s.1 j := by
  have e : (m_lays (upd s.1 4 (s.1 4 + nI 8), s.2.1, s.2.2) bus (nI t) many).1.1 j = s.1 j := (m_lays_h hj).trans (pk_un (by omega))
  unfold m_answers
  simp only
  split
  · exact (pk_un (by omega)).trans e
  · exact e
theorem m_ends_h {bus t j : Nat} (hj : j = 3 ∨ 9 ≤ j) : (m_ends s bus t).1.1 j = s.1 j := by
  unfold m_ends
  simp only
  cases s_shut (m_last s t).2.1 t bus
  · exact m_answers_h hj
  · exact m_quiet_h hj
theorem m_sends_h {bus t u n j : Nat} (hj : j = 3 ∨ 9 ≤ j) : (m_sends s bus t u n).1.1 j = s.1 j := by
  have e : (m_lays (m_ready (s.1, s.2.1, upd s.2.2 0 (s_cmd (nI t) (nI 0) (nI (u + 1)) (nI n))) u n) bus (s.2.1 3) (1 + n)).1.1 j = s.1 j := m_lays_h hj
  unfold m_sends
  simp only
  generalize m_lays _ bus _ _ = r at e ⊢
  cases (s_hear _ t bus && _)
  · exact (m_quiet_h hj).trans e
  · simp only [cond_true]
    by_cases h : r.2 = nI 0
    · rw [if_pos h]
      refine (m_ends_h hj).trans ?_
      have e3 : (m_taken (m_begins r.1 t (s_cmd (nI t) (nI 0) (nI (u + 1)) (nI n))) t u).1.1 j = s.1 j := m_taken_f.trans ((m_begins_h hj).trans e)
      generalize m_taken _ t u = q at e3 ⊢
      cases q.2
      · exact e3
      · exact e3
    · rw [if_neg h]
      exact (m_quiet_h hj).trans (m_errs_f.trans ((m_begins_h hj).trans e))
theorem m_tw_h {bus t u n j : Nat} (hj : j = 3 ∨ 9 ≤ j) : (m_tw s bus t u n).1.1 j = s.1 j := by
  have e : (m_last (m_taken s t u).1 t).1 j = s.1 j := m_taken_f
  unfold m_tw
  simp only
  generalize m_taken s t u = q at e ⊢
  cases s_shut (m_last q.1 t).2.1 t bus
  · exact (pk_un (by omega)).trans ((m_answers_h hj).trans e)
  · exact (m_quiet_h hj).trans e
theorem m_gets_h {bus t u n j : Nat} (hj : j = 3 ∨ 9 ≤ j) : (m_gets s bus t u n).1.1 j = s.1 j := by
  have e : (m_lays (s.1, s.2.1, upd s.2.2 0 (s_cmd (nI t) (nI 1) (nI (u + 1)) (nI n))) bus (s.2.1 3) 1).1.1 j = s.1 j := m_lays_h hj
  unfold m_gets
  simp only
  generalize m_lays _ bus _ _ = r at e ⊢
  cases (s_hear _ t bus && _)
  · exact (m_quiet_h hj).trans e
  · simp only [cond_true]
    have e3 : (m_tw (m_begins r.1 t (s_cmd (nI t) (nI 1) (nI (u + 1)) (nI n))) bus t u n).1.1 j = s.1 j := (m_tw_h hj).trans ((m_begins_h hj).trans e)
    generalize m_tw _ bus t u n = q at e3 ⊢
    split
    · exact m_keep_f.trans e3
    · exact e3
theorem m_passes_h {bus t u v r n j : Nat} (hj : j = 3 ∨ 9 ≤ j) : (m_passes s bus t u v r n).1.1 j = s.1 j := by
  have e : (m_lays (s.1, s.2.1, upd (upd s.2.2 0 (s_cmd (nI v) (nI 0) (nI (r + 1)) (nI n))) 1 (s_cmd (nI t) (nI 1) (nI (u + 1)) (nI n))) bus (s.2.1 3) 2).1.1 j = s.1 j := m_lays_h hj
  unfold m_passes
  simp only
  generalize m_lays _ bus _ _ = l at e ⊢
  generalize (s_hear l.1.2.1 v bus && decide (l.2 &&& nI 1 = nI 0)) = he
  have e2 : (bif he then m_begins l.1 v (s_cmd (nI v) (nI 0) (nI (r + 1)) (nI n)) else l.1).1 j = s.1 j := by
    cases he
    · exact e
    · exact (m_begins_h hj).trans e
  generalize (bif he then m_begins l.1 v (s_cmd (nI v) (nI 0) (nI (r + 1)) (nI n)) else l.1) = s1 at e2 ⊢
  cases (s_hear s1.2.1 t bus && _)
  · exact (m_quiet_h hj).trans e2
  · simp only [cond_true]
    have e3 : (m_begins s1 t (s_cmd (nI t) (nI 1) (nI (u + 1)) (nI n))).1 j = s.1 j := (m_begins_h hj).trans e2
    generalize m_begins s1 t _ = s2 at e3 ⊢
    have e4 : (m_tw (upd s2.1 8 (nI 0), s2.2.1, s2.2.2) bus t u n).1.1 j = s.1 j := (m_tw_h hj).trans ((pk_un (by omega)).trans e3)
    generalize m_tw _ bus t u n = q at e4 ⊢
    by_cases h : q.2 = nI 0
    · rw [if_pos h]
      cases he
      · exact (m_quiet_h hj).trans e4
      · simp only [cond_true]
        refine (m_ends_h hj).trans ?_
        have e5 : (m_taken q.1 v r).1.1 j = s.1 j := m_taken_f.trans e4
        generalize m_taken q.1 v r = k at e5 ⊢
        cases k.2
        · exact e5
        · exact e5
    · rw [if_neg h]
      simp only
      split
      · cases he
        · exact e4
        · exact m_errs_f.trans e4
      · exact e4
theorem m_all1_h {bus t u n j : Nat} {tu : Int32} (hj : j = 3 ∨ 9 ≤ j) : (m_all1 s bus t u n tu).1 j = s.1 j := by
  unfold m_all1
  simp only
  cases (s_hear s.2.1 t bus && _)
  · rfl
  · simp only [cond_true]
    have e : (m_begins s t (s_cmdA u n)).1 j = s.1 j := m_begins_h hj
    generalize m_begins s t _ = s1 at e ⊢
    cases (decide (tu = nI 0) && s_legal s1.2.1 t u)
    · exact e
    · simp only [cond_true]
      split
      · exact e
      · exact e
theorem m_all_h {bus u n j : Nat} {tu : Int32} (hj : j = 3 ∨ 9 ≤ j) : ∀ k, (m_all s bus u n tu k).1 j = s.1 j
  | 0 => rfl
  | k + 1 => (m_all1_h hj).trans (m_all_h hj k)
theorem m_tellsAll_h {bus u n j : Nat} (hj : j = 3 ∨ 9 ≤ j) : (m_tellsAll s bus u n).1.1 j = s.1 j := by
  have e : (m_lays (m_ready (s.1, s.2.1, upd s.2.2 0 (s_cmdA u n)) u n) bus (s.2.1 3) (1 + n)).1.1 j = s.1 j := m_lays_h hj
  unfold m_tellsAll
  simp only
  generalize m_lays _ bus _ _ = r at e ⊢
  exact (m_all_h hj 8).trans e
theorem m_toFirst_h {bus j : Nat} (hj : j = 3 ∨ 9 ≤ j) : (m_toFirst s bus).1.1 j = s.1 j := by
  have e : (m_lays (s.1, s.2.1, upd s.2.2 0 (s_cmd (nI 8) (nI 1) (nI 0) (nI 0))) bus (s.2.1 3) 1).1.1 j = s.1 j := m_lays_h hj
  unfold m_toFirst
  simp only
  generalize m_lays _ bus (s.2.1 3) _ = r at e ⊢
  split
  · exact (m_quiet_h hj).trans ((pk_un (by omega)).trans e)
  · exact (m_lays_h hj).trans ((pk_un (by omega)).trans ((pk_un (by omega)).trans ((pk_un (by omega)).trans e)))
theorem m_tellsMode_h {bus t code j : Nat} (hj : j = 3 ∨ 9 ≤ j) : (m_tellsMode s bus t code).1.1 j = s.1 j := by
  unfold m_tellsMode
  simp only
  cases s_shut s.2.1 t bus
  · simp only [cond_false]
    have e : ∀ many, (m_answers (s.1, s.2.1, upd (upd s.2.2 0 (s.2.1 (136 + t))) 1 (s_mw s.2.1 t code)) bus t many).1.1 j = s.1 j := fun many => m_answers_h hj
    have h2 := e (if nI code = nI 16 ∨ nI code = nI 18 ∨ nI code = nI 19 then 2 else 1)
    generalize m_answers _ bus t _ = r at h2 ⊢
    have h3 : (bif s_apart code || decide (nI code = nI 16) then upd r.1.1 7 (s.1 7) else r.1.1) j = s.1 j := by
      cases (s_apart code || decide (nI code = nI 16))
      · exact h2
      · exact (pk_un (by omega)).trans h2
    generalize (bif s_apart code || decide (nI code = nI 16) then upd r.1.1 7 (s.1 7) else r.1.1) = g at h3 ⊢
    by_cases q : r.2 = nI 0
    · rw [if_pos q]
      simp only
      split
      · exact h3
      · exact h3
    · rw [if_neg q]
      exact h3
  · exact m_quiet_h hj
theorem m_does_h {bus t j : Nat} (hj : j = 3 ∨ 9 ≤ j) : ∀ code, (m_does s bus t code).1 j = s.1 j := by
  intro code
  have a : j ≠ 6 := by omega
  unfold m_does
  split
  · exact pk_un a
  all_goals rfl
theorem m_modes_h {bus t code j : Nat} (hj : j = 3 ∨ 9 ≤ j) : (m_modes s bus t code).1.1 j = s.1 j := by
  unfold m_modes
  by_cases h8 : nI t = nI 8
  · rw [if_pos h8]
    exact m_toFirst_h hj
  · rw [if_neg h8]
    simp only
    have h := fun (y : Nat → Int32) (many : Nat) => m_lays_h (s := (s.1, s.2.1, y)) (bus := bus) (who := s.2.1 3) (many := many) hj
    have h2 := h (upd (upd s.2.2 0 (s_cmd (nI t) (if nI code = nI 17 then nI 0 else nI 1) (nI 0) (nI code))) 1 (s.2.1 2 &&& nI 65535)) (if nI code = nI 17 then 2 else 1)
    generalize m_lays _ bus (s.2.1 3) _ = r at h2 ⊢
    simp only at h2
    cases (s_hear _ t bus && _)
    · exact (m_quiet_h hj).trans h2
    · simp only [cond_true]
      have h3 : (bif s_apart code then (upd r.1.1 6 (nI 0), r.1.2.1, r.1.2.2) else m_begins (upd r.1.1 6 (nI 0), r.1.2.1, r.1.2.2) t (s_cmd (nI t) (if nI code = nI 17 then nI 0 else nI 1) (nI 0) (nI code)) : z_sg).1 j = s.1 j := by
        cases s_apart code
        · exact (m_begins_h hj).trans ((pk_un (by omega)).trans h2)
        · exact (pk_un (by omega)).trans h2
      generalize (bif s_apart code then (upd r.1.1 6 (nI 0), r.1.2.1, r.1.2.2) else m_begins (upd r.1.1 6 (nI 0), r.1.2.1, r.1.2.2) t (s_cmd (nI t) (if nI code = nI 17 then nI 0 else nI 1) (nI 0) (nI code)) : z_sg) = s1 at h3 ⊢
      by_cases g : r.2 = nI 0
      · rw [if_pos g]
        simp only
        have h4 : (bif s_apart code then m_does s1 bus t code else m_last (m_does s1 bus t code) t).1 j = s.1 j := by
          cases s_apart code
          · exact (m_does_h hj _).trans h3
          · exact (m_does_h hj _).trans h3
        generalize (bif s_apart code then m_does s1 bus t code else m_last (m_does s1 bus t code) t) = s2 at h4 ⊢
        have h5 := (m_tellsMode_h (s := s2) (bus := bus) (t := t) (code := code) hj).trans h4
        generalize m_tellsMode s2 bus t code = q at h5 ⊢
        split
        · exact (pk_un (by omega)).trans h5
        · exact (pk_un (by omega)).trans h5
      · rw [if_neg g]
        exact (m_quiet_h hj).trans h3
theorem m_slot_h {bus j : Nat} {fr : Int32} (hj : j = 3 ∨ 9 ≤ j) : (m_slot s bus fr).1 j = s.1 j := pk_un (by omega)
theorem try1_h {i bus j : Nat} (ho : ln_ok s.2.1 i) (hj : j = 3 ∨ 9 ≤ j) : (m_try1 s i bus).1.1 j = s.1 j := by
  have one : ∀ (r : z_sg × Int32) t, r.1.1 j = s.1 j → (m_tries s r bus t).1.1 j = s.1 j := fun r t h => by
    unfold m_tries; rw [m_tally_f, m_slot_h hj]; exact h
  have two : ∀ (r : z_sg × Int32) t v, r.1.1 j = s.1 j → (m_pair s r bus t v).1.1 j = s.1 j := fun r t v h => by
    unfold m_pair; rw [m_tally_f, m_tally_f, m_slot_h hj]; exact h
  rcases ln_k ho with h | h | h | h | h | h
  · rw [try1_k0 h]; exact one _ _ (m_sends_h hj)
  · rw [try1_k1 h]; exact one _ _ (m_gets_h hj)
  · rw [try1_k2 h]; exact two _ _ _ (m_passes_h hj)
  · rw [try1_3a h]; exact (m_slot_h hj).trans (m_tellsAll_h hj)
  · rw [try1_k4 h]; exact one _ _ (m_modes_h hj)
  · rw [try1_k5 h]; exact one _ _ (m_modes_h hj)
theorem trs_h {r : z_sg × Int32} {bus t j : Nat} (hj : j = 3 ∨ 9 ≤ j) (h : r.1.1 j = s.1 j) : (m_tries s r bus t).1.1 j = s.1 j := by
  unfold m_tries; rw [m_tally_f, m_slot_h hj]; exact h
theorem ask_h {all : Int32} {j : Nat} (hj : j = 3 ∨ 9 ≤ j) : ∀ k, (m_ask all k s).1 j = s.1 j
  | 0 => rfl
  | k + 1 => by
    have ih := ask_h (all := all) hj k
    unfold m_ask m_ask1
    cases decide (all >>> (nI k &&& nI 31) &&& nI 1 = nI 1) && !s_much (m_ask all k s) (nI 72)
    · exact ih
    · exact (trs_h hj (m_modes_h hj)).trans ih
def kK (j : Nat) : Prop := j = 3 ∨ (9 ≤ j ∧ j < 24)
theorem lp_h {i j : Nat} (hj : kK j) (hi : i < 24) : ∀ fu (s : z_sg) bus tr, ln_ok s.2.1 i → bus < 2 → (m_lp i fu s bus tr).1 j = s.1 j
  | 0, s, bus, tr, ho, hb => rfl
  | fu + 1, s, bus, tr, ho, hb => by
    unfold kK at hj
    unfold m_lp
    cases s_much s (nI (s_time s.2.1 i))
    · simp only [cond_false]
      have k1 : m_kept s (m_set3 (m_try1 s i bus).1 (m_try1 s i bus).2 (tr + 1) (nI bus)) := kept_try ho hb
      have k2 : (m_set3 (m_try1 s i bus).1 (m_try1 s i bus).2 (tr + 1) (nI bus)).1 j = s.1 j := by
        have e := try1_h (s := s) (i := i) (bus := bus) (j := j) ho (by omega)
        generalize m_try1 s i bus = z at *
        unfold m_set3
        simp (disch := omega) only [pk_un]
        exact e
      cases s_lost (m_try1 s i bus).2 && decide (nI (tr + 1) ≤ s.2.1 1)
      · exact k2
      · exact (lp_h hj hi fu _ (1 - bus) (tr + 1) (ln_ok_c (kept_ln k1) hi ho) (by omega)).trans k2
    · rfl
theorem goes_h {i j : Nat} (hj : kK j) (hi : i < 24) (ho : ln_ok s.2.1 i) : (m_goes s i).1 j = s.1 j := by
  have ei : ∀ (s : z_sg) o, (m_in s o).1 j = s.1 j := fun s o => by
    unfold kK at hj
    unfold m_in
    simp (disch := omega) only [pk_un]
  unfold m_goes
  cases s_toC s.2.1 i
  · show (m_tl (m_in s (nI 7)) i).1 j = s.1 j
    unfold m_tl
    have e := lp_h (i := i) hj hi 4 (m_in (m_in s (nI 7)) (nI 6)) (lnn (m_in s (nI 7)).2.1 i 8) 0 ho (ln_b ho)
    rw [ei, ei] at e
    generalize m_lp i 4 (m_in (m_in s (nI 7)) (nI 6)) (lnn (m_in s (nI 7)).2.1 i 8) 0 = z at *
    generalize lnn (m_in s (nI 7)).2.1 i 1 = t at *
    unfold kK at hj
    unfold m_hd
    split
    · split
      · exact (show upd z.1 24 (nI t) j = z.1 j from pk_un (by omega)).trans e
      · exact (show upd z.1 26 (nI 5) j = z.1 j from pk_un (by omega)).trans e
    · exact e
  · exact ei s _
theorem lns_h {f B ln j : Nat} (hj : kK j) (hs : oS s B ln) (hB : B + 2400 < 2 ^ 29) : ∀ i, i ≤ (s.2.1 8).toNatClampNeg → (m_lns f i s).1 j = s.1 j
  | 0, _ => rfl
  | i + 1, hi => by
    have ih := lns_h (f := f) hj hs hB i (by omega)
    obtain ⟨⟨ln', l1, l2⟩, kk, -⟩ := lns_oS (f := f) hs hB i (by omega)
    have h24 := hs.1.2.1
    have k8 := kk 8 (by omega)
    show (m_ln1 f (m_lns f i s) i).1 j = s.1 j
    generalize m_lns f i s = z at *
    unfold m_ln1
    cases s_due z.2.1 i f
    · exact ih
    · have g := goes_h (s := m_f z 29 (z.1 29 + nI 1)) (i := i) hj (by omega) (l2.1.2.2 i (by rw [k8]; omega))
      have j29 : j ≠ 29 ∧ j ≠ 30 := by unfold kK at hj; omega
      rw [show (m_f z 29 (z.1 29 + nI 1)).1 j = z.1 j from (show upd z.1 29 (z.1 29 + nI 1) j = z.1 j from pk_un j29.1)] at g
      simp only [cond_true]
      unfold m_stp
      generalize m_goes (m_f z 29 (z.1 29 + nI 1)) i = G at *
      show upd G.1 30 (z.1 30 + z_bi (decide (s_out G = 0))) j = _
      rw [pk_un j29.2, g]; exact ih
theorem sig_h {j : Nat} : ∀ k, (m_sig k s).1 j = s.1 j
  | 0 => rfl
  | k + 1 => by
    have ih := sig_h (j := j) k
    show (m_sig1 (m_sig k s) k).1 j = _
    generalize m_sig k s = z at *
    unfold m_sig1
    split
    · exact ih
    · exact ih
theorem ev_h {j : Nat} : ∀ k, (m_ev k s).1 j = s.1 j
  | 0 => rfl
  | k + 1 => by
    have ih := ev_h (j := j) k
    show (m_ev1 (m_ev k s) k).1 j = _
    generalize m_ev k s = z at *
    unfold m_ev1
    split
    · split
      · split
        · exact ih
        · exact ih
      · exact ih
    · exact ih
theorem ctl_h {t : Int32} {j : Nat} : (m_ctl s t).1 j = s.1 j := by
  unfold m_ctl
  split <;> rfl
theorem sil_h {j : Nat} : (m_sil s).1 j = s.1 j := by
  unfold m_sil
  split
  · rfl
  · exact ctl_h
theorem pre_h {j : Nat} (hj : kK j) : (m_pre s).1 j = s.1 j := by
  unfold kK at hj
  unfold m_pre
  rw [sig_h, ev_h]
  exact (show upd (upd s.1 4 (nI 0)) 7 (nI 0) j = s.1 j from (pk_un (by omega)).trans (pk_un (by omega)))
theorem post_h {j : Nat} (hj : kK j) : (m_post s).1 j = s.1 j := by
  unfold kK at hj
  exact (show upd s.1 25 _ j = s.1 j from pk_un (by omega))
/-- what a frame of the model's leaves as it was -/
theorem once_h {B ln f c : Nat} (h : oF s B ln f c) (hB : B + 3000 < 2 ^ 29) : (∀ j, kK j → (m_once s).1 j = s.1 j) ∧ (m_once s).2.1 0 = s.2.1 0 := by
  obtain ⟨hs, he, hg, h2, h3, hc, hf⟩ := h
  have po := fun j hj => pre_o (s := s) he (j := j) hj
  have ph := fun j (hj : kK j) => pre_h (s := s) hj
  have hsP : oS (m_pre s) B ln := oS_c hs fun j hj => po j (by omega)
  have p0 := po 0 (by omega)
  unfold m_once
  generalize m_pre s = P at *
  by_cases hz : s_ctp P.2.1 = nI 0
  · rw [if_pos hz]
    refine ⟨fun j hj => ?_, ?_⟩
    · rw [post_h hj, sil_h]; exact ph j hj
    · rw [post_o (by decide) (by decide), sil_o (by decide) (by decide) (by decide)]; exact p0
  · rw [if_neg hz]
    have hsW : oS (m_pow P) B ln := oS_c hsP fun j hj => pow_o (by omega)
    have pw8 : ((m_pow P).2.1 8).toNatClampNeg = (P.2.1 8).toNatClampNeg := congrArg Int32.toNatClampNeg (pow_o (by decide))
    have lh := fun j (hj : kK j) => lns_h (f := (P.2.1 2).toNatClampNeg) hj hsW (by omega) (P.2.1 8).toNatClampNeg (by rw [pw8]; exact Nat.le_refl _)
    obtain ⟨-, q3, -⟩ := lns_oS (f := (P.2.1 2).toNatClampNeg) hsW (by omega) (P.2.1 8).toNatClampNeg (by rw [pw8]; exact Nat.le_refl _)
    have rh : ∀ j, kK j → (m_run P).1 j = P.1 j := fun j hj => (lh j hj).trans (show upd P.1 24 (P.2.1 3) j = P.1 j from pk_un (by unfold kK at hj; omega))
    have r0 : (m_run P).2.1 0 = P.2.1 0 := (q3 0 (by omega)).trans (pow_o (by decide))
    generalize m_run P = T at *
    have ah : ∀ j, kK j → (m_asked T).1 j = T.1 j := fun j hj => ask_h (s := T) (by unfold kK at hj; omega) 8
    have a0 : (m_asked T).2.1 0 = T.2.1 0 := asked_o (by omega)
    generalize m_asked T = A at *
    refine ⟨fun j hj => ?_, ?_⟩
    · rw [post_h hj, ctl_h, ah j hj, rh j hj]; exact ph j hj
    · rw [post_o (by decide) (by decide), ctl_o (by decide) (by decide), a0, r0]; exact p0
theorem fms_h {B ln f c : Nat} (h : oF s B ln f c) (hB : B + 200000 < 2 ^ 29) (hf : f ≤ 9999) : ∀ j, j ≤ 60 → (∀ i, kK i → (m_fms j s).1 i = s.1 i) ∧ (m_fms j s).2.1 0 = s.2.1 0
  | 0, _ => ⟨fun _ _ => rfl, rfl⟩
  | j + 1, hj => by
    obtain ⟨ln', c', a, b⟩ := fms_oF h hB hf j (by omega)
    obtain ⟨x, y⟩ := fms_h h hB hf j (by omega)
    obtain ⟨u, v⟩ := once_h b (by omega)
    exact ⟨fun i hi => (u i hi).trans (x i hi), v.trans y⟩
theorem fms0_h {B ln f c N : Nat} (h : oF s B ln f c) (hB : B + 200000 < 2 ^ 29) (hf : f ≤ 9999) (hN : N ≤ 60) : (∀ i, kK i → (m_fms N (m_zero s)).1 i = s.1 i) ∧ (m_fms N (m_zero s)).2.1 0 = s.2.1 0 := by
  obtain ⟨x, y⟩ := fms_h (zero_oF h) hB hf N hN
  exact ⟨fun i hi => (x i hi).trans (show upd (upd (upd s.1 29 (nI 0)) 30 (nI 0)) 25 (nI 0) i = s.1 i from by unfold kK at hi; rw [pk_un (by omega), pk_un (by omega), pk_un (by omega)]), y⟩
theorem onc_h {B K T U N j : Nat} (hj : kK j) : (m_onc s B K T U N).1.1 j = s.1 j := by
  have h9 : j = 3 ∨ 9 ≤ j := by unfold kK at hj; omega
  unfold m_onc
  split
  · exact trs_h h9 (m_sends_h h9)
  · split
    · exact trs_h h9 (m_gets_h h9)
    · split
      · exact (m_slot_h h9).trans (m_tellsAll_h h9)
      · exact trs_h h9 (m_modes_h h9)
end
