/-! the model's messages: GET and PASS -/
def m_keep (s : z_sg) (c n : Nat) : z_sg :=
  let s1 := m_copy s (192 + 8 * c) (960 + 8 * c) n
  if 1 < n ∧ s1.2.1 (1392 + c) = nI 1 then m_smooths s1 c else s1
def m_gets (s : z_sg) (bus t u n : Nat) : z_sg × Int32 :=
  let c := s_cmd (nI t) (nI 1) (nI (u + 1)) (nI n)
  let r := m_lays (s.1, s.2.1, upd s.2.2 0 c) bus (s.2.1 3) 1
  bif s_hear r.1.2.1 t bus && decide (r.2 = nI 0) then
    let q := m_tw (m_begins r.1 t c) bus t u n
    if q.2 = nI 0 then (m_keep q.1 (6 * t + u) n, nI 0) else q
  else (m_quiet r.1, nI 1)
/-- the smoothed ones are numbers that can go on -/
def m_fine (s : z_sg) : Prop := ∀ c, c < 48 → ∀ b, s_tame b = true → s_safe b (s.2.1 (1536 + c))
section
variable {L : Nat} {xs : Nat → Int32} {d : Nat} {kp sp wd : Value} {I : z_I} {s : z_sg} {R : z_R} {J : z_J} {F : z_F} {cn : Nat} {Q : z_Q}
theorem m_ok_mo {B B' : Nat} (h : m_ok s B) (hB : B ≤ B') : m_ok s B' := by
  obtain ⟨n, k, h1, h2, h3, h4⟩ := h
  exact ⟨n, k, h1, h2, by omega, by omega⟩
theorem m_answers_ok {bus t many B : Nat} (hb : bus < 2) (h : m_ok s B) (hB : B + many < 2 ^ 29) : m_ok (m_answers s bus t many).1 (B + many + 1) := by
  have e := m_lays_ok (s := (upd s.1 4 (s.1 4 + nI 8), s.2.1, s.2.2)) (who := nI t) hb h hB
  unfold m_answers
  simp only
  split
  · exact e
  · exact e
theorem m_ends_ok {bus t B : Nat} (hb : bus < 2) (ht : t < 8) (h : m_ok s B) (hB : B + 1 < 2 ^ 29) : m_ok (m_ends s bus t).1 (B + 2) := by
  have e := m_last_ok ht h
  unfold m_ends
  simp only
  cases s_shut (m_last s t).2.1 t bus
  · exact m_answers_ok (s := ((m_last s t).1, (m_last s t).2.1, upd (m_last s t).2.2 0 ((m_last s t).2.1 (136 + t)))) hb e hB
  · exact m_ok_mo (s := m_quiet (m_last s t)) e (by omega)
theorem m_tw_ok {bus t u n B : Nat} (hb : bus < 2) (ht : t < 8) (hn : n ≤ 8) (h : m_ok s B) (hB : B + 20 < 2 ^ 29) : m_ok (m_tw s bus t u n).1 (B + 10) := by
  have e := m_last_ok ht (m_taken_ok (u := u) ht h)
  unfold m_tw
  simp only
  generalize m_taken s t u = q at e ⊢
  cases s_shut (m_last q.1 t).2.1 t bus
  · have hm : (bif q.2 then 1 + n else 1) ≤ 9 := by cases q.2 <;> simp <;> omega
    have := m_answers_ok (s := m_says ((m_last q.1 t).1, (m_last q.1 t).2.1, upd (m_last q.1 t).2.2 0 ((m_last q.1 t).2.1 (136 + t))) (192 + 8 * (6 * t + u)) n) (many := bif q.2 then 1 + n else 1) (t := t) hb e (by omega)
    exact m_ok_mo this (by omega)
  · exact m_ok_mo (s := m_quiet (m_last q.1 t)) e (by omega)
/-- what does not touch the smoothed ones -/
theorem m_fine_of {s' : z_sg} (h : m_fine s) (he : ∀ c, c < 48 → s'.2.1 (1536 + c) = s.2.1 (1536 + c)) : m_fine s' := fun c hc b hb => by rw [he c hc]; exact h c hc b hb
theorem m_last_o {t j : Nat} (hj : j ≠ 136 + t) : (m_last s t).2.1 j = s.2.1 j := pk_un hj
theorem m_errs_o {t j : Nat} (hj : j ≠ 136 + t) (h2 : j ≠ 128 + t) (h3 : j ≠ 176 + t) : (m_errs s t).2.1 j = s.2.1 j := by
  unfold m_errs
  rw [m_last_o hj]
  show s_errs s.2.1 t j = _
  unfold s_errs
  rw [pk_un h2, pk_un h3]
theorem m_begins_o {t j : Nat} {c : Int32} (hj : j ≠ 136 + t) (h2 : j ≠ 144 + t) (h3 : j ≠ 176 + t) (h4 : j ≠ 184 + t) : (m_begins s t c).2.1 j = s.2.1 j := by
  unfold m_begins
  rw [m_last_o hj]
  show s_begins s.2.1 t c j = _
  unfold s_begins
  rw [pk_un h2, pk_un h4, pk_un h3]
theorem m_taken_o {t u j : Nat} (hj : j ≠ 136 + t) (h2 : j ≠ 128 + t) (h3 : j ≠ 176 + t) : (m_taken s t u).1.2.1 j = s.2.1 j := by
  unfold m_taken
  cases s_legal s.2.1 t u
  · exact m_errs_o hj h2 h3
  · rfl
theorem m_answers_o {bus t many j : Nat} (hb : bus < 2) (hj : j ≠ 5 ∧ j ≠ 10 ∧ (j < 13 ∨ (31 ≤ j ∧ j < 2220) ∨ (2260 ≤ j ∧ j < 2305) ∨ 2572 ≤ j)) : (m_answers s bus t many).1.2.1 j = s.2.1 j := by
  have e := m_lays_lo (s := (upd s.1 4 (s.1 4 + nI 8), s.2.1, s.2.2)) (bus := bus) (many := many) (j := j) (who := nI t) hb hj
  unfold m_answers
  simp only
  split
  · exact e
  · exact e
theorem m_tw_o {bus t u n j : Nat} (hb : bus < 2) (ht : t < 8) (hj : 200 ≤ j ∧ j < 2220 ∨ 2572 ≤ j) : (m_tw s bus t u n).1.2.1 j = s.2.1 j := by
  have e : (m_last (m_taken s t u).1 t).2.1 j = s.2.1 j := (m_last_o (by omega)).trans (m_taken_o (by omega) (by omega) (by omega))
  unfold m_tw
  simp only
  generalize m_taken s t u = q at e ⊢
  cases s_shut (m_last q.1 t).2.1 t bus
  · exact (m_answers_o hb (by omega)).trans e
  · exact e
theorem lp_gets {bus t u n : Nat} {tu is : Int32} (ht : t < 8) (hu : u < 6) (hn : n ≤ 8) (hf : m_fine s)
    (hQ : Q (some (.int (nI 0))) (z_ms I (m_keep s (6 * t + u) n)) (z_R0 kp sp wd) J F cn) :
    ∀ j k, k + j = n → z_WP (z_X0 L xs) z_P0 (d + 6) m_Mod_gets 82 [some (.ref 40), some (.int (nI bus)), some (.int (nI t)), some (.int (nI (u + 1))), some (.int (nI n)), some (.int tu), some (.int is), some (.int (nI k))] [] (z_ms I (m_copy s (192 + 8 * (6 * t + u)) (960 + 8 * (6 * t + u)) k)) (z_R0 kp sp wd) J F cn 0 0 Q := by
  intro j
  induction j with
  | zero =>
    intro k hk
    obtain rfl : k = n := by omega
    unfold m_keep at hQ
    simp only at hQ
    have hs : m_fine (m_copy s (192 + 8 * (6 * t + u)) (960 + 8 * (6 * t + u)) k) := m_fine_of hf fun c hc => pk_cpy_out (by omega)
    generalize m_copy s (192 + 8 * (6 * t + u)) (960 + 8 * (6 * t + u)) k = s1 at hs hQ ⊢
    refine z_WP_gos [82] 1000 fun K C hK hC => ?_
    conv => whnf
    refine ⟨fun _ => ?_, fun h => absurd (Int32.le_refl _) h⟩
    conv => whnf
    refine ⟨fun h => ?_, fun h => ?_⟩
    · rw [if_neg (fun z => absurd h (nI_ge (a := 1) (b := k) z.1 (by omega)))] at hQ
      conv => whnf
      exact hQ
    · have h1 : 1 < k := by
        apply Nat.lt_of_not_le; intro z; exact h (nI_le (a := k) (b := 1) z (by decide))
      conv => whnf
      refine hC _ _ _ _ _ _ _ _ _ _ (fun _ _ _ _ _ _ q => q) (sp_at0 ?_)
      conv => whnf
      repeat ((first | refine And.intro (by (conv => arg 2; whnf); (try simp only [z_lit, nI_add, pk_mul, z_pr1, z_pr2]); exact z_in (by omega) (by decide)) ?_ | refine z_bt1 (by decide) ?_ | refine z_bf1 (by decide) ?_ | refine z_bt2 (by decide) ?_ | refine z_bf2 (by decide) ?_); conv => whnf)
      simp (disch := omega) only [z_lit, nI_add, pk_mul, z_pr1, z_pr2, nI_clamp, z_m3_40, z_m3_41, z_m3_44, z_m3_u40, z_m3_u41, z_m3_u44, z_m3_m3, pk_us, pk_un]
      refine ⟨fun g => ?_, fun g => ?_⟩ <;> (try simp (disch := omega) only [z_lit, nI_add, pk_mul, z_pr1, z_pr2, nI_clamp, z_m3_40, z_m3_41, z_m3_44, z_m3_u40, z_m3_u41, z_m3_u44, z_m3_m3, pk_us, pk_un] at g) <;> (conv => whnf)
      · rw [if_neg (fun z => g z.2)] at hQ
        exact hQ
      · rw [if_pos ⟨h1, g⟩] at hQ
        refine hC _ _ _ _ _ _ _ _ _ _ (fun _ _ _ _ _ _ q => q) (sp_smooths ht hu (hs _ (by omega)) ?_)
        conv => whnf
        exact hQ
  | succ j ih =>
    intro k hk
    have e := ih (k + 1) (by omega)
    unfold m_copy at e ⊢
    rw [← z_cpy_u] at e
    refine z_WP_gos [82] 1000 fun K C hK hC => ?_
    conv => whnf
    refine ⟨fun h => absurd h (nI_ge (by omega) (by omega)), fun _ => ?_⟩
    conv => whnf
    refine hC _ _ _ _ _ _ _ _ _ _ (fun _ _ _ _ _ _ q => q) (sp_at0 ?_)
    conv => whnf
    refine hC _ _ _ _ _ _ _ _ _ _ (fun _ _ _ _ _ _ q => q) (sp_at0 ?_)
    conv => whnf
    repeat ((first | refine And.intro (by (conv => arg 2; whnf); (try simp only [z_lit, nI_add, pk_mul, z_pr1, z_pr2]); exact z_in (by omega) (by decide)) ?_ | refine z_bt1 (by decide) ?_ | refine z_bf1 (by decide) ?_ | refine z_bt2 (by decide) ?_ | refine z_bf2 (by decide) ?_); conv => whnf)
    simp (disch := omega) only [z_lit, nI_add, pk_mul, z_pr1, z_pr2, nI_clamp, z_m3_40, z_m3_41, z_m3_44, z_m3_u40, z_m3_u41, z_m3_u44, z_m3_m3, pk_us, pk_un]
    rw [pk_cpy_out (by omega)]
    refine hK _ _ _ _ _ _ _ _ _ _ (e)
theorem m_lays_fine {bus many : Nat} {who : Int32} (hb : bus < 2) (h : m_fine s) : m_fine (m_lays s bus who many).1 := m_fine_of h fun c hc => m_lays_lo hb (by omega)
theorem m_begins_fine {t : Nat} {c : Int32} (ht : t < 8) (h : m_fine s) : m_fine (m_begins s t c) := m_fine_of h fun c hc => m_begins_o (by omega) (by omega) (by omega) (by omega)
theorem m_tw_fine {bus t u n : Nat} (hb : bus < 2) (ht : t < 8) (h : m_fine s) : m_fine (m_tw s bus t u n).1 := m_fine_of h fun c hc => m_tw_o hb ht (by omega)
theorem sp_gets {bus t u n B : Nat} (hb : bus < 2) (ht : t < 8) (hu : u < 6) (hn : n ≤ 8) (hs : m_ok s B) (hf : m_fine s) (hB : B + 40 < 2 ^ 29) (hQ : Q (some (.int (m_gets s bus t u n).2)) (z_ms I (m_gets s bus t u n).1) (z_R0 kp sp wd) J F cn) : z_M (z_X0 L xs) z_P0 (d + 6) m_Mod_gets [.ref 40, .int (nI bus), .int (nI t), .int (nI (u + 1)), .int (nI n)] (z_ms I s) (z_R0 kp sp wd) J F cn Q := by
  unfold m_gets at hQ
  simp only at hQ
  have hs1 := m_lays_ok (s := (s.1, s.2.1, upd s.2.2 0 (s_cmd (nI t) (nI 1) (nI (u + 1)) (nI n)))) (who := s.2.1 3) (many := 1) hb hs (by omega)
  have hf1 := m_lays_fine (s := (s.1, s.2.1, upd s.2.2 0 (s_cmd (nI t) (nI 1) (nI (u + 1)) (nI n)))) (who := s.2.1 3) (many := 1) hb hf
  refine z_WP_gos [82] 1000 fun K C hK hC => ?_
  conv => whnf
  refine hC _ _ _ _ _ _ _ _ _ _ (fun _ _ _ _ _ _ q => q) (sp_cmd ?_)
  conv => whnf
  repeat ((first | refine And.intro (by (conv => arg 2; whnf); (try simp only [z_lit, nI_add, pk_mul, z_pr1, z_pr2]); exact z_in (by omega) (by decide)) ?_ | refine z_bt1 (by decide) ?_ | refine z_bf1 (by decide) ?_ | refine z_bt2 (by decide) ?_ | refine z_bf2 (by decide) ?_); conv => whnf)
  simp (disch := omega) only [z_lit, nI_add, pk_mul, z_pr1, z_pr2, nI_clamp, z_m3_40, z_m3_41, z_m3_44, z_m3_u40, z_m3_u41, z_m3_u44, z_m3_m3, pk_us, pk_un]
  refine hC _ _ _ _ _ _ _ _ _ _ (fun _ _ _ _ _ _ q => q) (sp_Mod_lays (s := (s.1, s.2.1, upd s.2.2 0 (s_cmd (nI t) (nI 1) (nI (u + 1)) (nI n)))) (who := s.2.1 3) hb (by omega) hs (by omega) ?_)
  conv => whnf
  generalize m_lays (s.1, s.2.1, upd s.2.2 0 (s_cmd (nI t) (nI 1) (nI (u + 1)) (nI n))) bus (s.2.1 3) 1 = r at hQ hs1 hf1 ⊢
  refine hC _ _ _ _ _ _ _ _ _ _ (fun _ _ _ _ _ _ q => q) (sp_hear (by omega) hb ?_)
  conv => whnf
  cases hl : s_hear r.1.2.1 t bus with
  | false =>
    rw [hl] at hQ
    repeat ((first | refine And.intro (by (conv => arg 2; whnf); (try simp only [z_lit, nI_add, pk_mul, z_pr1, z_pr2]); exact z_in (by omega) (by decide)) ?_ | refine z_bt1 (by decide) ?_ | refine z_bf1 (by decide) ?_ | refine z_bt2 (by decide) ?_ | refine z_bf2 (by decide) ?_); conv => whnf)
    refine hC _ _ _ _ _ _ _ _ _ _ (fun _ _ _ _ _ _ q => q) (sp_Mod_noAnswer ?_)
    conv => whnf
    exact hQ
  | true =>
    rw [hl] at hQ
    repeat ((first | refine And.intro (by (conv => arg 2; whnf); (try simp only [z_lit, nI_add, pk_mul, z_pr1, z_pr2]); exact z_in (by omega) (by decide)) ?_ | refine z_bt1 (by decide) ?_ | refine z_bf1 (by decide) ?_ | refine z_bt2 (by decide) ?_ | refine z_bf2 (by decide) ?_); conv => whnf)
    refine ⟨fun h => ?_, fun h => ?_⟩ <;> (try simp (disch := omega) only [z_lit, nI_add, pk_mul, z_pr1, z_pr2, nI_clamp, z_m3_40, z_m3_41, z_m3_44, z_m3_u40, z_m3_u41, z_m3_u44, z_m3_m3, pk_us, pk_un] at h) <;> (conv => whnf)
    · rw [decide_eq_true h] at hQ
      refine hC _ _ _ _ _ _ _ _ _ _ (fun _ _ _ _ _ _ q => q) (sp_cmd ?_)
      conv => whnf
      refine hC _ _ _ _ _ _ _ _ _ _ (fun _ _ _ _ _ _ q => q) (sp_begins (c := s_cmd (nI t) (nI 1) (nI (u + 1)) (nI n)) ht ?_)
      conv => whnf
      have hs2 := m_begins_ok (c := s_cmd (nI t) (nI 1) (nI (u + 1)) (nI n)) ht hs1
      have hf2 := m_begins_fine (c := s_cmd (nI t) (nI 1) (nI (u + 1)) (nI n)) ht hf1
      generalize m_begins r.1 t (s_cmd (nI t) (nI 1) (nI (u + 1)) (nI n)) = s2 at hQ hs2 hf2 ⊢
      refine hC _ _ _ _ _ _ _ _ _ _ (fun _ _ _ _ _ _ q => q) (sp_tellsWords hb ht hu hn hs2 (by omega) ?_)
      conv => whnf
      have hf3 := m_tw_fine (u := u) (n := n) hb ht hf2
      simp only [Bool.and_true, cond_true] at hQ
      generalize m_tw s2 bus t u n = q at hQ hf3 ⊢
      refine ⟨fun g => ?_, fun g => ?_⟩ <;> (try simp (disch := omega) only [z_lit, nI_add, pk_mul, z_pr1, z_pr2, nI_clamp, z_m3_40, z_m3_41, z_m3_44, z_m3_u40, z_m3_u41, z_m3_u44, z_m3_m3, pk_us, pk_un] at g) <;> (conv => whnf)
      · rw [if_pos g] at hQ
        refine hK _ _ _ _ _ _ _ _ _ _ (?_)
        have e := lp_gets (L := L) (xs := xs) (d := d) (bus := bus) (tu := r.2) (is := q.2) ht hu hn hf3 hQ n 0 (by omega)
        rw [m_copy_0] at e
        exact e
      · rw [if_neg g] at hQ
        exact hQ
    · rw [decide_eq_false h] at hQ
      refine hC _ _ _ _ _ _ _ _ _ _ (fun _ _ _ _ _ _ q => q) (sp_Mod_noAnswer ?_)
      conv => whnf
      exact hQ
/-- PASS -/
def m_passes (s : z_sg) (bus t u v r n : Nat) : z_sg × Int32 :=
  let c0 := s_cmd (nI v) (nI 0) (nI (r + 1)) (nI n)
  let c1 := s_cmd (nI t) (nI 1) (nI (u + 1)) (nI n)
  let l := m_lays (s.1, s.2.1, upd (upd s.2.2 0 c0) 1 c1) bus (s.2.1 3) 2
  let hears := s_hear l.1.2.1 v bus && decide (l.2 &&& nI 1 = nI 0)
  let s1 := bif hears then m_begins l.1 v c0 else l.1
  bif s_hear s1.2.1 t bus && decide (l.2 &&& nI 2 = nI 0) then
    let s2 := m_begins s1 t c1
    let q := m_tw (upd s2.1 8 (nI 0), s2.2.1, s2.2.2) bus t u n
    if q.2 = nI 0 then
      bif hears then
        let k := m_taken q.1 v r
        m_ends (bif k.2 then m_copy k.1 (192 + 8 * (6 * t + u)) (576 + 8 * (6 * v + r)) n else k.1) bus v
      else (m_quiet q.1, nI 1)
    else (if q.2 = nI 2 then (bif hears then m_errs q.1 v else q.1) else q.1, q.2)
  else (m_quiet s1, nI 1)
theorem lp_passes {bus t u v r n B : Nat} {tu he is : Int32} (hb : bus < 2) (ht : t < 8) (hu : u < 6) (hv : v < 8) (hr : r < 6) (hn : n ≤ 8) (hs : m_ok s B) (hB : B + 20 < 2 ^ 29)
    (hQ : Q (some (.int (m_ends (m_copy s (192 + 8 * (6 * t + u)) (576 + 8 * (6 * v + r)) n) bus v).2)) (z_ms I (m_ends (m_copy s (192 + 8 * (6 * t + u)) (576 + 8 * (6 * v + r)) n) bus v).1) (z_R0 kp sp wd) J F cn) :
    ∀ j k, k + j = n → z_WP (z_X0 L xs) z_P0 (d + 6) m_Mod_passes 188 [some (.ref 40), some (.int (nI bus)), some (.int (nI t)), some (.int (nI (u + 1))), some (.int (nI v)), some (.int (nI (r + 1))), some (.int (nI n)), some (.int tu), some (.int he), some (.int is), some (.int (nI k))] [] (z_ms I (m_copy s (192 + 8 * (6 * t + u)) (576 + 8 * (6 * v + r)) k)) (z_R0 kp sp wd) J F cn 0 0 Q := by
  intro j
  induction j with
  | zero =>
    intro k hk
    obtain rfl : k = n := by omega
    refine z_WP_gos [188] 1000 fun K C hK hC => ?_
    conv => whnf
    refine ⟨fun _ => ?_, fun h => absurd (Int32.le_refl _) h⟩
    conv => whnf
    refine hC _ _ _ _ _ _ _ _ _ _ (fun _ _ _ _ _ _ q => q) (sp_ends hb hv (m_copy_ok (by omega) (by omega) hs) hB ?_)
    conv => whnf
    exact hQ
  | succ j ih =>
    intro k hk
    have e := ih (k + 1) (by omega)
    unfold m_copy at e ⊢
    rw [← z_cpy_u] at e
    refine z_WP_gos [188] 1000 fun K C hK hC => ?_
    conv => whnf
    refine ⟨fun h => absurd h (nI_ge (by omega) (by omega)), fun _ => ?_⟩
    conv => whnf
    refine hC _ _ _ _ _ _ _ _ _ _ (fun _ _ _ _ _ _ q => q) (sp_at0 ?_)
    conv => whnf
    refine hC _ _ _ _ _ _ _ _ _ _ (fun _ _ _ _ _ _ q => q) (sp_at0 ?_)
    conv => whnf
    repeat ((first | refine And.intro (by (conv => arg 2; whnf); (try simp only [z_lit, nI_add, pk_mul, z_pr1, z_pr2]); exact z_in (by omega) (by decide)) ?_ | refine z_bt1 (by decide) ?_ | refine z_bf1 (by decide) ?_ | refine z_bt2 (by decide) ?_ | refine z_bf2 (by decide) ?_); conv => whnf)
    simp (disch := omega) only [z_lit, nI_add, pk_mul, z_pr1, z_pr2, nI_clamp, z_m3_40, z_m3_41, z_m3_44, z_m3_u40, z_m3_u41, z_m3_u44, z_m3_m3, pk_us, pk_un]
    rw [pk_cpy_out (by omega)]
    refine hK _ _ _ _ _ _ _ _ _ _ (e)
end
