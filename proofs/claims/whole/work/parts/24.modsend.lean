/-! the model's messages: what a terminal takes, sends and gets -/
def m_last (s : z_sg) (t : Nat) : z_sg := (s.1, upd s.2.1 (136 + t) (s_status s.1 s.2.1 t), s.2.2)
def m_begins (s : z_sg) (t : Nat) (c : Int32) : z_sg := m_last (upd s.1 6 (nI 0), s_begins s.2.1 t c, s.2.2) t
def m_errs (s : z_sg) (t : Nat) : z_sg := m_last (s.1, s_errs s.2.1 t, s.2.2) t
def s_legal (w : Nat → Int32) (t u : Nat) : Bool := decide (w (96 + t) >>> (nI (u + 1) &&& nI 31) &&& nI 1 = nI 1)
def m_taken (s : z_sg) (t u : Nat) : z_sg × Bool := (bif s_legal s.2.1 t u then s else m_errs s t, s_legal s.2.1 t u && decide (s.2.1 (40 + t) = nI 0))
def s_shut (w : Nat → Int32) (t bus : Nat) : Bool := decide (w (112 + t) >>> (nI bus &&& nI 31) &&& nI 1 = nI 1)
def s_hear (w : Nat → Int32) (t bus : Nat) : Bool := decide (w (31 + t) = nI 1) && decide (w (80 + t) >>> (nI bus &&& nI 31) &&& nI 1 = nI 0) && !decide (nI t = w 3)
def s_cmd (t k sub n : Int32) : Int32 := t <<< (nI 11 &&& nI 31) ||| k <<< (nI 10 &&& nI 31) ||| sub <<< (nI 5 &&& nI 31) ||| n &&& nI 31
/-- the status is said, if it may -/
def m_ends (s : z_sg) (bus t : Nat) : z_sg × Int32 :=
  let s1 := m_last s t
  bif s_shut s1.2.1 t bus then (m_quiet s1, nI 1) else
    let r := m_answers (s1.1, s1.2.1, upd s1.2.2 0 (s1.2.1 (136 + t))) bus t 1
    (r.1, if r.2 = nI 0 then s_judged r.1.2.1 t else nI 2)
section
variable {L : Nat} {xs : Nat → Int32} {d : Nat} {kp sp wd : Value} {I : z_I} {s : z_sg} {R : z_R} {J : z_J} {F : z_F} {cn : Nat} {Q : z_Q}
theorem sp_tellsLast {t : Nat} (ht : t < 8) (hQ : Q none (z_ms I (m_last s t)) (z_R0 kp sp wd) J F cn) : z_M (z_X0 L xs) z_P0 (d + 1) m_Mod_tellsLast [.ref 40, .int (nI t)] (z_ms I s) (z_R0 kp sp wd) J F cn Q := sp_Mod_tellsLast ht hQ
theorem sp_begins {t : Nat} {c : Int32} (ht : t < 8) (hQ : Q none (z_ms I (m_begins s t c)) (z_R0 kp sp wd) J F cn) : z_M (z_X0 L xs) z_P0 (d + 2) m_Mod_begins [.ref 40, .int (nI t), .int c] (z_ms I s) (z_R0 kp sp wd) J F cn Q := sp_Mod_begins ht hQ
theorem sp_errs {t : Nat} (ht : t < 8) (hQ : Q none (z_ms I (m_errs s t)) (z_R0 kp sp wd) J F cn) : z_M (z_X0 L xs) z_P0 (d + 2) m_Mod_errs [.ref 40, .int (nI t)] (z_ms I s) (z_R0 kp sp wd) J F cn Q := sp_Mod_errs ht hQ
theorem sp_cmd {t k sub n : Int32} (hQ : Q (some (.int (s_cmd t k sub n))) I R J F cn) : z_M (z_X0 L xs) z_P0 d m_Mod_command [.int t, .int k, .int sub, .int n] I R J F cn Q := sp_Mod_command hQ
theorem sp_at0 {t u : Nat} (hQ : Q (some (.int (nI (6 * t + u)))) I R J F cn) : z_M (z_X0 L xs) z_P0 d m_Mod_at0 [.int (nI t), .int (nI (u + 1))] I R J F cn Q := by
  refine sp_Mod_at0 ?_
  simp only [z_lit, pk_mul, nI_add, z_pr2]
  exact hQ
theorem sp_shut {t bus : Nat} (ht : t < 8) (hb : bus < 2) (hQ : Q (some (.int (z_bi (s_shut s.2.1 t bus)))) (z_ms I s) (z_R0 kp sp wd) J F cn) : z_M (z_X0 L xs) z_P0 d m_Mod_isShut [.ref 40, .int (nI t), .int (nI bus)] (z_ms I s) (z_R0 kp sp wd) J F cn Q :=
  sp_Mod_isShut ht hb (fun h => by unfold s_shut at hQ; rw [decide_eq_true h] at hQ; exact hQ) (fun h => by unfold s_shut at hQ; rw [decide_eq_false h] at hQ; exact hQ)
theorem sp_legal {t u : Nat} (ht : t < 8) (hQ : Q (some (.int (z_bi (s_legal s.2.1 t u)))) (z_ms I s) (z_R0 kp sp wd) J F cn) : z_M (z_X0 L xs) z_P0 d m_Mod_isLegal [.ref 40, .int (nI t), .int (nI (u + 1))] (z_ms I s) (z_R0 kp sp wd) J F cn Q :=
  sp_Mod_isLegal ht (fun h => by unfold s_legal at hQ; rw [decide_eq_true h] at hQ; exact hQ) (fun h => by unfold s_legal at hQ; rw [decide_eq_false h] at hQ; exact hQ)
theorem sp_hear {t bus : Nat} (ht : t < 9) (hb : bus < 2) (hQ : Q (some (.int (z_bi (s_hear s.2.1 t bus)))) (z_ms I s) (z_R0 kp sp wd) J F cn) : z_M (z_X0 L xs) z_P0 d m_Mod_isHearing [.ref 40, .int (nI t), .int (nI bus)] (z_ms I s) (z_R0 kp sp wd) J F cn Q := by
  refine sp_Mod_isHearing ht hb (fun a b c => ?_) (fun h => ?_)
  · unfold s_hear at hQ; rw [decide_eq_true a, decide_eq_true b, decide_eq_false c] at hQ; exact hQ
  · have e : s_hear s.2.1 t bus = false := by
      rw [Bool.eq_false_iff]; intro z
      unfold s_hear at z
      simp only [Bool.and_eq_true, decide_eq_true_eq, Bool.not_eq_true', decide_eq_false_iff_not] at z
      exact h ⟨z.1.1, z.1.2, z.2⟩
    rw [e] at hQ; exact hQ
theorem m_errs_legal {t u : Nat} (ht : t < 8) : s_legal (m_errs s t).2.1 t u = s_legal s.2.1 t u := by
  unfold s_legal m_errs m_last s_errs
  simp (disch := omega) only [pk_un]
theorem sp_taken {t u : Nat} (ht : t < 8) (hQ : Q (some (.int (z_bi (m_taken s t u).2))) (z_ms I (m_taken s t u).1) (z_R0 kp sp wd) J F cn) : z_M (z_X0 L xs) z_P0 (d + 3) m_Mod_isTakenIn [.ref 40, .int (nI t), .int (nI (u + 1))] (z_ms I s) (z_R0 kp sp wd) J F cn Q := by
  unfold m_taken at hQ
  simp only at hQ
  refine z_WP_gos [] 1000 fun K C hK hC => ?_
  conv => whnf
  refine hC _ _ _ _ _ _ _ _ _ _ (fun _ _ _ _ _ _ q => q) (sp_legal ht ?_)
  conv => whnf
  cases hl : s_legal s.2.1 t u with
  | true =>
    rw [hl] at hQ
    repeat ((first | refine And.intro (by (conv => arg 2; whnf); (try simp only [z_lit, nI_add, pk_mul, z_pr1, z_pr2]); exact z_in (by omega) (by decide)) ?_ | refine z_bt1 (by decide) ?_ | refine z_bf1 (by decide) ?_ | refine z_bt2 (by decide) ?_ | refine z_bf2 (by decide) ?_); conv => whnf)
    refine hC _ _ _ _ _ _ _ _ _ _ (fun _ _ _ _ _ _ q => q) (sp_legal ht ?_)
    conv => whnf
    rw [hl]
    repeat ((first | refine And.intro (by (conv => arg 2; whnf); (try simp only [z_lit, nI_add, pk_mul, z_pr1, z_pr2]); exact z_in (by omega) (by decide)) ?_ | refine z_bt1 (by decide) ?_ | refine z_bf1 (by decide) ?_ | refine z_bt2 (by decide) ?_ | refine z_bf2 (by decide) ?_); conv => whnf)
    refine ⟨fun h => ?_, fun h => ?_⟩
    · simp (disch := omega) only [z_lit, nI_add, pk_mul, z_pr1, z_pr2, nI_clamp, z_m3_40, z_m3_41, z_m3_44, z_m3_u40, z_m3_u41, z_m3_u44, z_m3_m3, pk_us, pk_un] at h
      rw [decide_eq_false h] at hQ
      conv => whnf
      exact ⟨Or.inl rfl, hQ⟩
    · simp (disch := omega) only [z_lit, nI_add, pk_mul, z_pr1, z_pr2, nI_clamp, z_m3_40, z_m3_41, z_m3_44, z_m3_u40, z_m3_u41, z_m3_u44, z_m3_m3, pk_us, pk_un] at h
      rw [decide_eq_true h] at hQ
      conv => whnf
      exact ⟨Or.inr rfl, hQ⟩
  | false =>
    rw [hl] at hQ
    repeat ((first | refine And.intro (by (conv => arg 2; whnf); (try simp only [z_lit, nI_add, pk_mul, z_pr1, z_pr2]); exact z_in (by omega) (by decide)) ?_ | refine z_bt1 (by decide) ?_ | refine z_bf1 (by decide) ?_ | refine z_bt2 (by decide) ?_ | refine z_bf2 (by decide) ?_); conv => whnf)
    refine hC _ _ _ _ _ _ _ _ _ _ (fun _ _ _ _ _ _ q => q) (sp_errs ht ?_)
    conv => whnf
    refine hC _ _ _ _ _ _ _ _ _ _ (fun _ _ _ _ _ _ q => q) (sp_legal ht ?_)
    conv => whnf
    rw [m_errs_legal ht, hl]
    repeat ((first | refine And.intro (by (conv => arg 2; whnf); (try simp only [z_lit, nI_add, pk_mul, z_pr1, z_pr2]); exact z_in (by omega) (by decide)) ?_ | refine z_bt1 (by decide) ?_ | refine z_bf1 (by decide) ?_ | refine z_bt2 (by decide) ?_ | refine z_bf2 (by decide) ?_); conv => whnf)
    exact ⟨Or.inl rfl, hQ⟩
theorem m_last_ok {t B : Nat} (ht : t < 8) (h : m_ok s B) : m_ok (m_last s t) B := by
  obtain ⟨n, k, h1, h2, h3, h4⟩ := h
  refine ⟨n, k, ?_, ?_, h3, h4⟩ <;> (show upd s.2.1 (136 + t) _ _ = _) <;> rw [pk_un (by omega)] <;> assumption
theorem sp_ends {bus t B : Nat} (hb : bus < 2) (ht : t < 8) (hs : m_ok s B) (hB : B + 20 < 2 ^ 29) (hQ : Q (some (.int (m_ends s bus t).2)) (z_ms I (m_ends s bus t).1) (z_R0 kp sp wd) J F cn) : z_M (z_X0 L xs) z_P0 (d + 4) m_Mod_ends [.ref 40, .int (nI bus), .int (nI t)] (z_ms I s) (z_R0 kp sp wd) J F cn Q := by
  unfold m_ends at hQ
  simp only at hQ
  have hs1 := m_last_ok ht hs
  refine z_WP_gos [] 1000 fun K C hK hC => ?_
  conv => whnf
  refine hC _ _ _ _ _ _ _ _ _ _ (fun _ _ _ _ _ _ q => q) (sp_tellsLast ht ?_)
  conv => whnf
  generalize m_last s t = s1 at hQ hs1 ⊢
  refine hC _ _ _ _ _ _ _ _ _ _ (fun _ _ _ _ _ _ q => q) (sp_shut ht hb ?_)
  conv => whnf
  cases hl : s_shut s1.2.1 t bus with
  | true =>
    rw [hl] at hQ
    repeat ((first | refine And.intro (by (conv => arg 2; whnf); (try simp only [z_lit, nI_add, pk_mul, z_pr1, z_pr2]); exact z_in (by omega) (by decide)) ?_ | refine z_bt1 (by decide) ?_ | refine z_bf1 (by decide) ?_ | refine z_bt2 (by decide) ?_ | refine z_bf2 (by decide) ?_); conv => whnf)
    refine hC _ _ _ _ _ _ _ _ _ _ (fun _ _ _ _ _ _ q => q) (sp_Mod_noAnswer ?_)
    conv => whnf
    exact hQ
  | false =>
    rw [hl] at hQ
    repeat ((first | refine And.intro (by (conv => arg 2; whnf); (try simp only [z_lit, nI_add, pk_mul, z_pr1, z_pr2]); exact z_in (by omega) (by decide)) ?_ | refine z_bt1 (by decide) ?_ | refine z_bf1 (by decide) ?_ | refine z_bt2 (by decide) ?_ | refine z_bf2 (by decide) ?_); conv => whnf)
    simp (disch := omega) only [z_lit, nI_add, pk_mul, z_pr1, z_pr2, nI_clamp, z_m3_40, z_m3_41, z_m3_44, z_m3_u40, z_m3_u41, z_m3_u44, z_m3_m3, pk_us, pk_un]
    refine hC _ _ _ _ _ _ _ _ _ _ (fun _ _ _ _ _ _ q => q) (sp_Mod_answers (s := (s1.1, s1.2.1, upd s1.2.2 0 (s1.2.1 (136 + t)))) hb (by omega) (by decide) hs1 hB ?_)
    conv => whnf
    simp only [cond_false] at hQ
    generalize m_answers (s1.1, s1.2.1, upd s1.2.2 0 (s1.2.1 (136 + t))) bus t 1 = r at hQ ⊢
    refine ⟨fun h => ?_, fun h => ?_⟩ <;> rw [z_lit] at h
    · conv => whnf
      rw [if_pos h] at hQ
      refine hC _ _ _ _ _ _ _ _ _ _ (fun _ _ _ _ _ _ q => q) (sp_Mod_judged ht ?_)
      conv => whnf
      exact hQ
    · conv => whnf
      rw [if_neg h] at hQ
      exact hQ
/-- the words of SEND are laid ready -/
def m_ready (s : z_sg) (u n : Nat) : z_sg := (s.1, s.2.1, va_cpy s.2.1 s.2.2 (1344 + 8 * u) 1 n)
theorem lp_saysSend {u n : Nat} (hu : u < 6) (hn : n ≤ 8) (hQ : Q none (z_ms I (m_ready s u n)) (z_R0 kp sp wd) J F cn) :
    ∀ j k, k + j = n → z_WP (z_X0 L xs) z_P0 d m_Mod_saysSend 2 [some (.ref 40), some (.int (nI (u + 1))), some (.int (nI n)), some (.int (nI k))] [] (z_ms I (m_ready s u k)) (z_R0 kp sp wd) J F cn 0 0 Q := by
  intro j
  induction j with
  | zero =>
    intro k hk
    obtain rfl : k = n := by omega
    refine z_WP_gos [2] 1000 fun K C hK hC => ?_
    conv => whnf
    refine ⟨fun _ => ?_, fun h => absurd (Int32.le_refl _) h⟩
    conv => whnf
    exact hQ
  | succ j ih =>
    intro k hk
    have e := ih (k + 1) (by omega)
    unfold m_ready at e ⊢
    rw [← z_cpy_u] at e
    refine z_WP_gos [2] 1000 fun K C hK hC => ?_
    conv => whnf
    refine ⟨fun h => absurd h (nI_ge (by omega) (by omega)), fun _ => ?_⟩
    conv => whnf
    repeat ((first | refine And.intro (by (conv => arg 2; whnf); (try simp only [z_lit, nI_add, pk_mul, z_pr1, z_pr2]); exact z_in (by omega) (by decide)) ?_ | refine z_bt1 (by decide) ?_ | refine z_bf1 (by decide) ?_ | refine z_bt2 (by decide) ?_ | refine z_bf2 (by decide) ?_); conv => whnf)
    simp (disch := omega) only [z_lit, nI_add, pk_mul, z_pr1, z_pr2, nI_clamp, z_m3_40, z_m3_41, z_m3_44, z_m3_u40, z_m3_u41, z_m3_u44, z_m3_m3, pk_us, pk_un]
    refine hK _ _ _ _ _ _ _ _ _ _ (e)
theorem sp_saysSend {u n : Nat} (hu : u < 6) (hn : n ≤ 8) (hQ : Q none (z_ms I (m_ready s u n)) (z_R0 kp sp wd) J F cn) : z_M (z_X0 L xs) z_P0 d m_Mod_saysSend [.ref 40, .int (nI (u + 1)), .int (nI n)] (z_ms I s) (z_R0 kp sp wd) J F cn Q := by
  have e := lp_saysSend (L := L) (xs := xs) (d := d) hu hn hQ n 0 (by omega)
  unfold m_ready at e
  rw [z_cpy_0] at e
  refine z_WP_gos [2] 1000 fun K C hK hC => ?_
  conv => whnf
  refine hK _ _ _ _ _ _ _ _ _ _ (e)
/-- words copied within w -/
def m_copy (s : z_sg) (sp dp n : Nat) : z_sg := (s.1, va_cpy s.2.1 s.2.1 sp dp n, s.2.2)
theorem m_copy_0 {sp dp : Nat} : m_copy s sp dp 0 = s := by unfold m_copy; rw [z_cpy_0]
theorem m_copy_ok {a b n B : Nat} (hb : b + n ≤ 2000) (hb2 : 11 ≤ b) (h : m_ok s B) : m_ok (m_copy s a b n) B := by
  obtain ⟨i, k, h1, h2, h3, h4⟩ := h
  refine ⟨i, k, ?_, ?_, h3, h4⟩
  · show va_cpy s.2.1 s.2.1 a b n 2315 = _
    rw [pk_cpy_out (by omega)]; exact h1
  · show va_cpy s.2.1 s.2.1 a b n 10 = _
    rw [pk_cpy_out (by omega)]; exact h2
theorem m_errs_ok {t B : Nat} (ht : t < 8) (h : m_ok s B) : m_ok (m_errs s t) B := by
  refine m_last_ok ht ?_
  obtain ⟨n, k, h1, h2, h3, h4⟩ := h
  refine ⟨n, k, ?_, ?_, h3, h4⟩ <;> (show s_errs s.2.1 t _ = _) <;> unfold s_errs <;> rw [pk_un (by omega), pk_un (by omega)] <;> assumption
theorem m_begins_ok {t B : Nat} {c : Int32} (ht : t < 8) (h : m_ok s B) : m_ok (m_begins s t c) B := by
  refine m_last_ok ht ?_
  obtain ⟨n, k, h1, h2, h3, h4⟩ := h
  refine ⟨n, k, ?_, ?_, h3, h4⟩ <;> (show s_begins s.2.1 t c _ = _) <;> unfold s_begins <;> rw [pk_un (by omega), pk_un (by omega), pk_un (by omega)] <;> assumption
theorem m_taken_ok {t u B : Nat} (ht : t < 8) (h : m_ok s B) : m_ok (m_taken s t u).1 B := by
  unfold m_taken
  cases s_legal s.2.1 t u
  · exact m_errs_ok ht h
  · exact h
/-- SEND -/
def m_sends (s : z_sg) (bus t u n : Nat) : z_sg × Int32 :=
  let c := s_cmd (nI t) (nI 0) (nI (u + 1)) (nI n)
  let r := m_lays (m_ready (s.1, s.2.1, upd s.2.2 0 c) u n) bus (s.2.1 3) (1 + n)
  bif s_hear r.1.2.1 t bus && !decide (r.2 &&& nI 1 = nI 1) then
    let s2 := m_begins r.1 t c
    if r.2 = nI 0 then
      let q := m_taken s2 t u
      m_ends (bif q.2 then m_copy q.1 (1344 + 8 * u) (576 + 8 * (6 * t + u)) n else q.1) bus t
    else (m_quiet (m_errs s2 t), nI 1)
  else (m_quiet r.1, nI 1)
theorem lp_sends {bus t u n B : Nat} {tu : Int32} (hb : bus < 2) (ht : t < 8) (hu : u < 6) (hn : n ≤ 8) (hs : m_ok s B) (hB : B + 20 < 2 ^ 29)
    (hQ : Q (some (.int (m_ends (m_copy s (1344 + 8 * u) (576 + 8 * (6 * t + u)) n) bus t).2)) (z_ms I (m_ends (m_copy s (1344 + 8 * u) (576 + 8 * (6 * t + u)) n) bus t).1) (z_R0 kp sp wd) J F cn) :
    ∀ j k, k + j = n → z_WP (z_X0 L xs) z_P0 (d + 5) m_Mod_sends 100 [some (.ref 40), some (.int (nI bus)), some (.int (nI t)), some (.int (nI (u + 1))), some (.int (nI n)), some (.int tu), some (.int (nI k))] [] (z_ms I (m_copy s (1344 + 8 * u) (576 + 8 * (6 * t + u)) k)) (z_R0 kp sp wd) J F cn 0 0 Q := by
  intro j
  induction j with
  | zero =>
    intro k hk
    obtain rfl : k = n := by omega
    refine z_WP_gos [100] 1000 fun K C hK hC => ?_
    conv => whnf
    refine ⟨fun _ => ?_, fun h => absurd (Int32.le_refl _) h⟩
    conv => whnf
    refine hC _ _ _ _ _ _ _ _ _ _ (fun _ _ _ _ _ _ q => q) (sp_ends hb ht (m_copy_ok (by omega) (by omega) hs) hB ?_)
    conv => whnf
    exact hQ
  | succ j ih =>
    intro k hk
    have e := ih (k + 1) (by omega)
    unfold m_copy at e ⊢
    rw [← z_cpy_u] at e
    refine z_WP_gos [100] 1000 fun K C hK hC => ?_
    conv => whnf
    refine ⟨fun h => absurd h (nI_ge (by omega) (by omega)), fun _ => ?_⟩
    conv => whnf
    refine hC _ _ _ _ _ _ _ _ _ _ (fun _ _ _ _ _ _ q => q) (sp_at0 ?_)
    conv => whnf
    repeat ((first | refine And.intro (by (conv => arg 2; whnf); (try simp only [z_lit, nI_add, pk_mul, z_pr1, z_pr2]); exact z_in (by omega) (by decide)) ?_ | refine z_bt1 (by decide) ?_ | refine z_bf1 (by decide) ?_ | refine z_bt2 (by decide) ?_ | refine z_bf2 (by decide) ?_); conv => whnf)
    simp (disch := omega) only [z_lit, nI_add, pk_mul, z_pr1, z_pr2, nI_clamp, z_m3_40, z_m3_41, z_m3_44, z_m3_u40, z_m3_u41, z_m3_u44, z_m3_m3, pk_us, pk_un]
    rw [pk_cpy_out (by omega)]
    refine hK _ _ _ _ _ _ _ _ _ _ (e)
theorem sp_sends {bus t u n B : Nat} (hb : bus < 2) (ht : t < 8) (hu : u < 6) (hn : n ≤ 8) (hs : m_ok s B) (hB : B + 40 < 2 ^ 29) (hQ : Q (some (.int (m_sends s bus t u n).2)) (z_ms I (m_sends s bus t u n).1) (z_R0 kp sp wd) J F cn) : z_M (z_X0 L xs) z_P0 (d + 5) m_Mod_sends [.ref 40, .int (nI bus), .int (nI t), .int (nI (u + 1)), .int (nI n)] (z_ms I s) (z_R0 kp sp wd) J F cn Q := by
  unfold m_sends at hQ
  simp only at hQ
  have hs1 := m_lays_ok (s := m_ready (s.1, s.2.1, upd s.2.2 0 (s_cmd (nI t) (nI 0) (nI (u + 1)) (nI n))) u n) (who := s.2.1 3) (many := 1 + n) hb hs (by omega)
  refine z_WP_gos [100] 1000 fun K C hK hC => ?_
  conv => whnf
  refine hC _ _ _ _ _ _ _ _ _ _ (fun _ _ _ _ _ _ q => q) (sp_cmd ?_)
  conv => whnf
  repeat ((first | refine And.intro (by (conv => arg 2; whnf); (try simp only [z_lit, nI_add, pk_mul, z_pr1, z_pr2]); exact z_in (by omega) (by decide)) ?_ | refine z_bt1 (by decide) ?_ | refine z_bf1 (by decide) ?_ | refine z_bt2 (by decide) ?_ | refine z_bf2 (by decide) ?_); conv => whnf)
  simp (disch := omega) only [z_lit, nI_add, pk_mul, z_pr1, z_pr2, nI_clamp, z_m3_40, z_m3_41, z_m3_44, z_m3_u40, z_m3_u41, z_m3_u44, z_m3_m3, pk_us, pk_un]
  refine hC _ _ _ _ _ _ _ _ _ _ (fun _ _ _ _ _ _ q => q) (sp_saysSend (s := (s.1, s.2.1, upd s.2.2 0 (s_cmd (nI t) (nI 0) (nI (u + 1)) (nI n)))) hu hn ?_)
  conv => whnf
  repeat ((first | refine And.intro (by (conv => arg 2; whnf); (try simp only [z_lit, nI_add, pk_mul, z_pr1, z_pr2]); exact z_in (by omega) (by decide)) ?_ | refine z_bt1 (by decide) ?_ | refine z_bf1 (by decide) ?_ | refine z_bt2 (by decide) ?_ | refine z_bf2 (by decide) ?_); conv => whnf)
  simp (disch := omega) only [z_lit, nI_add, pk_mul, z_pr1, z_pr2, nI_clamp, z_m3_40, z_m3_41, z_m3_44, z_m3_u40, z_m3_u41, z_m3_u44, z_m3_m3, pk_us, pk_un]
  refine hC _ _ _ _ _ _ _ _ _ _ (fun _ _ _ _ _ _ q => q) (sp_Mod_lays (who := s.2.1 3) hb (by omega) hs (by omega) ?_)
  conv => whnf
  generalize m_lays (m_ready (s.1, s.2.1, upd s.2.2 0 (s_cmd (nI t) (nI 0) (nI (u + 1)) (nI n))) u n) bus (s.2.1 3) (1 + n) = r at hQ hs1 ⊢
  refine hC _ _ _ _ _ _ _ _ _ _ (fun _ _ _ _ _ _ q => q) (sp_hear (by omega) hb ?_)
  conv => whnf
  cases hl : s_hear r.1.2.1 t bus with
  | false =>
    rw [hl] at hQ
    repeat ((first | refine And.intro (by (conv => arg 2; whnf); (try simp only [z_lit, nI_add, pk_mul, z_pr1, z_pr2]); exact z_in (by omega) (by decide)) ?_ | refine z_bt1 (by decide) ?_ | refine z_bf1 (by decide) ?_ | refine z_bt2 (by decide) ?_ | refine z_bf2 (by decide) ?_); conv => whnf)
    refine hC _ _ _ _ _ _ _ _ _ _ (fun _ _ _ _ _ _ q => q) (sp_Mod_noAnswer ?_)
    conv => whnf
    exact hQ
  | true =>
    rw [hl] at hQ
    repeat ((first | refine And.intro (by (conv => arg 2; whnf); (try simp only [z_lit, nI_add, pk_mul, z_pr1, z_pr2]); exact z_in (by omega) (by decide)) ?_ | refine z_bt1 (by decide) ?_ | refine z_bf1 (by decide) ?_ | refine z_bt2 (by decide) ?_ | refine z_bf2 (by decide) ?_); conv => whnf)
    refine ⟨fun h => ?_, fun h => ?_⟩ <;> simp only [z_lit] at h
    · rw [decide_eq_false h] at hQ
      conv => whnf
      refine hC _ _ _ _ _ _ _ _ _ _ (fun _ _ _ _ _ _ q => q) (sp_cmd ?_)
      conv => whnf
      refine hC _ _ _ _ _ _ _ _ _ _ (fun _ _ _ _ _ _ q => q) (sp_begins (c := s_cmd (nI t) (nI 0) (nI (u + 1)) (nI n)) ht ?_)
      conv => whnf
      have hs2 := m_begins_ok (c := s_cmd (nI t) (nI 0) (nI (u + 1)) (nI n)) ht hs1
      generalize m_begins r.1 t (s_cmd (nI t) (nI 0) (nI (u + 1)) (nI n)) = s2 at hQ hs2 ⊢
      refine ⟨fun g => ?_, fun g => ?_⟩ <;> rw [z_lit] at g
      · simp only [g, if_true, Bool.not_false, Bool.and_true, cond_true] at hQ
        conv => whnf
        refine hC _ _ _ _ _ _ _ _ _ _ (fun _ _ _ _ _ _ q => q) (sp_taken ht ?_)
        conv => whnf
        have hs3 := m_taken_ok (u := u) ht hs2
        generalize m_taken s2 t u = q at hQ hs3 ⊢
        obtain ⟨s3, bq⟩ := q
        simp only at hQ hs3 ⊢
        cases bq with
        | true =>
          repeat ((first | refine And.intro (by (conv => arg 2; whnf); (try simp only [z_lit, nI_add, pk_mul, z_pr1, z_pr2]); exact z_in (by omega) (by decide)) ?_ | refine z_bt1 (by decide) ?_ | refine z_bf1 (by decide) ?_ | refine z_bt2 (by decide) ?_ | refine z_bf2 (by decide) ?_); conv => whnf)
          refine hK _ _ _ _ _ _ _ _ _ _ (?_)
          have e := lp_sends (L := L) (xs := xs) (d := d) (tu := r.2) hb ht hu hn hs3 (by omega) hQ n 0 (by omega)
          rw [m_copy_0] at e
          exact e
        | false =>
          repeat ((first | refine And.intro (by (conv => arg 2; whnf); (try simp only [z_lit, nI_add, pk_mul, z_pr1, z_pr2]); exact z_in (by omega) (by decide)) ?_ | refine z_bt1 (by decide) ?_ | refine z_bf1 (by decide) ?_ | refine z_bt2 (by decide) ?_ | refine z_bf2 (by decide) ?_); conv => whnf)
          refine hC _ _ _ _ _ _ _ _ _ _ (fun _ _ _ _ _ _ q => q) (sp_ends hb ht hs3 (by omega) ?_)
          conv => whnf
          exact hQ
      · simp only [g, if_false, Bool.not_false, Bool.and_true, cond_true] at hQ
        conv => whnf
        refine hC _ _ _ _ _ _ _ _ _ _ (fun _ _ _ _ _ _ q => q) (sp_errs ht ?_)
        conv => whnf
        refine hC _ _ _ _ _ _ _ _ _ _ (fun _ _ _ _ _ _ q => q) (sp_Mod_noAnswer ?_)
        conv => whnf
        exact hQ
    · rw [decide_eq_true h] at hQ
      conv => whnf
      refine hC _ _ _ _ _ _ _ _ _ _ (fun _ _ _ _ _ _ q => q) (sp_Mod_noAnswer ?_)
      conv => whnf
      exact hQ
end
