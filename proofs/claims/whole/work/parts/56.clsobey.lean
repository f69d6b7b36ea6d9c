/-! MODE: the class obeys -/
section
variable {L : Nat} {xs : Nat → Int32} {d : Nat} {kp sp wd : Value} {I : z_I} {s : z_sg} {R : z_R} {J : z_J} {F : z_F} {cn : Nat} {Q : z_Q} {n k bus : Nat} {f0 : Int32}
theorem z_acc {v : Int32} (h : v01 v) : (if v = nI 0 then nI 0 else nI 2) = s_bt (nI 0) (nI 0) v := by rcases h with h | h <;> subst h <;> decide
theorem stt_does {t code : Nat} {c : Int32} (ht : t < 8) (hc : code < 32) (hc2 : code ≠ 2) (hc18 : code ≠ 18) (h6 : s.1 6 = nI 0) : stt (m_dz s bus t code) (m_last (m_does (m_begins s t c) bus t code) t) t c (m_er code) (nI 0) ((m_dz s bus t code).1 6) := by
  have hs2 := stt_begins (s := s) (t := t) (c := c) ht
  have bo : ∀ j, j < 128 ∨ 152 ≤ j ∧ j < 176 → (m_begins s t c).2.1 j = s.2.1 j := fun j hj => m_begins_o (by omega) (by omega) (by omega) (by omega)
  have err : stt s (m_last (m_errs (m_begins s t c) t) t) t c (nI 1) (nI 0) (s.1 6) := by rw [h6]; exact stt_last ht (stt_errs ht hs2)
  have non : stt s (m_last (m_begins s t c) t) t c (nI 0) (nI 0) (s.1 6) := by rw [h6]; exact stt_last ht hs2
  match code, hc, hc2, hc18 with
  | 0, _, _, _ =>
    show stt (upd s.1 6 (s.2.1 (72 + t)), s.2.1, s.2.2) (m_last (upd (m_begins s t c).1 6 ((m_begins s t c).2.1 (72 + t)), (m_begins s t c).2.1, (m_begins s t c).2.2) t) t c (nI 0) (nI 0) (upd s.1 6 (s.2.1 (72 + t)) 6)
    rw [bo _ (by omega), pk_us]
    obtain ⟨h1, h2, h3, h4, h5, h6', h7, h8, h9⟩ := hs2
    refine ⟨fun j a b c d e f => by rw [m_last_o c]; exact h1 j a b c d e f, by rw [m_last_o (by omega)]; exact h2, ?_, by rw [m_last_o (by omega)]; exact h4, by rw [m_last_o (by omega)]; exact h5, by rw [m_last_o (by omega)]; exact h6', (show upd (m_begins s t c).1 6 (s.2.1 (72 + t)) 6 = _ from pk_us), fun j hj => ?_, h9⟩
    · show upd _ _ _ _ = _
      rw [pk_us]
      exact s_stat_c (h1 _ (by omega) (by omega) (by omega) (by omega) (by omega) (by omega)) (h1 _ (by omega) (by omega) (by omega) (by omega) (by omega) (by omega)) (h1 _ (by omega) (by omega) (by omega) (by omega) (by omega) (by omega)) (h1 _ (by omega) (by omega) (by omega) (by omega) (by omega) (by omega)) (h1 _ (by omega) (by omega) (by omega) (by omega) (by omega) (by omega)) h5 h6' (show upd (m_begins s t c).1 6 (s.2.1 (72 + t)) 6 = _ from pk_us)
    · show upd (m_begins s t c).1 6 _ j = upd s.1 6 _ j
      rw [pk_un hj, pk_un hj]; exact h8 j hj
  | 1, _, _, _ =>
    have q := stt_w (q := 152 + t) (x := nI 0) ht (by omega) hs2
    show stt (m_w s (152 + t) (nI 0)) _ t c (nI 0) (nI 0) (s.1 6)
    rw [h6]; exact q
  | 4, _, _, _ =>
    have q := stt_w (q := 112 + t) (x := s.2.1 (112 + t) ||| s_oth bus) ht (by omega) hs2
    show stt (m_w s (112 + t) (s.2.1 (112 + t) ||| s_oth bus)) (m_last (m_w (m_begins s t c) (112 + t) ((m_begins s t c).2.1 (112 + t) ||| s_oth bus)) t) t c (nI 0) (nI 0) (s.1 6)
    rw [h6, bo _ (by omega)]; exact q
  | 5, _, _, _ =>
    have q := stt_w (q := 112 + t) (x := s.2.1 (112 + t) &&& (s_oth bus ^^^ -1)) ht (by omega) hs2
    show stt (m_w s (112 + t) (s.2.1 (112 + t) &&& (s_oth bus ^^^ -1))) (m_last (m_w (m_begins s t c) (112 + t) ((m_begins s t c).2.1 (112 + t) &&& (s_oth bus ^^^ -1))) t) t c (nI 0) (nI 0) (s.1 6)
    rw [h6, bo _ (by omega)]; exact q
  | 6, _, _, _ =>
    have q := stt_w (q := 120 + t) (x := nI 1) ht (by omega) hs2
    show stt (m_w s (120 + t) (nI 1)) _ t c (nI 0) (nI 0) (s.1 6)
    rw [h6]; exact q
  | 7, _, _, _ =>
    have q := stt_w (q := 120 + t) (x := nI 0) ht (by omega) hs2
    show stt (m_w s (120 + t) (nI 0)) _ t c (nI 0) (nI 0) (s.1 6)
    rw [h6]; exact q
  | 8, _, _, _ =>
    show stt (m_w (m_w (m_w s (112 + t) (nI 0)) (120 + t) (nI 0)) (128 + t) (nI 0)) (m_last (m_w (m_w (m_w (m_begins s t c) (112 + t) (nI 0)) (120 + t) (nI 0)) (128 + t) (nI 0)) t) t c (nI 0) (nI 0) (s.1 6)
    rw [h6]
    obtain ⟨h1, h2, h3, h4, h5, h6', h7, h8, h9⟩ := hs2
    have o : ∀ j, j < 192 → j ≠ 136 + t → j ≠ 144 + t → j ≠ 176 + t → j ≠ 184 + t → (m_w (m_w (m_w (m_begins s t c) (112 + t) (nI 0)) (120 + t) (nI 0)) (128 + t) (nI 0)).2.1 j = (m_w (m_w (m_w s (112 + t) (nI 0)) (120 + t) (nI 0)) (128 + t) (nI 0)).2.1 j := fun j a c d e f => by
      show upd (upd (upd _ _ _) _ _) _ _ j = upd (upd (upd _ _ _) _ _) _ _ j
      by_cases z1 : j = 128 + t
      · subst z1; rw [pk_us, pk_us]
      rw [pk_un z1, pk_un z1]
      by_cases z2 : j = 120 + t
      · subst z2; rw [pk_us, pk_us]
      rw [pk_un z2, pk_un z2]
      by_cases z3 : j = 112 + t
      · subst z3; rw [pk_us, pk_us]
      rw [pk_un z3, pk_un z3]
      exact h1 j a z1 c d e f
    have o2 : ∀ j, 136 ≤ j → (m_w (m_w (m_w (m_begins s t c) (112 + t) (nI 0)) (120 + t) (nI 0)) (128 + t) (nI 0)).2.1 j = (m_begins s t c).2.1 j := fun j hj => by
      show upd (upd (upd _ _ _) _ _) _ _ j = _
      rw [pk_un (by omega), pk_un (by omega), pk_un (by omega)]
    refine ⟨fun j a b c d e f => by rw [m_last_o c]; exact o j a c d e f, ?_, ?_, by rw [m_last_o (by omega), o2 _ (by omega)]; exact h4, by rw [m_last_o (by omega), o2 _ (by omega)]; exact h5, by rw [m_last_o (by omega), o2 _ (by omega)]; exact h6', h7, h8, h9⟩
    · rw [m_last_o (by omega), if_neg (by decide)]; exact o _ (by omega) (by omega) (by omega) (by omega) (by omega)
    · show upd _ _ _ _ = _
      rw [pk_us]
      exact s_stat_c (o _ (by omega) (by omega) (by omega) (by omega) (by omega)) (o _ (by omega) (by omega) (by omega) (by omega) (by omega)) (o _ (by omega) (by omega) (by omega) (by omega) (by omega)) (o _ (by omega) (by omega) (by omega) (by omega) (by omega)) (o _ (by omega) (by omega) (by omega) (by omega) (by omega)) ((o2 _ (by omega)).trans h5) ((o2 _ (by omega)).trans h6') h7
  | 17, _, _, _ =>
    have q := stt_w (q := 152 + t) (x := s.2.1 2 &&& nI 65535) ht (by omega) hs2
    show stt (m_w s (152 + t) (s.2.1 2 &&& nI 65535)) (m_last (m_w (m_begins s t c) (152 + t) ((m_begins s t c).2.1 2 &&& nI 65535)) t) t c (nI 0) (nI 0) (s.1 6)
    rw [h6, bo _ (by omega)]; exact q
  | 16, _, _, _ => exact non
  | 19, _, _, _ => exact non
  | 3, _, _, _ => exact err
  | 9, _, _, _ => exact err
  | 10, _, _, _ => exact err
  | 11, _, _, _ => exact err
  | 12, _, _, _ => exact err
  | 13, _, _, _ => exact err
  | 14, _, _, _ => exact err
  | 15, _, _, _ => exact err
  | 20, _, _, _ => exact err
  | 21, _, _, _ => exact err
  | 22, _, _, _ => exact err
  | 23, _, _, _ => exact err
  | 24, _, _, _ => exact err
  | 25, _, _, _ => exact err
  | 26, _, _, _ => exact err
  | 27, _, _, _ => exact err
  | 28, _, _, _ => exact err
  | 29, _, _, _ => exact err
  | 30, _, _, _ => exact err
  | 31, _, _, _ => exact err
  | 2, _, h, _ => exact absurd rfl h
  | 18, _, _, h => exact absurd rfl h
  | code + 32, hc, _, _ => exact absurd hc (by omega)
theorem ob_0 {t : Nat} {fm : Int32} (h : xR I F s n k bus f0) (hb : bus < 2) (ht : t < 8) (h6 : s.1 6 = nI 0) (hfr : fm = s.2.1 2 &&& nI 65535) (hQ : ∀ I', xR I' F (m_dz s bus t 0) n k bus f0 → I' 30 = I 30 → fr cT I I' → Q (some (.int (s_bt (m_er 0) (nI 0) ((m_dz s bus t 0).1 6)))) I' (z_R0 kp sp wd) J F cn) : z_M (z_X0 L xs) z_P0 d m_Units_obey [.ref 2, .int (nI t), .int (nI 0), .int (nI bus), .int fm] I (z_R0 kp sp wd) J F cn Q := by
  have hW := h.2.2.2.2.1
  refine z_WP_gos [14] 1000 fun K C hK hC => ?_
  conv => whnf
  refine hK _ _ _ _ _ _ _ _ _ _ (z_WP_ts 108 rfl (by decide) ?_)
  refine z_WP_gos [] 1000 fun K C hK hC => ?_
  conv => whnf
  have e : I 3 (t * 18 + 5) = s.2.1 (72 + t) := h.1.1.1 t ht 5 (by decide) (by decide)
  have v := hW.1.2.1 (72 + t) (by omega) (by omega)
  have q := hQ I (xR_6 (s' := m_does s bus t 0) h v rfl rfl) rfl fr_r
  have e2 : s_bt (m_er 0) (nI 0) ((m_dz s bus t 0).1 6) = s_bt (nI 0) (nI 0) (s.2.1 (72 + t)) := rfl
  rw [e2, ← z_acc v] at q
  repeat ((first | refine And.intro (by (conv => arg 2; whnf); (try simp only [z_lit, nI_add, pk_mul, z_pr1, z_pr2]); exact z_in (by omega) (by decide)) ?_ | refine z_bt1 (by decide) ?_ | refine z_bf1 (by decide) ?_ | refine z_bt2 (by decide) ?_ | refine z_bf2 (by decide) ?_); conv => whnf)
  refine ⟨fun g => ?_, fun g => ?_⟩ <;> (try simp (disch := omega) only [z_lit, nI_add, pk_mul, z_pr1, z_pr2, nI_clamp, z_up_row, z_row_s, z_row_n, z_row_row, pk_us, pk_un] at g) <;> (conv => whnf)
  · rw [e] at g
    rw [if_pos g] at q
    exact q
  · rw [e] at g
    rw [if_neg g] at q
    exact q
theorem ob_1 {t : Nat} {fm : Int32} (h : xR I F s n k bus f0) (hb : bus < 2) (ht : t < 8) (h6 : s.1 6 = nI 0) (hfr : fm = s.2.1 2 &&& nI 65535) (hQ : ∀ I', xR I' F (m_dz s bus t 1) n k bus f0 → I' 30 = I 30 → fr cT I I' → Q (some (.int (s_bt (m_er 1) (nI 0) ((m_dz s bus t 1).1 6)))) I' (z_R0 kp sp wd) J F cn) : z_M (z_X0 L xs) z_P0 d m_Units_obey [.ref 2, .int (nI t), .int (nI 1), .int (nI bus), .int fm] I (z_R0 kp sp wd) J F cn Q := by
  have hW := h.2.2.2.2.1
  refine z_WP_gos [14] 1000 fun K C hK hC => ?_
  conv => whnf
  refine hK _ _ _ _ _ _ _ _ _ _ (z_WP_ts 126 rfl (by decide) ?_)
  refine z_WP_gos [] 1000 fun K C hK hC => ?_
  conv => whnf
  have e2 : s_bt (m_er 1) (nI 0) ((m_dz s bus t 1).1 6) = nI 0 := by
    show s_bt (nI 0) (nI 0) (s.1 6) = nI 0
    rw [h6]; decide
  rw [e2] at hQ
  repeat ((first | refine And.intro (by (conv => arg 2; whnf); (try simp only [z_lit, nI_add, pk_mul, z_pr1, z_pr2]); exact z_in (by omega) (by decide)) ?_ | refine z_bt1 (by decide) ?_ | refine z_bf1 (by decide) ?_ | refine z_bt2 (by decide) ?_ | refine z_bf2 (by decide) ?_); conv => whnf)
  simp (disch := omega) only [z_lit, nI_add, pk_mul, z_pr1, z_pr2, nI_clamp, z_up_row, z_row_s, z_row_n, z_row_row, pk_us, pk_un]
  exact hQ _ (xR_told (q := 15) (x := nI 0) (s' := m_does s bus t 1) h ht (by omega) (fun z => by omega) (z_row_s _ _ _) (fun b h1 _ => z_row_n _ _ h1) rfl rfl) rfl (fr_w fr_r (by decide))
theorem ob_3 {t : Nat} {fm : Int32} (h : xR I F s n k bus f0) (hb : bus < 2) (ht : t < 8) (h6 : s.1 6 = nI 0) (hfr : fm = s.2.1 2 &&& nI 65535) (hQ : ∀ I', xR I' F (m_dz s bus t 3) n k bus f0 → I' 30 = I 30 → fr cT I I' → Q (some (.int (s_bt (m_er 3) (nI 0) ((m_dz s bus t 3).1 6)))) I' (z_R0 kp sp wd) J F cn) : z_M (z_X0 L xs) z_P0 d m_Units_obey [.ref 2, .int (nI t), .int (nI 3), .int (nI bus), .int fm] I (z_R0 kp sp wd) J F cn Q := by
  have hW := h.2.2.2.2.1
  refine z_WP_gos [14] 1000 fun K C hK hC => ?_
  conv => whnf
  refine hK _ _ _ _ _ _ _ _ _ _ (z_WP_ts 254 rfl (by decide) ?_)
  refine z_WP_gos [] 1000 fun K C hK hC => ?_
  conv => whnf
  have q := hQ I h rfl fr_r
  have e2 : s_bt (m_er 3) (nI 0) ((m_dz s bus t 3).1 6) = nI 1024 := by
    show s_bt (nI 1) (nI 0) (s.1 6) = nI 1024
    rw [h6]; decide
  rw [e2] at q
  exact q
theorem ob_4 {t : Nat} {fm : Int32} (h : xR I F s n k bus f0) (hb : bus < 2) (ht : t < 8) (h6 : s.1 6 = nI 0) (hfr : fm = s.2.1 2 &&& nI 65535) (hQ : ∀ I', xR I' F (m_dz s bus t 4) n k bus f0 → I' 30 = I 30 → fr cT I I' → Q (some (.int (s_bt (m_er 4) (nI 0) ((m_dz s bus t 4).1 6)))) I' (z_R0 kp sp wd) J F cn) : z_M (z_X0 L xs) z_P0 d m_Units_obey [.ref 2, .int (nI t), .int (nI 4), .int (nI bus), .int fm] I (z_R0 kp sp wd) J F cn Q := by
  have hW := h.2.2.2.2.1
  refine z_WP_gos [14] 1000 fun K C hK hC => ?_
  conv => whnf
  refine hK _ _ _ _ _ _ _ _ _ _ (z_WP_ts 139 rfl (by decide) ?_)
  refine z_WP_gos [] 1000 fun K C hK hC => ?_
  conv => whnf
  have e2 : s_bt (m_er 4) (nI 0) ((m_dz s bus t 4).1 6) = nI 0 := by
    show s_bt (nI 0) (nI 0) (s.1 6) = nI 0
    rw [h6]; decide
  rw [e2] at hQ
  repeat ((first | refine And.intro (by (conv => arg 2; whnf); (try simp only [z_lit, nI_add, pk_mul, z_pr1, z_pr2]); exact z_in (by omega) (by decide)) ?_ | refine z_bt1 (by decide) ?_ | refine z_bf1 (by decide) ?_ | refine z_bt2 (by decide) ?_ | refine z_bf2 (by decide) ?_); conv => whnf)
  simp (disch := omega) only [z_lit, nI_add, pk_mul, z_pr1, z_pr2, nI_clamp, z_up_row, z_row_s, z_row_n, z_row_row, pk_us, pk_un]
  have e : I 3 (t * 18 + 10) = s.2.1 (112 + t) := h.1.1.1 t ht 10 (by decide) (by decide)
  refine hQ _ (xR_told (q := 10) (x := s.2.1 (112 + t) ||| s_oth bus) (s' := m_does s bus t 4) h ht (by omega) (fun z => by omega) ?_ (fun b h1 _ => z_row_n _ _ h1) rfl rfl) rfl (fr_w fr_r (by decide))
  rw [z_row_s, e]
  rfl
theorem ob_5 {t : Nat} {fm : Int32} (h : xR I F s n k bus f0) (hb : bus < 2) (ht : t < 8) (h6 : s.1 6 = nI 0) (hfr : fm = s.2.1 2 &&& nI 65535) (hQ : ∀ I', xR I' F (m_dz s bus t 5) n k bus f0 → I' 30 = I 30 → fr cT I I' → Q (some (.int (s_bt (m_er 5) (nI 0) ((m_dz s bus t 5).1 6)))) I' (z_R0 kp sp wd) J F cn) : z_M (z_X0 L xs) z_P0 d m_Units_obey [.ref 2, .int (nI t), .int (nI 5), .int (nI bus), .int fm] I (z_R0 kp sp wd) J F cn Q := by
  have hW := h.2.2.2.2.1
  refine z_WP_gos [14] 1000 fun K C hK hC => ?_
  conv => whnf
  refine hK _ _ _ _ _ _ _ _ _ _ (z_WP_ts 156 rfl (by decide) ?_)
  refine z_WP_gos [] 1000 fun K C hK hC => ?_
  conv => whnf
  have e2 : s_bt (m_er 5) (nI 0) ((m_dz s bus t 5).1 6) = nI 0 := by
    show s_bt (nI 0) (nI 0) (s.1 6) = nI 0
    rw [h6]; decide
  rw [e2] at hQ
  repeat ((first | refine And.intro (by (conv => arg 2; whnf); (try simp only [z_lit, nI_add, pk_mul, z_pr1, z_pr2]); exact z_in (by omega) (by decide)) ?_ | refine z_bt1 (by decide) ?_ | refine z_bf1 (by decide) ?_ | refine z_bt2 (by decide) ?_ | refine z_bf2 (by decide) ?_); conv => whnf)
  simp (disch := omega) only [z_lit, nI_add, pk_mul, z_pr1, z_pr2, nI_clamp, z_up_row, z_row_s, z_row_n, z_row_row, pk_us, pk_un]
  have e : I 3 (t * 18 + 10) = s.2.1 (112 + t) := h.1.1.1 t ht 10 (by decide) (by decide)
  refine hQ _ (xR_told (q := 10) (x := s.2.1 (112 + t) &&& (s_oth bus ^^^ -1)) (s' := m_does s bus t 5) h ht (by omega) (fun z => by omega) ?_ (fun b h1 _ => z_row_n _ _ h1) rfl rfl) rfl (fr_w fr_r (by decide))
  rw [z_row_s, e]
  rfl
theorem ob_6 {t : Nat} {fm : Int32} (h : xR I F s n k bus f0) (hb : bus < 2) (ht : t < 8) (h6 : s.1 6 = nI 0) (hfr : fm = s.2.1 2 &&& nI 65535) (hQ : ∀ I', xR I' F (m_dz s bus t 6) n k bus f0 → I' 30 = I 30 → fr cT I I' → Q (some (.int (s_bt (m_er 6) (nI 0) ((m_dz s bus t 6).1 6)))) I' (z_R0 kp sp wd) J F cn) : z_M (z_X0 L xs) z_P0 d m_Units_obey [.ref 2, .int (nI t), .int (nI 6), .int (nI bus), .int fm] I (z_R0 kp sp wd) J F cn Q := by
  have hW := h.2.2.2.2.1
  refine z_WP_gos [14] 1000 fun K C hK hC => ?_
  conv => whnf
  refine hK _ _ _ _ _ _ _ _ _ _ (z_WP_ts 175 rfl (by decide) ?_)
  refine z_WP_gos [] 1000 fun K C hK hC => ?_
  conv => whnf
  have e2 : s_bt (m_er 6) (nI 0) ((m_dz s bus t 6).1 6) = nI 0 := by
    show s_bt (nI 0) (nI 0) (s.1 6) = nI 0
    rw [h6]; decide
  rw [e2] at hQ
  repeat ((first | refine And.intro (by (conv => arg 2; whnf); (try simp only [z_lit, nI_add, pk_mul, z_pr1, z_pr2]); exact z_in (by omega) (by decide)) ?_ | refine z_bt1 (by decide) ?_ | refine z_bf1 (by decide) ?_ | refine z_bt2 (by decide) ?_ | refine z_bf2 (by decide) ?_); conv => whnf)
  simp (disch := omega) only [z_lit, nI_add, pk_mul, z_pr1, z_pr2, nI_clamp, z_up_row, z_row_s, z_row_n, z_row_row, pk_us, pk_un]
  exact hQ _ (xR_told (q := 11) (x := nI 1) (s' := m_does s bus t 6) h ht (by omega) (fun _ => Or.inr rfl) (z_row_s _ _ _) (fun b h1 _ => z_row_n _ _ h1) rfl rfl) rfl (fr_w fr_r (by decide))
theorem ob_7 {t : Nat} {fm : Int32} (h : xR I F s n k bus f0) (hb : bus < 2) (ht : t < 8) (h6 : s.1 6 = nI 0) (hfr : fm = s.2.1 2 &&& nI 65535) (hQ : ∀ I', xR I' F (m_dz s bus t 7) n k bus f0 → I' 30 = I 30 → fr cT I I' → Q (some (.int (s_bt (m_er 7) (nI 0) ((m_dz s bus t 7).1 6)))) I' (z_R0 kp sp wd) J F cn) : z_M (z_X0 L xs) z_P0 d m_Units_obey [.ref 2, .int (nI t), .int (nI 7), .int (nI bus), .int fm] I (z_R0 kp sp wd) J F cn Q := by
  have hW := h.2.2.2.2.1
  refine z_WP_gos [14] 1000 fun K C hK hC => ?_
  conv => whnf
  refine hK _ _ _ _ _ _ _ _ _ _ (z_WP_ts 188 rfl (by decide) ?_)
  refine z_WP_gos [] 1000 fun K C hK hC => ?_
  conv => whnf
  have e2 : s_bt (m_er 7) (nI 0) ((m_dz s bus t 7).1 6) = nI 0 := by
    show s_bt (nI 0) (nI 0) (s.1 6) = nI 0
    rw [h6]; decide
  rw [e2] at hQ
  repeat ((first | refine And.intro (by (conv => arg 2; whnf); (try simp only [z_lit, nI_add, pk_mul, z_pr1, z_pr2]); exact z_in (by omega) (by decide)) ?_ | refine z_bt1 (by decide) ?_ | refine z_bf1 (by decide) ?_ | refine z_bt2 (by decide) ?_ | refine z_bf2 (by decide) ?_); conv => whnf)
  simp (disch := omega) only [z_lit, nI_add, pk_mul, z_pr1, z_pr2, nI_clamp, z_up_row, z_row_s, z_row_n, z_row_row, pk_us, pk_un]
  exact hQ _ (xR_told (q := 11) (x := nI 0) (s' := m_does s bus t 7) h ht (by omega) (fun _ => Or.inl rfl) (z_row_s _ _ _) (fun b h1 _ => z_row_n _ _ h1) rfl rfl) rfl (fr_w fr_r (by decide))
theorem ob_8 {t : Nat} {fm : Int32} (h : xR I F s n k bus f0) (hb : bus < 2) (ht : t < 8) (h6 : s.1 6 = nI 0) (hfr : fm = s.2.1 2 &&& nI 65535) (hQ : ∀ I', xR I' F (m_dz s bus t 8) n k bus f0 → I' 30 = I 30 → fr cT I I' → Q (some (.int (s_bt (m_er 8) (nI 0) ((m_dz s bus t 8).1 6)))) I' (z_R0 kp sp wd) J F cn) : z_M (z_X0 L xs) z_P0 d m_Units_obey [.ref 2, .int (nI t), .int (nI 8), .int (nI bus), .int fm] I (z_R0 kp sp wd) J F cn Q := by
  have hW := h.2.2.2.2.1
  refine z_WP_gos [14] 1000 fun K C hK hC => ?_
  conv => whnf
  refine hK _ _ _ _ _ _ _ _ _ _ (z_WP_ts 201 rfl (by decide) ?_)
  refine z_WP_gos [] 1000 fun K C hK hC => ?_
  conv => whnf
  have e2 : s_bt (m_er 8) (nI 0) ((m_dz s bus t 8).1 6) = nI 0 := by
    show s_bt (nI 0) (nI 0) (s.1 6) = nI 0
    rw [h6]; decide
  rw [e2] at hQ
  repeat ((first | refine And.intro (by (conv => arg 2; whnf); (try simp only [z_lit, nI_add, pk_mul, z_pr1, z_pr2]); exact z_in (by omega) (by decide)) ?_ | refine z_bt1 (by decide) ?_ | refine z_bf1 (by decide) ?_ | refine z_bt2 (by decide) ?_ | refine z_bf2 (by decide) ?_); conv => whnf)
  simp (disch := omega) only [z_lit, nI_add, pk_mul, z_pr1, z_pr2, nI_clamp, z_up_row, z_row_s, z_row_n, z_row_row, pk_us, pk_un]
  have x1 : xR (z_row I 3 (upd (I 3) (t * 18 + 10) (nI 0))) F (m_w s (112 + t) (nI 0)) n k bus f0 := xR_told (q := 10) (x := nI 0) h ht (by omega) (fun z => by omega) (z_row_s _ _ _) (fun b h1 _ => z_row_n _ _ h1) rfl rfl
  have x2 : xR (z_row I 3 (upd (upd (I 3) (t * 18 + 10) (nI 0)) (t * 18 + 11) (nI 0))) F (m_w (m_w s (112 + t) (nI 0)) (120 + t) (nI 0)) n k bus f0 := xR_told (q := 11) (x := nI 0) x1 ht (by omega) (fun _ => Or.inl rfl) (z_row_s _ _ _) (fun b h1 _ => by rw [z_row_n _ _ h1, z_row_n _ _ h1]) rfl rfl
  have x3 : xR (z_row I 3 (upd (upd (upd (I 3) (t * 18 + 10) (nI 0)) (t * 18 + 11) (nI 0)) (t * 18 + 12) (nI 0))) F (m_does s bus t 8) n k bus f0 := xR_told (q := 12) (x := nI 0) x2 ht (by omega) (fun z => by omega) (z_row_s _ _ _) (fun b h1 _ => by rw [z_row_n _ _ h1, z_row_n _ _ h1]) rfl rfl
  exact hQ _ x3 rfl (fr_w fr_r (by decide))
theorem ob_9 {t : Nat} {fm : Int32} (h : xR I F s n k bus f0) (hb : bus < 2) (ht : t < 8) (h6 : s.1 6 = nI 0) (hfr : fm = s.2.1 2 &&& nI 65535) (hQ : ∀ I', xR I' F (m_dz s bus t 9) n k bus f0 → I' 30 = I 30 → fr cT I I' → Q (some (.int (s_bt (m_er 9) (nI 0) ((m_dz s bus t 9).1 6)))) I' (z_R0 kp sp wd) J F cn) : z_M (z_X0 L xs) z_P0 d m_Units_obey [.ref 2, .int (nI t), .int (nI 9), .int (nI bus), .int fm] I (z_R0 kp sp wd) J F cn Q := by
  have hW := h.2.2.2.2.1
  refine z_WP_gos [14] 1000 fun K C hK hC => ?_
  conv => whnf
  refine hK _ _ _ _ _ _ _ _ _ _ (z_WP_ts 254 rfl (by decide) ?_)
  refine z_WP_gos [] 1000 fun K C hK hC => ?_
  conv => whnf
  have q := hQ I h rfl fr_r
  have e2 : s_bt (m_er 9) (nI 0) ((m_dz s bus t 9).1 6) = nI 1024 := by
    show s_bt (nI 1) (nI 0) (s.1 6) = nI 1024
    rw [h6]; decide
  rw [e2] at q
  exact q
theorem ob_10 {t : Nat} {fm : Int32} (h : xR I F s n k bus f0) (hb : bus < 2) (ht : t < 8) (h6 : s.1 6 = nI 0) (hfr : fm = s.2.1 2 &&& nI 65535) (hQ : ∀ I', xR I' F (m_dz s bus t 10) n k bus f0 → I' 30 = I 30 → fr cT I I' → Q (some (.int (s_bt (m_er 10) (nI 0) ((m_dz s bus t 10).1 6)))) I' (z_R0 kp sp wd) J F cn) : z_M (z_X0 L xs) z_P0 d m_Units_obey [.ref 2, .int (nI t), .int (nI 10), .int (nI bus), .int fm] I (z_R0 kp sp wd) J F cn Q := by
  have hW := h.2.2.2.2.1
  refine z_WP_gos [14] 1000 fun K C hK hC => ?_
  conv => whnf
  refine hK _ _ _ _ _ _ _ _ _ _ (z_WP_ts 254 rfl (by decide) ?_)
  refine z_WP_gos [] 1000 fun K C hK hC => ?_
  conv => whnf
  have q := hQ I h rfl fr_r
  have e2 : s_bt (m_er 10) (nI 0) ((m_dz s bus t 10).1 6) = nI 1024 := by
    show s_bt (nI 1) (nI 0) (s.1 6) = nI 1024
    rw [h6]; decide
  rw [e2] at q
  exact q
theorem ob_11 {t : Nat} {fm : Int32} (h : xR I F s n k bus f0) (hb : bus < 2) (ht : t < 8) (h6 : s.1 6 = nI 0) (hfr : fm = s.2.1 2 &&& nI 65535) (hQ : ∀ I', xR I' F (m_dz s bus t 11) n k bus f0 → I' 30 = I 30 → fr cT I I' → Q (some (.int (s_bt (m_er 11) (nI 0) ((m_dz s bus t 11).1 6)))) I' (z_R0 kp sp wd) J F cn) : z_M (z_X0 L xs) z_P0 d m_Units_obey [.ref 2, .int (nI t), .int (nI 11), .int (nI bus), .int fm] I (z_R0 kp sp wd) J F cn Q := by
  have hW := h.2.2.2.2.1
  refine z_WP_gos [14] 1000 fun K C hK hC => ?_
  conv => whnf
  refine hK _ _ _ _ _ _ _ _ _ _ (z_WP_ts 254 rfl (by decide) ?_)
  refine z_WP_gos [] 1000 fun K C hK hC => ?_
  conv => whnf
  have q := hQ I h rfl fr_r
  have e2 : s_bt (m_er 11) (nI 0) ((m_dz s bus t 11).1 6) = nI 1024 := by
    show s_bt (nI 1) (nI 0) (s.1 6) = nI 1024
    rw [h6]; decide
  rw [e2] at q
  exact q
theorem ob_12 {t : Nat} {fm : Int32} (h : xR I F s n k bus f0) (hb : bus < 2) (ht : t < 8) (h6 : s.1 6 = nI 0) (hfr : fm = s.2.1 2 &&& nI 65535) (hQ : ∀ I', xR I' F (m_dz s bus t 12) n k bus f0 → I' 30 = I 30 → fr cT I I' → Q (some (.int (s_bt (m_er 12) (nI 0) ((m_dz s bus t 12).1 6)))) I' (z_R0 kp sp wd) J F cn) : z_M (z_X0 L xs) z_P0 d m_Units_obey [.ref 2, .int (nI t), .int (nI 12), .int (nI bus), .int fm] I (z_R0 kp sp wd) J F cn Q := by
  have hW := h.2.2.2.2.1
  refine z_WP_gos [14] 1000 fun K C hK hC => ?_
  conv => whnf
  refine hK _ _ _ _ _ _ _ _ _ _ (z_WP_ts 254 rfl (by decide) ?_)
  refine z_WP_gos [] 1000 fun K C hK hC => ?_
  conv => whnf
  have q := hQ I h rfl fr_r
  have e2 : s_bt (m_er 12) (nI 0) ((m_dz s bus t 12).1 6) = nI 1024 := by
    show s_bt (nI 1) (nI 0) (s.1 6) = nI 1024
    rw [h6]; decide
  rw [e2] at q
  exact q
theorem ob_13 {t : Nat} {fm : Int32} (h : xR I F s n k bus f0) (hb : bus < 2) (ht : t < 8) (h6 : s.1 6 = nI 0) (hfr : fm = s.2.1 2 &&& nI 65535) (hQ : ∀ I', xR I' F (m_dz s bus t 13) n k bus f0 → I' 30 = I 30 → fr cT I I' → Q (some (.int (s_bt (m_er 13) (nI 0) ((m_dz s bus t 13).1 6)))) I' (z_R0 kp sp wd) J F cn) : z_M (z_X0 L xs) z_P0 d m_Units_obey [.ref 2, .int (nI t), .int (nI 13), .int (nI bus), .int fm] I (z_R0 kp sp wd) J F cn Q := by
  have hW := h.2.2.2.2.1
  refine z_WP_gos [14] 1000 fun K C hK hC => ?_
  conv => whnf
  refine hK _ _ _ _ _ _ _ _ _ _ (z_WP_ts 254 rfl (by decide) ?_)
  refine z_WP_gos [] 1000 fun K C hK hC => ?_
  conv => whnf
  have q := hQ I h rfl fr_r
  have e2 : s_bt (m_er 13) (nI 0) ((m_dz s bus t 13).1 6) = nI 1024 := by
    show s_bt (nI 1) (nI 0) (s.1 6) = nI 1024
    rw [h6]; decide
  rw [e2] at q
  exact q
theorem ob_14 {t : Nat} {fm : Int32} (h : xR I F s n k bus f0) (hb : bus < 2) (ht : t < 8) (h6 : s.1 6 = nI 0) (hfr : fm = s.2.1 2 &&& nI 65535) (hQ : ∀ I', xR I' F (m_dz s bus t 14) n k bus f0 → I' 30 = I 30 → fr cT I I' → Q (some (.int (s_bt (m_er 14) (nI 0) ((m_dz s bus t 14).1 6)))) I' (z_R0 kp sp wd) J F cn) : z_M (z_X0 L xs) z_P0 d m_Units_obey [.ref 2, .int (nI t), .int (nI 14), .int (nI bus), .int fm] I (z_R0 kp sp wd) J F cn Q := by
  have hW := h.2.2.2.2.1
  refine z_WP_gos [14] 1000 fun K C hK hC => ?_
  conv => whnf
  refine hK _ _ _ _ _ _ _ _ _ _ (z_WP_ts 254 rfl (by decide) ?_)
  refine z_WP_gos [] 1000 fun K C hK hC => ?_
  conv => whnf
  have q := hQ I h rfl fr_r
  have e2 : s_bt (m_er 14) (nI 0) ((m_dz s bus t 14).1 6) = nI 1024 := by
    show s_bt (nI 1) (nI 0) (s.1 6) = nI 1024
    rw [h6]; decide
  rw [e2] at q
  exact q
theorem ob_15 {t : Nat} {fm : Int32} (h : xR I F s n k bus f0) (hb : bus < 2) (ht : t < 8) (h6 : s.1 6 = nI 0) (hfr : fm = s.2.1 2 &&& nI 65535) (hQ : ∀ I', xR I' F (m_dz s bus t 15) n k bus f0 → I' 30 = I 30 → fr cT I I' → Q (some (.int (s_bt (m_er 15) (nI 0) ((m_dz s bus t 15).1 6)))) I' (z_R0 kp sp wd) J F cn) : z_M (z_X0 L xs) z_P0 d m_Units_obey [.ref 2, .int (nI t), .int (nI 15), .int (nI bus), .int fm] I (z_R0 kp sp wd) J F cn Q := by
  have hW := h.2.2.2.2.1
  refine z_WP_gos [14] 1000 fun K C hK hC => ?_
  conv => whnf
  refine hK _ _ _ _ _ _ _ _ _ _ (z_WP_ts 254 rfl (by decide) ?_)
  refine z_WP_gos [] 1000 fun K C hK hC => ?_
  conv => whnf
  have q := hQ I h rfl fr_r
  have e2 : s_bt (m_er 15) (nI 0) ((m_dz s bus t 15).1 6) = nI 1024 := by
    show s_bt (nI 1) (nI 0) (s.1 6) = nI 1024
    rw [h6]; decide
  rw [e2] at q
  exact q
theorem ob_16 {t : Nat} {fm : Int32} (h : xR I F s n k bus f0) (hb : bus < 2) (ht : t < 8) (h6 : s.1 6 = nI 0) (hfr : fm = s.2.1 2 &&& nI 65535) (hQ : ∀ I', xR I' F (m_dz s bus t 16) n k bus f0 → I' 30 = I 30 → fr cT I I' → Q (some (.int (s_bt (m_er 16) (nI 0) ((m_dz s bus t 16).1 6)))) I' (z_R0 kp sp wd) J F cn) : z_M (z_X0 L xs) z_P0 d m_Units_obey [.ref 2, .int (nI t), .int (nI 16), .int (nI bus), .int fm] I (z_R0 kp sp wd) J F cn Q := by
  have hW := h.2.2.2.2.1
  refine z_WP_gos [14] 1000 fun K C hK hC => ?_
  conv => whnf
  refine hK _ _ _ _ _ _ _ _ _ _ (z_WP_ts 236 rfl (by decide) ?_)
  refine z_WP_gos [] 1000 fun K C hK hC => ?_
  conv => whnf
  have q := hQ I h rfl fr_r
  have e2 : s_bt (m_er 16) (nI 0) ((m_dz s bus t 16).1 6) = nI 0 := by
    show s_bt (nI 0) (nI 0) (s.1 6) = nI 0
    rw [h6]; decide
  rw [e2] at q
  exact q
theorem ob_17 {t : Nat} {fm : Int32} (h : xR I F s n k bus f0) (hb : bus < 2) (ht : t < 8) (h6 : s.1 6 = nI 0) (hfr : fm = s.2.1 2 &&& nI 65535) (hQ : ∀ I', xR I' F (m_dz s bus t 17) n k bus f0 → I' 30 = I 30 → fr cT I I' → Q (some (.int (s_bt (m_er 17) (nI 0) ((m_dz s bus t 17).1 6)))) I' (z_R0 kp sp wd) J F cn) : z_M (z_X0 L xs) z_P0 d m_Units_obey [.ref 2, .int (nI t), .int (nI 17), .int (nI bus), .int fm] I (z_R0 kp sp wd) J F cn Q := by
  have hW := h.2.2.2.2.1
  refine z_WP_gos [14] 1000 fun K C hK hC => ?_
  conv => whnf
  refine hK _ _ _ _ _ _ _ _ _ _ (z_WP_ts 238 rfl (by decide) ?_)
  refine z_WP_gos [] 1000 fun K C hK hC => ?_
  conv => whnf
  have e2 : s_bt (m_er 17) (nI 0) ((m_dz s bus t 17).1 6) = nI 0 := by
    show s_bt (nI 0) (nI 0) (s.1 6) = nI 0
    rw [h6]; decide
  rw [e2] at hQ
  repeat ((first | refine And.intro (by (conv => arg 2; whnf); (try simp only [z_lit, nI_add, pk_mul, z_pr1, z_pr2]); exact z_in (by omega) (by decide)) ?_ | refine z_bt1 (by decide) ?_ | refine z_bf1 (by decide) ?_ | refine z_bt2 (by decide) ?_ | refine z_bf2 (by decide) ?_); conv => whnf)
  simp (disch := omega) only [z_lit, nI_add, pk_mul, z_pr1, z_pr2, nI_clamp, z_up_row, z_row_s, z_row_n, z_row_row, pk_us, pk_un]
  subst hfr
  exact hQ _ (xR_told (q := 15) (x := s.2.1 2 &&& nI 65535) (s' := m_does s bus t 17) h ht (by omega) (fun z => by omega) (z_row_s _ _ _) (fun b h1 _ => z_row_n _ _ h1) rfl rfl) rfl (fr_w fr_r (by decide))
theorem ob_19 {t : Nat} {fm : Int32} (h : xR I F s n k bus f0) (hb : bus < 2) (ht : t < 8) (h6 : s.1 6 = nI 0) (hfr : fm = s.2.1 2 &&& nI 65535) (hQ : ∀ I', xR I' F (m_dz s bus t 19) n k bus f0 → I' 30 = I 30 → fr cT I I' → Q (some (.int (s_bt (m_er 19) (nI 0) ((m_dz s bus t 19).1 6)))) I' (z_R0 kp sp wd) J F cn) : z_M (z_X0 L xs) z_P0 d m_Units_obey [.ref 2, .int (nI t), .int (nI 19), .int (nI bus), .int fm] I (z_R0 kp sp wd) J F cn Q := by
  have hW := h.2.2.2.2.1
  refine z_WP_gos [14] 1000 fun K C hK hC => ?_
  conv => whnf
  refine hK _ _ _ _ _ _ _ _ _ _ (z_WP_ts 252 rfl (by decide) ?_)
  refine z_WP_gos [] 1000 fun K C hK hC => ?_
  conv => whnf
  have q := hQ I h rfl fr_r
  have e2 : s_bt (m_er 19) (nI 0) ((m_dz s bus t 19).1 6) = nI 0 := by
    show s_bt (nI 0) (nI 0) (s.1 6) = nI 0
    rw [h6]; decide
  rw [e2] at q
  exact q
theorem ob_20 {t : Nat} {fm : Int32} (h : xR I F s n k bus f0) (hb : bus < 2) (ht : t < 8) (h6 : s.1 6 = nI 0) (hfr : fm = s.2.1 2 &&& nI 65535) (hQ : ∀ I', xR I' F (m_dz s bus t 20) n k bus f0 → I' 30 = I 30 → fr cT I I' → Q (some (.int (s_bt (m_er 20) (nI 0) ((m_dz s bus t 20).1 6)))) I' (z_R0 kp sp wd) J F cn) : z_M (z_X0 L xs) z_P0 d m_Units_obey [.ref 2, .int (nI t), .int (nI 20), .int (nI bus), .int fm] I (z_R0 kp sp wd) J F cn Q := by
  have hW := h.2.2.2.2.1
  refine z_WP_gos [14] 1000 fun K C hK hC => ?_
  conv => whnf
  refine hK _ _ _ _ _ _ _ _ _ _ (z_WP_ts 254 rfl (by decide) ?_)
  refine z_WP_gos [] 1000 fun K C hK hC => ?_
  conv => whnf
  have q := hQ I h rfl fr_r
  have e2 : s_bt (m_er 20) (nI 0) ((m_dz s bus t 20).1 6) = nI 1024 := by
    show s_bt (nI 1) (nI 0) (s.1 6) = nI 1024
    rw [h6]; decide
  rw [e2] at q
  exact q
theorem ob_21 {t : Nat} {fm : Int32} (h : xR I F s n k bus f0) (hb : bus < 2) (ht : t < 8) (h6 : s.1 6 = nI 0) (hfr : fm = s.2.1 2 &&& nI 65535) (hQ : ∀ I', xR I' F (m_dz s bus t 21) n k bus f0 → I' 30 = I 30 → fr cT I I' → Q (some (.int (s_bt (m_er 21) (nI 0) ((m_dz s bus t 21).1 6)))) I' (z_R0 kp sp wd) J F cn) : z_M (z_X0 L xs) z_P0 d m_Units_obey [.ref 2, .int (nI t), .int (nI 21), .int (nI bus), .int fm] I (z_R0 kp sp wd) J F cn Q := by
  have hW := h.2.2.2.2.1
  refine z_WP_gos [14] 1000 fun K C hK hC => ?_
  conv => whnf
  refine hK _ _ _ _ _ _ _ _ _ _ (z_WP_ts 254 rfl (by decide) ?_)
  refine z_WP_gos [] 1000 fun K C hK hC => ?_
  conv => whnf
  have q := hQ I h rfl fr_r
  have e2 : s_bt (m_er 21) (nI 0) ((m_dz s bus t 21).1 6) = nI 1024 := by
    show s_bt (nI 1) (nI 0) (s.1 6) = nI 1024
    rw [h6]; decide
  rw [e2] at q
  exact q
theorem ob_22 {t : Nat} {fm : Int32} (h : xR I F s n k bus f0) (hb : bus < 2) (ht : t < 8) (h6 : s.1 6 = nI 0) (hfr : fm = s.2.1 2 &&& nI 65535) (hQ : ∀ I', xR I' F (m_dz s bus t 22) n k bus f0 → I' 30 = I 30 → fr cT I I' → Q (some (.int (s_bt (m_er 22) (nI 0) ((m_dz s bus t 22).1 6)))) I' (z_R0 kp sp wd) J F cn) : z_M (z_X0 L xs) z_P0 d m_Units_obey [.ref 2, .int (nI t), .int (nI 22), .int (nI bus), .int fm] I (z_R0 kp sp wd) J F cn Q := by
  have hW := h.2.2.2.2.1
  refine z_WP_gos [14] 1000 fun K C hK hC => ?_
  conv => whnf
  refine hK _ _ _ _ _ _ _ _ _ _ (z_WP_ts 254 rfl (by decide) ?_)
  refine z_WP_gos [] 1000 fun K C hK hC => ?_
  conv => whnf
  have q := hQ I h rfl fr_r
  have e2 : s_bt (m_er 22) (nI 0) ((m_dz s bus t 22).1 6) = nI 1024 := by
    show s_bt (nI 1) (nI 0) (s.1 6) = nI 1024
    rw [h6]; decide
  rw [e2] at q
  exact q
theorem ob_23 {t : Nat} {fm : Int32} (h : xR I F s n k bus f0) (hb : bus < 2) (ht : t < 8) (h6 : s.1 6 = nI 0) (hfr : fm = s.2.1 2 &&& nI 65535) (hQ : ∀ I', xR I' F (m_dz s bus t 23) n k bus f0 → I' 30 = I 30 → fr cT I I' → Q (some (.int (s_bt (m_er 23) (nI 0) ((m_dz s bus t 23).1 6)))) I' (z_R0 kp sp wd) J F cn) : z_M (z_X0 L xs) z_P0 d m_Units_obey [.ref 2, .int (nI t), .int (nI 23), .int (nI bus), .int fm] I (z_R0 kp sp wd) J F cn Q := by
  have hW := h.2.2.2.2.1
  refine z_WP_gos [14] 1000 fun K C hK hC => ?_
  conv => whnf
  refine hK _ _ _ _ _ _ _ _ _ _ (z_WP_ts 254 rfl (by decide) ?_)
  refine z_WP_gos [] 1000 fun K C hK hC => ?_
  conv => whnf
  have q := hQ I h rfl fr_r
  have e2 : s_bt (m_er 23) (nI 0) ((m_dz s bus t 23).1 6) = nI 1024 := by
    show s_bt (nI 1) (nI 0) (s.1 6) = nI 1024
    rw [h6]; decide
  rw [e2] at q
  exact q
theorem ob_24 {t : Nat} {fm : Int32} (h : xR I F s n k bus f0) (hb : bus < 2) (ht : t < 8) (h6 : s.1 6 = nI 0) (hfr : fm = s.2.1 2 &&& nI 65535) (hQ : ∀ I', xR I' F (m_dz s bus t 24) n k bus f0 → I' 30 = I 30 → fr cT I I' → Q (some (.int (s_bt (m_er 24) (nI 0) ((m_dz s bus t 24).1 6)))) I' (z_R0 kp sp wd) J F cn) : z_M (z_X0 L xs) z_P0 d m_Units_obey [.ref 2, .int (nI t), .int (nI 24), .int (nI bus), .int fm] I (z_R0 kp sp wd) J F cn Q := by
  have hW := h.2.2.2.2.1
  refine z_WP_gos [14] 1000 fun K C hK hC => ?_
  conv => whnf
  refine hK _ _ _ _ _ _ _ _ _ _ (z_WP_ts 254 rfl (by decide) ?_)
  refine z_WP_gos [] 1000 fun K C hK hC => ?_
  conv => whnf
  have q := hQ I h rfl fr_r
  have e2 : s_bt (m_er 24) (nI 0) ((m_dz s bus t 24).1 6) = nI 1024 := by
    show s_bt (nI 1) (nI 0) (s.1 6) = nI 1024
    rw [h6]; decide
  rw [e2] at q
  exact q
theorem ob_25 {t : Nat} {fm : Int32} (h : xR I F s n k bus f0) (hb : bus < 2) (ht : t < 8) (h6 : s.1 6 = nI 0) (hfr : fm = s.2.1 2 &&& nI 65535) (hQ : ∀ I', xR I' F (m_dz s bus t 25) n k bus f0 → I' 30 = I 30 → fr cT I I' → Q (some (.int (s_bt (m_er 25) (nI 0) ((m_dz s bus t 25).1 6)))) I' (z_R0 kp sp wd) J F cn) : z_M (z_X0 L xs) z_P0 d m_Units_obey [.ref 2, .int (nI t), .int (nI 25), .int (nI bus), .int fm] I (z_R0 kp sp wd) J F cn Q := by
  have hW := h.2.2.2.2.1
  refine z_WP_gos [14] 1000 fun K C hK hC => ?_
  conv => whnf
  refine hK _ _ _ _ _ _ _ _ _ _ (z_WP_ts 254 rfl (by decide) ?_)
  refine z_WP_gos [] 1000 fun K C hK hC => ?_
  conv => whnf
  have q := hQ I h rfl fr_r
  have e2 : s_bt (m_er 25) (nI 0) ((m_dz s bus t 25).1 6) = nI 1024 := by
    show s_bt (nI 1) (nI 0) (s.1 6) = nI 1024
    rw [h6]; decide
  rw [e2] at q
  exact q
theorem ob_26 {t : Nat} {fm : Int32} (h : xR I F s n k bus f0) (hb : bus < 2) (ht : t < 8) (h6 : s.1 6 = nI 0) (hfr : fm = s.2.1 2 &&& nI 65535) (hQ : ∀ I', xR I' F (m_dz s bus t 26) n k bus f0 → I' 30 = I 30 → fr cT I I' → Q (some (.int (s_bt (m_er 26) (nI 0) ((m_dz s bus t 26).1 6)))) I' (z_R0 kp sp wd) J F cn) : z_M (z_X0 L xs) z_P0 d m_Units_obey [.ref 2, .int (nI t), .int (nI 26), .int (nI bus), .int fm] I (z_R0 kp sp wd) J F cn Q := by
  have hW := h.2.2.2.2.1
  refine z_WP_gos [14] 1000 fun K C hK hC => ?_
  conv => whnf
  refine hK _ _ _ _ _ _ _ _ _ _ (z_WP_ts 254 rfl (by decide) ?_)
  refine z_WP_gos [] 1000 fun K C hK hC => ?_
  conv => whnf
  have q := hQ I h rfl fr_r
  have e2 : s_bt (m_er 26) (nI 0) ((m_dz s bus t 26).1 6) = nI 1024 := by
    show s_bt (nI 1) (nI 0) (s.1 6) = nI 1024
    rw [h6]; decide
  rw [e2] at q
  exact q
theorem ob_27 {t : Nat} {fm : Int32} (h : xR I F s n k bus f0) (hb : bus < 2) (ht : t < 8) (h6 : s.1 6 = nI 0) (hfr : fm = s.2.1 2 &&& nI 65535) (hQ : ∀ I', xR I' F (m_dz s bus t 27) n k bus f0 → I' 30 = I 30 → fr cT I I' → Q (some (.int (s_bt (m_er 27) (nI 0) ((m_dz s bus t 27).1 6)))) I' (z_R0 kp sp wd) J F cn) : z_M (z_X0 L xs) z_P0 d m_Units_obey [.ref 2, .int (nI t), .int (nI 27), .int (nI bus), .int fm] I (z_R0 kp sp wd) J F cn Q := by
  have hW := h.2.2.2.2.1
  refine z_WP_gos [14] 1000 fun K C hK hC => ?_
  conv => whnf
  refine hK _ _ _ _ _ _ _ _ _ _ (z_WP_ts 254 rfl (by decide) ?_)
  refine z_WP_gos [] 1000 fun K C hK hC => ?_
  conv => whnf
  have q := hQ I h rfl fr_r
  have e2 : s_bt (m_er 27) (nI 0) ((m_dz s bus t 27).1 6) = nI 1024 := by
    show s_bt (nI 1) (nI 0) (s.1 6) = nI 1024
    rw [h6]; decide
  rw [e2] at q
  exact q
theorem ob_28 {t : Nat} {fm : Int32} (h : xR I F s n k bus f0) (hb : bus < 2) (ht : t < 8) (h6 : s.1 6 = nI 0) (hfr : fm = s.2.1 2 &&& nI 65535) (hQ : ∀ I', xR I' F (m_dz s bus t 28) n k bus f0 → I' 30 = I 30 → fr cT I I' → Q (some (.int (s_bt (m_er 28) (nI 0) ((m_dz s bus t 28).1 6)))) I' (z_R0 kp sp wd) J F cn) : z_M (z_X0 L xs) z_P0 d m_Units_obey [.ref 2, .int (nI t), .int (nI 28), .int (nI bus), .int fm] I (z_R0 kp sp wd) J F cn Q := by
  have hW := h.2.2.2.2.1
  refine z_WP_gos [14] 1000 fun K C hK hC => ?_
  conv => whnf
  refine hK _ _ _ _ _ _ _ _ _ _ (z_WP_ts 254 rfl (by decide) ?_)
  refine z_WP_gos [] 1000 fun K C hK hC => ?_
  conv => whnf
  have q := hQ I h rfl fr_r
  have e2 : s_bt (m_er 28) (nI 0) ((m_dz s bus t 28).1 6) = nI 1024 := by
    show s_bt (nI 1) (nI 0) (s.1 6) = nI 1024
    rw [h6]; decide
  rw [e2] at q
  exact q
theorem ob_29 {t : Nat} {fm : Int32} (h : xR I F s n k bus f0) (hb : bus < 2) (ht : t < 8) (h6 : s.1 6 = nI 0) (hfr : fm = s.2.1 2 &&& nI 65535) (hQ : ∀ I', xR I' F (m_dz s bus t 29) n k bus f0 → I' 30 = I 30 → fr cT I I' → Q (some (.int (s_bt (m_er 29) (nI 0) ((m_dz s bus t 29).1 6)))) I' (z_R0 kp sp wd) J F cn) : z_M (z_X0 L xs) z_P0 d m_Units_obey [.ref 2, .int (nI t), .int (nI 29), .int (nI bus), .int fm] I (z_R0 kp sp wd) J F cn Q := by
  have hW := h.2.2.2.2.1
  refine z_WP_gos [14] 1000 fun K C hK hC => ?_
  conv => whnf
  refine hK _ _ _ _ _ _ _ _ _ _ (z_WP_ts 254 rfl (by decide) ?_)
  refine z_WP_gos [] 1000 fun K C hK hC => ?_
  conv => whnf
  have q := hQ I h rfl fr_r
  have e2 : s_bt (m_er 29) (nI 0) ((m_dz s bus t 29).1 6) = nI 1024 := by
    show s_bt (nI 1) (nI 0) (s.1 6) = nI 1024
    rw [h6]; decide
  rw [e2] at q
  exact q
theorem ob_30 {t : Nat} {fm : Int32} (h : xR I F s n k bus f0) (hb : bus < 2) (ht : t < 8) (h6 : s.1 6 = nI 0) (hfr : fm = s.2.1 2 &&& nI 65535) (hQ : ∀ I', xR I' F (m_dz s bus t 30) n k bus f0 → I' 30 = I 30 → fr cT I I' → Q (some (.int (s_bt (m_er 30) (nI 0) ((m_dz s bus t 30).1 6)))) I' (z_R0 kp sp wd) J F cn) : z_M (z_X0 L xs) z_P0 d m_Units_obey [.ref 2, .int (nI t), .int (nI 30), .int (nI bus), .int fm] I (z_R0 kp sp wd) J F cn Q := by
  have hW := h.2.2.2.2.1
  refine z_WP_gos [14] 1000 fun K C hK hC => ?_
  conv => whnf
  refine hK _ _ _ _ _ _ _ _ _ _ (z_WP_ts 254 rfl (by decide) ?_)
  refine z_WP_gos [] 1000 fun K C hK hC => ?_
  conv => whnf
  have q := hQ I h rfl fr_r
  have e2 : s_bt (m_er 30) (nI 0) ((m_dz s bus t 30).1 6) = nI 1024 := by
    show s_bt (nI 1) (nI 0) (s.1 6) = nI 1024
    rw [h6]; decide
  rw [e2] at q
  exact q
theorem ob_31 {t : Nat} {fm : Int32} (h : xR I F s n k bus f0) (hb : bus < 2) (ht : t < 8) (h6 : s.1 6 = nI 0) (hfr : fm = s.2.1 2 &&& nI 65535) (hQ : ∀ I', xR I' F (m_dz s bus t 31) n k bus f0 → I' 30 = I 30 → fr cT I I' → Q (some (.int (s_bt (m_er 31) (nI 0) ((m_dz s bus t 31).1 6)))) I' (z_R0 kp sp wd) J F cn) : z_M (z_X0 L xs) z_P0 d m_Units_obey [.ref 2, .int (nI t), .int (nI 31), .int (nI bus), .int fm] I (z_R0 kp sp wd) J F cn Q := by
  have hW := h.2.2.2.2.1
  refine z_WP_gos [14] 1000 fun K C hK hC => ?_
  conv => whnf
  refine hK _ _ _ _ _ _ _ _ _ _ (z_WP_ts 254 rfl (by decide) ?_)
  refine z_WP_gos [] 1000 fun K C hK hC => ?_
  conv => whnf
  have q := hQ I h rfl fr_r
  have e2 : s_bt (m_er 31) (nI 0) ((m_dz s bus t 31).1 6) = nI 1024 := by
    show s_bt (nI 1) (nI 0) (s.1 6) = nI 1024
    rw [h6]; decide
  rw [e2] at q
  exact q
theorem ct_obey {t : Nat} {fm : Int32} (h : xR I F s n k bus f0) (hb : bus < 2) (ht : t < 8) (h6 : s.1 6 = nI 0) (hfr : fm = s.2.1 2 &&& nI 65535) : ∀ {code : Nat}, code < 32 → code ≠ 2 → code ≠ 18 → (∀ I', xR I' F (m_dz s bus t code) n k bus f0 → I' 30 = I 30 → fr cT I I' → Q (some (.int (s_bt (m_er code) (nI 0) ((m_dz s bus t code).1 6)))) I' (z_R0 kp sp wd) J F cn) → z_M (z_X0 L xs) z_P0 d m_Units_obey [.ref 2, .int (nI t), .int (nI code), .int (nI bus), .int fm] I (z_R0 kp sp wd) J F cn Q
  | 0, _, _, _, hQ => ob_0 h hb ht h6 hfr hQ
  | 1, _, _, _, hQ => ob_1 h hb ht h6 hfr hQ
  | 2, _, h2, _, _ => absurd rfl h2
  | 3, _, _, _, hQ => ob_3 h hb ht h6 hfr hQ
  | 4, _, _, _, hQ => ob_4 h hb ht h6 hfr hQ
  | 5, _, _, _, hQ => ob_5 h hb ht h6 hfr hQ
  | 6, _, _, _, hQ => ob_6 h hb ht h6 hfr hQ
  | 7, _, _, _, hQ => ob_7 h hb ht h6 hfr hQ
  | 8, _, _, _, hQ => ob_8 h hb ht h6 hfr hQ
  | 9, _, _, _, hQ => ob_9 h hb ht h6 hfr hQ
  | 10, _, _, _, hQ => ob_10 h hb ht h6 hfr hQ
  | 11, _, _, _, hQ => ob_11 h hb ht h6 hfr hQ
  | 12, _, _, _, hQ => ob_12 h hb ht h6 hfr hQ
  | 13, _, _, _, hQ => ob_13 h hb ht h6 hfr hQ
  | 14, _, _, _, hQ => ob_14 h hb ht h6 hfr hQ
  | 15, _, _, _, hQ => ob_15 h hb ht h6 hfr hQ
  | 16, _, _, _, hQ => ob_16 h hb ht h6 hfr hQ
  | 17, _, _, _, hQ => ob_17 h hb ht h6 hfr hQ
  | 18, _, _, h2, _ => absurd rfl h2
  | 19, _, _, _, hQ => ob_19 h hb ht h6 hfr hQ
  | 20, _, _, _, hQ => ob_20 h hb ht h6 hfr hQ
  | 21, _, _, _, hQ => ob_21 h hb ht h6 hfr hQ
  | 22, _, _, _, hQ => ob_22 h hb ht h6 hfr hQ
  | 23, _, _, _, hQ => ob_23 h hb ht h6 hfr hQ
  | 24, _, _, _, hQ => ob_24 h hb ht h6 hfr hQ
  | 25, _, _, _, hQ => ob_25 h hb ht h6 hfr hQ
  | 26, _, _, _, hQ => ob_26 h hb ht h6 hfr hQ
  | 27, _, _, _, hQ => ob_27 h hb ht h6 hfr hQ
  | 28, _, _, _, hQ => ob_28 h hb ht h6 hfr hQ
  | 29, _, _, _, hQ => ob_29 h hb ht h6 hfr hQ
  | 30, _, _, _, hQ => ob_30 h hb ht h6 hfr hQ
  | 31, _, _, _, hQ => ob_31 h hb ht h6 hfr hQ
  | code + 32, hc, _, _, _ => absurd hc (by omega)
end
