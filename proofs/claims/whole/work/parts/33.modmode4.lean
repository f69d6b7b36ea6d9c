/-! the model's messages: modes, whole -/
section
variable {L : Nat} {xs : Nat → Int32} {d : Nat} {kp sp wd : Value} {I : z_I} {s : z_sg} {R : z_R} {J : z_J} {F : z_F} {cn : Nat} {Q : z_Q}
theorem m_w_ok {k B : Nat} {v : Int32} (hk : k ≠ 2315) (hk2 : k ≠ 10) (h : m_ok s B) : m_ok (m_w s k v) B := by
  obtain ⟨n, i, h1, h2, h3, h4⟩ := h
  exact ⟨n, i, (pk_un (by omega)).trans h1, (pk_un (by omega)).trans h2, h3, h4⟩
theorem m_does_ok {bus t B : Nat} (ht : t < 8) (h : m_ok s B) : ∀ code, m_ok (m_does s bus t code) B := by
  intro code
  unfold m_does
  split
  · exact h
  · exact m_w_ok (by omega) (by omega) h
  · exact h
  · exact m_w_ok (by omega) (by omega) h
  · exact m_w_ok (by omega) (by omega) h
  · exact m_w_ok (by omega) (by omega) h
  · exact m_w_ok (by omega) (by omega) h
  · exact m_w_ok (by omega) (by omega) (m_w_ok (by omega) (by omega) (m_w_ok (by omega) (by omega) h))
  · exact h
  · exact m_w_ok (by omega) (by omega) h
  · exact h
  · exact h
  · exact m_errs_ok ht h
theorem tl_modes {bus t code B : Nat} {tu : Int32} (hb : bus < 2) (ht : t < 8) (hc : code < 32) (hs : m_ok s B) (hB : B + 40 < 2 ^ 29)
    (hQ : ∀ s2 q, (bif s_apart code then m_does s bus t code else m_last (m_does s bus t code) t) = s2 → m_tellsMode s2 bus t code = q → Q (some (.int (if tu = nI 0 then q.2 else nI 1)))
      (z_ms I (if tu = nI 0 then (if nI code = nI 16 then m_w (upd q.1.1 6 (s2.1 6), q.1.2.1, q.1.2.2) (48 + t) (nI 0) else (upd q.1.1 6 (s2.1 6), q.1.2.1, q.1.2.2)) else m_quiet (m_errs s t))) (z_R0 kp sp wd) J F cn) :
    z_WP (z_X0 L xs) z_P0 (d + 5) m_Mod_modes 146 [some (.ref 40), some (.int (nI bus)), some (.int (nI t)), some (.int (nI code)), some (.int tu), some (.int (z_bi (s_apart code))), none, none] [] (z_ms I s) (z_R0 kp sp wd) J F cn 0 0 Q := by
  have tail : ∀ s2, (bif s_apart code then m_does s bus t code else m_last (m_does s bus t code) t) = s2 → tu = nI 0 → z_WP (z_X0 L xs) z_P0 (d + 5) m_Mod_modes 178 [some (.ref 40), some (.int (nI bus)), some (.int (nI t)), some (.int (nI code)), some (.int tu), some (.int (z_bi (s_apart code))), none, none] [] (z_ms I s2) (z_R0 kp sp wd) J F cn 0 0 Q := by
    intro s2 h2 htu
    replace hQ := hQ s2 _ h2 rfl
    simp only [htu, if_true] at hQ
    have hs2 : m_ok s2 B := by
      rw [← h2]
      cases s_apart code
      · exact m_last_ok ht (m_does_ok ht hs _)
      · exact m_does_ok ht hs _
    refine z_WP_gos [] 1000 fun K C hK hC => ?_
    conv => whnf
    simp (disch := omega) only [z_lit, nI_add, pk_mul, z_pr1, z_pr2, nI_clamp, z_m3_40, z_m3_41, z_m3_44, z_m3_u40, z_m3_u41, z_m3_u44, z_m3_m3, pk_us, pk_un]
    refine hC _ _ _ _ _ _ _ _ _ _ (fun _ _ _ _ _ _ q => q) (sp_tellsMode hb ht hc hs2 (by omega) ?_)
    conv => whnf
    generalize m_tellsMode s2 bus t code = q at hQ ⊢
    simp (disch := omega) only [z_lit, nI_add, pk_mul, z_pr1, z_pr2, nI_clamp, z_m3_40, z_m3_41, z_m3_44, z_m3_u40, z_m3_u41, z_m3_u44, z_m3_m3, pk_us, pk_un]
    refine ⟨fun h16 => ?_, fun h16 => ?_⟩ <;> (try simp (disch := omega) only [z_lit, nI_add, pk_mul, z_pr1, z_pr2, nI_clamp, z_m3_40, z_m3_41, z_m3_44, z_m3_u40, z_m3_u41, z_m3_u44, z_m3_m3, pk_us, pk_un] at h16) <;> (conv => whnf)
    · rw [if_neg h16] at hQ
      exact hQ
    · rw [if_pos h16] at hQ
      repeat ((first | refine And.intro (by (conv => arg 2; whnf); (try simp only [z_lit, nI_add, pk_mul, z_pr1, z_pr2]); exact z_in (by omega) (by decide)) ?_ | refine z_bt1 (by decide) ?_ | refine z_bf1 (by decide) ?_ | refine z_bt2 (by decide) ?_ | refine z_bf2 (by decide) ?_); conv => whnf)
      refine z_Qi hQ rfl ?_
      simp (disch := omega) only [z_lit, nI_add, pk_mul, z_pr1, z_pr2, nI_clamp, z_m3_40, z_m3_41, z_m3_44, z_m3_u40, z_m3_u41, z_m3_u44, z_m3_m3, pk_us, pk_un]
      rfl
  refine z_WP_gos [178] 1000 fun K C hK hC => ?_
  conv => whnf
  refine ⟨fun h => ?_, fun h => ?_⟩ <;> (try simp (disch := omega) only [z_lit, nI_add, pk_mul, z_pr1, z_pr2, nI_clamp, z_m3_40, z_m3_41, z_m3_44, z_m3_u40, z_m3_u41, z_m3_u44, z_m3_m3, pk_us, pk_un] at h) <;> (conv => whnf)
  · refine hC _ _ _ _ _ _ _ _ _ _ (fun _ _ _ _ _ _ q => q) (sp_does hb ht hc ?_)
    conv => whnf
    cases ha : s_apart code with
    | true =>
      rw [ha] at tail
      repeat ((first | refine And.intro (by (conv => arg 2; whnf); (try simp only [z_lit, nI_add, pk_mul, z_pr1, z_pr2]); exact z_in (by omega) (by decide)) ?_ | refine z_bt1 (by decide) ?_ | refine z_bf1 (by decide) ?_ | refine z_bt2 (by decide) ?_ | refine z_bf2 (by decide) ?_); conv => whnf)
      refine hK _ _ _ _ _ _ _ _ _ _ (tail _ rfl h)
    | false =>
      rw [ha] at tail
      repeat ((first | refine And.intro (by (conv => arg 2; whnf); (try simp only [z_lit, nI_add, pk_mul, z_pr1, z_pr2]); exact z_in (by omega) (by decide)) ?_ | refine z_bt1 (by decide) ?_ | refine z_bf1 (by decide) ?_ | refine z_bt2 (by decide) ?_ | refine z_bf2 (by decide) ?_); conv => whnf)
      refine hC _ _ _ _ _ _ _ _ _ _ (fun _ _ _ _ _ _ q => q) (sp_tellsLast ht ?_)
      conv => whnf
      refine hK _ _ _ _ _ _ _ _ _ _ (tail _ rfl h)
  · replace hQ := hQ _ _ rfl rfl
    simp only [h, if_false] at hQ
    refine hC _ _ _ _ _ _ _ _ _ _ (fun _ _ _ _ _ _ q => q) (sp_errs ht ?_)
    conv => whnf
    refine hC _ _ _ _ _ _ _ _ _ _ (fun _ _ _ _ _ _ q => q) (sp_Mod_noAnswer ?_)
    conv => whnf
    exact hQ
theorem sp_modes {bus t code B : Nat} (hb : bus < 2) (ht : t < 9) (hc : code < 32) (hs : m_ok s B) (hB : B + 60 < 2 ^ 29) (hQ : Q (some (.int (m_modes s bus t code).2)) (z_ms I (m_modes s bus t code).1) (z_R0 kp sp wd) J F cn) : z_M (z_X0 L xs) z_P0 (d + 5) m_Mod_modes [.ref 40, .int (nI bus), .int (nI t), .int (nI code)] (z_ms I s) (z_R0 kp sp wd) J F cn Q := by
  unfold m_modes at hQ
  simp only at hQ
  by_cases h8 : nI t = nI 8
  · rw [if_pos h8] at hQ
    refine z_WP_gos [] 1000 fun K C hK hC => ?_
    conv => whnf
    repeat ((first | refine And.intro (by (conv => arg 2; whnf); (try simp only [z_lit, nI_add, pk_mul, z_pr1, z_pr2]); exact z_in (by omega) (by decide)) ?_ | refine z_bt1 (by decide) ?_ | refine z_bf1 (by decide) ?_ | refine z_bt2 (by decide) ?_ | refine z_bf2 (by decide) ?_ | refine z_bt1 (by first | exact h8) ?_ | refine z_bf1 (by first | exact h8) ?_ | refine z_bt2 (by first | exact h8) ?_ | refine z_bf2 (by first | exact h8) ?_); conv => whnf)
    refine hC _ _ _ _ _ _ _ _ _ _ (fun _ _ _ _ _ _ q => q) (sp_toFirst hb hs hB ?_)
    conv => whnf
    exact hQ
  · rw [if_neg h8] at hQ
    have ht8 : t < 8 := by
      apply Nat.lt_of_not_le; intro z
      exact h8 (by rw [show t = 8 by omega])
    have last : ∀ r : z_sg × Int32, m_ok r.1 (B + 3) → m_lays (s.1, s.2.1, upd (upd s.2.2 0 (s_cmd (nI t) (if nI code = nI 17 then nI 0 else nI 1) (nI 0) (nI code))) 1 (s.2.1 2 &&& nI 65535)) bus (s.2.1 3) (if nI code = nI 17 then 2 else 1) = r →
        z_WP (z_X0 L xs) z_P0 (d + 5) m_Mod_modes 72 [some (.ref 40), some (.int (nI bus)), some (.int (nI t)), some (.int (nI code)), none, none, none, none] [.int r.2] (z_ms I r.1) (z_R0 kp sp wd) J F cn 0 0 Q := by
      intro r hs1 hr
      rw [hr] at hQ
      have mid : s_hear r.1.2.1 t bus = true → ¬ r.2 &&& nI 1 = nI 1 → z_WP (z_X0 L xs) z_P0 (d + 5) m_Mod_modes 112 [some (.ref 40), some (.int (nI bus)), some (.int (nI t)), some (.int (nI code)), some (.int r.2), none, none, none] [.int (z_bi (s_apart code))] (z_ms I r.1) (z_R0 kp sp wd) J F cn 0 0 Q := by
        intro hl h
        rw [hl, decide_eq_false h] at hQ
        simp only [Bool.not_false, Bool.and_true, cond_true] at hQ
        cases ha : s_apart code with
        | true =>
          rw [ha] at hQ
          refine z_WP_gos [146] 1000 fun K C hK hC => ?_
          conv => whnf
          simp (disch := omega) only [z_lit, nI_add, pk_mul, z_pr1, z_pr2, nI_clamp, z_m3_40, z_m3_41, z_m3_44, z_m3_u40, z_m3_u41, z_m3_u44, z_m3_m3, pk_us, pk_un]
          repeat ((first | refine And.intro (by (conv => arg 2; whnf); (try simp only [z_lit, nI_add, pk_mul, z_pr1, z_pr2]); exact z_in (by omega) (by decide)) ?_ | refine z_bt1 (by decide) ?_ | refine z_bf1 (by decide) ?_ | refine z_bt2 (by decide) ?_ | refine z_bf2 (by decide) ?_); conv => whnf)
          refine hK _ _ _ _ _ _ _ _ _ _ (?_)
          have e := tl_modes (L := L) (xs := xs) (d := d) (Q := Q) (I := I) (kp := kp) (sp := sp) (wd := wd) (J := J) (F := F) (cn := cn) (s := (upd r.1.1 6 (nI 0), r.1.2.1, r.1.2.2)) (tu := r.2) hb ht8 hc hs1 (by omega) (fun s2 q h2 hq => by
            rw [ha] at h2
            by_cases g : r.2 = nI 0
            · simp only [g, if_true, cond_true] at hQ h2 ⊢
              rw [h2, hq] at hQ
              exact hQ
            · simp only [g, if_false] at hQ ⊢
              exact hQ)
          rw [ha] at e
          exact e
        | false =>
          rw [ha] at hQ
          have go : z_WP (z_X0 L xs) z_P0 (d + 5) m_Mod_modes 138 [some (.ref 40), some (.int (nI bus)), some (.int (nI t)), some (.int (nI code)), some (.int r.2), some (.int (z_bi false)), none, none] [.int (if nI code = nI 17 then nI 0 else nI 1), .int (nI t), .int (nI t), .ref 40] (z_ms I (upd r.1.1 6 (nI 0), r.1.2.1, r.1.2.2)) (z_R0 kp sp wd) J F cn 0 0 Q := by
            refine z_WP_gos [146] 1000 fun K C hK hC => ?_
            conv => whnf
            refine hC _ _ _ _ _ _ _ _ _ _ (fun _ _ _ _ _ _ q => q) (sp_cmd ?_)
            conv => whnf
            refine hC _ _ _ _ _ _ _ _ _ _ (fun _ _ _ _ _ _ q => q) (sp_begins (s := (upd r.1.1 6 (nI 0), r.1.2.1, r.1.2.2)) (c := s_cmd (nI t) (if nI code = nI 17 then nI 0 else nI 1) (nI 0) (nI code)) ht8 ?_)
            conv => whnf
            refine hK _ _ _ _ _ _ _ _ _ _ (?_)
            simp only [cond_false] at hQ
            have hs2 := m_begins_ok (s := (upd r.1.1 6 (nI 0), r.1.2.1, r.1.2.2)) (c := s_cmd (nI t) (if nI code = nI 17 then nI 0 else nI 1) (nI 0) (nI code)) ht8 hs1
            generalize m_begins (upd r.1.1 6 (nI 0), r.1.2.1, r.1.2.2) t (s_cmd (nI t) (if nI code = nI 17 then nI 0 else nI 1) (nI 0) (nI code)) = s1 at hQ hs2 ⊢
            have e := tl_modes (L := L) (xs := xs) (d := d) (Q := Q) (I := I) (kp := kp) (sp := sp) (wd := wd) (J := J) (F := F) (cn := cn) (s := s1) (tu := r.2) hb ht8 hc hs2 (by omega) (fun s2 q h2 hq => by
              rw [ha] at h2
              by_cases g : r.2 = nI 0
              · simp only [g, if_true, cond_false] at hQ h2 ⊢
                rw [h2, hq] at hQ
                exact hQ
              · simp only [g, if_false] at hQ ⊢
                exact hQ)
            rw [ha] at e
            exact e
          refine z_WP_gos [138] 1000 fun K C hK hC => ?_
          conv => whnf
          simp (disch := omega) only [z_lit, nI_add, pk_mul, z_pr1, z_pr2, nI_clamp, z_m3_40, z_m3_41, z_m3_44, z_m3_u40, z_m3_u41, z_m3_u44, z_m3_m3, pk_us, pk_un]
          repeat ((first | refine And.intro (by (conv => arg 2; whnf); (try simp only [z_lit, nI_add, pk_mul, z_pr1, z_pr2]); exact z_in (by omega) (by decide)) ?_ | refine z_bt1 (by decide) ?_ | refine z_bf1 (by decide) ?_ | refine z_bt2 (by decide) ?_ | refine z_bf2 (by decide) ?_); conv => whnf)
          refine ⟨fun h17 => ?_, fun h17 => ?_⟩ <;> (try simp (disch := omega) only [z_lit, nI_add, pk_mul, z_pr1, z_pr2, nI_clamp, z_m3_40, z_m3_41, z_m3_44, z_m3_u40, z_m3_u41, z_m3_u44, z_m3_m3, pk_us, pk_un] at h17) <;> (conv => whnf)
          · rw [if_neg h17] at go
            refine hK _ _ _ _ _ _ _ _ _ _ (go)
          · rw [if_pos h17] at go
            refine hK _ _ _ _ _ _ _ _ _ _ (go)
      refine z_WP_gos [112] 1000 fun K C hK hC => ?_
      conv => whnf
      refine hC _ _ _ _ _ _ _ _ _ _ (fun _ _ _ _ _ _ q => q) (sp_hear (by omega) hb ?_)
      conv => whnf
      cases hl : s_hear r.1.2.1 t bus with
      | false =>
        rw [hl] at hQ
        repeat ((first | refine And.intro (by (conv => arg 2; whnf); (try simp only [z_lit, nI_add, pk_mul, z_pr1, z_pr2]); exact z_in (by omega) (by decide)) ?_ | refine z_bt1 (by decide) ?_ | refine z_bf1 (by decide) ?_ | refine z_bt2 (by decide) ?_ | refine z_bf2 (by decide) ?_); conv => whnf)
        refine hC _ _ _ _ _ _ _ _ _ _ (fun _ _ _ _ _ _ q => q) (sp_Mod_noAnswer ?_)
        conv => whnf
        exact hQ
      | true =>
        repeat ((first | refine And.intro (by (conv => arg 2; whnf); (try simp only [z_lit, nI_add, pk_mul, z_pr1, z_pr2]); exact z_in (by omega) (by decide)) ?_ | refine z_bt1 (by decide) ?_ | refine z_bf1 (by decide) ?_ | refine z_bt2 (by decide) ?_ | refine z_bf2 (by decide) ?_); conv => whnf)
        refine ⟨fun h => ?_, fun h => ?_⟩ <;> (try simp (disch := omega) only [z_lit, nI_add, pk_mul, z_pr1, z_pr2, nI_clamp, z_m3_40, z_m3_41, z_m3_44, z_m3_u40, z_m3_u41, z_m3_u44, z_m3_m3, pk_us, pk_un] at h) <;> (conv => whnf)
        · replace mid := mid hl h
          refine ⟨fun h2 => ?_, fun h2 => ?_⟩ <;> (try simp (disch := omega) only [z_lit, nI_add, pk_mul, z_pr1, z_pr2, nI_clamp, z_m3_40, z_m3_41, z_m3_44, z_m3_u40, z_m3_u41, z_m3_u44, z_m3_m3, pk_us, pk_un] at h2) <;> (conv => whnf)
          · rw [s_ap2 h2] at mid
            refine hK _ _ _ _ _ _ _ _ _ _ (mid)
          · refine ⟨fun h18 => ?_, fun h18 => ?_⟩ <;> (try simp (disch := omega) only [z_lit, nI_add, pk_mul, z_pr1, z_pr2, nI_clamp, z_m3_40, z_m3_41, z_m3_44, z_m3_u40, z_m3_u41, z_m3_u44, z_m3_m3, pk_us, pk_un] at h18) <;> (conv => whnf)
            · rw [s_ap0 h2 h18] at mid
              refine hK _ _ _ _ _ _ _ _ _ _ (mid)
            · rw [s_ap18 h18] at mid
              refine hK _ _ _ _ _ _ _ _ _ _ (mid)
        · rw [hl, decide_eq_true h] at hQ
          refine hC _ _ _ _ _ _ _ _ _ _ (fun _ _ _ _ _ _ q => q) (sp_Mod_noAnswer ?_)
          conv => whnf
          exact hQ
    have hs1 := fun (y : Nat → Int32) (many : Nat) (h : many ≤ 2) => m_ok_mo (B' := B + 3) (m_lays_ok (s := (s.1, s.2.1, y)) (who := s.2.1 3) (many := many) hb hs (by omega)) (by omega)
    by_cases h17 : nI code = nI 17
    · simp only [h17, if_true] at last
      refine z_WP_gos [72] 1000 fun K C hK hC => ?_
      conv => whnf
      repeat ((first | refine And.intro (by (conv => arg 2; whnf); (try simp only [z_lit, nI_add, pk_mul, z_pr1, z_pr2]); exact z_in (by omega) (by decide)) ?_ | refine z_bt1 (by decide) ?_ | refine z_bf1 (by decide) ?_ | refine z_bt2 (by decide) ?_ | refine z_bf2 (by decide) ?_ | refine z_bt1 (by first | exact h8 | exact h17) ?_ | refine z_bf1 (by first | exact h8 | exact h17) ?_ | refine z_bt2 (by first | exact h8 | exact h17) ?_ | refine z_bf2 (by first | exact h8 | exact h17) ?_); conv => whnf)
      refine hC _ _ _ _ _ _ _ _ _ _ (fun _ _ _ _ _ _ q => q) (sp_cmd ?_)
      conv => whnf
      repeat ((first | refine And.intro (by (conv => arg 2; whnf); (try simp only [z_lit, nI_add, pk_mul, z_pr1, z_pr2]); exact z_in (by omega) (by decide)) ?_ | refine z_bt1 (by decide) ?_ | refine z_bf1 (by decide) ?_ | refine z_bt2 (by decide) ?_ | refine z_bf2 (by decide) ?_); conv => whnf)
      simp (disch := omega) only [z_lit, nI_add, pk_mul, z_pr1, z_pr2, nI_clamp, z_m3_40, z_m3_41, z_m3_44, z_m3_u40, z_m3_u41, z_m3_u44, z_m3_m3, pk_us, pk_un]
      repeat ((first | refine And.intro (by (conv => arg 2; whnf); (try simp only [z_lit, nI_add, pk_mul, z_pr1, z_pr2]); exact z_in (by omega) (by decide)) ?_ | refine z_bt1 (by decide) ?_ | refine z_bf1 (by decide) ?_ | refine z_bt2 (by decide) ?_ | refine z_bf2 (by decide) ?_ | refine z_bt1 (by first | exact h17) ?_ | refine z_bf1 (by first | exact h17) ?_ | refine z_bt2 (by first | exact h17) ?_ | refine z_bf2 (by first | exact h17) ?_); conv => whnf)
      refine hC _ _ _ _ _ _ _ _ _ _ (fun _ _ _ _ _ _ q => q) (sp_Mod_lays (many := 2) (s := (s.1, s.2.1, upd (upd s.2.2 0 (s_cmd (nI t) (nI 0) (nI 0) (nI code))) 1 (s.2.1 2 &&& nI 65535))) (who := s.2.1 3) hb (by omega) hs (by omega) ?_)
      conv => whnf
      rw [h17]
      refine hK _ _ _ _ _ _ _ _ _ _ (last _ (hs1 _ 2 (by omega)) rfl)
    · simp only [h17, if_false] at last
      refine z_WP_gos [72] 1000 fun K C hK hC => ?_
      conv => whnf
      repeat ((first | refine And.intro (by (conv => arg 2; whnf); (try simp only [z_lit, nI_add, pk_mul, z_pr1, z_pr2]); exact z_in (by omega) (by decide)) ?_ | refine z_bt1 (by decide) ?_ | refine z_bf1 (by decide) ?_ | refine z_bt2 (by decide) ?_ | refine z_bf2 (by decide) ?_ | refine z_bt1 (by first | exact h8 | exact h17) ?_ | refine z_bf1 (by first | exact h8 | exact h17) ?_ | refine z_bt2 (by first | exact h8 | exact h17) ?_ | refine z_bf2 (by first | exact h8 | exact h17) ?_); conv => whnf)
      refine hC _ _ _ _ _ _ _ _ _ _ (fun _ _ _ _ _ _ q => q) (sp_cmd ?_)
      conv => whnf
      repeat ((first | refine And.intro (by (conv => arg 2; whnf); (try simp only [z_lit, nI_add, pk_mul, z_pr1, z_pr2]); exact z_in (by omega) (by decide)) ?_ | refine z_bt1 (by decide) ?_ | refine z_bf1 (by decide) ?_ | refine z_bt2 (by decide) ?_ | refine z_bf2 (by decide) ?_); conv => whnf)
      simp (disch := omega) only [z_lit, nI_add, pk_mul, z_pr1, z_pr2, nI_clamp, z_m3_40, z_m3_41, z_m3_44, z_m3_u40, z_m3_u41, z_m3_u44, z_m3_m3, pk_us, pk_un]
      repeat ((first | refine And.intro (by (conv => arg 2; whnf); (try simp only [z_lit, nI_add, pk_mul, z_pr1, z_pr2]); exact z_in (by omega) (by decide)) ?_ | refine z_bt1 (by decide) ?_ | refine z_bf1 (by decide) ?_ | refine z_bt2 (by decide) ?_ | refine z_bf2 (by decide) ?_ | refine z_bt1 (by first | exact h17) ?_ | refine z_bf1 (by first | exact h17) ?_ | refine z_bt2 (by first | exact h17) ?_ | refine z_bf2 (by first | exact h17) ?_); conv => whnf)
      refine hC _ _ _ _ _ _ _ _ _ _ (fun _ _ _ _ _ _ q => q) (sp_Mod_lays (many := 1) (s := (s.1, s.2.1, upd (upd s.2.2 0 (s_cmd (nI t) (nI 1) (nI 0) (nI code))) 1 (s.2.1 2 &&& nI 65535))) (who := s.2.1 3) hb (by omega) hs (by omega) ?_)
      conv => whnf
      refine hK _ _ _ _ _ _ _ _ _ _ (last _ (hs1 _ 1 (by omega)) rfl)
end
