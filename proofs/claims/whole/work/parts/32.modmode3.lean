/-! the model's messages: modes, whole -/
section
variable {L : Nat} {xs : Nat → Int32} {d : Nat} {kp sp wd : Value} {I : z_I} {s : z_sg} {R : z_R} {J : z_J} {F : z_F} {cn : Nat} {Q : z_Q}
theorem s_ap2 {code : Nat} (h : nI code = nI 2) : s_apart code = true := by unfold s_apart; rw [h]; rfl
theorem s_ap18 {code : Nat} (h : nI code = nI 18) : s_apart code = true := by unfold s_apart; rw [h]; decide
theorem s_ap0 {code : Nat} (h : ¬ nI code = nI 2) (h2 : ¬ nI code = nI 18) : s_apart code = false := by unfold s_apart; rw [decide_eq_false h, decide_eq_false h2]; rfl
theorem sp_tellsMode {bus t code B : Nat} (hb : bus < 2) (ht : t < 8) (hc : code < 32) (hs : m_ok s B) (hB : B + 20 < 2 ^ 29) (hQ : Q (some (.int (m_tellsMode s bus t code).2)) (z_ms I (m_tellsMode s bus t code).1) (z_R0 kp sp wd) J F cn) : z_M (z_X0 L xs) z_P0 (d + 4) m_Mod_tellsMode [.ref 40, .int (nI bus), .int (nI t), .int (nI code)] (z_ms I s) (z_R0 kp sp wd) J F cn Q := by
  unfold m_tellsMode at hQ
  simp only at hQ
  have tail : s_shut s.2.1 t bus = false → z_WP (z_X0 L xs) z_P0 (d + 4) m_Mod_tellsMode 109 [some (.ref 40), some (.int (nI bus)), some (.int (nI t)), some (.int (nI code)), some (.int (z_bi (s_apart code))), some (.int (s.1 7)), none] [.int (s_mw s.2.1 t code), .int 1, .ref 44] (z_ms I (s.1, s.2.1, upd s.2.2 0 (s.2.1 (136 + t)))) (z_R0 kp sp wd) J F cn 0 0 Q := by
    intro hl
    rw [hl] at hQ
    simp only [cond_false] at hQ
    have hm : ∀ many, (if nI code = nI 16 ∨ nI code = nI 18 ∨ nI code = nI 19 then 2 else 1) = many → z_WP (z_X0 L xs) z_P0 (d + 4) m_Mod_tellsMode 139 [some (.ref 40), some (.int (nI bus)), some (.int (nI t)), some (.int (nI code)), some (.int (z_bi (s_apart code))), some (.int (s.1 7)), none] [.int (m_answers (s.1, s.2.1, upd (upd s.2.2 0 (s.2.1 (136 + t))) 1 (s_mw s.2.1 t code)) bus t many).2] (z_ms I (m_answers (s.1, s.2.1, upd (upd s.2.2 0 (s.2.1 (136 + t))) 1 (s_mw s.2.1 t code)) bus t many).1) (z_R0 kp sp wd) J F cn 0 0 Q := by
      intro many hm
      rw [hm] at hQ
      generalize m_answers (s.1, s.2.1, upd (upd s.2.2 0 (s.2.1 (136 + t))) 1 (s_mw s.2.1 t code)) bus t many = r at hQ ⊢
      refine tl_mode ht hc ?_
      by_cases hr : r.2 = nI 0
      · simp only [hr, if_true] at hQ ⊢
        exact hQ
      · simp only [hr, if_false] at hQ ⊢
        exact hQ
    refine z_WP_gos [139] 1000 fun K C hK hC => ?_
    conv => whnf
    repeat ((first | refine And.intro (by (conv => arg 2; whnf); (try simp only [z_lit, nI_add, pk_mul, z_pr1, z_pr2]); exact z_in (by omega) (by decide)) ?_ | refine z_bt1 (by decide) ?_ | refine z_bf1 (by decide) ?_ | refine z_bt2 (by decide) ?_ | refine z_bf2 (by decide) ?_); conv => whnf)
    simp (disch := omega) only [z_lit, nI_add, pk_mul, z_pr1, z_pr2, nI_clamp, z_m3_40, z_m3_41, z_m3_44, z_m3_u40, z_m3_u41, z_m3_u44, z_m3_m3, pk_us, pk_un]
    refine ⟨fun h16 => ?_, fun h16 => ?_⟩ <;> (try simp (disch := omega) only [z_lit, nI_add, pk_mul, z_pr1, z_pr2, nI_clamp, z_m3_40, z_m3_41, z_m3_44, z_m3_u40, z_m3_u41, z_m3_u44, z_m3_m3, pk_us, pk_un] at h16) <;> (conv => whnf)
    · refine hC _ _ _ _ _ _ _ _ _ _ (fun _ _ _ _ _ _ q => q) (sp_Mod_answers (many := 2) (s := (s.1, s.2.1, upd (upd s.2.2 0 (s.2.1 (136 + t))) 1 (s_mw s.2.1 t code))) hb (by omega) (by omega) hs hB ?_)
      conv => whnf
      refine hK _ _ _ _ _ _ _ _ _ _ (hm 2 (if_pos (Or.inl h16)))
    · refine ⟨fun h18 => ?_, fun h18 => ?_⟩ <;> (try simp (disch := omega) only [z_lit, nI_add, pk_mul, z_pr1, z_pr2, nI_clamp, z_m3_40, z_m3_41, z_m3_44, z_m3_u40, z_m3_u41, z_m3_u44, z_m3_m3, pk_us, pk_un] at h18) <;> (conv => whnf)
      · refine hC _ _ _ _ _ _ _ _ _ _ (fun _ _ _ _ _ _ q => q) (sp_Mod_answers (many := 2) (s := (s.1, s.2.1, upd (upd s.2.2 0 (s.2.1 (136 + t))) 1 (s_mw s.2.1 t code))) hb (by omega) (by omega) hs hB ?_)
        conv => whnf
        refine hK _ _ _ _ _ _ _ _ _ _ (hm 2 (if_pos (Or.inr (Or.inl h18))))
      · refine ⟨fun h19 => ?_, fun h19 => ?_⟩ <;> (try simp (disch := omega) only [z_lit, nI_add, pk_mul, z_pr1, z_pr2, nI_clamp, z_m3_40, z_m3_41, z_m3_44, z_m3_u40, z_m3_u41, z_m3_u44, z_m3_m3, pk_us, pk_un] at h19) <;> (conv => whnf)
        · refine hC _ _ _ _ _ _ _ _ _ _ (fun _ _ _ _ _ _ q => q) (sp_Mod_answers (many := 1) (s := (s.1, s.2.1, upd (upd s.2.2 0 (s.2.1 (136 + t))) 1 (s_mw s.2.1 t code))) hb (by omega) (by omega) hs hB ?_)
          conv => whnf
          refine hK _ _ _ _ _ _ _ _ _ _ (hm 1 (if_neg (fun z => z.elim h16 (fun z => z.elim h18 h19))))
        · refine hC _ _ _ _ _ _ _ _ _ _ (fun _ _ _ _ _ _ q => q) (sp_Mod_answers (many := 2) (s := (s.1, s.2.1, upd (upd s.2.2 0 (s.2.1 (136 + t))) 1 (s_mw s.2.1 t code))) hb (by omega) (by omega) hs hB ?_)
          conv => whnf
          refine hK _ _ _ _ _ _ _ _ _ _ (hm 2 (if_pos (Or.inr (Or.inr h19))))
  have mid : s_shut s.2.1 t bus = false → z_WP (z_X0 L xs) z_P0 (d + 4) m_Mod_tellsMode 30 [some (.ref 40), some (.int (nI bus)), some (.int (nI t)), some (.int (nI code)), none, none, none] [.int (z_bi (s_apart code))] (z_ms I s) (z_R0 kp sp wd) J F cn 0 0 Q := by
    intro hl
    refine z_WP_gos [109] 1000 fun K C hK hC => ?_
    conv => whnf
    repeat ((first | refine And.intro (by (conv => arg 2; whnf); (try simp only [z_lit, nI_add, pk_mul, z_pr1, z_pr2]); exact z_in (by omega) (by decide)) ?_ | refine z_bt1 (by decide) ?_ | refine z_bf1 (by decide) ?_ | refine z_bt2 (by decide) ?_ | refine z_bf2 (by decide) ?_); conv => whnf)
    simp (disch := omega) only [z_lit, nI_add, pk_mul, z_pr1, z_pr2, nI_clamp, z_m3_40, z_m3_41, z_m3_44, z_m3_u40, z_m3_u41, z_m3_u44, z_m3_m3, pk_us, pk_un]
    refine ⟨fun h16 => ?_, fun h16 => ?_⟩ <;> (try simp (disch := omega) only [z_lit, nI_add, pk_mul, z_pr1, z_pr2, nI_clamp, z_m3_40, z_m3_41, z_m3_44, z_m3_u40, z_m3_u41, z_m3_u44, z_m3_m3, pk_us, pk_un] at h16) <;> (conv => whnf)
    · refine ⟨fun h18 => ?_, fun h18 => ?_⟩ <;> (try simp (disch := omega) only [z_lit, nI_add, pk_mul, z_pr1, z_pr2, nI_clamp, z_m3_40, z_m3_41, z_m3_44, z_m3_u40, z_m3_u41, z_m3_u44, z_m3_m3, pk_us, pk_un] at h18) <;> (conv => whnf)
      · repeat ((first | refine And.intro (by (conv => arg 2; whnf); (try simp only [z_lit, nI_add, pk_mul, z_pr1, z_pr2]); exact z_in (by omega) (by decide)) ?_ | refine z_bt1 (by decide) ?_ | refine z_bf1 (by decide) ?_ | refine z_bt2 (by decide) ?_ | refine z_bf2 (by decide) ?_); conv => whnf)
        simp (disch := omega) only [z_lit, nI_add, pk_mul, z_pr1, z_pr2, nI_clamp, z_m3_40, z_m3_41, z_m3_44, z_m3_u40, z_m3_u41, z_m3_u44, z_m3_m3, pk_us, pk_un]
        refine hK _ _ _ _ _ _ _ _ _ _ (?_)
        have e : s_mw s.2.1 t code = s.2.1 (128 + t) &&& nI 65535 := by unfold s_mw; rw [if_neg h16, if_neg h18]
        rw [← e]
        exact tail hl
      · repeat ((first | refine And.intro (by (conv => arg 2; whnf); (try simp only [z_lit, nI_add, pk_mul, z_pr1, z_pr2]); exact z_in (by omega) (by decide)) ?_ | refine z_bt1 (by decide) ?_ | refine z_bf1 (by decide) ?_ | refine z_bt2 (by decide) ?_ | refine z_bf2 (by decide) ?_); conv => whnf)
        simp (disch := omega) only [z_lit, nI_add, pk_mul, z_pr1, z_pr2, nI_clamp, z_m3_40, z_m3_41, z_m3_44, z_m3_u40, z_m3_u41, z_m3_u44, z_m3_m3, pk_us, pk_un]
        refine hK _ _ _ _ _ _ _ _ _ _ (?_)
        have e : s_mw s.2.1 t code = s.2.1 (144 + t) := by unfold s_mw; rw [if_neg h16, if_pos h18]
        rw [← e]
        exact tail hl
    · repeat ((first | refine And.intro (by (conv => arg 2; whnf); (try simp only [z_lit, nI_add, pk_mul, z_pr1, z_pr2]); exact z_in (by omega) (by decide)) ?_ | refine z_bt1 (by decide) ?_ | refine z_bf1 (by decide) ?_ | refine z_bt2 (by decide) ?_ | refine z_bf2 (by decide) ?_); conv => whnf)
      simp (disch := omega) only [z_lit, nI_add, pk_mul, z_pr1, z_pr2, nI_clamp, z_m3_40, z_m3_41, z_m3_44, z_m3_u40, z_m3_u41, z_m3_u44, z_m3_m3, pk_us, pk_un]
      refine hK _ _ _ _ _ _ _ _ _ _ (?_)
      have e : s_mw s.2.1 t code = s.2.1 (104 + t) := by unfold s_mw; rw [if_pos h16]
      rw [← e]
      exact tail hl
  refine z_WP_gos [30] 1000 fun K C hK hC => ?_
  conv => whnf
  refine hC _ _ _ _ _ _ _ _ _ _ (fun _ _ _ _ _ _ q => q) (sp_shut ht hb ?_)
  conv => whnf
  cases hl : s_shut s.2.1 t bus with
  | true =>
    rw [hl] at hQ
    repeat ((first | refine And.intro (by (conv => arg 2; whnf); (try simp only [z_lit, nI_add, pk_mul, z_pr1, z_pr2]); exact z_in (by omega) (by decide)) ?_ | refine z_bt1 (by decide) ?_ | refine z_bf1 (by decide) ?_ | refine z_bt2 (by decide) ?_ | refine z_bf2 (by decide) ?_); conv => whnf)
    refine hC _ _ _ _ _ _ _ _ _ _ (fun _ _ _ _ _ _ q => q) (sp_Mod_noAnswer ?_)
    conv => whnf
    exact hQ
  | false =>
    replace mid := mid hl
    repeat ((first | refine And.intro (by (conv => arg 2; whnf); (try simp only [z_lit, nI_add, pk_mul, z_pr1, z_pr2]); exact z_in (by omega) (by decide)) ?_ | refine z_bt1 (by decide) ?_ | refine z_bf1 (by decide) ?_ | refine z_bt2 (by decide) ?_ | refine z_bf2 (by decide) ?_); conv => whnf)
    refine ⟨fun h2 => ?_, fun h2 => ?_⟩ <;> (try simp (disch := omega) only [z_lit, nI_add, pk_mul, z_pr1, z_pr2, nI_clamp, z_m3_40, z_m3_41, z_m3_44, z_m3_u40, z_m3_u41, z_m3_u44, z_m3_m3, pk_us, pk_un] at h2) <;> (conv => whnf)
    · rw [s_ap2 h2] at mid
      refine hK _ _ _ _ _ _ _ _ _ _ (mid)
    · refine ⟨fun h18 => ?_, fun h18 => ?_⟩ <;> (try simp (disch := omega) only [z_lit, nI_add, pk_mul, z_pr1, z_pr2, nI_clamp, z_m3_40, z_m3_41, z_m3_44, z_m3_u40, z_m3_u41, z_m3_u44, z_m3_m3, pk_us, pk_un] at h18) <;> (conv => whnf)
      · rw [s_ap0 h2 h18] at mid
        refine hK _ _ _ _ _ _ _ _ _ _ (mid)
      · rw [s_ap18 h18] at mid
        refine hK _ _ _ _ _ _ _ _ _ _ (mid)
end
