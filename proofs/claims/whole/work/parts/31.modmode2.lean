/-! the model's messages: modes, whole -/
def m_modes (s : z_sg) (bus t code : Nat) : z_sg × Int32 :=
  if nI t = nI 8 then m_toFirst s bus else
  let c := s_cmd (nI t) (if nI code = nI 17 then nI 0 else nI 1) (nI 0) (nI code)
  let r := m_lays (s.1, s.2.1, upd (upd s.2.2 0 c) 1 (s.2.1 2 &&& nI 65535)) bus (s.2.1 3) (if nI code = nI 17 then 2 else 1)
  bif s_hear r.1.2.1 t bus && !decide (r.2 &&& nI 1 = nI 1) then
    let s1 := bif s_apart code then (upd r.1.1 6 (nI 0), r.1.2.1, r.1.2.2) else m_begins (upd r.1.1 6 (nI 0), r.1.2.1, r.1.2.2) t c
    if r.2 = nI 0 then
      let s2 := bif s_apart code then m_does s1 bus t code else m_last (m_does s1 bus t code) t
      let q := m_tellsMode s2 bus t code
      let s3 := (upd q.1.1 6 (s2.1 6), q.1.2.1, q.1.2.2)
      (if nI code = nI 16 then m_w s3 (48 + t) (nI 0) else s3, q.2)
    else (m_quiet (m_errs s1 t), nI 1)
  else (m_quiet r.1, nI 1)
section
variable {L : Nat} {xs : Nat → Int32} {d : Nat} {kp sp wd : Value} {I : z_I} {s : z_sg} {R : z_R} {J : z_J} {F : z_F} {cn : Nat} {Q : z_Q}
theorem sp_toFirst {bus B : Nat} (hb : bus < 2) (hs : m_ok s B) (hB : B + 60 < 2 ^ 29) (hQ : Q (some (.int (m_toFirst s bus).2)) (z_ms I (m_toFirst s bus).1) (z_R0 kp sp wd) J F cn) : z_M (z_X0 L xs) z_P0 (d + 3) m_Mod_handsToFirst [.ref 40, .int (nI bus)] (z_ms I s) (z_R0 kp sp wd) J F cn Q := by
  unfold m_toFirst at hQ
  simp only at hQ
  have hs1 := m_lays_ok (s := (s.1, s.2.1, upd s.2.2 0 (s_cmd (nI 8) (nI 1) (nI 0) (nI 0)))) (who := s.2.1 3) (many := 1) hb hs (by omega)
  refine z_WP_gos [] 1000 fun K C hK hC => ?_
  conv => whnf
  refine hC _ _ _ _ _ _ _ _ _ _ (fun _ _ _ _ _ _ q => q) (sp_cmd ?_)
  conv => whnf
  repeat ((first | refine And.intro (by (conv => arg 2; whnf); (try simp only [z_lit, nI_add, pk_mul, z_pr1, z_pr2]); exact z_in (by omega) (by decide)) ?_ | refine z_bt1 (by decide) ?_ | refine z_bf1 (by decide) ?_ | refine z_bt2 (by decide) ?_ | refine z_bf2 (by decide) ?_); conv => whnf)
  simp (disch := omega) only [z_lit, nI_add, pk_mul, z_pr1, z_pr2, nI_clamp, z_m3_40, z_m3_41, z_m3_44, z_m3_u40, z_m3_u41, z_m3_u44, z_m3_m3, pk_us, pk_un]
  refine hC _ _ _ _ _ _ _ _ _ _ (fun _ _ _ _ _ _ q => q) (sp_Mod_lays (s := (s.1, s.2.1, upd s.2.2 0 (s_cmd (nI 8) (nI 1) (nI 0) (nI 0)))) (who := s.2.1 3) hb (by omega) hs (by omega) ?_)
  conv => whnf
  generalize m_lays (s.1, s.2.1, upd s.2.2 0 (s_cmd (nI 8) (nI 1) (nI 0) (nI 0))) bus (s.2.1 3) 1 = r at hQ hs1 ⊢
  repeat ((first | refine And.intro (by (conv => arg 2; whnf); (try simp only [z_lit, nI_add, pk_mul, z_pr1, z_pr2]); exact z_in (by omega) (by decide)) ?_ | refine z_bt1 (by decide) ?_ | refine z_bf1 (by decide) ?_ | refine z_bt2 (by decide) ?_ | refine z_bf2 (by decide) ?_); conv => whnf)
  simp (disch := omega) only [z_lit, nI_add, pk_mul, z_pr1, z_pr2, nI_clamp, z_m3_40, z_m3_41, z_m3_44, z_m3_u40, z_m3_u41, z_m3_u44, z_m3_m3, pk_us, pk_un]
  refine ⟨fun h => ?_, fun h => ?_⟩ <;> (try simp (disch := omega) only [z_lit, nI_add, pk_mul, z_pr1, z_pr2, nI_clamp, z_m3_40, z_m3_41, z_m3_44, z_m3_u40, z_m3_u41, z_m3_u44, z_m3_m3, pk_us, pk_un] at h) <;> (conv => whnf)
  · rw [if_pos (Or.inl h)] at hQ
    refine hC _ _ _ _ _ _ _ _ _ _ (fun _ _ _ _ _ _ q => q) (sp_Mod_noAnswer (s := (upd r.1.1 6 (nI 0), r.1.2.1, r.1.2.2)) ?_)
    conv => whnf
    exact hQ
  · repeat ((first | refine And.intro (by (conv => arg 2; whnf); (try simp only [z_lit, nI_add, pk_mul, z_pr1, z_pr2]); exact z_in (by omega) (by decide)) ?_ | refine z_bt1 (by decide) ?_ | refine z_bf1 (by decide) ?_ | refine z_bt2 (by decide) ?_ | refine z_bf2 (by decide) ?_); conv => whnf)
    refine ⟨fun g => ?_, fun g => ?_⟩ <;> (try simp (disch := omega) only [z_lit, nI_add, pk_mul, z_pr1, z_pr2, nI_clamp, z_m3_40, z_m3_41, z_m3_44, z_m3_u40, z_m3_u41, z_m3_u44, z_m3_m3, pk_us, pk_un] at g) <;> (conv => whnf)
    · rw [if_pos (Or.inr (Or.inl g))] at hQ
      refine hC _ _ _ _ _ _ _ _ _ _ (fun _ _ _ _ _ _ q => q) (sp_Mod_noAnswer (s := (upd r.1.1 6 (nI 0), r.1.2.1, r.1.2.2)) ?_)
      conv => whnf
      exact hQ
    · refine ⟨fun k => ?_, fun k => ?_⟩ <;> (try simp (disch := omega) only [z_lit, nI_add, pk_mul, z_pr1, z_pr2, nI_clamp, z_m3_40, z_m3_41, z_m3_44, z_m3_u40, z_m3_u41, z_m3_u44, z_m3_m3, pk_us, pk_un] at k) <;> (conv => whnf)
      · rw [if_neg (fun z => z.elim h (fun z => z.elim g (fun z => z k)))] at hQ
        repeat ((first | refine And.intro (by (conv => arg 2; whnf); (try simp only [z_lit, nI_add, pk_mul, z_pr1, z_pr2]); exact z_in (by omega) (by decide)) ?_ | refine z_bt1 (by decide) ?_ | refine z_bf1 (by decide) ?_ | refine z_bt2 (by decide) ?_ | refine z_bf2 (by decide) ?_); conv => whnf)
        simp (disch := omega) only [z_lit, nI_add, pk_mul, z_pr1, z_pr2, nI_clamp, z_m3_40, z_m3_41, z_m3_44, z_m3_u40, z_m3_u41, z_m3_u44, z_m3_m3, pk_us, pk_un]
        refine hC _ _ _ _ _ _ _ _ _ _ (fun _ _ _ _ _ _ q => q) (sp_Mod_lays (s := (upd (upd (upd r.1.1 6 (nI 0)) 6 (nI 1)) 4 (r.1.1 4 + nI 8), r.1.2.1, upd r.1.2.2 0 (nI 16386))) (who := nI 8) hb (by omega) hs1 (by omega) ?_)
        conv => whnf
        generalize m_lays (upd (upd (upd r.1.1 6 (nI 0)) 6 (nI 1)) 4 (r.1.1 4 + nI 8), r.1.2.1, upd r.1.2.2 0 (nI 16386)) bus (nI 8) 1 = q at hQ ⊢
        refine ⟨fun e => ?_, fun e => ?_⟩ <;> (try simp (disch := omega) only [z_lit, nI_add, pk_mul, z_pr1, z_pr2, nI_clamp, z_m3_40, z_m3_41, z_m3_44, z_m3_u40, z_m3_u41, z_m3_u44, z_m3_m3, pk_us, pk_un] at e) <;> (conv => whnf)
        · rw [if_pos e] at hQ
          exact hQ
        · rw [if_neg e] at hQ
          exact hQ
      · rw [if_pos (Or.inr (Or.inr k))] at hQ
        refine hC _ _ _ _ _ _ _ _ _ _ (fun _ _ _ _ _ _ q => q) (sp_Mod_noAnswer (s := (upd r.1.1 6 (nI 0), r.1.2.1, r.1.2.2)) ?_)
        conv => whnf
        exact hQ
/-- behind the answer of a mode -/
theorem tl_mode {bus t code : Nat} {had tu : Int32} (ht : t < 8) (hc : code < 32)
    (hQ : Q (some (.int (if tu = nI 0 then bif s_apart code then nI 0 else s_judged (if nI code = nI 16 then m_came (bif s_apart code || decide (nI code = nI 16) then upd s.1 7 had else s.1, s.2.1, s.2.2) t else (bif s_apart code || decide (nI code = nI 16) then upd s.1 7 had else s.1, s.2.1, s.2.2)).2.1 t else nI 2)))
      (z_ms I (if tu = nI 0 then (if nI code = nI 16 then m_came (bif s_apart code || decide (nI code = nI 16) then upd s.1 7 had else s.1, s.2.1, s.2.2) t else (bif s_apart code || decide (nI code = nI 16) then upd s.1 7 had else s.1, s.2.1, s.2.2)) else (bif s_apart code || decide (nI code = nI 16) then upd s.1 7 had else s.1, s.2.1, s.2.2))) (z_R0 kp sp wd) J F cn) :
    z_WP (z_X0 L xs) z_P0 (d + 4) m_Mod_tellsMode 139 [some (.ref 40), some (.int (nI bus)), some (.int (nI t)), some (.int (nI code)), some (.int (z_bi (s_apart code))), some (.int had), none] [.int tu] (z_ms I s) (z_R0 kp sp wd) J F cn 0 0 Q := by
  have e2 : nI 2 = nI 16 ↔ False := by decide
  by_cases h16 : nI code = nI 16
  · have ha : s_apart code = false := by unfold s_apart; rw [h16]; decide
    rw [ha] at hQ ⊢
    simp only [h16, if_true, decide_true, Bool.or_true, cond_true, cond_false] at hQ
    refine z_WP_gos [] 1000 fun K C hK hC => ?_
    conv => whnf
    repeat ((first | refine And.intro (by (conv => arg 2; whnf); (try simp only [z_lit, nI_add, pk_mul, z_pr1, z_pr2]); exact z_in (by omega) (by decide)) ?_ | refine z_bt1 (by decide) ?_ | refine z_bf1 (by decide) ?_ | refine z_bt2 (by decide) ?_ | refine z_bf2 (by decide) ?_ | refine z_bt1 (by first | exact h16) ?_ | refine z_bf1 (by first | exact h16) ?_ | refine z_bt2 (by first | exact h16) ?_ | refine z_bf2 (by first | exact h16) ?_); conv => whnf)
    simp (disch := omega) only [z_lit, nI_add, pk_mul, z_pr1, z_pr2, nI_clamp, z_m3_40, z_m3_41, z_m3_44, z_m3_u40, z_m3_u41, z_m3_u44, z_m3_m3, pk_us, pk_un]
    refine ⟨fun h => ?_, fun h => ?_⟩ <;> (try simp (disch := omega) only [z_lit, nI_add, pk_mul, z_pr1, z_pr2, nI_clamp, z_m3_40, z_m3_41, z_m3_44, z_m3_u40, z_m3_u41, z_m3_u44, z_m3_m3, pk_us, pk_un] at h) <;> (conv => whnf)
    · rw [if_pos h] at hQ
      simp only [h, if_true] at hQ
      repeat ((first | refine And.intro (by (conv => arg 2; whnf); (try simp only [z_lit, nI_add, pk_mul, z_pr1, z_pr2]); exact z_in (by omega) (by decide)) ?_ | refine z_bt1 (by decide) ?_ | refine z_bf1 (by decide) ?_ | refine z_bt2 (by decide) ?_ | refine z_bf2 (by decide) ?_ | refine z_bt1 (by first | exact h16) ?_ | refine z_bf1 (by first | exact h16) ?_ | refine z_bt2 (by first | exact h16) ?_ | refine z_bf2 (by first | exact h16) ?_); conv => whnf)
      simp (disch := omega) only [z_lit, nI_add, pk_mul, z_pr1, z_pr2, nI_clamp, z_m3_40, z_m3_41, z_m3_44, z_m3_u40, z_m3_u41, z_m3_u44, z_m3_m3, pk_us, pk_un]
      refine hC _ _ _ _ _ _ _ _ _ _ (fun _ _ _ _ _ _ q => q) (sp_Mod_judged (s := m_came (upd s.1 7 had, s.2.1, s.2.2) t) ht ?_)
      conv => whnf
      exact hQ
    · rw [if_neg h] at hQ
      simp only [h, if_false] at hQ
      exact hQ
  · rw [if_neg h16] at hQ
    simp only [h16, decide_false, Bool.or_false] at hQ
    cases ha : s_apart code with
    | true =>
      rw [ha] at hQ
      simp only [cond_true] at hQ
      refine z_WP_gos [] 1000 fun K C hK hC => ?_
      conv => whnf
      repeat ((first | refine And.intro (by (conv => arg 2; whnf); (try simp only [z_lit, nI_add, pk_mul, z_pr1, z_pr2]); exact z_in (by omega) (by decide)) ?_ | refine z_bt1 (by decide) ?_ | refine z_bf1 (by decide) ?_ | refine z_bt2 (by decide) ?_ | refine z_bf2 (by decide) ?_); conv => whnf)
      simp (disch := omega) only [z_lit, nI_add, pk_mul, z_pr1, z_pr2, nI_clamp, z_m3_40, z_m3_41, z_m3_44, z_m3_u40, z_m3_u41, z_m3_u44, z_m3_m3, pk_us, pk_un]
      refine ⟨fun h => ?_, fun h => ?_⟩ <;> (try simp (disch := omega) only [z_lit, nI_add, pk_mul, z_pr1, z_pr2, nI_clamp, z_m3_40, z_m3_41, z_m3_44, z_m3_u40, z_m3_u41, z_m3_u44, z_m3_m3, pk_us, pk_un] at h) <;> (conv => whnf)
      · simp only [h, if_true] at hQ
        repeat ((first | refine And.intro (by (conv => arg 2; whnf); (try simp only [z_lit, nI_add, pk_mul, z_pr1, z_pr2]); exact z_in (by omega) (by decide)) ?_ | refine z_bt1 (by decide) ?_ | refine z_bf1 (by decide) ?_ | refine z_bt2 (by decide) ?_ | refine z_bf2 (by decide) ?_ | refine z_bt1 (by first | exact h16) ?_ | refine z_bf1 (by first | exact h16) ?_ | refine z_bt2 (by first | exact h16) ?_ | refine z_bf2 (by first | exact h16) ?_); conv => whnf)
        exact hQ
      · simp only [h, if_false] at hQ
        exact hQ
    | false =>
      rw [ha] at hQ
      simp only [cond_false] at hQ
      refine z_WP_gos [] 1000 fun K C hK hC => ?_
      conv => whnf
      repeat ((first | refine And.intro (by (conv => arg 2; whnf); (try simp only [z_lit, nI_add, pk_mul, z_pr1, z_pr2]); exact z_in (by omega) (by decide)) ?_ | refine z_bt1 (by decide) ?_ | refine z_bf1 (by decide) ?_ | refine z_bt2 (by decide) ?_ | refine z_bf2 (by decide) ?_ | refine z_bt1 (by first | exact h16) ?_ | refine z_bf1 (by first | exact h16) ?_ | refine z_bt2 (by first | exact h16) ?_ | refine z_bf2 (by first | exact h16) ?_); conv => whnf)
      refine ⟨fun h => ?_, fun h => ?_⟩ <;> (try simp (disch := omega) only [z_lit, nI_add, pk_mul, z_pr1, z_pr2, nI_clamp, z_m3_40, z_m3_41, z_m3_44, z_m3_u40, z_m3_u41, z_m3_u44, z_m3_m3, pk_us, pk_un] at h) <;> (conv => whnf)
      · simp only [h, if_true] at hQ
        repeat ((first | refine And.intro (by (conv => arg 2; whnf); (try simp only [z_lit, nI_add, pk_mul, z_pr1, z_pr2]); exact z_in (by omega) (by decide)) ?_ | refine z_bt1 (by decide) ?_ | refine z_bf1 (by decide) ?_ | refine z_bt2 (by decide) ?_ | refine z_bf2 (by decide) ?_ | refine z_bt1 (by first | exact h16) ?_ | refine z_bf1 (by first | exact h16) ?_ | refine z_bt2 (by first | exact h16) ?_ | refine z_bf2 (by first | exact h16) ?_); conv => whnf)
        refine hC _ _ _ _ _ _ _ _ _ _ (fun _ _ _ _ _ _ q => q) (sp_Mod_judged ht ?_)
        conv => whnf
        exact hQ
      · simp only [h, if_false] at hQ
        exact hQ
end
