/-! the class: a silent controller -/
section
variable {L : Nat} {xs : Nat → Int32} {d : Nat} {kp sp wd : Value} {I : z_I} {s : z_sg} {R : z_R} {J : z_J} {F : z_F} {cn : Nat} {Q : z_Q} {w : Nat → Int32}
theorem cu_ready {t : Nat} (ht : t < 9) (hu : uT (I 3) w) (ho : uW w) (hQ : Q (some (.int (z_bi (s_can w t)))) I (z_R0 kp sp wd) J F cn) : z_M (z_X0 L xs) z_P0 (d + 1) m_Units_isReadyToLead [.ref 2, .int (nI t)] I (z_R0 kp sp wd) J F cn Q := by
  unfold s_can at hQ
  refine z_WP_gos [] 1000 fun K C hK hC => ?_
  conv => whnf
  refine hC _ _ _ _ _ _ _ _ _ _ (fun _ _ _ _ _ _ q => q) (cu_hasPower ht hu ho ?_)
  conv => whnf
  cases hp : decide (w (31 + t) = nI 1) <;> rw [hp] at hQ
  · repeat ((first | refine And.intro (by (conv => arg 2; whnf); (try simp only [z_lit, nI_add, pk_mul, z_pr1, z_pr2]); exact z_in (by omega) (by decide)) ?_ | refine z_bt1 (by decide) ?_ | refine z_bf1 (by decide) ?_ | refine z_bt2 (by decide) ?_ | refine z_bf2 (by decide) ?_); conv => whnf)
    exact z_Q0 hQ rfl
  · rw [Bool.true_and] at hQ
    repeat ((first | refine And.intro (by (conv => arg 2; whnf); (try simp only [z_lit, nI_add, pk_mul, z_pr1, z_pr2]); exact z_in (by omega) (by decide)) ?_ | refine z_bt1 (by decide) ?_ | refine z_bf1 (by decide) ?_ | refine z_bt2 (by decide) ?_ | refine z_bf2 (by decide) ?_); conv => whnf)
    refine ⟨fun h => ?_, fun h => ?_⟩
    · have h8 : t = 8 := nI_inj9 (by omega) (by omega) h
      conv => whnf
      exact z_Q1 hQ (by rw [decide_eq_true h8]; rfl)
    · have h8 : ¬ t = 8 := fun z => h (by rw [z]; rfl)
      have ht8 : t < 8 := by omega
      have e5 : I 3 (t * 18 + 5) = w (72 + t) := hu.1 t ht8 5 (by decide) (by decide)
      have e6 : I 3 (t * 18 + 6) = w (80 + t) := hu.1 t ht8 6 (by decide) (by decide)
      have v := ho.2.1 (72 + t) (by omega) (by omega)
      rw [decide_eq_false h8, Bool.false_or] at hQ
      conv => whnf
      repeat ((first | refine And.intro (by (conv => arg 2; whnf); (try simp only [z_lit, nI_add, pk_mul, z_pr1, z_pr2]); exact z_in (by omega) (by decide)) ?_ | refine z_bt1 (by decide) ?_ | refine z_bf1 (by decide) ?_ | refine z_bt2 (by decide) ?_ | refine z_bf2 (by decide) ?_); conv => whnf)
      refine ⟨fun g => ?_, fun g => ?_⟩ <;> (try simp (disch := omega) only [z_lit, nI_add, pk_mul, z_pr1, z_pr2, nI_clamp, z_up_row, z_row_s, z_row_n, z_row_row, pk_us, pk_un] at g) <;> (conv => whnf)
      · rw [e5] at g
        exact z_Q0 hQ (by rw [g]; rfl)
      · rw [e5, v01_n v] at g
        rw [decide_eq_true g, Bool.true_and] at hQ
        repeat ((first | refine And.intro (by (conv => arg 2; whnf); (try simp only [z_lit, nI_add, pk_mul, z_pr1, z_pr2]); exact z_in (by omega) (by decide)) ?_ | refine z_bt1 (by decide) ?_ | refine z_bf1 (by decide) ?_ | refine z_bt2 (by decide) ?_ | refine z_bf2 (by decide) ?_); conv => whnf)
        refine ⟨fun e => ?_, fun e => ?_⟩ <;> (try simp (disch := omega) only [z_lit, nI_add, pk_mul, z_pr1, z_pr2, nI_clamp, z_up_row, z_row_s, z_row_n, z_row_row, pk_us, pk_un] at e) <;> (conv => whnf)
        · rw [e6] at e
          exact z_Q0 hQ (decide_eq_false e)
        · rw [e6] at e
          exact z_Q1 hQ (decide_eq_true e)
theorem cw_could {t : Nat} (ht : t < 9) (hu : uT (I 3) w) (ho : uW w) (h8 : I 1 8 = w 3) (hQ : Q (some (.int (z_bi (!decide (nI t = w 3) && s_can w t)))) I (z_R0 kp sp wd) J F cn) : z_M (z_X0 L xs) z_P0 (d + 2) m_World_couldLead [.ref 1, .int (nI t)] I (z_R0 kp sp wd) J F cn Q := by
  refine z_WP_gos [] 1000 fun K C hK hC => ?_
  conv => whnf
  rw [h8]
  refine ⟨fun h => ?_, fun h => ?_⟩ <;> (try simp (disch := omega) only [z_lit, nI_add, pk_mul, z_pr1, z_pr2, nI_clamp, z_up_row, z_row_s, z_row_n, z_row_row, pk_us, pk_un] at h) <;> (conv => whnf)
  · exact z_Q0 hQ (by rw [decide_eq_true h]; rfl)
  · rw [decide_eq_false h] at hQ
    refine hC _ _ _ _ _ _ _ _ _ _ (fun _ _ _ _ _ _ q => q) (cu_ready ht hu ho ?_)
    conv => whnf
    cases hc : s_can w t <;> rw [hc] at hQ
    · repeat ((first | refine And.intro (by (conv => arg 2; whnf); (try simp only [z_lit, nI_add, pk_mul, z_pr1, z_pr2]); exact z_in (by omega) (by decide)) ?_ | refine z_bt1 (by decide) ?_ | refine z_bf1 (by decide) ?_ | refine z_bt2 (by decide) ?_ | refine z_bf2 (by decide) ?_); conv => whnf)
      exact z_Q0 hQ rfl
    · repeat ((first | refine And.intro (by (conv => arg 2; whnf); (try simp only [z_lit, nI_add, pk_mul, z_pr1, z_pr2]); exact z_in (by omega) (by decide)) ?_ | refine z_bt1 (by decide) ?_ | refine z_bf1 (by decide) ?_ | refine z_bt2 (by decide) ?_ | refine z_bf2 (by decide) ?_); conv => whnf)
      exact z_Q1 hQ rfl
theorem cw_move {t : Int32} (hQ : Q none (z_row I 1 (upd (upd (I 1) 8 t) 11 (I 1 11 + nI 1))) (z_R0 kp sp wd) J F cn) : z_M (z_X0 L xs) z_P0 d m_World_moveControl [.ref 1, .int t] I (z_R0 kp sp wd) J F cn Q := by
  refine z_WP_gos [] 1000 fun K C hK hC => ?_
  conv => whnf
  refine z_Qv hQ ?_
  simp (disch := omega) only [z_lit, nI_add, pk_mul, z_pr1, z_pr2, nI_clamp, z_up_row, z_row_s, z_row_n, z_row_row, pk_us, pk_un]
/-- silence, controller, moves, in both -/
def hS (r w : Nat → Int32) : Prop := r 9 = w 4 ∧ r 8 = w 3 ∧ r 11 = w 6
theorem lp_pass (hu : uT (I 3) w) (ho : uW w) (hc : ∃ c, c ≤ 8 ∧ w 3 = nI c ∧ w (31 + c) = nI 0) {r1 : Nat → Int32} (hr : hS r1 w)
    (h0 : s_who w 9 0 = none → Q none (z_row I 1 r1) (z_R0 kp sp wd) J F cn) (h1 : ∀ t, s_who w 9 0 = some t → ¬ nI t = w 3 → Q none (z_row I 1 (upd (upd (upd r1 8 (nI t)) 11 (r1 11 + nI 1)) 9 (nI 0))) (z_R0 kp sp wd) J F cn) :
    ∀ j t, t + j = 9 → s_who w 9 0 = s_who w j t → z_WP (z_X0 L xs) z_P0 (d + 3) m_Frames_passInSilence 15 [some (.ref 31), some (.int (nI t))] [] (z_row I 1 r1) (z_R0 kp sp wd) J F cn 0 0 Q := by
  obtain ⟨c, hc8, hc3, hcp⟩ := hc
  intro j
  induction j with
  | zero =>
    intro t ht he
    obtain rfl : t = 9 := by omega
    refine z_WP_gos [15] 1000 fun K C hK hC => ?_
    conv => whnf
    refine ⟨fun _ => ?_, fun h => absurd (by decide) h⟩
    conv => whnf
    exact h0 he
  | succ j ih =>
    intro t ht he
    have ih' := ih (t + 1) (by omega)
    unfold s_who at he
    have htc : s_can w t = true → ¬ nI t = w 3 := fun z y => by
      rw [hc3] at y
      have : t = c := nI_inj9 (by omega) (by omega) y
      subst this
      unfold s_can at z
      rw [hcp] at z
      simp at z
      exact absurd z.1 (by decide)
    refine z_WP_gos [15] 1000 fun K C hK hC => ?_
    conv => whnf
    refine ⟨fun h => absurd h (nI_nlt (a := 8) (b := t) (by omega) (by omega)), fun _ => ?_⟩
    conv => whnf
    refine ⟨fun g => ?_, fun g => ?_⟩ <;> (try simp (disch := omega) only [z_lit, nI_add, pk_mul, z_pr1, z_pr2, nI_clamp, z_up_row, z_row_s, z_row_n, z_row_row, pk_us, pk_un] at g) <;> (conv => whnf)
    · rw [hr.1] at g
      have g' : decide (nI (t + 2) ≤ w 4) = false := decide_eq_false (Int32.not_le.mpr g)
      rw [g', Bool.and_false] at he
      rw [show nI t + 1 = nI (t + 1) from nI_1 t]
      refine hK _ _ _ _ _ _ _ _ _ _ (ih' he)
    · rw [hr.1] at g
      have g' : decide (nI (t + 2) ≤ w 4) = true := decide_eq_true (Int32.not_lt.mp g)
      rw [g', Bool.and_true] at he
      refine hC _ _ _ _ _ _ _ _ _ _ (fun _ _ _ _ _ _ q => q) (cw_could (I := z_row I 1 r1) (w := w) (t := t) (by omega) hu ho hr.2.1 ?_)
      conv => whnf
      cases hcn : s_can w t <;> rw [hcn] at he
      · rw [Bool.and_false]
        repeat ((first | refine And.intro (by (conv => arg 2; whnf); (try simp only [z_lit, nI_add, pk_mul, z_pr1, z_pr2]); exact z_in (by omega) (by decide)) ?_ | refine z_bt1 (by decide) ?_ | refine z_bf1 (by decide) ?_ | refine z_bt2 (by decide) ?_ | refine z_bf2 (by decide) ?_); conv => whnf)
        rw [show nI t + 1 = nI (t + 1) from nI_1 t]
        refine hK _ _ _ _ _ _ _ _ _ _ (ih' he)
      · have hn3 := htc hcn
        rw [decide_eq_false hn3]
        repeat ((first | refine And.intro (by (conv => arg 2; whnf); (try simp only [z_lit, nI_add, pk_mul, z_pr1, z_pr2]); exact z_in (by omega) (by decide)) ?_ | refine z_bt1 (by decide) ?_ | refine z_bf1 (by decide) ?_ | refine z_bt2 (by decide) ?_ | refine z_bf2 (by decide) ?_); conv => whnf)
        refine hC _ _ _ _ _ _ _ _ _ _ (fun _ _ _ _ _ _ q => q) (cw_move ?_)
        conv => whnf
        refine z_Qv (h1 t he hn3) ?_
        simp (disch := omega) only [z_lit, nI_add, pk_mul, z_pr1, z_pr2, nI_clamp, z_up_row, z_row_s, z_row_n, z_row_row, pk_us, pk_un]
theorem cf_silent (hu : uT (I 3) s.2.1) (ho : uW s.2.1) (hc : ∃ c, c ≤ 8 ∧ s.2.1 3 = nI c ∧ s.2.1 (31 + c) = nI 0) (hr : hS (I 1) s.2.1)
    (hQ : ∀ r', hS r' (m_sil s).2.1 → (∀ j, j ≠ 8 → j ≠ 9 → j ≠ 11 → r' j = I 1 j) → Q none (z_row I 1 r') (z_R0 kp sp wd) J F cn) : z_M (z_X0 L xs) z_P0 (d + 3) m_Frames_passInSilence [.ref 31] I (z_R0 kp sp wd) J F cn Q := by
  obtain ⟨r9, r8, r11⟩ := hr
  have hu' : uT (I 3) (upd s.2.1 4 (s.2.1 4 + nI 1)) := uT_of hu rfl (fun j a b => pk_un (by omega))
  have ho' : uW (upd s.2.1 4 (s.2.1 4 + nI 1)) := ⟨fun t ht => by rw [pk_un (by omega)]; exact ho.1 t ht, fun j a b => by rw [pk_un (by omega)]; exact ho.2.1 j a b, fun j a b => by rw [pk_un (by omega)]; exact ho.2.2 j a b⟩
  have hc' : ∃ c, c ≤ 8 ∧ (upd s.2.1 4 (s.2.1 4 + nI 1)) 3 = nI c ∧ (upd s.2.1 4 (s.2.1 4 + nI 1)) (31 + c) = nI 0 := by
    obtain ⟨c, h1, h2, h3⟩ := hc
    exact ⟨c, h1, by rw [pk_un (by omega)]; exact h2, by rw [pk_un (by omega)]; exact h3⟩
  unfold m_sil at hQ
  refine z_WP_gos [15] 1000 fun K C hK hC => ?_
  conv => whnf
  simp (disch := omega) only [z_lit, nI_add, pk_mul, z_pr1, z_pr2, nI_clamp, z_up_row, z_row_s, z_row_n, z_row_row, pk_us, pk_un]
  refine hK _ _ _ _ _ _ _ _ _ _ (lp_pass (I := I) (w := upd s.2.1 4 (s.2.1 4 + nI 1)) (r1 := upd (I 1) 9 (I 1 9 + nI 1)) hu' ho' hc' ⟨?_, ?_, ?_⟩ (fun h => ?_) (fun t h hn => ?_) 9 0 rfl rfl)
  · rw [pk_us, pk_us, r9]
  · rw [pk_un (by omega), pk_un (by omega)]; exact r8
  · rw [pk_un (by omega), pk_un (by omega)]; exact r11
  · rw [h] at hQ
    simp only at hQ
    refine hQ _ ⟨?_, ?_, ?_⟩ (fun j a b c => pk_un b)
    · show I 1 9 + nI 1 = s.2.1 4 + nI 1
      rw [r9]
    · show upd (I 1) 9 (I 1 9 + nI 1) 8 = upd s.2.1 4 (s.2.1 4 + nI 1) 3
      rw [pk_un (by omega), pk_un (by omega)]; exact r8
    · show upd (I 1) 9 (I 1 9 + nI 1) 11 = upd s.2.1 4 (s.2.1 4 + nI 1) 6
      rw [pk_un (by omega), pk_un (by omega)]; exact r11
  · rw [h] at hQ
    simp only at hQ
    have e : m_ctl (m_w s 4 (s.2.1 4 + nI 1)) (nI t) = (s.1, upd (upd (upd s.2.1 4 (s.2.1 4 + nI 1)) 3 (nI t)) 6 ((upd s.2.1 4 (s.2.1 4 + nI 1)) 6 + nI 1), s.2.2) := by
      unfold m_ctl
      rw [if_neg (show ¬ nI t = (m_w s 4 (s.2.1 4 + nI 1)).2.1 3 from hn)]
      rfl
    refine hQ _ ?_ (fun j a b c => by rw [pk_un b, pk_un c, pk_un a, pk_un b])
    rw [e]
    refine ⟨rfl, rfl, ?_⟩
    show upd (I 1) 9 (I 1 9 + nI 1) 11 + nI 1 = upd s.2.1 4 (s.2.1 4 + nI 1) 6 + nI 1
    rw [pk_un (by omega), pk_un (by omega), r11]
end
