/-! what may be asked: tallies, buses -/
def rq (A B : Nat) (a b : Int32) (a' b' : Nat) : Prop := a = nI a' ∧ a' ≤ A ∧ b = nI b' ∧ b' ≤ B
theorem rq_a {A B : Nat} {a b : Int32} {a' b' : Nat} (h : rq A B a b a' b') (hA : A < 2 ^ 30) : nI 0 ≤ a ∧ a ≤ nI A := by
  rw [h.1]; have := h.2.1
  exact ⟨nI_pos' (by omega), nI_le this (by omega)⟩
theorem rq_b {A B : Nat} {a b : Int32} {a' b' : Nat} (h : rq A B a b a' b') (hB : B < 2 ^ 30) : nI 0 ≤ b ∧ b ≤ nI B := by
  rw [h.2.2.1]; have := h.2.2.2
  exact ⟨nI_pos' (by omega), nI_le this (by omega)⟩
section
variable {L : Nat} {xs : Nat → Int32} {d : Nat} {kp sp wd : Value} {I : z_I} {s : z_sg} {R : z_R} {J : z_J} {F : z_F} {cn : Nat} {Q : z_Q} {n k : Nat}
theorem sp_tally {t q : Int32} (h1 : ∀ t' q', rq 8 4 t q t' q' → Q (some (.int (s.2.1 (2260 + 5 * t' + q')))) (z_ms I s) (z_R0 kp sp wd) J F cn) (h0 : (∀ t' q', ¬ rq 8 4 t q t' q') → Q (some (.int (-1))) (z_ms I s) (z_R0 kp sp wd) J F cn) :
    z_M (z_X0 L xs) z_P0 (d + 1) m_Mod_tally [.ref 40, .int t, .int q] (z_ms I s) (z_R0 kp sp wd) J F cn Q := by
  refine z_WP_gos [] 1000 fun K C hK hC => ?_
  conv => whnf
  refine hC _ _ _ _ _ _ _ _ _ _ (fun _ _ _ _ _ _ q => q) (sp_Mod_isIn (fun x1 x2 => ?_) (fun x => ?_))
  conv => whnf
  · obtain ⟨i', hi, ei⟩ := isIn_nat (b := 8) (by decide) x1 x2
    subst ei
    repeat ((first | refine And.intro (by (conv => arg 2; whnf); (try simp only [z_lit, nI_add, pk_mul, z_pr1, z_pr2]); exact z_in (by omega) (by decide)) ?_ | refine z_bt1 (by decide) ?_ | refine z_bf1 (by decide) ?_ | refine z_bt2 (by decide) ?_ | refine z_bf2 (by decide) ?_); conv => whnf)
    refine hC _ _ _ _ _ _ _ _ _ _ (fun _ _ _ _ _ _ q => q) (sp_Mod_isIn (fun y1 y2 => ?_) (fun z => ?_))
    conv => whnf
    · obtain ⟨q', hq, eq⟩ := isIn_nat (b := 4) (by decide) y1 y2
      subst eq
      have r := h1 i' q' ⟨rfl, hi, rfl, hq⟩
      repeat ((first | refine And.intro (by (conv => arg 2; whnf); (try simp only [z_lit, nI_add, pk_mul, z_pr1, z_pr2]); exact z_in (by omega) (by decide)) ?_ | refine z_bt1 (by decide) ?_ | refine z_bf1 (by decide) ?_ | refine z_bt2 (by decide) ?_ | refine z_bf2 (by decide) ?_); conv => whnf)
      simp (disch := omega) only [z_lit, nI_add, pk_mul, z_pr1, z_pr2, nI_clamp, z_m3_40, z_m3_41, z_m3_44, z_m3_u40, z_m3_u41, z_m3_u44, z_m3_m3, pk_us, pk_un]
      exact r
    · repeat ((first | refine And.intro (by (conv => arg 2; whnf); (try simp only [z_lit, nI_add, pk_mul, z_pr1, z_pr2]); exact z_in (by omega) (by decide)) ?_ | refine z_bt1 (by decide) ?_ | refine z_bf1 (by decide) ?_ | refine z_bt2 (by decide) ?_ | refine z_bf2 (by decide) ?_); conv => whnf)
      exact h0 fun a b h => z (rq_b h (by decide))
  · repeat ((first | refine And.intro (by (conv => arg 2; whnf); (try simp only [z_lit, nI_add, pk_mul, z_pr1, z_pr2]); exact z_in (by omega) (by decide)) ?_ | refine z_bt1 (by decide) ?_ | refine z_bf1 (by decide) ?_ | refine z_bt2 (by decide) ?_ | refine z_bf2 (by decide) ?_); conv => whnf)
    exact h0 fun a b h => x (rq_a h (by decide))
theorem cb_tally {t q : Int32} {w : Nat → Int32} (hu : uRel I F w) (h1 : ∀ t' q', rq 8 4 t q t' q' → Q (some (.int (w (2260 + 5 * t' + q')))) I (z_R0 kp sp wd) J F cn) (h0 : (∀ t' q', ¬ rq 8 4 t q t' q') → Q (some (.int (-1))) I (z_R0 kp sp wd) J F cn) :
    z_M (z_X0 L xs) z_P0 (d + 1) m_Bus_tally [.ref 0, .int t, .int q] I (z_R0 kp sp wd) J F cn Q := by
  refine z_WP_gos [] 1000 fun K C hK hC => ?_
  conv => whnf
  refine ⟨fun g => ?_, fun g => ?_⟩
  · conv => whnf
    exact h0 fun a b h => absurd g (Int32.not_lt.mpr (rq_a h (by decide)).1)
  conv => whnf
  refine ⟨fun g2 => ?_, fun g2 => ?_⟩
  · conv => whnf
    exact h0 fun a b h => absurd g2 (Int32.not_lt.mpr (rq_a h (by decide)).2)
  obtain ⟨t', ht, et⟩ := isIn_nat (b := 8) (by decide) (Int32.not_lt.mp g) (Int32.not_lt.mp g2)
  subst et
  conv => whnf
  refine ⟨fun g3 => ?_, fun g3 => ?_⟩
  · conv => whnf
    exact h0 fun a b h => absurd g3 (Int32.not_lt.mpr (rq_b h (by decide)).1)
  conv => whnf
  refine ⟨fun g4 => ?_, fun g4 => ?_⟩
  · obtain ⟨q', hq, eq⟩ := isIn_nat (b := 5) (by decide) (Int32.not_lt.mp g3) (Int32.le_of_lt g4)
    subst eq
    have hq4 : q' ≤ 4 := by
      rcases Nat.lt_or_eq_of_le hq with z | z
      · omega
      · rw [z] at g4; exact absurd g4 (by decide)
    have r := h1 t' q' ⟨rfl, ht, rfl, hq4⟩
    have e := hu.2.2.2 (t' * 5 + q') (by omega)
    rw [show 2260 + (t' * 5 + q') = 2260 + 5 * t' + q' by omega] at e
    conv => whnf
    repeat ((first | refine And.intro (by (conv => arg 2; whnf); (try simp only [z_lit, nI_add, pk_mul, z_pr1, z_pr2]); exact z_in (by omega) (by decide)) ?_ | refine z_bt1 (by decide) ?_ | refine z_bf1 (by decide) ?_ | refine z_bt2 (by decide) ?_ | refine z_bf2 (by decide) ?_); conv => whnf)
    simp (disch := omega) only [z_lit, nI_add, pk_mul, z_pr1, z_pr2, nI_clamp, z_up_row, z_row_s, z_row_n, z_row_row, pk_us, pk_un]
    rw [e]
    exact r
  · conv => whnf
    refine h0 fun a b h => g4 ?_
    rw [h.2.2.1]; have := h.2.2.2; exact nI_lt (b := 5) (by omega) (by decide)
def s_bus (w : Nat → Int32) (b q : Nat) : Int32 := if q = 0 then w (13 + b) else w (2305 + 5 * b + (q - 1))
theorem sp_bus {t q : Int32} (h1 : ∀ t' q', rq 1 5 t q t' q' → Q (some (.int (s_bus s.2.1 t' q'))) (z_ms I s) (z_R0 kp sp wd) J F cn) (h0 : (∀ t' q', ¬ rq 1 5 t q t' q') → Q (some (.int (-1))) (z_ms I s) (z_R0 kp sp wd) J F cn) :
    z_M (z_X0 L xs) z_P0 (d + 1) m_Mod_bus [.ref 40, .int t, .int q] (z_ms I s) (z_R0 kp sp wd) J F cn Q := by
  refine z_WP_gos [] 1000 fun K C hK hC => ?_
  conv => whnf
  refine hC _ _ _ _ _ _ _ _ _ _ (fun _ _ _ _ _ _ q => q) (sp_Mod_isIn (fun x1 x2 => ?_) (fun x => ?_))
  conv => whnf
  · obtain ⟨i', hi, ei⟩ := isIn_nat (b := 1) (by decide) x1 x2
    subst ei
    repeat ((first | refine And.intro (by (conv => arg 2; whnf); (try simp only [z_lit, nI_add, pk_mul, z_pr1, z_pr2]); exact z_in (by omega) (by decide)) ?_ | refine z_bt1 (by decide) ?_ | refine z_bf1 (by decide) ?_ | refine z_bt2 (by decide) ?_ | refine z_bf2 (by decide) ?_); conv => whnf)
    refine hC _ _ _ _ _ _ _ _ _ _ (fun _ _ _ _ _ _ q => q) (sp_Mod_isIn (fun y1 y2 => ?_) (fun z => ?_))
    conv => whnf
    · obtain ⟨q', hq, eq⟩ := isIn_nat (b := 5) (by decide) y1 y2
      subst eq
      have r := h1 i' q' ⟨rfl, hi, rfl, hq⟩
      unfold s_bus at r
      have qn : ∀ q, q < 6 → nI q = 0 → q = 0 := by decide
      repeat ((first | refine And.intro (by (conv => arg 2; whnf); (try simp only [z_lit, nI_add, pk_mul, z_pr1, z_pr2]); exact z_in (by omega) (by decide)) ?_ | refine z_bt1 (by decide) ?_ | refine z_bf1 (by decide) ?_ | refine z_bt2 (by decide) ?_ | refine z_bf2 (by decide) ?_); conv => whnf)
      refine ⟨fun g => ?_, fun g => ?_⟩
      · obtain ⟨p, rfl⟩ : ∃ p, q' = p + 1 := ⟨q' - 1, by
          have : q' ≠ 0 := fun z => g (by rw [z]; rfl)
          omega⟩
        rw [if_neg (by omega), Nat.add_sub_cancel] at r
        conv => whnf
        repeat ((first | refine And.intro (by (conv => arg 2; whnf); (try simp only [z_lit, nI_add, pk_mul, z_pr1, z_pr2]); exact z_in (by omega) (by decide)) ?_ | refine z_bt1 (by decide) ?_ | refine z_bf1 (by decide) ?_ | refine z_bt2 (by decide) ?_ | refine z_bf2 (by decide) ?_); conv => whnf)
        simp (disch := omega) only [z_lit, nI_add, pk_mul, z_pr1, z_pr2, nI_clamp, z_m3_40, z_m3_41, z_m3_44, z_m3_u40, z_m3_u41, z_m3_u44, z_m3_m3, pk_us, pk_un]
        exact r
      · have : q' = 0 := qn q' (by omega) g
        rw [if_pos this] at r
        conv => whnf
        repeat ((first | refine And.intro (by (conv => arg 2; whnf); (try simp only [z_lit, nI_add, pk_mul, z_pr1, z_pr2]); exact z_in (by omega) (by decide)) ?_ | refine z_bt1 (by decide) ?_ | refine z_bf1 (by decide) ?_ | refine z_bt2 (by decide) ?_ | refine z_bf2 (by decide) ?_); conv => whnf)
        simp (disch := omega) only [z_lit, nI_add, pk_mul, z_pr1, z_pr2, nI_clamp, z_m3_40, z_m3_41, z_m3_44, z_m3_u40, z_m3_u41, z_m3_u44, z_m3_m3, pk_us, pk_un]
        exact r
    · repeat ((first | refine And.intro (by (conv => arg 2; whnf); (try simp only [z_lit, nI_add, pk_mul, z_pr1, z_pr2]); exact z_in (by omega) (by decide)) ?_ | refine z_bt1 (by decide) ?_ | refine z_bf1 (by decide) ?_ | refine z_bt2 (by decide) ?_ | refine z_bf2 (by decide) ?_); conv => whnf)
      exact h0 fun a b h => z (rq_b h (by decide))
  · repeat ((first | refine And.intro (by (conv => arg 2; whnf); (try simp only [z_lit, nI_add, pk_mul, z_pr1, z_pr2]); exact z_in (by omega) (by decide)) ?_ | refine z_bt1 (by decide) ?_ | refine z_bf1 (by decide) ?_ | refine z_bt2 (by decide) ?_ | refine z_bf2 (by decide) ?_); conv => whnf)
    exact h0 fun a b h => x (rq_a h (by decide))
theorem cb_bus {t q : Int32} {w : Nat → Int32} (hu : wC I w n) (h1 : ∀ t' q', rq 1 5 t q t' q' → Q (some (.int (s_bus w t' q'))) I (z_R0 kp sp wd) J F cn) (h0 : (∀ t' q', ¬ rq 1 5 t q t' q') → Q (some (.int (-1))) I (z_R0 kp sp wd) J F cn) :
    z_M (z_X0 L xs) z_P0 (d + 1) m_Bus_bus [.ref 0, .int t, .int q] I (z_R0 kp sp wd) J F cn Q := by
  refine z_WP_gos [] 1000 fun K C hK hC => ?_
  conv => whnf
  refine ⟨fun g => ?_, fun g => ?_⟩
  · conv => whnf
    exact h0 fun a b h => absurd g (Int32.not_lt.mpr (rq_a h (by decide)).1)
  conv => whnf
  refine ⟨fun g2 => ?_, fun g2 => ?_⟩
  · conv => whnf
    exact h0 fun a b h => absurd g2 (Int32.not_lt.mpr (rq_a h (by decide)).2)
  obtain ⟨t', ht, et⟩ := isIn_nat (b := 1) (by decide) (Int32.not_lt.mp g) (Int32.not_lt.mp g2)
  subst et
  conv => whnf
  refine ⟨fun g3 => ?_, fun g3 => ?_⟩
  · conv => whnf
    exact h0 fun a b h => absurd g3 (Int32.not_lt.mpr (rq_b h (by decide)).1)
  conv => whnf
  refine ⟨fun g4 => ?_, fun g4 => ?_⟩
  · obtain ⟨q', hq, eq⟩ := isIn_nat (b := 6) (by decide) (Int32.not_lt.mp g3) (Int32.le_of_lt g4)
    subst eq
    have hq5 : q' ≤ 5 := by
      rcases Nat.lt_or_eq_of_le hq with z | z
      · omega
      · rw [z] at g4; exact absurd g4 (by decide)
    have r := h1 t' q' ⟨rfl, ht, rfl, hq5⟩
    have e : I 11 (t' * 6 + q') = s_bus w t' q' := by
      unfold s_bus
      by_cases z : q' = 0
      · rw [if_pos z, z]; exact hu.1 t' (by omega)
      · rw [if_neg z]
        have := hu.2.1 t' (by omega) (q' - 1) (by omega)
        rw [Nat.sub_add_cancel (by omega)] at this
        exact this
    conv => whnf
    repeat ((first | refine And.intro (by (conv => arg 2; whnf); (try simp only [z_lit, nI_add, pk_mul, z_pr1, z_pr2]); exact z_in (by omega) (by decide)) ?_ | refine z_bt1 (by decide) ?_ | refine z_bf1 (by decide) ?_ | refine z_bt2 (by decide) ?_ | refine z_bf2 (by decide) ?_); conv => whnf)
    simp (disch := omega) only [z_lit, nI_add, pk_mul, z_pr1, z_pr2, nI_clamp, z_up_row, z_row_s, z_row_n, z_row_row, pk_us, pk_un]
    rw [e]
    exact r
  · conv => whnf
    refine h0 fun a b h => g4 ?_
    rw [h.2.2.1]; have := h.2.2.2; exact nI_lt (b := 6) (by omega) (by decide)
end
