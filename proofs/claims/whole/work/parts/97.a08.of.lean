/-! what may be asked: of a terminal, its words -/
def ofq (t q : Int32) (t' q' : Nat) : Prop := rq 8 17 t q t' q' ∧ (t' = 8 → q' = 0)
section
variable {L : Nat} {xs : Nat → Int32} {d : Nat} {kp sp wd : Value} {I : z_I} {s : z_sg} {R : z_R} {J : z_J} {F : z_F} {cn : Nat} {Q : z_Q} {n k : Nat}
theorem sp_has {t q' : Nat} (ht : t < 8) (h10 : 10 ≤ q') (h17 : q' ≤ 17) (r : Q (some (.int (s.2.1 (tpl q' + t)))) (z_ms I s) (z_R0 kp sp wd) J F cn) :
    z_M (z_X0 L xs) z_P0 d m_Mod_has [.ref 40, .int (nI t), .int (nI q')] (z_ms I s) (z_R0 kp sp wd) J F cn Q := by
  refine z_WP_gos [1] 1000 fun K C hK hC => ?_
  conv => whnf
  have hq' : q' = 10 ∨ q' = 11 ∨ q' = 12 ∨ q' = 13 ∨ q' = 14 ∨ q' = 15 ∨ q' = 16 ∨ q' = 17 := by omega
  rcases hq' with rfl | rfl | rfl | rfl | rfl | rfl | rfl | rfl
  · refine hK _ _ _ _ _ _ _ _ _ _ (z_WP_ts 48 rfl (by decide) ?_)
    refine z_WP_gos [] 1000 fun K C hK hC => ?_
    conv => whnf
    repeat ((first | refine And.intro (by (conv => arg 2; whnf); (try simp only [z_lit, nI_add, pk_mul, z_pr1, z_pr2]); exact z_in (by omega) (by decide)) ?_ | refine z_bt1 (by decide) ?_ | refine z_bf1 (by decide) ?_ | refine z_bt2 (by decide) ?_ | refine z_bf2 (by decide) ?_); conv => whnf)
    simp (disch := omega) only [z_lit, nI_add, pk_mul, z_pr1, z_pr2, nI_clamp, z_m3_40, z_m3_41, z_m3_44, z_m3_u40, z_m3_u41, z_m3_u44, z_m3_m3, pk_us, pk_un]
    exact r
  · refine hK _ _ _ _ _ _ _ _ _ _ (z_WP_ts 58 rfl (by decide) ?_)
    refine z_WP_gos [] 1000 fun K C hK hC => ?_
    conv => whnf
    repeat ((first | refine And.intro (by (conv => arg 2; whnf); (try simp only [z_lit, nI_add, pk_mul, z_pr1, z_pr2]); exact z_in (by omega) (by decide)) ?_ | refine z_bt1 (by decide) ?_ | refine z_bf1 (by decide) ?_ | refine z_bt2 (by decide) ?_ | refine z_bf2 (by decide) ?_); conv => whnf)
    simp (disch := omega) only [z_lit, nI_add, pk_mul, z_pr1, z_pr2, nI_clamp, z_m3_40, z_m3_41, z_m3_44, z_m3_u40, z_m3_u41, z_m3_u44, z_m3_m3, pk_us, pk_un]
    exact r
  · refine hK _ _ _ _ _ _ _ _ _ _ (z_WP_ts 68 rfl (by decide) ?_)
    refine z_WP_gos [] 1000 fun K C hK hC => ?_
    conv => whnf
    repeat ((first | refine And.intro (by (conv => arg 2; whnf); (try simp only [z_lit, nI_add, pk_mul, z_pr1, z_pr2]); exact z_in (by omega) (by decide)) ?_ | refine z_bt1 (by decide) ?_ | refine z_bf1 (by decide) ?_ | refine z_bt2 (by decide) ?_ | refine z_bf2 (by decide) ?_); conv => whnf)
    simp (disch := omega) only [z_lit, nI_add, pk_mul, z_pr1, z_pr2, nI_clamp, z_m3_40, z_m3_41, z_m3_44, z_m3_u40, z_m3_u41, z_m3_u44, z_m3_m3, pk_us, pk_un]
    exact r
  · refine hK _ _ _ _ _ _ _ _ _ _ (z_WP_ts 79 rfl (by decide) ?_)
    refine z_WP_gos [] 1000 fun K C hK hC => ?_
    conv => whnf
    repeat ((first | refine And.intro (by (conv => arg 2; whnf); (try simp only [z_lit, nI_add, pk_mul, z_pr1, z_pr2]); exact z_in (by omega) (by decide)) ?_ | refine z_bt1 (by decide) ?_ | refine z_bf1 (by decide) ?_ | refine z_bt2 (by decide) ?_ | refine z_bf2 (by decide) ?_); conv => whnf)
    simp (disch := omega) only [z_lit, nI_add, pk_mul, z_pr1, z_pr2, nI_clamp, z_m3_40, z_m3_41, z_m3_44, z_m3_u40, z_m3_u41, z_m3_u44, z_m3_m3, pk_us, pk_un]
    exact r
  · refine hK _ _ _ _ _ _ _ _ _ _ (z_WP_ts 90 rfl (by decide) ?_)
    refine z_WP_gos [] 1000 fun K C hK hC => ?_
    conv => whnf
    repeat ((first | refine And.intro (by (conv => arg 2; whnf); (try simp only [z_lit, nI_add, pk_mul, z_pr1, z_pr2]); exact z_in (by omega) (by decide)) ?_ | refine z_bt1 (by decide) ?_ | refine z_bf1 (by decide) ?_ | refine z_bt2 (by decide) ?_ | refine z_bf2 (by decide) ?_); conv => whnf)
    simp (disch := omega) only [z_lit, nI_add, pk_mul, z_pr1, z_pr2, nI_clamp, z_m3_40, z_m3_41, z_m3_44, z_m3_u40, z_m3_u41, z_m3_u44, z_m3_m3, pk_us, pk_un]
    exact r
  · refine hK _ _ _ _ _ _ _ _ _ _ (z_WP_ts 101 rfl (by decide) ?_)
    refine z_WP_gos [] 1000 fun K C hK hC => ?_
    conv => whnf
    repeat ((first | refine And.intro (by (conv => arg 2; whnf); (try simp only [z_lit, nI_add, pk_mul, z_pr1, z_pr2]); exact z_in (by omega) (by decide)) ?_ | refine z_bt1 (by decide) ?_ | refine z_bf1 (by decide) ?_ | refine z_bt2 (by decide) ?_ | refine z_bf2 (by decide) ?_); conv => whnf)
    simp (disch := omega) only [z_lit, nI_add, pk_mul, z_pr1, z_pr2, nI_clamp, z_m3_40, z_m3_41, z_m3_44, z_m3_u40, z_m3_u41, z_m3_u44, z_m3_m3, pk_us, pk_un]
    exact r
  · refine hK _ _ _ _ _ _ _ _ _ _ (z_WP_ts 112 rfl (by decide) ?_)
    refine z_WP_gos [] 1000 fun K C hK hC => ?_
    conv => whnf
    repeat ((first | refine And.intro (by (conv => arg 2; whnf); (try simp only [z_lit, nI_add, pk_mul, z_pr1, z_pr2]); exact z_in (by omega) (by decide)) ?_ | refine z_bt1 (by decide) ?_ | refine z_bf1 (by decide) ?_ | refine z_bt2 (by decide) ?_ | refine z_bf2 (by decide) ?_); conv => whnf)
    simp (disch := omega) only [z_lit, nI_add, pk_mul, z_pr1, z_pr2, nI_clamp, z_m3_40, z_m3_41, z_m3_44, z_m3_u40, z_m3_u41, z_m3_u44, z_m3_m3, pk_us, pk_un]
    exact r
  · refine hK _ _ _ _ _ _ _ _ _ _ (z_WP_ts 123 rfl (by decide) ?_)
    refine z_WP_gos [] 1000 fun K C hK hC => ?_
    conv => whnf
    repeat ((first | refine And.intro (by (conv => arg 2; whnf); (try simp only [z_lit, nI_add, pk_mul, z_pr1, z_pr2]); exact z_in (by omega) (by decide)) ?_ | refine z_bt1 (by decide) ?_ | refine z_bf1 (by decide) ?_ | refine z_bt2 (by decide) ?_ | refine z_bf2 (by decide) ?_); conv => whnf)
    simp (disch := omega) only [z_lit, nI_add, pk_mul, z_pr1, z_pr2, nI_clamp, z_m3_40, z_m3_41, z_m3_44, z_m3_u40, z_m3_u41, z_m3_u44, z_m3_m3, pk_us, pk_un]
    exact r
theorem sp_of {t q : Int32} (h1 : ∀ t' q', ofq t q t' q' → Q (some (.int (s.2.1 (tpl q' + t')))) (z_ms I s) (z_R0 kp sp wd) J F cn) (h0 : (∀ t' q', ¬ ofq t q t' q') → Q (some (.int (-1))) (z_ms I s) (z_R0 kp sp wd) J F cn) :
    z_M (z_X0 L xs) z_P0 (d + 1) m_Mod_of [.ref 40, .int t, .int q] (z_ms I s) (z_R0 kp sp wd) J F cn Q := by
  refine z_WP_gos [24] 1000 fun K C hK hC => ?_
  conv => whnf
  refine hC _ _ _ _ _ _ _ _ _ _ (fun _ _ _ _ _ _ q => q) (sp_Mod_isIn (fun x1 x2 => ?_) (fun x => ?_))
  conv => whnf
  rotate_left
  · repeat ((first | refine And.intro (by (conv => arg 2; whnf); (try simp only [z_lit, nI_add, pk_mul, z_pr1, z_pr2]); exact z_in (by omega) (by decide)) ?_ | refine z_bt1 (by decide) ?_ | refine z_bf1 (by decide) ?_ | refine z_bt2 (by decide) ?_ | refine z_bf2 (by decide) ?_); conv => whnf)
    exact h0 fun a b h => x (rq_a h.1 (by decide))
  obtain ⟨t', hi, ei⟩ := isIn_nat (b := 8) (by decide) x1 x2
  subst ei
  by_cases z8 : t' = 8
  · subst z8
    repeat ((first | refine And.intro (by (conv => arg 2; whnf); (try simp only [z_lit, nI_add, pk_mul, z_pr1, z_pr2]); exact z_in (by omega) (by decide)) ?_ | refine z_bt1 (by decide) ?_ | refine z_bf1 (by decide) ?_ | refine z_bt2 (by decide) ?_ | refine z_bf2 (by decide) ?_); conv => whnf)
    refine hK _ _ _ _ _ _ _ _ _ _ (?_)
    refine z_WP_gos [] 1000 fun K C hK hC => ?_
    conv => whnf
    refine hC _ _ _ _ _ _ _ _ _ _ (fun _ _ _ _ _ _ q => q) (sp_Mod_isIn (fun y1 y2 => ?_) (fun z => ?_))
    conv => whnf
    rotate_left
    · repeat ((first | refine And.intro (by (conv => arg 2; whnf); (try simp only [z_lit, nI_add, pk_mul, z_pr1, z_pr2]); exact z_in (by omega) (by decide)) ?_ | refine z_bt1 (by decide) ?_ | refine z_bf1 (by decide) ?_ | refine z_bt2 (by decide) ?_ | refine z_bf2 (by decide) ?_); conv => whnf)
      refine h0 fun a b h => z ?_
      have e8 : a = 8 := (nI_inj9 (by omega) (by have := h.1.2.1; omega) h.1.1).symm
      rw [h.1.2.2.1, h.2 e8]
      exact ⟨Int32.le_refl _, Int32.le_refl _⟩
    obtain ⟨q', hq, eq⟩ := isIn_nat (b := 0) (by decide) y1 y2
    obtain rfl : q' = 0 := by omega
    subst eq
    have r := h1 8 0 ⟨⟨rfl, by omega, rfl, by omega⟩, fun _ => rfl⟩
    repeat ((first | refine And.intro (by (conv => arg 2; whnf); (try simp only [z_lit, nI_add, pk_mul, z_pr1, z_pr2]); exact z_in (by omega) (by decide)) ?_ | refine z_bt1 (by decide) ?_ | refine z_bf1 (by decide) ?_ | refine z_bt2 (by decide) ?_ | refine z_bf2 (by decide) ?_); conv => whnf)
    refine hC _ _ _ _ _ _ _ _ _ _ (fun _ _ _ _ _ _ q => q) (sp_place (q := 0) (by omega) ?_)
    conv => whnf
    rw [show tpl 0 = 31 from rfl] at r ⊢
    repeat ((first | refine And.intro (by (conv => arg 2; whnf); (try simp only [z_lit, nI_add, pk_mul, z_pr1, z_pr2]); exact z_in (by omega) (by decide)) ?_ | refine z_bt1 (by decide) ?_ | refine z_bf1 (by decide) ?_ | refine z_bt2 (by decide) ?_ | refine z_bf2 (by decide) ?_); conv => whnf)
    simp (disch := omega) only [z_lit, nI_add, pk_mul, z_pr1, z_pr2, nI_clamp, z_m3_40, z_m3_41, z_m3_44, z_m3_u40, z_m3_u41, z_m3_u44, z_m3_m3, pk_us, pk_un]
    exact r
  · have hne : ¬ nI t' = nI 8 := nI_ne (by omega) (by omega) z8
    repeat ((first | refine And.intro (by (conv => arg 2; whnf); (try simp only [z_lit, nI_add, pk_mul, z_pr1, z_pr2]); exact z_in (by omega) (by decide)) ?_ | refine z_bt1 (by decide) ?_ | refine z_bf1 (by decide) ?_ | refine z_bt2 (by decide) ?_ | refine z_bf2 (by decide) ?_ | refine z_bt1 (by first | exact hne) ?_ | refine z_bf1 (by first | exact hne) ?_ | refine z_bt2 (by first | exact hne) ?_ | refine z_bf2 (by first | exact hne) ?_); conv => whnf)
    refine hK _ _ _ _ _ _ _ _ _ _ (?_)
    refine z_WP_gos [] 1000 fun K C hK hC => ?_
    conv => whnf
    refine hC _ _ _ _ _ _ _ _ _ _ (fun _ _ _ _ _ _ q => q) (sp_Mod_isIn (fun y1 y2 => ?_) (fun z => ?_))
    conv => whnf
    rotate_left
    · repeat ((first | refine And.intro (by (conv => arg 2; whnf); (try simp only [z_lit, nI_add, pk_mul, z_pr1, z_pr2]); exact z_in (by omega) (by decide)) ?_ | refine z_bt1 (by decide) ?_ | refine z_bf1 (by decide) ?_ | refine z_bt2 (by decide) ?_ | refine z_bf2 (by decide) ?_); conv => whnf)
      exact h0 fun a b h => z (rq_b h.1 (by decide))
    obtain ⟨q', hq, eq⟩ := isIn_nat (b := 17) (by decide) y1 y2
    subst eq
    have r := h1 t' q' ⟨⟨rfl, hi, rfl, hq⟩, fun z => absurd z z8⟩
    repeat ((first | refine And.intro (by (conv => arg 2; whnf); (try simp only [z_lit, nI_add, pk_mul, z_pr1, z_pr2]); exact z_in (by omega) (by decide)) ?_ | refine z_bt1 (by decide) ?_ | refine z_bf1 (by decide) ?_ | refine z_bt2 (by decide) ?_ | refine z_bf2 (by decide) ?_); conv => whnf)
    refine ⟨fun g => ?_, fun g => ?_⟩
    · have g10 : 10 ≤ q' := by
        by_cases z : 10 ≤ q'
        · exact z
        · exact absurd g (nI_ge (b := 10) (by omega) (by omega))
      conv => whnf
      refine hC _ _ _ _ _ _ _ _ _ _ (fun _ _ _ _ _ _ q => q) (sp_has (by omega) g10 hq ?_)
      conv => whnf
      exact r
    · have g10 : q' < 10 := by
        by_cases z : q' < 10
        · exact z
        · exact absurd (nI_le (a := 10) (b := q') (by omega) (by omega)) g
      conv => whnf
      refine hC _ _ _ _ _ _ _ _ _ _ (fun _ _ _ _ _ _ q => q) (sp_place (q := q') (by omega) ?_)
      conv => whnf
      have hb : tpl q' ≤ 104 := by unfold tpl; split <;> omega
      generalize tpl q' = tp at *
      repeat ((first | refine And.intro (by (conv => arg 2; whnf); (try simp only [z_lit, nI_add, pk_mul, z_pr1, z_pr2]); exact z_in (by omega) (by decide)) ?_ | refine z_bt1 (by decide) ?_ | refine z_bf1 (by decide) ?_ | refine z_bt2 (by decide) ?_ | refine z_bf2 (by decide) ?_); conv => whnf)
      simp (disch := omega) only [z_lit, nI_add, pk_mul, z_pr1, z_pr2, nI_clamp, z_m3_40, z_m3_41, z_m3_44, z_m3_u40, z_m3_u41, z_m3_u44, z_m3_m3, pk_us, pk_un]
      exact r
theorem cb_of {t q : Int32} {w : Nat → Int32} (hu : uRel I F w) (h1 : ∀ t' q', ofq t q t' q' → Q (some (.int (w (tpl q' + t')))) I (z_R0 kp sp wd) J F cn) (h0 : (∀ t' q', ¬ ofq t q t' q') → Q (some (.int (-1))) I (z_R0 kp sp wd) J F cn) :
    z_M (z_X0 L xs) z_P0 (d + 1) m_Bus_of [.ref 0, .int t, .int q] I (z_R0 kp sp wd) J F cn Q := by
  refine z_WP_gos [] 1000 fun K C hK hC => ?_
  conv => whnf
  refine ⟨fun g => ?_, fun g => ?_⟩
  · conv => whnf
    exact h0 fun a b h => absurd g (Int32.not_lt.mpr (rq_a h.1 (by decide)).1)
  conv => whnf
  refine ⟨fun g2 => ?_, fun g2 => ?_⟩
  · conv => whnf
    exact h0 fun a b h => absurd g2 (Int32.not_lt.mpr (rq_a h.1 (by decide)).2)
  obtain ⟨t', ht, et⟩ := isIn_nat (b := 8) (by decide) (Int32.not_lt.mp g) (Int32.not_lt.mp g2)
  subst et
  conv => whnf
  refine ⟨fun g3 => ?_, fun g3 => ?_⟩
  · conv => whnf
    exact h0 fun a b h => absurd g3 (Int32.not_lt.mpr (rq_b h.1 (by decide)).1)
  conv => whnf
  refine ⟨fun g4 => ?_, fun g4 => ?_⟩
  · conv => whnf
    refine h0 fun a b h => ?_
    rw [h.1.2.2.1] at g4; have := h.1.2.2.2; exact nI_ge (b := 18) (by omega) (by omega) g4
  obtain ⟨q', hq, eq⟩ := isIn_nat (b := 18) (by decide) (Int32.not_lt.mp g3) (Int32.le_of_lt (Int32.not_le.mp g4))
  subst eq
  have hq5 : q' ≤ 17 := by
    rcases Nat.lt_or_eq_of_le hq with z | z
    · omega
    · rw [z] at g4; exact absurd (Int32.le_refl _) g4
  have e : (t' = 8 → q' = 0) → I 3 (t' * 18 + q') = w (tpl q' + t') := fun h => by
    unfold tpl
    by_cases z : q' = 0
    · rw [if_pos z, z]; exact hu.1.2.1 t' (by omega)
    · rw [if_neg z]
      have : t' ≠ 8 := fun y => z (h y)
      exact hu.1.1 t' (by omega) q' (by omega) (by omega)
  have hb : tpl q' ≤ 168 := by unfold tpl; split <;> omega
  have r := fun h => h1 t' q' ⟨⟨rfl, ht, rfl, hq5⟩, h⟩
  conv => whnf
  refine ⟨fun g5 => ?_, fun g5 => ?_⟩
  · have h8 : t' = 8 → q' = 0 := fun z => absurd (by rw [z]; rfl) g5
    have r' := r h8
    conv => whnf
    repeat ((first | refine And.intro (by (conv => arg 2; whnf); (try simp only [z_lit, nI_add, pk_mul, z_pr1, z_pr2]); exact z_in (by omega) (by decide)) ?_ | refine z_bt1 (by decide) ?_ | refine z_bf1 (by decide) ?_ | refine z_bt2 (by decide) ?_ | refine z_bf2 (by decide) ?_); conv => whnf)
    simp (disch := omega) only [z_lit, nI_add, pk_mul, z_pr1, z_pr2, nI_clamp, z_up_row, z_row_s, z_row_n, z_row_row, pk_us, pk_un]
    rw [e h8]
    exact r'
  · conv => whnf
    have e8 : t' = 8 := nI_inj9 (by omega) (by omega) g5
    refine ⟨fun g6 => ?_, fun g6 => ?_⟩
    · have z0 : q' = 0 := nI_inj9 (by omega) (by omega) g6
      have r' := r (fun _ => z0)
      conv => whnf
      repeat ((first | refine And.intro (by (conv => arg 2; whnf); (try simp only [z_lit, nI_add, pk_mul, z_pr1, z_pr2]); exact z_in (by omega) (by decide)) ?_ | refine z_bt1 (by decide) ?_ | refine z_bf1 (by decide) ?_ | refine z_bt2 (by decide) ?_ | refine z_bf2 (by decide) ?_); conv => whnf)
      simp (disch := omega) only [z_lit, nI_add, pk_mul, z_pr1, z_pr2, nI_clamp, z_up_row, z_row_s, z_row_n, z_row_row, pk_us, pk_un]
      rw [e (fun _ => z0)]
      exact r'
    · conv => whnf
      refine h0 fun a b h => g6 ?_
      have e8' : a = t' := (nI_inj9 (by omega) (by have := h.1.2.1; omega) h.1.1).symm
      rw [h.1.2.2.1, h.2 (e8'.trans e8)]; rfl
/-- words asked for -/
def atq (t u i q : Int32) (a : Nat) : Prop := ∃ u' i', (u = nI (u' + 1) ∧ u' < 6 ∧ i = nI i' ∧ i' < 8) ∧ ((t = -1 ∧ q = nI 0 ∧ a = 1344 + 8 * u' + i') ∨ ∃ t' q', t' < 8 ∧ t = nI t' ∧ q = nI q' ∧ q' ≤ 2 ∧ a = 192 + 384 * q' + 8 * (6 * t' + u') + i')
theorem tne_1 : ∀ t, t < 9 → ¬ nI t = -1 := by decide
theorem sp_at {t u i q : Int32} (h1 : ∀ a, atq t u i q a → Q (some (.int (s.2.1 a))) (z_ms I s) (z_R0 kp sp wd) J F cn) (h0 : (∀ a, ¬ atq t u i q a) → Q (some (.int (-1))) (z_ms I s) (z_R0 kp sp wd) J F cn) :
    z_M (z_X0 L xs) z_P0 (d + 2) m_Mod_at [.ref 40, .int t, .int u, .int i, .int q] (z_ms I s) (z_R0 kp sp wd) J F cn Q := by
  refine z_WP_gos [20] 1000 fun K C hK hC => ?_
  conv => whnf
  refine hC _ _ _ _ _ _ _ _ _ _ (fun _ _ _ _ _ _ q => q) (sp_isWord (fun u' i' eu hu ei hi => ?_) (fun hw => ?_))
  conv => whnf
  rotate_left
  · repeat ((first | refine And.intro (by (conv => arg 2; whnf); (try simp only [z_lit, nI_add, pk_mul, z_pr1, z_pr2]); exact z_in (by omega) (by decide)) ?_ | refine z_bt1 (by decide) ?_ | refine z_bf1 (by decide) ?_ | refine z_bt2 (by decide) ?_ | refine z_bf2 (by decide) ?_); conv => whnf)
    refine h0 fun a z => ?_
    obtain ⟨u', i', ⟨e1, e2, e3, e4⟩, _⟩ := z
    exact hw u' i' e1 e2 e3 e4
  repeat ((first | refine And.intro (by (conv => arg 2; whnf); (try simp only [z_lit, nI_add, pk_mul, z_pr1, z_pr2]); exact z_in (by omega) (by decide)) ?_ | refine z_bt1 (by decide) ?_ | refine z_bf1 (by decide) ?_ | refine z_bt2 (by decide) ?_ | refine z_bf2 (by decide) ?_); conv => whnf)
  refine ⟨fun g => ?_, fun g => ?_⟩
  · subst g
    conv => whnf
    refine hK _ _ _ _ _ _ _ _ _ _ (?_)
    refine z_WP_gos [] 1000 fun K C hK hC => ?_
    conv => whnf
    repeat ((first | refine And.intro (by (conv => arg 2; whnf); (try simp only [z_lit, nI_add, pk_mul, z_pr1, z_pr2]); exact z_in (by omega) (by decide)) ?_ | refine z_bt1 (by decide) ?_ | refine z_bf1 (by decide) ?_ | refine z_bt2 (by decide) ?_ | refine z_bf2 (by decide) ?_); conv => whnf)
    refine hC _ _ _ _ _ _ _ _ _ _ (fun _ _ _ _ _ _ q => q) (sp_Mod_isIn (fun y1 y2 => ?_) (fun z => ?_))
    conv => whnf
    rotate_left
    · repeat ((first | refine And.intro (by (conv => arg 2; whnf); (try simp only [z_lit, nI_add, pk_mul, z_pr1, z_pr2]); exact z_in (by omega) (by decide)) ?_ | refine z_bt1 (by decide) ?_ | refine z_bf1 (by decide) ?_ | refine z_bt2 (by decide) ?_ | refine z_bf2 (by decide) ?_); conv => whnf)
      refine h0 fun a zz => z ?_
      obtain ⟨u', i', _, ⟨_, eq, _⟩ | ⟨t', q', ht, et, _⟩⟩ := zz
      · rw [eq]; exact ⟨Int32.le_refl _, Int32.le_refl _⟩
      · exact absurd et.symm (tne_1 t' (by omega))
    obtain ⟨q', hq, eq⟩ := isIn_nat (b := 0) (by decide) y1 y2
    obtain rfl : q' = 0 := by omega
    have r := h1 (1344 + 8 * u' + i') ⟨u', i', ⟨eu, hu, ei, hi⟩, Or.inl ⟨rfl, eq, rfl⟩⟩
    subst eu ei
    repeat ((first | refine And.intro (by (conv => arg 2; whnf); (try simp only [z_lit, nI_add, pk_mul, z_pr1, z_pr2]); exact z_in (by omega) (by decide)) ?_ | refine z_bt1 (by decide) ?_ | refine z_bf1 (by decide) ?_ | refine z_bt2 (by decide) ?_ | refine z_bf2 (by decide) ?_); conv => whnf)
    simp (disch := omega) only [z_lit, nI_add, pk_mul, z_pr1, z_pr2, nI_clamp, z_m3_40, z_m3_41, z_m3_44, z_m3_u40, z_m3_u41, z_m3_u44, z_m3_m3, pk_us, pk_un]
    exact r
  · conv => whnf
    refine hC _ _ _ _ _ _ _ _ _ _ (fun _ _ _ _ _ _ q => q) (sp_Mod_isTerminal (fun t' ht et => ?_) (fun x => ?_))
    conv => whnf
    rotate_left
    · repeat ((first | refine And.intro (by (conv => arg 2; whnf); (try simp only [z_lit, nI_add, pk_mul, z_pr1, z_pr2]); exact z_in (by omega) (by decide)) ?_ | refine z_bt1 (by decide) ?_ | refine z_bf1 (by decide) ?_ | refine z_bt2 (by decide) ?_ | refine z_bf2 (by decide) ?_); conv => whnf)
      refine h0 fun a zz => ?_
      obtain ⟨u', i', _, ⟨e1, _⟩ | ⟨t', q', ht, et, _⟩⟩ := zz
      · exact g e1
      · exact x t' ht et
    subst et
    repeat ((first | refine And.intro (by (conv => arg 2; whnf); (try simp only [z_lit, nI_add, pk_mul, z_pr1, z_pr2]); exact z_in (by omega) (by decide)) ?_ | refine z_bt1 (by decide) ?_ | refine z_bf1 (by decide) ?_ | refine z_bt2 (by decide) ?_ | refine z_bf2 (by decide) ?_); conv => whnf)
    refine hK _ _ _ _ _ _ _ _ _ _ (?_)
    refine z_WP_gos [] 1000 fun K C hK hC => ?_
    conv => whnf
    refine ⟨fun _ => ?_, fun z => absurd z g⟩
    conv => whnf
    refine hC _ _ _ _ _ _ _ _ _ _ (fun _ _ _ _ _ _ q => q) (sp_Mod_isIn (fun y1 y2 => ?_) (fun z => ?_))
    conv => whnf
    rotate_left
    · repeat ((first | refine And.intro (by (conv => arg 2; whnf); (try simp only [z_lit, nI_add, pk_mul, z_pr1, z_pr2]); exact z_in (by omega) (by decide)) ?_ | refine z_bt1 (by decide) ?_ | refine z_bf1 (by decide) ?_ | refine z_bt2 (by decide) ?_ | refine z_bf2 (by decide) ?_); conv => whnf)
      refine h0 fun a zz => z ?_
      obtain ⟨u', i', _, ⟨e1, _⟩ | ⟨t', q', ht, et, eq, hq, _⟩⟩ := zz
      · exact absurd e1 g
      · rw [eq]; exact ⟨nI_pos' (by omega), nI_le (b := 2) hq (by decide)⟩
    obtain ⟨q', hq, eq⟩ := isIn_nat (b := 2) (by decide) y1 y2
    have r := h1 (192 + 384 * q' + 8 * (6 * t' + u') + i') ⟨u', i', ⟨eu, hu, ei, hi⟩, Or.inr ⟨t', q', ht, rfl, eq, hq, rfl⟩⟩
    subst eu ei eq
    repeat ((first | refine And.intro (by (conv => arg 2; whnf); (try simp only [z_lit, nI_add, pk_mul, z_pr1, z_pr2]); exact z_in (by omega) (by decide)) ?_ | refine z_bt1 (by decide) ?_ | refine z_bf1 (by decide) ?_ | refine z_bt2 (by decide) ?_ | refine z_bf2 (by decide) ?_); conv => whnf)
    refine ⟨fun _ => ?_, fun z => absurd z g⟩
    conv => whnf
    have hq' : q' = 0 ∨ q' = 1 ∨ q' = 2 := by omega
    rcases hq' with rfl | rfl | rfl
    · repeat ((first | refine And.intro (by (conv => arg 2; whnf); (try simp only [z_lit, nI_add, pk_mul, z_pr1, z_pr2]); exact z_in (by omega) (by decide)) ?_ | refine z_bt1 (by decide) ?_ | refine z_bf1 (by decide) ?_ | refine z_bt2 (by decide) ?_ | refine z_bf2 (by decide) ?_); conv => whnf)
      refine hC _ _ _ _ _ _ _ _ _ _ (fun _ _ _ _ _ _ q => q) (sp_at0 ?_)
      conv => whnf
      repeat ((first | refine And.intro (by (conv => arg 2; whnf); (try simp only [z_lit, nI_add, pk_mul, z_pr1, z_pr2]); exact z_in (by omega) (by decide)) ?_ | refine z_bt1 (by decide) ?_ | refine z_bf1 (by decide) ?_ | refine z_bt2 (by decide) ?_ | refine z_bf2 (by decide) ?_); conv => whnf)
      simp (disch := omega) only [z_lit, nI_add, pk_mul, z_pr1, z_pr2, nI_clamp, z_m3_40, z_m3_41, z_m3_44, z_m3_u40, z_m3_u41, z_m3_u44, z_m3_m3, pk_us, pk_un]
      exact r
    · repeat ((first | refine And.intro (by (conv => arg 2; whnf); (try simp only [z_lit, nI_add, pk_mul, z_pr1, z_pr2]); exact z_in (by omega) (by decide)) ?_ | refine z_bt1 (by decide) ?_ | refine z_bf1 (by decide) ?_ | refine z_bt2 (by decide) ?_ | refine z_bf2 (by decide) ?_); conv => whnf)
      refine hC _ _ _ _ _ _ _ _ _ _ (fun _ _ _ _ _ _ q => q) (sp_at0 ?_)
      conv => whnf
      repeat ((first | refine And.intro (by (conv => arg 2; whnf); (try simp only [z_lit, nI_add, pk_mul, z_pr1, z_pr2]); exact z_in (by omega) (by decide)) ?_ | refine z_bt1 (by decide) ?_ | refine z_bf1 (by decide) ?_ | refine z_bt2 (by decide) ?_ | refine z_bf2 (by decide) ?_); conv => whnf)
      simp (disch := omega) only [z_lit, nI_add, pk_mul, z_pr1, z_pr2, nI_clamp, z_m3_40, z_m3_41, z_m3_44, z_m3_u40, z_m3_u41, z_m3_u44, z_m3_m3, pk_us, pk_un]
      exact r
    · repeat ((first | refine And.intro (by (conv => arg 2; whnf); (try simp only [z_lit, nI_add, pk_mul, z_pr1, z_pr2]); exact z_in (by omega) (by decide)) ?_ | refine z_bt1 (by decide) ?_ | refine z_bf1 (by decide) ?_ | refine z_bt2 (by decide) ?_ | refine z_bf2 (by decide) ?_); conv => whnf)
      refine hC _ _ _ _ _ _ _ _ _ _ (fun _ _ _ _ _ _ q => q) (sp_at0 ?_)
      conv => whnf
      repeat ((first | refine And.intro (by (conv => arg 2; whnf); (try simp only [z_lit, nI_add, pk_mul, z_pr1, z_pr2]); exact z_in (by omega) (by decide)) ?_ | refine z_bt1 (by decide) ?_ | refine z_bf1 (by decide) ?_ | refine z_bt2 (by decide) ?_ | refine z_bf2 (by decide) ?_); conv => whnf)
      simp (disch := omega) only [z_lit, nI_add, pk_mul, z_pr1, z_pr2, nI_clamp, z_m3_40, z_m3_41, z_m3_44, z_m3_u40, z_m3_u41, z_m3_u44, z_m3_m3, pk_us, pk_un]
      exact r
theorem cb_at {t u i q : Int32} {w : Nat → Int32} (hu : uRel I F w) (h1 : ∀ a, atq t u i q a → Q (some (.int (w a))) I (z_R0 kp sp wd) J F cn) (h0 : (∀ a, ¬ atq t u i q a) → Q (some (.int (-1))) I (z_R0 kp sp wd) J F cn) :
    z_M (z_X0 L xs) z_P0 (d + 2) m_Bus_at [.ref 0, .int t, .int u, .int i, .int q] I (z_R0 kp sp wd) J F cn Q := by
  have hw := hu.2.1
  have m1 : ∀ t, t < 8 → ¬ nI t < -1 := by decide
  refine z_WP_gos [] 1000 fun K C hK hC => ?_
  conv => whnf
  refine ⟨fun g => ?_, fun g => ?_⟩
  · conv => whnf
    refine h0 fun a zz => ?_
    obtain ⟨u', i', _, ⟨e1, _⟩ | ⟨t', q', ht, et, _⟩⟩ := zz
    · rw [e1] at g; exact absurd g (by decide)
    · rw [et] at g; exact m1 t' ht g
  conv => whnf
  refine ⟨fun g2 => ?_, fun g2 => ?_⟩
  · conv => whnf
    refine h0 fun a zz => ?_
    obtain ⟨u', i', _, ⟨e1, _⟩ | ⟨t', q', ht, et, _⟩⟩ := zz
    · rw [e1] at g2; exact absurd g2 (by decide)
    · rw [et] at g2; exact nI_ge (b := 8) ht (by omega) g2
  conv => whnf
  refine hC _ _ _ _ _ _ _ _ _ _ (fun _ _ _ _ _ _ q => q) (cb_isSub (fun u' hu' eu => ?_) (fun x => ?_))
  conv => whnf
  rotate_left
  · repeat ((first | refine And.intro (by (conv => arg 2; whnf); (try simp only [z_lit, nI_add, pk_mul, z_pr1, z_pr2]); exact z_in (by omega) (by decide)) ?_ | refine z_bt1 (by decide) ?_ | refine z_bf1 (by decide) ?_ | refine z_bt2 (by decide) ?_ | refine z_bf2 (by decide) ?_); conv => whnf)
    refine h0 fun a zz => ?_
    obtain ⟨u', i', ⟨e1, e2, _⟩, _⟩ := zz
    exact x u' e2 e1
  repeat ((first | refine And.intro (by (conv => arg 2; whnf); (try simp only [z_lit, nI_add, pk_mul, z_pr1, z_pr2]); exact z_in (by omega) (by decide)) ?_ | refine z_bt1 (by decide) ?_ | refine z_bf1 (by decide) ?_ | refine z_bt2 (by decide) ?_ | refine z_bf2 (by decide) ?_); conv => whnf)
  refine ⟨fun g3 => ?_, fun g3 => ?_⟩
  · conv => whnf
    refine h0 fun a zz => absurd g3 (Int32.not_lt.mpr ?_)
    obtain ⟨u', i', ⟨_, _, e3, e4⟩, _⟩ := zz
    rw [e3]; exact nI_pos' (by omega)
  conv => whnf
  refine ⟨fun g4 => ?_, fun g4 => ?_⟩
  · conv => whnf
    refine h0 fun a zz => absurd g4 (Int32.not_lt.mpr ?_)
    obtain ⟨u', i', ⟨_, _, e3, e4⟩, _⟩ := zz
    rw [e3]; exact nI_le (b := 7) (by omega) (by decide)
  obtain ⟨i', hi, ei⟩ := isIn_nat (b := 7) (by decide) (Int32.not_lt.mp g3) (Int32.not_lt.mp g4)
  have qin : ∀ a, atq t u i q a → nI 0 ≤ q ∧ q ≤ nI 2 := fun a zz => by
    obtain ⟨u', i', _, ⟨_, eq, _⟩ | ⟨t', q', ht, et, eq, hq, _⟩⟩ := zz
    · rw [eq]; exact ⟨by decide, by decide⟩
    · rw [eq]; exact ⟨nI_pos' (by omega), nI_le (b := 2) hq (by decide)⟩
  conv => whnf
  refine ⟨fun g5 => ?_, fun g5 => ?_⟩
  · conv => whnf
    exact h0 fun a zz => absurd g5 (Int32.not_lt.mpr (qin a zz).1)
  conv => whnf
  refine ⟨fun g6 => ?_, fun g6 => ?_⟩
  rotate_left
  · conv => whnf
    exact h0 fun a zz => g6 (qin a zz).2
  obtain ⟨q', hq, eq⟩ := isIn_nat (b := 2) (by decide) (Int32.not_lt.mp g5) g6
  conv => whnf
  refine ⟨fun g7 => ?_, fun g7 => ?_⟩
  · have hpos : nI 0 ≤ t := by
      have : ∀ x : Int32, ¬ x < -1 → ¬ x = -1 → nI 0 ≤ x := by
        intro x a b
        have e1 : (-1 : Int32).toInt = -1 := by decide
        have e0 : (nI 0).toInt = 0 := by decide
        rw [Int32.le_iff_toInt_le, e0]
        rw [Int32.lt_iff_toInt_lt, e1] at a
        have : x.toInt ≠ -1 := fun z => b (Int32.toInt.inj (z.trans e1.symm))
        omega
      exact this t g g7
    obtain ⟨t', ht, et⟩ := isIn_nat (b := 8) (by decide) hpos (Int32.le_of_lt (Int32.not_le.mp g2))
    have ht8 : t' < 8 := by
      rcases Nat.lt_or_eq_of_le ht with z | z
      · exact z
      · rw [et, z] at g2; exact absurd (Int32.le_refl _) g2
    have r := h1 (192 + 384 * q' + 8 * (6 * t' + u') + i') ⟨u', i', ⟨eu, hu', ei, by omega⟩, Or.inr ⟨t', q', ht8, et, eq, hq, rfl⟩⟩
    have e := hw (384 * q' + 8 * (6 * t' + u') + i') (by omega)
    rw [show 192 + (384 * q' + 8 * (6 * t' + u') + i') = 192 + 384 * q' + 8 * (6 * t' + u') + i' by omega] at e
    subst eu ei eq et
    conv => whnf
    refine hC _ _ _ _ _ _ _ _ _ _ (fun _ _ _ _ _ _ q => q) (cu_spot ?_)
    conv => whnf
    repeat ((first | refine And.intro (by (conv => arg 2; whnf); (try simp only [z_lit, nI_add, pk_mul, z_pr1, z_pr2]); exact z_in (by omega) (by decide)) ?_ | refine z_bt1 (by decide) ?_ | refine z_bf1 (by decide) ?_ | refine z_bt2 (by decide) ?_ | refine z_bf2 (by decide) ?_); conv => whnf)
    simp (disch := omega) only [z_lit, nI_add, pk_mul, z_pr1, z_pr2, nI_clamp, z_up_row, z_row_s, z_row_n, z_row_row, pk_us, pk_un]
    rw [e]
    exact r
  · subst g7
    conv => whnf
    refine ⟨fun g8 => ?_, fun g8 => ?_⟩
    · conv => whnf
      refine h0 fun a zz => ?_
      obtain ⟨u', i', _, ⟨_, eq, _⟩ | ⟨t', q', ht, et, _⟩⟩ := zz
      · exact g8 eq
      · exact absurd et.symm (tne_1 t' (by omega))
    · have r := h1 (1344 + 8 * u' + i') ⟨u', i', ⟨eu, hu', ei, by omega⟩, Or.inl ⟨rfl, g8, rfl⟩⟩
      have e := hw (1152 + 8 * u' + i') (by omega)
      rw [show 192 + (1152 + 8 * u' + i') = 1344 + 8 * u' + i' by omega] at e
      subst eu ei
      conv => whnf
      refine hC _ _ _ _ _ _ _ _ _ _ (fun _ _ _ _ _ _ q => q) (cu_sendSpot ?_)
      conv => whnf
      repeat ((first | refine And.intro (by (conv => arg 2; whnf); (try simp only [z_lit, nI_add, pk_mul, z_pr1, z_pr2]); exact z_in (by omega) (by decide)) ?_ | refine z_bt1 (by decide) ?_ | refine z_bf1 (by decide) ?_ | refine z_bt2 (by decide) ?_ | refine z_bf2 (by decide) ?_); conv => whnf)
      simp (disch := omega) only [z_lit, nI_add, pk_mul, z_pr1, z_pr2, nI_clamp, z_up_row, z_row_s, z_row_n, z_row_row, pk_us, pk_un]
      rw [e]
      exact r
end
