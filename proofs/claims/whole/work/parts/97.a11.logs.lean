/-! what may be asked: the journal, what was let go, what was heard -/
section
variable {L : Nat} {xs : Nat → Int32} {d : Nat} {kp sp wd : Value} {I : z_I} {s : z_sg} {R : z_R} {J : z_J} {F : z_F} {cn : Nat} {Q : z_Q} {n k : Nat}
theorem sp_log {i q : Int32} (hn : n < 2 ^ 30) (hN : s.2.1 9 = nI n) (h1 : ∀ i' q', rcq n 60 5 i q i' q' → Q (some (.int (s.2.1 (1920 + 5 * ((n - 1 - i') % 60) + q')))) (z_ms I s) (z_R0 kp sp wd) J F cn) (h0 : (∀ i' q', ¬ rcq n 60 5 i q i' q') → Q (some (.int (-1))) (z_ms I s) (z_R0 kp sp wd) J F cn) :
    z_M (z_X0 L xs) z_P0 (d + 1) m_Mod_log [.ref 40, .int i, .int q] (z_ms I s) (z_R0 kp sp wd) J F cn Q := by
  have tail : ∀ m, m ≤ n → m ≤ 60 → (m = n ∨ m = 60) → z_WP (z_X0 L xs) z_P0 (d + 1) m_Mod_log 24 [some (.ref 40), some (.int i), some (.int q), none] [.int (nI m)] (z_ms I s) (z_R0 kp sp wd) J F cn 0 0 Q := by
    intro m hm1 hm2 hm3
    refine z_WP_gos [] 1000 fun K C hK hC => ?_
    conv => whnf
    refine hC _ _ _ _ _ _ _ _ _ _ (fun _ _ _ _ _ _ q => q) (sp_Mod_isIn (fun x1 x2 => ?_) (fun x => ?_))
    conv => whnf
    rotate_left
    · repeat ((first | refine And.intro (by (conv => arg 2; whnf); (try simp only [z_lit, nI_add, pk_mul, z_pr1, z_pr2]); exact z_in (by omega) (by decide)) ?_ | refine z_bt1 (by decide) ?_ | refine z_bf1 (by decide) ?_ | refine z_bt2 (by decide) ?_ | refine z_bf2 (by decide) ?_); conv => whnf)
      refine h0 fun a b h => x ?_
      obtain ⟨e1, e2, e3, -⟩ := h
      rw [e1]
      exact ⟨nI_pos' (by omega), (t9g (by omega) (by omega)).mpr (by omega)⟩
    obtain ⟨i', hi, ei⟩ := isIn_nat (b := m) (by omega) x1 (Int32.le_trans x2 (t8g (by omega)))
    subst ei
    have hlt : i' < m := (t9g (by omega) (by omega)).mp x2
    have e1 : nI n - nI 1 - nI i' = nI (n - 1 - i') := by rw [pk_sub (show 1 ≤ n by omega), pk_sub (show i' ≤ n - 1 by omega)]
    have hr : (n - 1 - i') % 60 < 60 := Nat.mod_lt _ (by decide)
    have er : nI (n - 1 - i') - nI (n - 1 - i') / nI 60 * nI 60 = nI ((n - 1 - i') % 60) := pk_rem (by omega) (by decide) (by decide)
    repeat ((first | refine And.intro (by (conv => arg 2; whnf); (try simp only [z_lit, nI_add, pk_mul, z_pr1, z_pr2]); exact z_in (by omega) (by decide)) ?_ | refine z_bt1 (by decide) ?_ | refine z_bf1 (by decide) ?_ | refine z_bt2 (by decide) ?_ | refine z_bf2 (by decide) ?_); conv => whnf)
    refine hC _ _ _ _ _ _ _ _ _ _ (fun _ _ _ _ _ _ q => q) (sp_Mod_isIn (fun y1 y2 => ?_) (fun x => ?_))
    conv => whnf
    rotate_left
    · repeat ((first | refine And.intro (by (conv => arg 2; whnf); (try simp only [z_lit, nI_add, pk_mul, z_pr1, z_pr2]); exact z_in (by omega) (by decide)) ?_ | refine z_bt1 (by decide) ?_ | refine z_bf1 (by decide) ?_ | refine z_bt2 (by decide) ?_ | refine z_bf2 (by decide) ?_); conv => whnf)
      refine h0 fun a b h => x ?_
      obtain ⟨-, -, -, e4, e5⟩ := h
      rw [e4]
      exact ⟨nI_pos' (by omega), nI_le (b := 4) (by omega) (by decide)⟩
    obtain ⟨q', hq, eq⟩ := isIn_nat (b := 4) (by decide) y1 y2
    subst eq
    have r := h1 i' q' ⟨rfl, by omega, by omega, rfl, by omega⟩
    repeat ((first | refine And.intro (by (conv => arg 2; whnf); (try simp only [z_lit, nI_add, pk_mul, z_pr1, z_pr2]); exact z_in (by omega) (by decide)) ?_ | refine z_bt1 (by decide) ?_ | refine z_bf1 (by decide) ?_ | refine z_bt2 (by decide) ?_ | refine z_bf2 (by decide) ?_); conv => whnf)
    simp (disch := omega) only [z_lit, nI_add, pk_mul, z_pr1, z_pr2, nI_clamp, z_m3_40, z_m3_41, z_m3_44, z_m3_u40, z_m3_u41, z_m3_u44, z_m3_m3, pk_us, pk_un]
    rw [hN, e1]
    refine ⟨by decide, ?_⟩
    conv => whnf
    simp (disch := omega) only [z_lit, nI_add, pk_mul, z_pr1, z_pr2, nI_clamp, z_m3_40, z_m3_41, z_m3_44, z_m3_u40, z_m3_u41, z_m3_u44, z_m3_m3, pk_us, pk_un]
    rw [er]
    repeat ((first | refine And.intro (by (conv => arg 2; whnf); (try simp only [z_lit, nI_add, pk_mul, z_pr1, z_pr2]); exact z_in (by omega) (by decide)) ?_ | refine z_bt1 (by decide) ?_ | refine z_bf1 (by decide) ?_ | refine z_bt2 (by decide) ?_ | refine z_bf2 (by decide) ?_); conv => whnf)
    simp (disch := omega) only [z_lit, nI_add, pk_mul, z_pr1, z_pr2, nI_clamp, z_m3_40, z_m3_41, z_m3_44, z_m3_u40, z_m3_u41, z_m3_u44, z_m3_m3, pk_us, pk_un]
    exact r
  refine z_WP_gos [24] 1000 fun K C hK hC => ?_
  conv => whnf
  repeat ((first | refine And.intro (by (conv => arg 2; whnf); (try simp only [z_lit, nI_add, pk_mul, z_pr1, z_pr2]); exact z_in (by omega) (by decide)) ?_ | refine z_bt1 (by decide) ?_ | refine z_bf1 (by decide) ?_ | refine z_bt2 (by decide) ?_ | refine z_bf2 (by decide) ?_); conv => whnf)
  simp (disch := omega) only [z_lit, nI_add, pk_mul, z_pr1, z_pr2, nI_clamp, z_m3_40, z_m3_41, z_m3_44, z_m3_u40, z_m3_u41, z_m3_u44, z_m3_m3, pk_us, pk_un]
  rw [hN]
  refine ⟨fun g => ?_, fun g => ?_⟩
  · have hge : 60 ≤ n := by
      rcases Nat.lt_or_ge n 60 with z | z
      · exact absurd g (nI_ge (b := 60) z (by decide))
      · exact z
    conv => whnf
    refine hK _ _ _ _ _ _ _ _ _ _ (tail 60 hge (Nat.le_refl _) (Or.inr rfl))
  · have hge : n < 60 := by
      rcases Nat.lt_or_ge n 60 with z | z
      · exact z
      · exact absurd (nI_le (a := 60) z (by omega)) g
    conv => whnf
    repeat ((first | refine And.intro (by (conv => arg 2; whnf); (try simp only [z_lit, nI_add, pk_mul, z_pr1, z_pr2]); exact z_in (by omega) (by decide)) ?_ | refine z_bt1 (by decide) ?_ | refine z_bf1 (by decide) ?_ | refine z_bt2 (by decide) ?_ | refine z_bf2 (by decide) ?_); conv => whnf)
    simp (disch := omega) only [z_lit, nI_add, pk_mul, z_pr1, z_pr2, nI_clamp, z_m3_40, z_m3_41, z_m3_44, z_m3_u40, z_m3_u41, z_m3_u44, z_m3_m3, pk_us, pk_un]
    rw [hN]
    refine hK _ _ _ _ _ _ _ _ _ _ (tail n (Nat.le_refl _) (by omega) (Or.inl rfl))
theorem sp_trail {i : Int32} (hn : n < 2 ^ 30) (hN : s.2.1 10 = nI n) (h1 : ∀ i' q', rcq n 40 1 i (nI 0) i' q' → Q (some (.int (s.2.1 (2220 + (n - 1 - i') % 40)))) (z_ms I s) (z_R0 kp sp wd) J F cn) (h0 : (∀ i' q', ¬ rcq n 40 1 i (nI 0) i' q') → Q (some (.int (-1))) (z_ms I s) (z_R0 kp sp wd) J F cn) :
    z_M (z_X0 L xs) z_P0 (d + 1) m_Mod_trail [.ref 40, .int i] (z_ms I s) (z_R0 kp sp wd) J F cn Q := by
  have tail : ∀ m, m ≤ n → m ≤ 40 → (m = n ∨ m = 40) → z_WP (z_X0 L xs) z_P0 (d + 1) m_Mod_trail 24 [some (.ref 40), some (.int i), none] [.int (nI m)] (z_ms I s) (z_R0 kp sp wd) J F cn 0 0 Q := by
    intro m hm1 hm2 hm3
    refine z_WP_gos [] 1000 fun K C hK hC => ?_
    conv => whnf
    refine hC _ _ _ _ _ _ _ _ _ _ (fun _ _ _ _ _ _ q => q) (sp_Mod_isIn (fun x1 x2 => ?_) (fun x => ?_))
    conv => whnf
    rotate_left
    · repeat ((first | refine And.intro (by (conv => arg 2; whnf); (try simp only [z_lit, nI_add, pk_mul, z_pr1, z_pr2]); exact z_in (by omega) (by decide)) ?_ | refine z_bt1 (by decide) ?_ | refine z_bf1 (by decide) ?_ | refine z_bt2 (by decide) ?_ | refine z_bf2 (by decide) ?_); conv => whnf)
      refine h0 fun a b h => x ?_
      obtain ⟨e1, e2, e3, -⟩ := h
      rw [e1]
      exact ⟨nI_pos' (by omega), (t9g (by omega) (by omega)).mpr (by omega)⟩
    obtain ⟨i', hi, ei⟩ := isIn_nat (b := m) (by omega) x1 (Int32.le_trans x2 (t8g (by omega)))
    subst ei
    have hlt : i' < m := (t9g (by omega) (by omega)).mp x2
    have e1 : nI n - nI 1 - nI i' = nI (n - 1 - i') := by rw [pk_sub (show 1 ≤ n by omega), pk_sub (show i' ≤ n - 1 by omega)]
    have hr : (n - 1 - i') % 40 < 40 := Nat.mod_lt _ (by decide)
    have er : nI (n - 1 - i') - nI (n - 1 - i') / nI 40 * nI 40 = nI ((n - 1 - i') % 40) := pk_rem (by omega) (by decide) (by decide)
    have r := h1 i' 0 ⟨rfl, by omega, by omega, rfl, by omega⟩
    repeat ((first | refine And.intro (by (conv => arg 2; whnf); (try simp only [z_lit, nI_add, pk_mul, z_pr1, z_pr2]); exact z_in (by omega) (by decide)) ?_ | refine z_bt1 (by decide) ?_ | refine z_bf1 (by decide) ?_ | refine z_bt2 (by decide) ?_ | refine z_bf2 (by decide) ?_); conv => whnf)
    simp (disch := omega) only [z_lit, nI_add, pk_mul, z_pr1, z_pr2, nI_clamp, z_m3_40, z_m3_41, z_m3_44, z_m3_u40, z_m3_u41, z_m3_u44, z_m3_m3, pk_us, pk_un]
    rw [hN, e1]
    refine ⟨by decide, ?_⟩
    conv => whnf
    simp (disch := omega) only [z_lit, nI_add, pk_mul, z_pr1, z_pr2, nI_clamp, z_m3_40, z_m3_41, z_m3_44, z_m3_u40, z_m3_u41, z_m3_u44, z_m3_m3, pk_us, pk_un]
    rw [er]
    repeat ((first | refine And.intro (by (conv => arg 2; whnf); (try simp only [z_lit, nI_add, pk_mul, z_pr1, z_pr2]); exact z_in (by omega) (by decide)) ?_ | refine z_bt1 (by decide) ?_ | refine z_bf1 (by decide) ?_ | refine z_bt2 (by decide) ?_ | refine z_bf2 (by decide) ?_); conv => whnf)
    simp (disch := omega) only [z_lit, nI_add, pk_mul, z_pr1, z_pr2, nI_clamp, z_m3_40, z_m3_41, z_m3_44, z_m3_u40, z_m3_u41, z_m3_u44, z_m3_m3, pk_us, pk_un]
    exact r
  refine z_WP_gos [24] 1000 fun K C hK hC => ?_
  conv => whnf
  repeat ((first | refine And.intro (by (conv => arg 2; whnf); (try simp only [z_lit, nI_add, pk_mul, z_pr1, z_pr2]); exact z_in (by omega) (by decide)) ?_ | refine z_bt1 (by decide) ?_ | refine z_bf1 (by decide) ?_ | refine z_bt2 (by decide) ?_ | refine z_bf2 (by decide) ?_); conv => whnf)
  simp (disch := omega) only [z_lit, nI_add, pk_mul, z_pr1, z_pr2, nI_clamp, z_m3_40, z_m3_41, z_m3_44, z_m3_u40, z_m3_u41, z_m3_u44, z_m3_m3, pk_us, pk_un]
  rw [hN]
  refine ⟨fun g => ?_, fun g => ?_⟩
  · have hge : 40 ≤ n := by
      rcases Nat.lt_or_ge n 40 with z | z
      · exact absurd g (nI_ge (b := 40) z (by decide))
      · exact z
    conv => whnf
    refine hK _ _ _ _ _ _ _ _ _ _ (tail 40 hge (Nat.le_refl _) (Or.inr rfl))
  · have hge : n < 40 := by
      rcases Nat.lt_or_ge n 40 with z | z
      · exact z
      · exact absurd (nI_le (a := 40) z (by omega)) g
    conv => whnf
    repeat ((first | refine And.intro (by (conv => arg 2; whnf); (try simp only [z_lit, nI_add, pk_mul, z_pr1, z_pr2]); exact z_in (by omega) (by decide)) ?_ | refine z_bt1 (by decide) ?_ | refine z_bf1 (by decide) ?_ | refine z_bt2 (by decide) ?_ | refine z_bf2 (by decide) ?_); conv => whnf)
    simp (disch := omega) only [z_lit, nI_add, pk_mul, z_pr1, z_pr2, nI_clamp, z_m3_40, z_m3_41, z_m3_44, z_m3_u40, z_m3_u41, z_m3_u44, z_m3_m3, pk_us, pk_un]
    rw [hN]
    refine hK _ _ _ _ _ _ _ _ _ _ (tail n (Nat.le_refl _) (by omega) (Or.inl rfl))
theorem sp_heard {i q : Int32} (hn : n < 2 ^ 30) (hN : s.2.1 2315 = nI n) (h1 : ∀ i' q', rcq n 64 4 i q i' q' → Q (some (.int (s.2.1 (2316 + 4 * ((n - 1 - i') % 64) + q')))) (z_ms I s) (z_R0 kp sp wd) J F cn) (h0 : (∀ i' q', ¬ rcq n 64 4 i q i' q') → Q (some (.int (-1))) (z_ms I s) (z_R0 kp sp wd) J F cn) :
    z_M (z_X0 L xs) z_P0 (d + 1) m_Mod_heard [.ref 40, .int i, .int q] (z_ms I s) (z_R0 kp sp wd) J F cn Q := by
  have tail : ∀ m, m ≤ n → m ≤ 64 → (m = n ∨ m = 64) → z_WP (z_X0 L xs) z_P0 (d + 1) m_Mod_heard 26 [some (.ref 40), some (.int i), some (.int q), none] [.int (nI m)] (z_ms I s) (z_R0 kp sp wd) J F cn 0 0 Q := by
    intro m hm1 hm2 hm3
    refine z_WP_gos [] 1000 fun K C hK hC => ?_
    conv => whnf
    refine hC _ _ _ _ _ _ _ _ _ _ (fun _ _ _ _ _ _ q => q) (sp_Mod_isIn (fun x1 x2 => ?_) (fun x => ?_))
    conv => whnf
    rotate_left
    · repeat ((first | refine And.intro (by (conv => arg 2; whnf); (try simp only [z_lit, nI_add, pk_mul, z_pr1, z_pr2]); exact z_in (by omega) (by decide)) ?_ | refine z_bt1 (by decide) ?_ | refine z_bf1 (by decide) ?_ | refine z_bt2 (by decide) ?_ | refine z_bf2 (by decide) ?_); conv => whnf)
      refine h0 fun a b h => x ?_
      obtain ⟨e1, e2, e3, -⟩ := h
      rw [e1]
      exact ⟨nI_pos' (by omega), (t9g (by omega) (by omega)).mpr (by omega)⟩
    obtain ⟨i', hi, ei⟩ := isIn_nat (b := m) (by omega) x1 (Int32.le_trans x2 (t8g (by omega)))
    subst ei
    have hlt : i' < m := (t9g (by omega) (by omega)).mp x2
    have e1 : nI n - nI 1 - nI i' = nI (n - 1 - i') := by rw [pk_sub (show 1 ≤ n by omega), pk_sub (show i' ≤ n - 1 by omega)]
    have hr : (n - 1 - i') % 64 < 64 := Nat.mod_lt _ (by decide)
    have er : nI (n - 1 - i') - nI (n - 1 - i') / nI 64 * nI 64 = nI ((n - 1 - i') % 64) := pk_rem (by omega) (by decide) (by decide)
    repeat ((first | refine And.intro (by (conv => arg 2; whnf); (try simp only [z_lit, nI_add, pk_mul, z_pr1, z_pr2]); exact z_in (by omega) (by decide)) ?_ | refine z_bt1 (by decide) ?_ | refine z_bf1 (by decide) ?_ | refine z_bt2 (by decide) ?_ | refine z_bf2 (by decide) ?_); conv => whnf)
    refine hC _ _ _ _ _ _ _ _ _ _ (fun _ _ _ _ _ _ q => q) (sp_Mod_isIn (fun y1 y2 => ?_) (fun x => ?_))
    conv => whnf
    rotate_left
    · repeat ((first | refine And.intro (by (conv => arg 2; whnf); (try simp only [z_lit, nI_add, pk_mul, z_pr1, z_pr2]); exact z_in (by omega) (by decide)) ?_ | refine z_bt1 (by decide) ?_ | refine z_bf1 (by decide) ?_ | refine z_bt2 (by decide) ?_ | refine z_bf2 (by decide) ?_); conv => whnf)
      refine h0 fun a b h => x ?_
      obtain ⟨-, -, -, e4, e5⟩ := h
      rw [e4]
      exact ⟨nI_pos' (by omega), nI_le (b := 3) (by omega) (by decide)⟩
    obtain ⟨q', hq, eq⟩ := isIn_nat (b := 3) (by decide) y1 y2
    subst eq
    have r := h1 i' q' ⟨rfl, by omega, by omega, rfl, by omega⟩
    repeat ((first | refine And.intro (by (conv => arg 2; whnf); (try simp only [z_lit, nI_add, pk_mul, z_pr1, z_pr2]); exact z_in (by omega) (by decide)) ?_ | refine z_bt1 (by decide) ?_ | refine z_bf1 (by decide) ?_ | refine z_bt2 (by decide) ?_ | refine z_bf2 (by decide) ?_); conv => whnf)
    simp (disch := omega) only [z_lit, nI_add, pk_mul, z_pr1, z_pr2, nI_clamp, z_m3_40, z_m3_41, z_m3_44, z_m3_u40, z_m3_u41, z_m3_u44, z_m3_m3, pk_us, pk_un]
    rw [hN, e1]
    refine ⟨by decide, ?_⟩
    conv => whnf
    simp (disch := omega) only [z_lit, nI_add, pk_mul, z_pr1, z_pr2, nI_clamp, z_m3_40, z_m3_41, z_m3_44, z_m3_u40, z_m3_u41, z_m3_u44, z_m3_m3, pk_us, pk_un]
    rw [er]
    repeat ((first | refine And.intro (by (conv => arg 2; whnf); (try simp only [z_lit, nI_add, pk_mul, z_pr1, z_pr2]); exact z_in (by omega) (by decide)) ?_ | refine z_bt1 (by decide) ?_ | refine z_bf1 (by decide) ?_ | refine z_bt2 (by decide) ?_ | refine z_bf2 (by decide) ?_); conv => whnf)
    simp (disch := omega) only [z_lit, nI_add, pk_mul, z_pr1, z_pr2, nI_clamp, z_m3_40, z_m3_41, z_m3_44, z_m3_u40, z_m3_u41, z_m3_u44, z_m3_m3, pk_us, pk_un]
    exact r
  refine z_WP_gos [26] 1000 fun K C hK hC => ?_
  conv => whnf
  repeat ((first | refine And.intro (by (conv => arg 2; whnf); (try simp only [z_lit, nI_add, pk_mul, z_pr1, z_pr2]); exact z_in (by omega) (by decide)) ?_ | refine z_bt1 (by decide) ?_ | refine z_bf1 (by decide) ?_ | refine z_bt2 (by decide) ?_ | refine z_bf2 (by decide) ?_); conv => whnf)
  simp (disch := omega) only [z_lit, nI_add, pk_mul, z_pr1, z_pr2, nI_clamp, z_m3_40, z_m3_41, z_m3_44, z_m3_u40, z_m3_u41, z_m3_u44, z_m3_m3, pk_us, pk_un]
  rw [hN]
  refine ⟨fun g => ?_, fun g => ?_⟩
  · have hge : 64 ≤ n := by
      rcases Nat.lt_or_ge n 64 with z | z
      · exact absurd g (nI_ge (b := 64) z (by decide))
      · exact z
    conv => whnf
    refine hK _ _ _ _ _ _ _ _ _ _ (tail 64 hge (Nat.le_refl _) (Or.inr rfl))
  · have hge : n < 64 := by
      rcases Nat.lt_or_ge n 64 with z | z
      · exact z
      · exact absurd (nI_le (a := 64) z (by omega)) g
    conv => whnf
    repeat ((first | refine And.intro (by (conv => arg 2; whnf); (try simp only [z_lit, nI_add, pk_mul, z_pr1, z_pr2]); exact z_in (by omega) (by decide)) ?_ | refine z_bt1 (by decide) ?_ | refine z_bf1 (by decide) ?_ | refine z_bt2 (by decide) ?_ | refine z_bf2 (by decide) ?_); conv => whnf)
    simp (disch := omega) only [z_lit, nI_add, pk_mul, z_pr1, z_pr2, nI_clamp, z_m3_40, z_m3_41, z_m3_44, z_m3_u40, z_m3_u41, z_m3_u44, z_m3_m3, pk_us, pk_un]
    rw [hN]
    refine hK _ _ _ _ _ _ _ _ _ _ (tail n (Nat.le_refl _) (by omega) (Or.inl rfl))
theorem cb_log {i q : Int32} {w : Nat → Int32} (hn : n < 2 ^ 30) (h : jR (I 27) (I 28) w n) (h1 : ∀ i' q', rcq n 60 5 i q i' q' → Q (some (.int (w (1920 + 5 * ((n - 1 - i') % 60) + q')))) I (z_R0 kp sp wd) J F cn) (h0 : (∀ i' q', ¬ rcq n 60 5 i q i' q') → Q (some (.int (-1))) I (z_R0 kp sp wd) J F cn) :
    z_M (z_X0 L xs) z_P0 (d + 1) m_Bus_log [.ref 0, .int i, .int q] I (z_R0 kp sp wd) J F cn Q := by
  obtain ⟨f0, f1, f3, f4, -, f5⟩ := h
  refine z_WP_gos [] 1000 fun K C hK hC => ?_
  conv => whnf
  refine hC _ _ _ _ _ _ _ _ _ _ (fun _ _ _ _ _ _ q => q) (cr_recall27 hn f0 f1 f3 f4 (fun i' q' hq => ?_) (fun x => ?_))
  conv => whnf
  · have r := h1 i' q' hq
    have hr : (n - 1 - i') % 60 < 60 := Nat.mod_lt _ (by decide)
    rw [f5 _ (by have := hq.2.2.2.2; omega), show 1920 + ((n - 1 - i') % 60 * 5 + q') = 1920 + 5 * ((n - 1 - i') % 60) + q' by omega]
    exact r
  · exact h0 x
theorem cb_trail {i : Int32} {w : Nat → Int32} (hn : n < 2 ^ 30) (h : tR (I 16) (I 17) w n) (h1 : ∀ i' q', rcq n 40 1 i (nI 0) i' q' → Q (some (.int (w (2220 + (n - 1 - i') % 40)))) I (z_R0 kp sp wd) J F cn) (h0 : (∀ i' q', ¬ rcq n 40 1 i (nI 0) i' q') → Q (some (.int (-1))) I (z_R0 kp sp wd) J F cn) :
    z_M (z_X0 L xs) z_P0 (d + 1) m_Bus_trail [.ref 0, .int i] I (z_R0 kp sp wd) J F cn Q := by
  obtain ⟨f0, f1, f3, f4, -, f5⟩ := h
  refine z_WP_gos [] 1000 fun K C hK hC => ?_
  conv => whnf
  refine hC _ _ _ _ _ _ _ _ _ _ (fun _ _ _ _ _ _ q => q) (cr_recall16 hn f0 f1 f3 f4 (fun i' q' hq => ?_) (fun x => ?_))
  conv => whnf
  · have r := h1 i' q' hq
    have hr : (n - 1 - i') % 40 < 40 := Nat.mod_lt _ (by decide)
    have q0 : q' = 0 := by have := hq.2.2.2.2; omega
    rw [f5 _ (by omega), q0, show 2220 + ((n - 1 - i') % 40 * 1 + 0) = 2220 + (n - 1 - i') % 40 by omega]
    exact r
  · exact h0 x
theorem cb_oddBit {x : Nat} (hx : x < 65536) (hQ : Q (some (.int (s_odd (nI x)))) I (z_R0 kp sp wd) J F cn) : z_M (z_X0 L xs) z_P0 (d + 1) m_Bus_oddBit [.int (nI x)] I (z_R0 kp sp wd) J F cn Q := by
  rw [odd_n hx] at hQ
  have := cnf_le 16 x
  refine z_WP_gos [] 1000 fun K C hK hC => ?_
  conv => whnf
  refine hC _ _ _ _ _ _ _ _ _ _ (fun _ _ _ _ _ _ q => q) (ci_bitCount hx ?_)
  conv => whnf
  simp only []
  rw [pk_andN (by omega) (m := 1) 1 (by decide), show (2 : Nat) ^ 1 = 2 from rfl]
  refine z_Qi hQ ?_ rfl
  exact pk_sub (a := 1) (by have := Nat.mod_lt (cnf 16 x) (show 0 < 2 by decide); omega)
theorem sp_parity {v : Int32} (h1 : ∀ x, x < 65536 → v = nI x → Q (some (.int (s_odd (nI x)))) (z_ms I s) (z_R0 kp sp wd) J F cn) (h0 : (∀ x, x < 65536 → ¬ v = nI x) → Q (some (.int (-1))) (z_ms I s) (z_R0 kp sp wd) J F cn) :
    z_M (z_X0 L xs) z_P0 (d + 1) m_Mod_parity [.ref 40, .int v] (z_ms I s) (z_R0 kp sp wd) J F cn Q := by
  refine z_WP_gos [] 1000 fun K C hK hC => ?_
  conv => whnf
  refine hC _ _ _ _ _ _ _ _ _ _ (fun _ _ _ _ _ _ q => q) (sp_Mod_isIn (fun x1 x2 => ?_) (fun x => ?_))
  conv => whnf
  · obtain ⟨x, hx, ex⟩ := isIn_nat (b := 65535) (by decide) x1 x2
    subst ex
    repeat ((first | refine And.intro (by (conv => arg 2; whnf); (try simp only [z_lit, nI_add, pk_mul, z_pr1, z_pr2]); exact z_in (by omega) (by decide)) ?_ | refine z_bt1 (by decide) ?_ | refine z_bf1 (by decide) ?_ | refine z_bt2 (by decide) ?_ | refine z_bf2 (by decide) ?_); conv => whnf)
    refine hC _ _ _ _ _ _ _ _ _ _ (fun _ _ _ _ _ _ q => q) (sp_Mod_oddBit ?_)
    conv => whnf
    exact h1 x (by omega) rfl
  · repeat ((first | refine And.intro (by (conv => arg 2; whnf); (try simp only [z_lit, nI_add, pk_mul, z_pr1, z_pr2]); exact z_in (by omega) (by decide)) ?_ | refine z_bt1 (by decide) ?_ | refine z_bf1 (by decide) ?_ | refine z_bt2 (by decide) ?_ | refine z_bf2 (by decide) ?_); conv => whnf)
    refine h0 fun a b c => x ?_
    rw [c]; exact ⟨nI_pos' (by omega), nI_le (b := 65535) (by omega) (by decide)⟩
theorem cb_parity {v : Int32} (h1 : ∀ x, x < 65536 → v = nI x → Q (some (.int (s_odd (nI x)))) I (z_R0 kp sp wd) J F cn) (h0 : (∀ x, x < 65536 → ¬ v = nI x) → Q (some (.int (-1))) I (z_R0 kp sp wd) J F cn) :
    z_M (z_X0 L xs) z_P0 (d + 2) m_Bus_parity [.ref 0, .int v] I (z_R0 kp sp wd) J F cn Q := by
  refine z_WP_gos [] 1000 fun K C hK hC => ?_
  conv => whnf
  refine ⟨fun g => ?_, fun g => ?_⟩
  · conv => whnf
    refine h0 fun a b c => absurd g (Int32.not_lt.mpr ?_)
    rw [c]; exact nI_pos' (by omega)
  conv => whnf
  refine ⟨fun g2 => ?_, fun g2 => ?_⟩
  · obtain ⟨x, hx, ex⟩ := isIn_nat (b := 65535) (by decide) (Int32.not_lt.mp g) g2
    subst ex
    conv => whnf
    refine hC _ _ _ _ _ _ _ _ _ _ (fun _ _ _ _ _ _ q => q) (cb_oddBit (by omega) ?_)
    conv => whnf
    exact h1 x (by omega) rfl
  · conv => whnf
    refine h0 fun a b c => g2 ?_
    rw [c]; exact nI_le (b := 65535) (by omega) (by decide)
theorem cb_heard {i q : Int32} {w : Nat → Int32} (hn : n < 2 ^ 30) (h : mR (I 14) (I 15) w n) (h1 : ∀ i' q', rcq n 64 4 i q i' q' → Q (some (.int (w (2316 + 4 * ((n - 1 - i') % 64) + q')))) I (z_R0 kp sp wd) J F cn) (h0 : (∀ i' q', ¬ rcq n 64 4 i q i' q') → Q (some (.int (-1))) I (z_R0 kp sp wd) J F cn) :
    z_M (z_X0 L xs) z_P0 (d + 2) m_Bus_heard [.ref 0, .int i, .int q] I (z_R0 kp sp wd) J F cn Q := by
  obtain ⟨f0, f1, f3, f4, -, f5⟩ := h
  have row : ∀ i', i' < n → (n - 1 - i') % 64 < 64 ∧ (n - 1 - i') % 64 < n := fun i' hi => ⟨Nat.mod_lt _ (by decide), Nat.lt_of_le_of_lt (Nat.mod_le _ _) (by omega)⟩
  refine z_WP_gos [] 1000 fun K C hK hC => ?_
  conv => whnf
  refine ⟨fun g => ?_, fun g => ?_⟩
  rotate_left
  · conv => whnf
    refine hC _ _ _ _ _ _ _ _ _ _ (fun _ _ _ _ _ _ q => q) (cr_recall14 hn f0 f1 f3 f4 (fun i' q' hq => ?_) (fun x => ?_))
    conv => whnf
    · have r := h1 i' q' hq
      obtain ⟨a1, a2, a3, a4, a5⟩ := hq
      obtain ⟨r1, r2⟩ := row i' a3
      obtain ⟨m0, m1, m2, m3, -, -⟩ := f5 _ r1 r2
      generalize (n - 1 - i') % 64 = rr at *
      have q3 : q' = 0 ∨ q' = 1 ∨ q' = 2 := by
        have : q' ≠ 3 := fun z => g (by rw [a4, z]; rfl)
        omega
      rcases q3 with rfl | rfl | rfl
      · rw [show rr * 4 + 0 = rr * 4 by omega, m1]; exact r
      · rw [m2]; exact r
      · rw [m3]; exact r
    · exact h0 x
  · have g' : q = nI 3 := g
    subst g'
    conv => whnf
    refine hC _ _ _ _ _ _ _ _ _ _ (fun _ _ _ _ _ _ q => q) (cr_recall14 (q := nI 3) hn f0 f1 f3 f4 (fun i' q' hq => ?_) (fun x => ?_))
    conv => whnf
    rotate_left
    · repeat ((first | refine And.intro (by (conv => arg 2; whnf); (try simp only [z_lit, nI_add, pk_mul, z_pr1, z_pr2]); exact z_in (by omega) (by decide)) ?_ | refine z_bt1 (by decide) ?_ | refine z_bf1 (by decide) ?_ | refine z_bt2 (by decide) ?_ | refine z_bf2 (by decide) ?_); conv => whnf)
      exact h0 x
    have r := h1 i' q' hq
    obtain ⟨a1, a2, a3, a4, a5⟩ := id hq
    obtain rfl : q' = 3 := nI_inj9 (by omega) (by omega) a4.symm
    obtain ⟨r1, r2⟩ := row i' a3
    obtain ⟨⟨bb, hbb, ebb⟩, m1, m2, m3, m4, m5⟩ := f5 _ r1 r2
    have hne : ¬ I 15 ((n - 1 - i') % 64 * 4 + 3) = -1 := by rcases m4 with z | z <;> rw [z] <;> decide
    repeat ((first | refine And.intro (by (conv => arg 2; whnf); (try simp only [z_lit, nI_add, pk_mul, z_pr1, z_pr2]); exact z_in (by omega) (by decide)) ?_ | refine z_bt1 (by decide) ?_ | refine z_bf1 (by decide) ?_ | refine z_bt2 (by decide) ?_ | refine z_bf2 (by decide) ?_ | refine z_bt1 (by first | exact hne) ?_ | refine z_bf1 (by first | exact hne) ?_ | refine z_bt2 (by first | exact hne) ?_ | refine z_bf2 (by first | exact hne) ?_); conv => whnf)
    refine hC _ _ _ _ _ _ _ _ _ _ (fun _ _ _ _ _ _ q => q) (cr_recall14 (q := nI 2) hn f0 f1 f3 f4 (fun i2 q2 hq2 => ?_) (fun x => ?_))
    conv => whnf
    rotate_left
    · exact absurd ⟨a1, a2, a3, rfl, by omega⟩ (x i' 2)
    obtain rfl : i2 = i' := nI_inj9 (by have := hq2.2.1; omega) (by omega) (hq2.1.symm.trans a1)
    obtain rfl : q2 = 2 := nI_inj9 (by have := hq2.2.2.2.2; omega) (by omega) hq2.2.2.2.1.symm
    rw [ebb] at m5 ⊢
    refine hC _ _ _ _ _ _ _ _ _ _ (fun _ _ _ _ _ _ q => q) (cb_oddBit hbb ?_)
    conv => whnf
    refine z_Qi r ?_ rfl
    rw [m5]
    have ho : s_odd (nI bb) = nI 0 ∨ s_odd (nI bb) = nI 1 := by
      rw [odd_n hbb]
      rcases Nat.mod_two_eq_zero_or_one (cnf 16 bb) with z | z <;> rw [z]
      · exact Or.inr rfl
      · exact Or.inl rfl
    rcases m4 with z | z <;> rw [z] <;> rcases ho with y | y <;> rw [y] <;> decide
end
