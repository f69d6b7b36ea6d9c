/-! what may be asked: rings -/
theorem sub_sub9 (a b c : Int32) : a - b - c = a - (c + b) := by rw [Int32.sub_eq_add_neg a (c + b), Int32.neg_add, Int32.sub_eq_add_neg (-c) b, Int32.sub_eq_add_neg a b, Int32.sub_eq_add_neg (a + -b) c, Int32.add_assoc, Int32.add_comm (-b) (-c)]
def rcq (n M W : Nat) (i q : Int32) (i' q' : Nat) : Prop := i = nI i' ∧ i' < M ∧ i' < n ∧ q = nI q' ∧ q' < W
theorem t9g {m i : Nat} (hm : m < 2 ^ 30) (hi : i < 2 ^ 30) : nI i ≤ nI m - 1 ↔ i < m := by
  rcases Nat.eq_zero_or_pos m with z | z
  · subst z
    have e : (nI 0 - 1 : Int32).toInt = -1 := by decide
    rw [Int32.le_iff_toInt_le, e, nI_toInt (by omega)]
    omega
  · rw [show nI m - 1 = nI (m - 1) from pk_sub z, nI_leI (by omega) (by omega)]
    omega
theorem t8g {m : Nat} (hm : m < 2 ^ 30) : nI m - 1 ≤ nI m := by
  rcases Nat.eq_zero_or_pos m with z | z
  · subst z; decide
  · rw [show nI m - 1 = nI (m - 1) from pk_sub z]
    exact nI_le (by omega) (by omega)
theorem rc_row {n M i : Nat} (hM : 0 < M) (h1 : i < M) (h2 : i < n) : (i + 1 ≤ n % M → (n - 1 - i) % M = n % M - (i + 1)) ∧ (n % M < i + 1 → (n - 1 - i) % M = n % M + M - (i + 1)) := by
  have e := Nat.div_add_mod n M
  have hl : n % M < M := Nat.mod_lt _ hM
  generalize n / M = q at e
  generalize n % M = r at e hl ⊢
  refine ⟨fun h => ?_, fun h => ?_⟩
  · rw [show n - 1 - i = (r - (i + 1)) + M * q by omega, Nat.add_mul_mod_self_left, Nat.mod_eq_of_lt (by omega)]
  · cases q with
    | zero => simp at e; omega
    | succ q =>
      have : M * (q + 1) = M * q + M := Nat.mul_succ _ _
      rw [show n - 1 - i = (r + M - (i + 1)) + M * q by omega, Nat.add_mul_mod_self_left, Nat.mod_eq_of_lt (by omega)]
section
variable {L : Nat} {xs : Nat → Int32} {d : Nat} {kp sp wd : Value} {I : z_I} {s : z_sg} {R : z_R} {J : z_J} {F : z_F} {cn : Nat} {Q : z_Q} {n k : Nat}
theorem cr_recall14 {i q : Int32} (hn : n < 2 ^ 30) (h0 : I 14 0 = nI 64) (h1 : I 14 1 = nI 4) (h3 : I 14 3 = nI (n % 64)) (h4 : I 14 4 = nI n) (k1 : ∀ i' q', rcq n 64 4 i q i' q' → Q (some (.int (I 15 ((n - 1 - i') % 64 * 4 + q')))) I (z_R0 kp sp wd) J F cn) (k0 : (∀ i' q', ¬ rcq n 64 4 i q i' q') → Q (some (.int (-1))) I (z_R0 kp sp wd) J F cn) :
    z_M (z_X0 L xs) z_P0 d m_Ring_recall [.ref 14, .int i, .int q] I (z_R0 kp sp wd) J F cn Q := by
  refine z_WP_gos [] 1000 fun K C hK hC => ?_
  conv => whnf
  refine ⟨fun g => ?_, fun g => ?_⟩
  · conv => whnf
    refine k0 fun a b h => absurd g (Int32.not_lt.mpr ?_)
    rw [h.1]; have := h.2.1; exact nI_pos' (by omega)
  conv => whnf
  simp (disch := omega) only [z_lit, nI_add, pk_mul, z_pr1, z_pr2, nI_clamp, z_up_row, z_row_s, z_row_n, z_row_row, pk_us, pk_un]
  rw [h0]
  refine ⟨fun g2 => ?_, fun g2 => ?_⟩
  · conv => whnf
    refine k0 fun a b h => ?_
    rw [h.1] at g2; exact nI_ge (b := 64) h.2.1 (by omega) g2
  obtain ⟨i', hi, ei⟩ := isIn_nat (b := 64) (by decide) (Int32.not_lt.mp g) (Int32.le_of_lt (Int32.not_le.mp g2))
  subst ei
  have hM : i' < 64 := by
    rcases Nat.lt_or_eq_of_le hi with z | z
    · exact z
    · rw [z] at g2; exact absurd (Int32.le_refl _) g2
  conv => whnf
  simp (disch := omega) only [z_lit, nI_add, pk_mul, z_pr1, z_pr2, nI_clamp, z_up_row, z_row_s, z_row_n, z_row_row, pk_us, pk_un]
  rw [h4]
  refine ⟨fun g3 => ?_, fun g3 => ?_⟩
  · conv => whnf
    refine k0 fun a b h => ?_
    rw [h.1] at g3; exact nI_ge h.2.2.1 (by omega) g3
  have hlt : i' < n := by
    rcases Nat.lt_or_ge i' n with z | z
    · exact z
    · exact absurd (nI_le z (by omega)) g3
  conv => whnf
  refine ⟨fun g4 => ?_, fun g4 => ?_⟩
  · conv => whnf
    refine k0 fun a b h => absurd g4 (Int32.not_lt.mpr ?_)
    rw [h.2.2.2.1]; have := h.2.2.2.2; exact nI_pos' (by omega)
  conv => whnf
  simp (disch := omega) only [z_lit, nI_add, pk_mul, z_pr1, z_pr2, nI_clamp, z_up_row, z_row_s, z_row_n, z_row_row, pk_us, pk_un]
  rw [h1]
  refine ⟨fun g5 => ?_, fun g5 => ?_⟩
  rotate_left
  · conv => whnf
    refine k0 fun a b h => g5 ?_
    rw [h.2.2.2.1]; exact nI_lt (b := 4) h.2.2.2.2 (by decide)
  obtain ⟨q', hq, eq⟩ := isIn_nat (b := 4) (by decide) (Int32.not_lt.mp g4) (Int32.le_of_lt g5)
  subst eq
  have hq' : q' < 4 := by
    rcases Nat.lt_or_eq_of_le hq with z | z
    · exact z
    · rw [z] at g5; exact (Int32.lt_irrefl g5).elim
  have r := k1 i' q' ⟨rfl, hM, hlt, rfl, hq'⟩
  obtain ⟨ra, rb⟩ := rc_row (n := n) (M := 64) (by decide) hM hlt
  have hl : n % 64 < 64 := Nat.mod_lt _ (by decide)
  generalize hrow : (n - 1 - i') % 64 = row at r ra rb
  have hrl : row < 64 := by rw [← hrow]; exact Nat.mod_lt _ (by decide)
  have e1 : nI (n % 64) - nI 1 - nI i' = nI (n % 64) - nI (i' + 1) := by
    rw [← nI_add i' 1]; exact sub_sub9 _ _ _
  conv => whnf
  simp (disch := omega) only [z_lit, nI_add, pk_mul, z_pr1, z_pr2, nI_clamp, z_up_row, z_row_s, z_row_n, z_row_row, pk_us, pk_un]
  rw [h3]
  refine ⟨fun g6 => ?_, fun g6 => ?_⟩
  · have hge : i' + 1 ≤ n % 64 := by
      rcases Nat.lt_or_ge (n % 64) (i' + 1) with z | z
      · have := pk_sneg (by omega) z
        rw [← e1] at this
        exact absurd this (Int32.not_lt.mpr g6)
      · exact z
    have e2 : nI (n % 64) - nI 1 - nI i' = nI row := by rw [e1, pk_sub hge, ra hge]
    conv => whnf
    simp (disch := omega) only [z_lit, nI_add, pk_mul, z_pr1, z_pr2, nI_clamp, z_up_row, z_row_s, z_row_n, z_row_row, pk_us, pk_un]
    rw [e2, h1]
    repeat ((first | refine And.intro (by (conv => arg 2; whnf); (try simp only [z_lit, nI_add, pk_mul, z_pr1, z_pr2]); exact z_in (by omega) (by decide)) ?_ | refine z_bt1 (by decide) ?_ | refine z_bf1 (by decide) ?_ | refine z_bt2 (by decide) ?_ | refine z_bf2 (by decide) ?_); conv => whnf)
    simp (disch := omega) only [z_lit, nI_add, pk_mul, z_pr1, z_pr2, nI_clamp, z_up_row, z_row_s, z_row_n, z_row_row, pk_us, pk_un]
    exact r
  · have hge : n % 64 < i' + 1 := by
      rcases Nat.lt_or_ge (n % 64) (i' + 1) with z | z
      · exact z
      · have e2 : nI (n % 64) - nI 1 - nI i' = nI (n % 64 - (i' + 1)) := by rw [e1, pk_sub z]
        exact absurd (by rw [e2]; exact nI_pos' (by omega)) g6
    have e2 : nI (n % 64) - nI 1 - nI i' + nI 64 = nI row := by
      rw [e1, rb hge, Int32.sub_eq_add_neg, Int32.add_assoc, Int32.add_comm (-nI (i' + 1)), ← Int32.add_assoc, ← Int32.sub_eq_add_neg, nI_add, pk_sub (by omega)]
    conv => whnf
    simp (disch := omega) only [z_lit, nI_add, pk_mul, z_pr1, z_pr2, nI_clamp, z_up_row, z_row_s, z_row_n, z_row_row, pk_us, pk_un]
    rw [h0, e2, h1]
    repeat ((first | refine And.intro (by (conv => arg 2; whnf); (try simp only [z_lit, nI_add, pk_mul, z_pr1, z_pr2]); exact z_in (by omega) (by decide)) ?_ | refine z_bt1 (by decide) ?_ | refine z_bf1 (by decide) ?_ | refine z_bt2 (by decide) ?_ | refine z_bf2 (by decide) ?_); conv => whnf)
    simp (disch := omega) only [z_lit, nI_add, pk_mul, z_pr1, z_pr2, nI_clamp, z_up_row, z_row_s, z_row_n, z_row_row, pk_us, pk_un]
    exact r
theorem cr_recall16 {i q : Int32} (hn : n < 2 ^ 30) (h0 : I 16 0 = nI 40) (h1 : I 16 1 = nI 1) (h3 : I 16 3 = nI (n % 40)) (h4 : I 16 4 = nI n) (k1 : ∀ i' q', rcq n 40 1 i q i' q' → Q (some (.int (I 17 ((n - 1 - i') % 40 * 1 + q')))) I (z_R0 kp sp wd) J F cn) (k0 : (∀ i' q', ¬ rcq n 40 1 i q i' q') → Q (some (.int (-1))) I (z_R0 kp sp wd) J F cn) :
    z_M (z_X0 L xs) z_P0 d m_Ring_recall [.ref 16, .int i, .int q] I (z_R0 kp sp wd) J F cn Q := by
  refine z_WP_gos [] 1000 fun K C hK hC => ?_
  conv => whnf
  refine ⟨fun g => ?_, fun g => ?_⟩
  · conv => whnf
    refine k0 fun a b h => absurd g (Int32.not_lt.mpr ?_)
    rw [h.1]; have := h.2.1; exact nI_pos' (by omega)
  conv => whnf
  simp (disch := omega) only [z_lit, nI_add, pk_mul, z_pr1, z_pr2, nI_clamp, z_up_row, z_row_s, z_row_n, z_row_row, pk_us, pk_un]
  rw [h0]
  refine ⟨fun g2 => ?_, fun g2 => ?_⟩
  · conv => whnf
    refine k0 fun a b h => ?_
    rw [h.1] at g2; exact nI_ge (b := 40) h.2.1 (by omega) g2
  obtain ⟨i', hi, ei⟩ := isIn_nat (b := 40) (by decide) (Int32.not_lt.mp g) (Int32.le_of_lt (Int32.not_le.mp g2))
  subst ei
  have hM : i' < 40 := by
    rcases Nat.lt_or_eq_of_le hi with z | z
    · exact z
    · rw [z] at g2; exact absurd (Int32.le_refl _) g2
  conv => whnf
  simp (disch := omega) only [z_lit, nI_add, pk_mul, z_pr1, z_pr2, nI_clamp, z_up_row, z_row_s, z_row_n, z_row_row, pk_us, pk_un]
  rw [h4]
  refine ⟨fun g3 => ?_, fun g3 => ?_⟩
  · conv => whnf
    refine k0 fun a b h => ?_
    rw [h.1] at g3; exact nI_ge h.2.2.1 (by omega) g3
  have hlt : i' < n := by
    rcases Nat.lt_or_ge i' n with z | z
    · exact z
    · exact absurd (nI_le z (by omega)) g3
  conv => whnf
  refine ⟨fun g4 => ?_, fun g4 => ?_⟩
  · conv => whnf
    refine k0 fun a b h => absurd g4 (Int32.not_lt.mpr ?_)
    rw [h.2.2.2.1]; have := h.2.2.2.2; exact nI_pos' (by omega)
  conv => whnf
  simp (disch := omega) only [z_lit, nI_add, pk_mul, z_pr1, z_pr2, nI_clamp, z_up_row, z_row_s, z_row_n, z_row_row, pk_us, pk_un]
  rw [h1]
  refine ⟨fun g5 => ?_, fun g5 => ?_⟩
  rotate_left
  · conv => whnf
    refine k0 fun a b h => g5 ?_
    rw [h.2.2.2.1]; exact nI_lt (b := 1) h.2.2.2.2 (by decide)
  obtain ⟨q', hq, eq⟩ := isIn_nat (b := 1) (by decide) (Int32.not_lt.mp g4) (Int32.le_of_lt g5)
  subst eq
  have hq' : q' < 1 := by
    rcases Nat.lt_or_eq_of_le hq with z | z
    · exact z
    · rw [z] at g5; exact (Int32.lt_irrefl g5).elim
  have r := k1 i' q' ⟨rfl, hM, hlt, rfl, hq'⟩
  obtain ⟨ra, rb⟩ := rc_row (n := n) (M := 40) (by decide) hM hlt
  have hl : n % 40 < 40 := Nat.mod_lt _ (by decide)
  generalize hrow : (n - 1 - i') % 40 = row at r ra rb
  have hrl : row < 40 := by rw [← hrow]; exact Nat.mod_lt _ (by decide)
  have e1 : nI (n % 40) - nI 1 - nI i' = nI (n % 40) - nI (i' + 1) := by
    rw [← nI_add i' 1]; exact sub_sub9 _ _ _
  conv => whnf
  simp (disch := omega) only [z_lit, nI_add, pk_mul, z_pr1, z_pr2, nI_clamp, z_up_row, z_row_s, z_row_n, z_row_row, pk_us, pk_un]
  rw [h3]
  refine ⟨fun g6 => ?_, fun g6 => ?_⟩
  · have hge : i' + 1 ≤ n % 40 := by
      rcases Nat.lt_or_ge (n % 40) (i' + 1) with z | z
      · have := pk_sneg (by omega) z
        rw [← e1] at this
        exact absurd this (Int32.not_lt.mpr g6)
      · exact z
    have e2 : nI (n % 40) - nI 1 - nI i' = nI row := by rw [e1, pk_sub hge, ra hge]
    conv => whnf
    simp (disch := omega) only [z_lit, nI_add, pk_mul, z_pr1, z_pr2, nI_clamp, z_up_row, z_row_s, z_row_n, z_row_row, pk_us, pk_un]
    rw [e2, h1]
    repeat ((first | refine And.intro (by (conv => arg 2; whnf); (try simp only [z_lit, nI_add, pk_mul, z_pr1, z_pr2]); exact z_in (by omega) (by decide)) ?_ | refine z_bt1 (by decide) ?_ | refine z_bf1 (by decide) ?_ | refine z_bt2 (by decide) ?_ | refine z_bf2 (by decide) ?_); conv => whnf)
    simp (disch := omega) only [z_lit, nI_add, pk_mul, z_pr1, z_pr2, nI_clamp, z_up_row, z_row_s, z_row_n, z_row_row, pk_us, pk_un]
    exact r
  · have hge : n % 40 < i' + 1 := by
      rcases Nat.lt_or_ge (n % 40) (i' + 1) with z | z
      · exact z
      · have e2 : nI (n % 40) - nI 1 - nI i' = nI (n % 40 - (i' + 1)) := by rw [e1, pk_sub z]
        exact absurd (by rw [e2]; exact nI_pos' (by omega)) g6
    have e2 : nI (n % 40) - nI 1 - nI i' + nI 40 = nI row := by
      rw [e1, rb hge, Int32.sub_eq_add_neg, Int32.add_assoc, Int32.add_comm (-nI (i' + 1)), ← Int32.add_assoc, ← Int32.sub_eq_add_neg, nI_add, pk_sub (by omega)]
    conv => whnf
    simp (disch := omega) only [z_lit, nI_add, pk_mul, z_pr1, z_pr2, nI_clamp, z_up_row, z_row_s, z_row_n, z_row_row, pk_us, pk_un]
    rw [h0, e2, h1]
    repeat ((first | refine And.intro (by (conv => arg 2; whnf); (try simp only [z_lit, nI_add, pk_mul, z_pr1, z_pr2]); exact z_in (by omega) (by decide)) ?_ | refine z_bt1 (by decide) ?_ | refine z_bf1 (by decide) ?_ | refine z_bt2 (by decide) ?_ | refine z_bf2 (by decide) ?_); conv => whnf)
    simp (disch := omega) only [z_lit, nI_add, pk_mul, z_pr1, z_pr2, nI_clamp, z_up_row, z_row_s, z_row_n, z_row_row, pk_us, pk_un]
    exact r
theorem cr_recall27 {i q : Int32} (hn : n < 2 ^ 30) (h0 : I 27 0 = nI 60) (h1 : I 27 1 = nI 5) (h3 : I 27 3 = nI (n % 60)) (h4 : I 27 4 = nI n) (k1 : ∀ i' q', rcq n 60 5 i q i' q' → Q (some (.int (I 28 ((n - 1 - i') % 60 * 5 + q')))) I (z_R0 kp sp wd) J F cn) (k0 : (∀ i' q', ¬ rcq n 60 5 i q i' q') → Q (some (.int (-1))) I (z_R0 kp sp wd) J F cn) :
    z_M (z_X0 L xs) z_P0 d m_Ring_recall [.ref 27, .int i, .int q] I (z_R0 kp sp wd) J F cn Q := by
  refine z_WP_gos [] 1000 fun K C hK hC => ?_
  conv => whnf
  refine ⟨fun g => ?_, fun g => ?_⟩
  · conv => whnf
    refine k0 fun a b h => absurd g (Int32.not_lt.mpr ?_)
    rw [h.1]; have := h.2.1; exact nI_pos' (by omega)
  conv => whnf
  simp (disch := omega) only [z_lit, nI_add, pk_mul, z_pr1, z_pr2, nI_clamp, z_up_row, z_row_s, z_row_n, z_row_row, pk_us, pk_un]
  rw [h0]
  refine ⟨fun g2 => ?_, fun g2 => ?_⟩
  · conv => whnf
    refine k0 fun a b h => ?_
    rw [h.1] at g2; exact nI_ge (b := 60) h.2.1 (by omega) g2
  obtain ⟨i', hi, ei⟩ := isIn_nat (b := 60) (by decide) (Int32.not_lt.mp g) (Int32.le_of_lt (Int32.not_le.mp g2))
  subst ei
  have hM : i' < 60 := by
    rcases Nat.lt_or_eq_of_le hi with z | z
    · exact z
    · rw [z] at g2; exact absurd (Int32.le_refl _) g2
  conv => whnf
  simp (disch := omega) only [z_lit, nI_add, pk_mul, z_pr1, z_pr2, nI_clamp, z_up_row, z_row_s, z_row_n, z_row_row, pk_us, pk_un]
  rw [h4]
  refine ⟨fun g3 => ?_, fun g3 => ?_⟩
  · conv => whnf
    refine k0 fun a b h => ?_
    rw [h.1] at g3; exact nI_ge h.2.2.1 (by omega) g3
  have hlt : i' < n := by
    rcases Nat.lt_or_ge i' n with z | z
    · exact z
    · exact absurd (nI_le z (by omega)) g3
  conv => whnf
  refine ⟨fun g4 => ?_, fun g4 => ?_⟩
  · conv => whnf
    refine k0 fun a b h => absurd g4 (Int32.not_lt.mpr ?_)
    rw [h.2.2.2.1]; have := h.2.2.2.2; exact nI_pos' (by omega)
  conv => whnf
  simp (disch := omega) only [z_lit, nI_add, pk_mul, z_pr1, z_pr2, nI_clamp, z_up_row, z_row_s, z_row_n, z_row_row, pk_us, pk_un]
  rw [h1]
  refine ⟨fun g5 => ?_, fun g5 => ?_⟩
  rotate_left
  · conv => whnf
    refine k0 fun a b h => g5 ?_
    rw [h.2.2.2.1]; exact nI_lt (b := 5) h.2.2.2.2 (by decide)
  obtain ⟨q', hq, eq⟩ := isIn_nat (b := 5) (by decide) (Int32.not_lt.mp g4) (Int32.le_of_lt g5)
  subst eq
  have hq' : q' < 5 := by
    rcases Nat.lt_or_eq_of_le hq with z | z
    · exact z
    · rw [z] at g5; exact (Int32.lt_irrefl g5).elim
  have r := k1 i' q' ⟨rfl, hM, hlt, rfl, hq'⟩
  obtain ⟨ra, rb⟩ := rc_row (n := n) (M := 60) (by decide) hM hlt
  have hl : n % 60 < 60 := Nat.mod_lt _ (by decide)
  generalize hrow : (n - 1 - i') % 60 = row at r ra rb
  have hrl : row < 60 := by rw [← hrow]; exact Nat.mod_lt _ (by decide)
  have e1 : nI (n % 60) - nI 1 - nI i' = nI (n % 60) - nI (i' + 1) := by
    rw [← nI_add i' 1]; exact sub_sub9 _ _ _
  conv => whnf
  simp (disch := omega) only [z_lit, nI_add, pk_mul, z_pr1, z_pr2, nI_clamp, z_up_row, z_row_s, z_row_n, z_row_row, pk_us, pk_un]
  rw [h3]
  refine ⟨fun g6 => ?_, fun g6 => ?_⟩
  · have hge : i' + 1 ≤ n % 60 := by
      rcases Nat.lt_or_ge (n % 60) (i' + 1) with z | z
      · have := pk_sneg (by omega) z
        rw [← e1] at this
        exact absurd this (Int32.not_lt.mpr g6)
      · exact z
    have e2 : nI (n % 60) - nI 1 - nI i' = nI row := by rw [e1, pk_sub hge, ra hge]
    conv => whnf
    simp (disch := omega) only [z_lit, nI_add, pk_mul, z_pr1, z_pr2, nI_clamp, z_up_row, z_row_s, z_row_n, z_row_row, pk_us, pk_un]
    rw [e2, h1]
    repeat ((first | refine And.intro (by (conv => arg 2; whnf); (try simp only [z_lit, nI_add, pk_mul, z_pr1, z_pr2]); exact z_in (by omega) (by decide)) ?_ | refine z_bt1 (by decide) ?_ | refine z_bf1 (by decide) ?_ | refine z_bt2 (by decide) ?_ | refine z_bf2 (by decide) ?_); conv => whnf)
    simp (disch := omega) only [z_lit, nI_add, pk_mul, z_pr1, z_pr2, nI_clamp, z_up_row, z_row_s, z_row_n, z_row_row, pk_us, pk_un]
    exact r
  · have hge : n % 60 < i' + 1 := by
      rcases Nat.lt_or_ge (n % 60) (i' + 1) with z | z
      · exact z
      · have e2 : nI (n % 60) - nI 1 - nI i' = nI (n % 60 - (i' + 1)) := by rw [e1, pk_sub z]
        exact absurd (by rw [e2]; exact nI_pos' (by omega)) g6
    have e2 : nI (n % 60) - nI 1 - nI i' + nI 60 = nI row := by
      rw [e1, rb hge, Int32.sub_eq_add_neg, Int32.add_assoc, Int32.add_comm (-nI (i' + 1)), ← Int32.add_assoc, ← Int32.sub_eq_add_neg, nI_add, pk_sub (by omega)]
    conv => whnf
    simp (disch := omega) only [z_lit, nI_add, pk_mul, z_pr1, z_pr2, nI_clamp, z_up_row, z_row_s, z_row_n, z_row_row, pk_us, pk_un]
    rw [h0, e2, h1]
    repeat ((first | refine And.intro (by (conv => arg 2; whnf); (try simp only [z_lit, nI_add, pk_mul, z_pr1, z_pr2]); exact z_in (by omega) (by decide)) ?_ | refine z_bt1 (by decide) ?_ | refine z_bf1 (by decide) ?_ | refine z_bt2 (by decide) ?_ | refine z_bf2 (by decide) ?_); conv => whnf)
    simp (disch := omega) only [z_lit, nI_add, pk_mul, z_pr1, z_pr2, nI_clamp, z_up_row, z_row_s, z_row_n, z_row_row, pk_us, pk_un]
    exact r
end
