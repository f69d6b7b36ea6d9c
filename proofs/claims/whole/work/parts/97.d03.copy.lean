/-! the class: a world copied from another -/
section
variable {L : Nat} {xs : Nat → Int32} {d : Nat} {kp sp wd : Value} {I : z_I} {s : z_sg} {R : z_R} {J : z_J} {F : z_F} {cn : Nat} {Q : z_Q}
theorem cy_ring_14_50_1 (hQ : Q none (z_row (z_row I 64 (va_cpy (I 15) (I 64) 0 0 256)) 63 (upd (upd (I 63) 3 (I 14 3)) 4 (I 14 4))) (z_R0 kp sp wd) J F cn) : z_M (z_X0 L xs) z_P0 d m_Ring_copyFrom [.ref 63, .ref 14] I (z_R0 kp sp wd) J F cn Q := by
  refine z_WP_gos [] 1000 fun K C hK hC => ?_
  conv => whnf
  rw [show ((z_X0 L xs).fst 64).snd = 256 from rfl]
  refine And.intro ⟨(by (try simp only [z_lit, nI_add, pk_mul]); exact nI_pos (by omega)), (by (try simp only [z_lit, nI_add, pk_mul]); exact nI_pos (by omega)), (by (try simp only [z_lit, nI_add, pk_mul]); exact nI_pos (by omega)), (by (try simp (disch := omega) only [z_lit, nI_clamp, nI_add, pk_mul]); exact (show _ ≤ (256 : Nat) by omega)), (by (try simp (disch := omega) only [z_lit, nI_clamp, nI_add, pk_mul]); exact (show _ ≤ (256 : Nat) by omega))⟩ ?_
  conv => whnf
  unfold z_cpy
  simp (disch := omega) only [z_lit, nI_add, pk_mul, z_pr1, z_pr2, nI_clamp, z_up_row, z_row_s, z_row_n, z_row_row, pk_us, pk_un]
  exact hQ
theorem cy_ring_16_50_1 (hQ : Q none (z_row (z_row I 66 (va_cpy (I 17) (I 66) 0 0 40)) 65 (upd (upd (I 65) 3 (I 16 3)) 4 (I 16 4))) (z_R0 kp sp wd) J F cn) : z_M (z_X0 L xs) z_P0 d m_Ring_copyFrom [.ref 65, .ref 16] I (z_R0 kp sp wd) J F cn Q := by
  refine z_WP_gos [] 1000 fun K C hK hC => ?_
  conv => whnf
  rw [show ((z_X0 L xs).fst 66).snd = 40 from rfl]
  refine And.intro ⟨(by (try simp only [z_lit, nI_add, pk_mul]); exact nI_pos (by omega)), (by (try simp only [z_lit, nI_add, pk_mul]); exact nI_pos (by omega)), (by (try simp only [z_lit, nI_add, pk_mul]); exact nI_pos (by omega)), (by (try simp (disch := omega) only [z_lit, nI_clamp, nI_add, pk_mul]); exact (show _ ≤ (40 : Nat) by omega)), (by (try simp (disch := omega) only [z_lit, nI_clamp, nI_add, pk_mul]); exact (show _ ≤ (40 : Nat) by omega))⟩ ?_
  conv => whnf
  unfold z_cpy
  simp (disch := omega) only [z_lit, nI_add, pk_mul, z_pr1, z_pr2, nI_clamp, z_up_row, z_row_s, z_row_n, z_row_row, pk_us, pk_un]
  exact hQ
theorem cy_ring_27_50_1 (hQ : Q none (z_row (z_row I 77 (va_cpy (I 28) (I 77) 0 0 300)) 76 (upd (upd (I 76) 3 (I 27 3)) 4 (I 27 4))) (z_R0 kp sp wd) J F cn) : z_M (z_X0 L xs) z_P0 d m_Ring_copyFrom [.ref 76, .ref 27] I (z_R0 kp sp wd) J F cn Q := by
  refine z_WP_gos [] 1000 fun K C hK hC => ?_
  conv => whnf
  rw [show ((z_X0 L xs).fst 77).snd = 300 from rfl]
  refine And.intro ⟨(by (try simp only [z_lit, nI_add, pk_mul]); exact nI_pos (by omega)), (by (try simp only [z_lit, nI_add, pk_mul]); exact nI_pos (by omega)), (by (try simp only [z_lit, nI_add, pk_mul]); exact nI_pos (by omega)), (by (try simp (disch := omega) only [z_lit, nI_clamp, nI_add, pk_mul]); exact (show _ ≤ (300 : Nat) by omega)), (by (try simp (disch := omega) only [z_lit, nI_clamp, nI_add, pk_mul]); exact (show _ ≤ (300 : Nat) by omega))⟩ ?_
  conv => whnf
  unfold z_cpy
  simp (disch := omega) only [z_lit, nI_add, pk_mul, z_pr1, z_pr2, nI_clamp, z_up_row, z_row_s, z_row_n, z_row_row, pk_us, pk_un]
  exact hQ
theorem cy_units_50_1 (hQ : Q none (z_row (z_row (z_row (z_row (z_row (z_row I 52 (va_cpy (I 3) (I 52) 0 0 162)) 53 (va_cpy (I 4) (I 53) 0 0 1200)) 54 (va_cpy (I 5) (I 54) 0 0 48)) 55 (va_cpy (I 6) (I 55) 0 0 48)) 56 (va_cpy (I 7) (I 56) 0 0 48)) 58 (va_cpy (I 9) (I 58) 0 0 45)) (z_R0 kp sp wd) J (z_row F 57 (va_cpy (F 8) (F 57) 0 0 48)) cn) : z_M (z_X0 L xs) z_P0 d m_Units_copyFrom [.ref 51, .ref 2] I (z_R0 kp sp wd) J F cn Q := by
  refine z_WP_gos [] 1000 fun K C hK hC => ?_
  conv => whnf
  rw [show ((z_X0 L xs).fst 52).snd = 162 from rfl]
  refine And.intro ⟨(by (try simp only [z_lit, nI_add, pk_mul]); exact nI_pos (by omega)), (by (try simp only [z_lit, nI_add, pk_mul]); exact nI_pos (by omega)), (by (try simp only [z_lit, nI_add, pk_mul]); exact nI_pos (by omega)), (by (try simp (disch := omega) only [z_lit, nI_clamp, nI_add, pk_mul]); exact (show _ ≤ (162 : Nat) by omega)), (by (try simp (disch := omega) only [z_lit, nI_clamp, nI_add, pk_mul]); exact (show _ ≤ (162 : Nat) by omega))⟩ ?_
  conv => whnf
  rw [show ((z_X0 L xs).fst 53).snd = 1200 from rfl]
  refine And.intro ⟨(by (try simp only [z_lit, nI_add, pk_mul]); exact nI_pos (by omega)), (by (try simp only [z_lit, nI_add, pk_mul]); exact nI_pos (by omega)), (by (try simp only [z_lit, nI_add, pk_mul]); exact nI_pos (by omega)), (by (try simp (disch := omega) only [z_lit, nI_clamp, nI_add, pk_mul]); exact (show _ ≤ (1200 : Nat) by omega)), (by (try simp (disch := omega) only [z_lit, nI_clamp, nI_add, pk_mul]); exact (show _ ≤ (1200 : Nat) by omega))⟩ ?_
  conv => whnf
  refine And.intro ⟨(by (try simp only [z_lit, nI_add, pk_mul]); exact nI_pos (by omega)), (by (try simp only [z_lit, nI_add, pk_mul]); exact nI_pos (by omega)), (by (try simp only [z_lit, nI_add, pk_mul]); exact nI_pos (by omega)), (by (try simp (disch := omega) only [z_lit, nI_clamp, nI_add, pk_mul]); exact (show _ ≤ (48 : Nat) by omega)), (by (try simp (disch := omega) only [z_lit, nI_clamp, nI_add, pk_mul]); exact (show _ ≤ (48 : Nat) by omega))⟩ ?_
  conv => whnf
  refine And.intro ⟨(by (try simp only [z_lit, nI_add, pk_mul]); exact nI_pos (by omega)), (by (try simp only [z_lit, nI_add, pk_mul]); exact nI_pos (by omega)), (by (try simp only [z_lit, nI_add, pk_mul]); exact nI_pos (by omega)), (by (try simp (disch := omega) only [z_lit, nI_clamp, nI_add, pk_mul]); exact (show _ ≤ (48 : Nat) by omega)), (by (try simp (disch := omega) only [z_lit, nI_clamp, nI_add, pk_mul]); exact (show _ ≤ (48 : Nat) by omega))⟩ ?_
  conv => whnf
  refine And.intro ⟨(by (try simp only [z_lit, nI_add, pk_mul]); exact nI_pos (by omega)), (by (try simp only [z_lit, nI_add, pk_mul]); exact nI_pos (by omega)), (by (try simp only [z_lit, nI_add, pk_mul]); exact nI_pos (by omega)), (by (try simp (disch := omega) only [z_lit, nI_clamp, nI_add, pk_mul]); exact (show _ ≤ (48 : Nat) by omega)), (by (try simp (disch := omega) only [z_lit, nI_clamp, nI_add, pk_mul]); exact (show _ ≤ (48 : Nat) by omega))⟩ ?_
  conv => whnf
  refine And.intro ⟨(by (try simp only [z_lit, nI_add, pk_mul]); exact nI_pos (by omega)), (by (try simp only [z_lit, nI_add, pk_mul]); exact nI_pos (by omega)), (by (try simp only [z_lit, nI_add, pk_mul]); exact nI_pos (by omega)), (by (try simp (disch := omega) only [z_lit, nI_clamp, nI_add, pk_mul]); exact (show _ ≤ (48 : Nat) by omega)), (by (try simp (disch := omega) only [z_lit, nI_clamp, nI_add, pk_mul]); exact (show _ ≤ (48 : Nat) by omega))⟩ ?_
  conv => whnf
  rw [show ((z_X0 L xs).fst 58).snd = 45 from rfl]
  refine And.intro ⟨(by (try simp only [z_lit, nI_add, pk_mul]); exact nI_pos (by omega)), (by (try simp only [z_lit, nI_add, pk_mul]); exact nI_pos (by omega)), (by (try simp only [z_lit, nI_add, pk_mul]); exact nI_pos (by omega)), (by (try simp (disch := omega) only [z_lit, nI_clamp, nI_add, pk_mul]); exact (show _ ≤ (45 : Nat) by omega)), (by (try simp (disch := omega) only [z_lit, nI_clamp, nI_add, pk_mul]); exact (show _ ≤ (45 : Nat) by omega))⟩ ?_
  conv => whnf
  unfold z_cpy
  simp (disch := omega) only [z_lit, nI_add, pk_mul, z_pr1, z_pr2, nI_clamp, z_up_row, z_row_s, z_row_n, z_row_row, pk_us, pk_un]
  exact hQ
theorem cy_ring_14_78_1 (hQ : Q none (z_row (z_row I 92 (va_cpy (I 15) (I 92) 0 0 256)) 91 (upd (upd (I 91) 3 (I 14 3)) 4 (I 14 4))) (z_R0 kp sp wd) J F cn) : z_M (z_X0 L xs) z_P0 d m_Ring_copyFrom [.ref 91, .ref 14] I (z_R0 kp sp wd) J F cn Q := by
  refine z_WP_gos [] 1000 fun K C hK hC => ?_
  conv => whnf
  rw [show ((z_X0 L xs).fst 92).snd = 256 from rfl]
  refine And.intro ⟨(by (try simp only [z_lit, nI_add, pk_mul]); exact nI_pos (by omega)), (by (try simp only [z_lit, nI_add, pk_mul]); exact nI_pos (by omega)), (by (try simp only [z_lit, nI_add, pk_mul]); exact nI_pos (by omega)), (by (try simp (disch := omega) only [z_lit, nI_clamp, nI_add, pk_mul]); exact (show _ ≤ (256 : Nat) by omega)), (by (try simp (disch := omega) only [z_lit, nI_clamp, nI_add, pk_mul]); exact (show _ ≤ (256 : Nat) by omega))⟩ ?_
  conv => whnf
  unfold z_cpy
  simp (disch := omega) only [z_lit, nI_add, pk_mul, z_pr1, z_pr2, nI_clamp, z_up_row, z_row_s, z_row_n, z_row_row, pk_us, pk_un]
  exact hQ
theorem cy_ring_16_78_1 (hQ : Q none (z_row (z_row I 94 (va_cpy (I 17) (I 94) 0 0 40)) 93 (upd (upd (I 93) 3 (I 16 3)) 4 (I 16 4))) (z_R0 kp sp wd) J F cn) : z_M (z_X0 L xs) z_P0 d m_Ring_copyFrom [.ref 93, .ref 16] I (z_R0 kp sp wd) J F cn Q := by
  refine z_WP_gos [] 1000 fun K C hK hC => ?_
  conv => whnf
  rw [show ((z_X0 L xs).fst 94).snd = 40 from rfl]
  refine And.intro ⟨(by (try simp only [z_lit, nI_add, pk_mul]); exact nI_pos (by omega)), (by (try simp only [z_lit, nI_add, pk_mul]); exact nI_pos (by omega)), (by (try simp only [z_lit, nI_add, pk_mul]); exact nI_pos (by omega)), (by (try simp (disch := omega) only [z_lit, nI_clamp, nI_add, pk_mul]); exact (show _ ≤ (40 : Nat) by omega)), (by (try simp (disch := omega) only [z_lit, nI_clamp, nI_add, pk_mul]); exact (show _ ≤ (40 : Nat) by omega))⟩ ?_
  conv => whnf
  unfold z_cpy
  simp (disch := omega) only [z_lit, nI_add, pk_mul, z_pr1, z_pr2, nI_clamp, z_up_row, z_row_s, z_row_n, z_row_row, pk_us, pk_un]
  exact hQ
theorem cy_ring_27_78_1 (hQ : Q none (z_row (z_row I 105 (va_cpy (I 28) (I 105) 0 0 300)) 104 (upd (upd (I 104) 3 (I 27 3)) 4 (I 27 4))) (z_R0 kp sp wd) J F cn) : z_M (z_X0 L xs) z_P0 d m_Ring_copyFrom [.ref 104, .ref 27] I (z_R0 kp sp wd) J F cn Q := by
  refine z_WP_gos [] 1000 fun K C hK hC => ?_
  conv => whnf
  rw [show ((z_X0 L xs).fst 105).snd = 300 from rfl]
  refine And.intro ⟨(by (try simp only [z_lit, nI_add, pk_mul]); exact nI_pos (by omega)), (by (try simp only [z_lit, nI_add, pk_mul]); exact nI_pos (by omega)), (by (try simp only [z_lit, nI_add, pk_mul]); exact nI_pos (by omega)), (by (try simp (disch := omega) only [z_lit, nI_clamp, nI_add, pk_mul]); exact (show _ ≤ (300 : Nat) by omega)), (by (try simp (disch := omega) only [z_lit, nI_clamp, nI_add, pk_mul]); exact (show _ ≤ (300 : Nat) by omega))⟩ ?_
  conv => whnf
  unfold z_cpy
  simp (disch := omega) only [z_lit, nI_add, pk_mul, z_pr1, z_pr2, nI_clamp, z_up_row, z_row_s, z_row_n, z_row_row, pk_us, pk_un]
  exact hQ
theorem cy_units_78_1 (hQ : Q none (z_row (z_row (z_row (z_row (z_row (z_row I 80 (va_cpy (I 3) (I 80) 0 0 162)) 81 (va_cpy (I 4) (I 81) 0 0 1200)) 82 (va_cpy (I 5) (I 82) 0 0 48)) 83 (va_cpy (I 6) (I 83) 0 0 48)) 84 (va_cpy (I 7) (I 84) 0 0 48)) 86 (va_cpy (I 9) (I 86) 0 0 45)) (z_R0 kp sp wd) J (z_row F 85 (va_cpy (F 8) (F 85) 0 0 48)) cn) : z_M (z_X0 L xs) z_P0 d m_Units_copyFrom [.ref 79, .ref 2] I (z_R0 kp sp wd) J F cn Q := by
  refine z_WP_gos [] 1000 fun K C hK hC => ?_
  conv => whnf
  rw [show ((z_X0 L xs).fst 80).snd = 162 from rfl]
  refine And.intro ⟨(by (try simp only [z_lit, nI_add, pk_mul]); exact nI_pos (by omega)), (by (try simp only [z_lit, nI_add, pk_mul]); exact nI_pos (by omega)), (by (try simp only [z_lit, nI_add, pk_mul]); exact nI_pos (by omega)), (by (try simp (disch := omega) only [z_lit, nI_clamp, nI_add, pk_mul]); exact (show _ ≤ (162 : Nat) by omega)), (by (try simp (disch := omega) only [z_lit, nI_clamp, nI_add, pk_mul]); exact (show _ ≤ (162 : Nat) by omega))⟩ ?_
  conv => whnf
  rw [show ((z_X0 L xs).fst 81).snd = 1200 from rfl]
  refine And.intro ⟨(by (try simp only [z_lit, nI_add, pk_mul]); exact nI_pos (by omega)), (by (try simp only [z_lit, nI_add, pk_mul]); exact nI_pos (by omega)), (by (try simp only [z_lit, nI_add, pk_mul]); exact nI_pos (by omega)), (by (try simp (disch := omega) only [z_lit, nI_clamp, nI_add, pk_mul]); exact (show _ ≤ (1200 : Nat) by omega)), (by (try simp (disch := omega) only [z_lit, nI_clamp, nI_add, pk_mul]); exact (show _ ≤ (1200 : Nat) by omega))⟩ ?_
  conv => whnf
  refine And.intro ⟨(by (try simp only [z_lit, nI_add, pk_mul]); exact nI_pos (by omega)), (by (try simp only [z_lit, nI_add, pk_mul]); exact nI_pos (by omega)), (by (try simp only [z_lit, nI_add, pk_mul]); exact nI_pos (by omega)), (by (try simp (disch := omega) only [z_lit, nI_clamp, nI_add, pk_mul]); exact (show _ ≤ (48 : Nat) by omega)), (by (try simp (disch := omega) only [z_lit, nI_clamp, nI_add, pk_mul]); exact (show _ ≤ (48 : Nat) by omega))⟩ ?_
  conv => whnf
  refine And.intro ⟨(by (try simp only [z_lit, nI_add, pk_mul]); exact nI_pos (by omega)), (by (try simp only [z_lit, nI_add, pk_mul]); exact nI_pos (by omega)), (by (try simp only [z_lit, nI_add, pk_mul]); exact nI_pos (by omega)), (by (try simp (disch := omega) only [z_lit, nI_clamp, nI_add, pk_mul]); exact (show _ ≤ (48 : Nat) by omega)), (by (try simp (disch := omega) only [z_lit, nI_clamp, nI_add, pk_mul]); exact (show _ ≤ (48 : Nat) by omega))⟩ ?_
  conv => whnf
  refine And.intro ⟨(by (try simp only [z_lit, nI_add, pk_mul]); exact nI_pos (by omega)), (by (try simp only [z_lit, nI_add, pk_mul]); exact nI_pos (by omega)), (by (try simp only [z_lit, nI_add, pk_mul]); exact nI_pos (by omega)), (by (try simp (disch := omega) only [z_lit, nI_clamp, nI_add, pk_mul]); exact (show _ ≤ (48 : Nat) by omega)), (by (try simp (disch := omega) only [z_lit, nI_clamp, nI_add, pk_mul]); exact (show _ ≤ (48 : Nat) by omega))⟩ ?_
  conv => whnf
  refine And.intro ⟨(by (try simp only [z_lit, nI_add, pk_mul]); exact nI_pos (by omega)), (by (try simp only [z_lit, nI_add, pk_mul]); exact nI_pos (by omega)), (by (try simp only [z_lit, nI_add, pk_mul]); exact nI_pos (by omega)), (by (try simp (disch := omega) only [z_lit, nI_clamp, nI_add, pk_mul]); exact (show _ ≤ (48 : Nat) by omega)), (by (try simp (disch := omega) only [z_lit, nI_clamp, nI_add, pk_mul]); exact (show _ ≤ (48 : Nat) by omega))⟩ ?_
  conv => whnf
  rw [show ((z_X0 L xs).fst 86).snd = 45 from rfl]
  refine And.intro ⟨(by (try simp only [z_lit, nI_add, pk_mul]); exact nI_pos (by omega)), (by (try simp only [z_lit, nI_add, pk_mul]); exact nI_pos (by omega)), (by (try simp only [z_lit, nI_add, pk_mul]); exact nI_pos (by omega)), (by (try simp (disch := omega) only [z_lit, nI_clamp, nI_add, pk_mul]); exact (show _ ≤ (45 : Nat) by omega)), (by (try simp (disch := omega) only [z_lit, nI_clamp, nI_add, pk_mul]); exact (show _ ≤ (45 : Nat) by omega))⟩ ?_
  conv => whnf
  unfold z_cpy
  simp (disch := omega) only [z_lit, nI_add, pk_mul, z_pr1, z_pr2, nI_clamp, z_up_row, z_row_s, z_row_n, z_row_row, pk_us, pk_un]
  exact hQ
theorem cy_ring_14_1_50 (hQ : Q none (z_row (z_row I 15 (va_cpy (I 64) (I 15) 0 0 256)) 14 (upd (upd (I 14) 3 (I 63 3)) 4 (I 63 4))) (z_R0 kp sp wd) J F cn) : z_M (z_X0 L xs) z_P0 d m_Ring_copyFrom [.ref 14, .ref 63] I (z_R0 kp sp wd) J F cn Q := by
  refine z_WP_gos [] 1000 fun K C hK hC => ?_
  conv => whnf
  rw [show ((z_X0 L xs).fst 15).snd = 256 from rfl]
  refine And.intro ⟨(by (try simp only [z_lit, nI_add, pk_mul]); exact nI_pos (by omega)), (by (try simp only [z_lit, nI_add, pk_mul]); exact nI_pos (by omega)), (by (try simp only [z_lit, nI_add, pk_mul]); exact nI_pos (by omega)), (by (try simp (disch := omega) only [z_lit, nI_clamp, nI_add, pk_mul]); exact (show _ ≤ (256 : Nat) by omega)), (by (try simp (disch := omega) only [z_lit, nI_clamp, nI_add, pk_mul]); exact (show _ ≤ (256 : Nat) by omega))⟩ ?_
  conv => whnf
  unfold z_cpy
  simp (disch := omega) only [z_lit, nI_add, pk_mul, z_pr1, z_pr2, nI_clamp, z_up_row, z_row_s, z_row_n, z_row_row, pk_us, pk_un]
  exact hQ
theorem cy_ring_16_1_50 (hQ : Q none (z_row (z_row I 17 (va_cpy (I 66) (I 17) 0 0 40)) 16 (upd (upd (I 16) 3 (I 65 3)) 4 (I 65 4))) (z_R0 kp sp wd) J F cn) : z_M (z_X0 L xs) z_P0 d m_Ring_copyFrom [.ref 16, .ref 65] I (z_R0 kp sp wd) J F cn Q := by
  refine z_WP_gos [] 1000 fun K C hK hC => ?_
  conv => whnf
  rw [show ((z_X0 L xs).fst 17).snd = 40 from rfl]
  refine And.intro ⟨(by (try simp only [z_lit, nI_add, pk_mul]); exact nI_pos (by omega)), (by (try simp only [z_lit, nI_add, pk_mul]); exact nI_pos (by omega)), (by (try simp only [z_lit, nI_add, pk_mul]); exact nI_pos (by omega)), (by (try simp (disch := omega) only [z_lit, nI_clamp, nI_add, pk_mul]); exact (show _ ≤ (40 : Nat) by omega)), (by (try simp (disch := omega) only [z_lit, nI_clamp, nI_add, pk_mul]); exact (show _ ≤ (40 : Nat) by omega))⟩ ?_
  conv => whnf
  unfold z_cpy
  simp (disch := omega) only [z_lit, nI_add, pk_mul, z_pr1, z_pr2, nI_clamp, z_up_row, z_row_s, z_row_n, z_row_row, pk_us, pk_un]
  exact hQ
theorem cy_ring_27_1_50 (hQ : Q none (z_row (z_row I 28 (va_cpy (I 77) (I 28) 0 0 300)) 27 (upd (upd (I 27) 3 (I 76 3)) 4 (I 76 4))) (z_R0 kp sp wd) J F cn) : z_M (z_X0 L xs) z_P0 d m_Ring_copyFrom [.ref 27, .ref 76] I (z_R0 kp sp wd) J F cn Q := by
  refine z_WP_gos [] 1000 fun K C hK hC => ?_
  conv => whnf
  rw [show ((z_X0 L xs).fst 28).snd = 300 from rfl]
  refine And.intro ⟨(by (try simp only [z_lit, nI_add, pk_mul]); exact nI_pos (by omega)), (by (try simp only [z_lit, nI_add, pk_mul]); exact nI_pos (by omega)), (by (try simp only [z_lit, nI_add, pk_mul]); exact nI_pos (by omega)), (by (try simp (disch := omega) only [z_lit, nI_clamp, nI_add, pk_mul]); exact (show _ ≤ (300 : Nat) by omega)), (by (try simp (disch := omega) only [z_lit, nI_clamp, nI_add, pk_mul]); exact (show _ ≤ (300 : Nat) by omega))⟩ ?_
  conv => whnf
  unfold z_cpy
  simp (disch := omega) only [z_lit, nI_add, pk_mul, z_pr1, z_pr2, nI_clamp, z_up_row, z_row_s, z_row_n, z_row_row, pk_us, pk_un]
  exact hQ
theorem cy_units_1_50 (hQ : Q none (z_row (z_row (z_row (z_row (z_row (z_row I 3 (va_cpy (I 52) (I 3) 0 0 162)) 4 (va_cpy (I 53) (I 4) 0 0 1200)) 5 (va_cpy (I 54) (I 5) 0 0 48)) 6 (va_cpy (I 55) (I 6) 0 0 48)) 7 (va_cpy (I 56) (I 7) 0 0 48)) 9 (va_cpy (I 58) (I 9) 0 0 45)) (z_R0 kp sp wd) J (z_row F 8 (va_cpy (F 57) (F 8) 0 0 48)) cn) : z_M (z_X0 L xs) z_P0 d m_Units_copyFrom [.ref 2, .ref 51] I (z_R0 kp sp wd) J F cn Q := by
  refine z_WP_gos [] 1000 fun K C hK hC => ?_
  conv => whnf
  rw [show ((z_X0 L xs).fst 3).snd = 162 from rfl]
  refine And.intro ⟨(by (try simp only [z_lit, nI_add, pk_mul]); exact nI_pos (by omega)), (by (try simp only [z_lit, nI_add, pk_mul]); exact nI_pos (by omega)), (by (try simp only [z_lit, nI_add, pk_mul]); exact nI_pos (by omega)), (by (try simp (disch := omega) only [z_lit, nI_clamp, nI_add, pk_mul]); exact (show _ ≤ (162 : Nat) by omega)), (by (try simp (disch := omega) only [z_lit, nI_clamp, nI_add, pk_mul]); exact (show _ ≤ (162 : Nat) by omega))⟩ ?_
  conv => whnf
  rw [show ((z_X0 L xs).fst 4).snd = 1200 from rfl]
  refine And.intro ⟨(by (try simp only [z_lit, nI_add, pk_mul]); exact nI_pos (by omega)), (by (try simp only [z_lit, nI_add, pk_mul]); exact nI_pos (by omega)), (by (try simp only [z_lit, nI_add, pk_mul]); exact nI_pos (by omega)), (by (try simp (disch := omega) only [z_lit, nI_clamp, nI_add, pk_mul]); exact (show _ ≤ (1200 : Nat) by omega)), (by (try simp (disch := omega) only [z_lit, nI_clamp, nI_add, pk_mul]); exact (show _ ≤ (1200 : Nat) by omega))⟩ ?_
  conv => whnf
  refine And.intro ⟨(by (try simp only [z_lit, nI_add, pk_mul]); exact nI_pos (by omega)), (by (try simp only [z_lit, nI_add, pk_mul]); exact nI_pos (by omega)), (by (try simp only [z_lit, nI_add, pk_mul]); exact nI_pos (by omega)), (by (try simp (disch := omega) only [z_lit, nI_clamp, nI_add, pk_mul]); exact (show _ ≤ (48 : Nat) by omega)), (by (try simp (disch := omega) only [z_lit, nI_clamp, nI_add, pk_mul]); exact (show _ ≤ (48 : Nat) by omega))⟩ ?_
  conv => whnf
  refine And.intro ⟨(by (try simp only [z_lit, nI_add, pk_mul]); exact nI_pos (by omega)), (by (try simp only [z_lit, nI_add, pk_mul]); exact nI_pos (by omega)), (by (try simp only [z_lit, nI_add, pk_mul]); exact nI_pos (by omega)), (by (try simp (disch := omega) only [z_lit, nI_clamp, nI_add, pk_mul]); exact (show _ ≤ (48 : Nat) by omega)), (by (try simp (disch := omega) only [z_lit, nI_clamp, nI_add, pk_mul]); exact (show _ ≤ (48 : Nat) by omega))⟩ ?_
  conv => whnf
  refine And.intro ⟨(by (try simp only [z_lit, nI_add, pk_mul]); exact nI_pos (by omega)), (by (try simp only [z_lit, nI_add, pk_mul]); exact nI_pos (by omega)), (by (try simp only [z_lit, nI_add, pk_mul]); exact nI_pos (by omega)), (by (try simp (disch := omega) only [z_lit, nI_clamp, nI_add, pk_mul]); exact (show _ ≤ (48 : Nat) by omega)), (by (try simp (disch := omega) only [z_lit, nI_clamp, nI_add, pk_mul]); exact (show _ ≤ (48 : Nat) by omega))⟩ ?_
  conv => whnf
  refine And.intro ⟨(by (try simp only [z_lit, nI_add, pk_mul]); exact nI_pos (by omega)), (by (try simp only [z_lit, nI_add, pk_mul]); exact nI_pos (by omega)), (by (try simp only [z_lit, nI_add, pk_mul]); exact nI_pos (by omega)), (by (try simp (disch := omega) only [z_lit, nI_clamp, nI_add, pk_mul]); exact (show _ ≤ (48 : Nat) by omega)), (by (try simp (disch := omega) only [z_lit, nI_clamp, nI_add, pk_mul]); exact (show _ ≤ (48 : Nat) by omega))⟩ ?_
  conv => whnf
  rw [show ((z_X0 L xs).fst 9).snd = 45 from rfl]
  refine And.intro ⟨(by (try simp only [z_lit, nI_add, pk_mul]); exact nI_pos (by omega)), (by (try simp only [z_lit, nI_add, pk_mul]); exact nI_pos (by omega)), (by (try simp only [z_lit, nI_add, pk_mul]); exact nI_pos (by omega)), (by (try simp (disch := omega) only [z_lit, nI_clamp, nI_add, pk_mul]); exact (show _ ≤ (45 : Nat) by omega)), (by (try simp (disch := omega) only [z_lit, nI_clamp, nI_add, pk_mul]); exact (show _ ≤ (45 : Nat) by omega))⟩ ?_
  conv => whnf
  unfold z_cpy
  simp (disch := omega) only [z_lit, nI_add, pk_mul, z_pr1, z_pr2, nI_clamp, z_up_row, z_row_s, z_row_n, z_row_row, pk_us, pk_un]
  exact hQ
theorem cy_ring_14_1_78 (hQ : Q none (z_row (z_row I 15 (va_cpy (I 92) (I 15) 0 0 256)) 14 (upd (upd (I 14) 3 (I 91 3)) 4 (I 91 4))) (z_R0 kp sp wd) J F cn) : z_M (z_X0 L xs) z_P0 d m_Ring_copyFrom [.ref 14, .ref 91] I (z_R0 kp sp wd) J F cn Q := by
  refine z_WP_gos [] 1000 fun K C hK hC => ?_
  conv => whnf
  rw [show ((z_X0 L xs).fst 15).snd = 256 from rfl]
  refine And.intro ⟨(by (try simp only [z_lit, nI_add, pk_mul]); exact nI_pos (by omega)), (by (try simp only [z_lit, nI_add, pk_mul]); exact nI_pos (by omega)), (by (try simp only [z_lit, nI_add, pk_mul]); exact nI_pos (by omega)), (by (try simp (disch := omega) only [z_lit, nI_clamp, nI_add, pk_mul]); exact (show _ ≤ (256 : Nat) by omega)), (by (try simp (disch := omega) only [z_lit, nI_clamp, nI_add, pk_mul]); exact (show _ ≤ (256 : Nat) by omega))⟩ ?_
  conv => whnf
  unfold z_cpy
  simp (disch := omega) only [z_lit, nI_add, pk_mul, z_pr1, z_pr2, nI_clamp, z_up_row, z_row_s, z_row_n, z_row_row, pk_us, pk_un]
  exact hQ
theorem cy_ring_16_1_78 (hQ : Q none (z_row (z_row I 17 (va_cpy (I 94) (I 17) 0 0 40)) 16 (upd (upd (I 16) 3 (I 93 3)) 4 (I 93 4))) (z_R0 kp sp wd) J F cn) : z_M (z_X0 L xs) z_P0 d m_Ring_copyFrom [.ref 16, .ref 93] I (z_R0 kp sp wd) J F cn Q := by
  refine z_WP_gos [] 1000 fun K C hK hC => ?_
  conv => whnf
  rw [show ((z_X0 L xs).fst 17).snd = 40 from rfl]
  refine And.intro ⟨(by (try simp only [z_lit, nI_add, pk_mul]); exact nI_pos (by omega)), (by (try simp only [z_lit, nI_add, pk_mul]); exact nI_pos (by omega)), (by (try simp only [z_lit, nI_add, pk_mul]); exact nI_pos (by omega)), (by (try simp (disch := omega) only [z_lit, nI_clamp, nI_add, pk_mul]); exact (show _ ≤ (40 : Nat) by omega)), (by (try simp (disch := omega) only [z_lit, nI_clamp, nI_add, pk_mul]); exact (show _ ≤ (40 : Nat) by omega))⟩ ?_
  conv => whnf
  unfold z_cpy
  simp (disch := omega) only [z_lit, nI_add, pk_mul, z_pr1, z_pr2, nI_clamp, z_up_row, z_row_s, z_row_n, z_row_row, pk_us, pk_un]
  exact hQ
theorem cy_ring_27_1_78 (hQ : Q none (z_row (z_row I 28 (va_cpy (I 105) (I 28) 0 0 300)) 27 (upd (upd (I 27) 3 (I 104 3)) 4 (I 104 4))) (z_R0 kp sp wd) J F cn) : z_M (z_X0 L xs) z_P0 d m_Ring_copyFrom [.ref 27, .ref 104] I (z_R0 kp sp wd) J F cn Q := by
  refine z_WP_gos [] 1000 fun K C hK hC => ?_
  conv => whnf
  rw [show ((z_X0 L xs).fst 28).snd = 300 from rfl]
  refine And.intro ⟨(by (try simp only [z_lit, nI_add, pk_mul]); exact nI_pos (by omega)), (by (try simp only [z_lit, nI_add, pk_mul]); exact nI_pos (by omega)), (by (try simp only [z_lit, nI_add, pk_mul]); exact nI_pos (by omega)), (by (try simp (disch := omega) only [z_lit, nI_clamp, nI_add, pk_mul]); exact (show _ ≤ (300 : Nat) by omega)), (by (try simp (disch := omega) only [z_lit, nI_clamp, nI_add, pk_mul]); exact (show _ ≤ (300 : Nat) by omega))⟩ ?_
  conv => whnf
  unfold z_cpy
  simp (disch := omega) only [z_lit, nI_add, pk_mul, z_pr1, z_pr2, nI_clamp, z_up_row, z_row_s, z_row_n, z_row_row, pk_us, pk_un]
  exact hQ
theorem cy_units_1_78 (hQ : Q none (z_row (z_row (z_row (z_row (z_row (z_row I 3 (va_cpy (I 80) (I 3) 0 0 162)) 4 (va_cpy (I 81) (I 4) 0 0 1200)) 5 (va_cpy (I 82) (I 5) 0 0 48)) 6 (va_cpy (I 83) (I 6) 0 0 48)) 7 (va_cpy (I 84) (I 7) 0 0 48)) 9 (va_cpy (I 86) (I 9) 0 0 45)) (z_R0 kp sp wd) J (z_row F 8 (va_cpy (F 85) (F 8) 0 0 48)) cn) : z_M (z_X0 L xs) z_P0 d m_Units_copyFrom [.ref 2, .ref 79] I (z_R0 kp sp wd) J F cn Q := by
  refine z_WP_gos [] 1000 fun K C hK hC => ?_
  conv => whnf
  rw [show ((z_X0 L xs).fst 3).snd = 162 from rfl]
  refine And.intro ⟨(by (try simp only [z_lit, nI_add, pk_mul]); exact nI_pos (by omega)), (by (try simp only [z_lit, nI_add, pk_mul]); exact nI_pos (by omega)), (by (try simp only [z_lit, nI_add, pk_mul]); exact nI_pos (by omega)), (by (try simp (disch := omega) only [z_lit, nI_clamp, nI_add, pk_mul]); exact (show _ ≤ (162 : Nat) by omega)), (by (try simp (disch := omega) only [z_lit, nI_clamp, nI_add, pk_mul]); exact (show _ ≤ (162 : Nat) by omega))⟩ ?_
  conv => whnf
  rw [show ((z_X0 L xs).fst 4).snd = 1200 from rfl]
  refine And.intro ⟨(by (try simp only [z_lit, nI_add, pk_mul]); exact nI_pos (by omega)), (by (try simp only [z_lit, nI_add, pk_mul]); exact nI_pos (by omega)), (by (try simp only [z_lit, nI_add, pk_mul]); exact nI_pos (by omega)), (by (try simp (disch := omega) only [z_lit, nI_clamp, nI_add, pk_mul]); exact (show _ ≤ (1200 : Nat) by omega)), (by (try simp (disch := omega) only [z_lit, nI_clamp, nI_add, pk_mul]); exact (show _ ≤ (1200 : Nat) by omega))⟩ ?_
  conv => whnf
  refine And.intro ⟨(by (try simp only [z_lit, nI_add, pk_mul]); exact nI_pos (by omega)), (by (try simp only [z_lit, nI_add, pk_mul]); exact nI_pos (by omega)), (by (try simp only [z_lit, nI_add, pk_mul]); exact nI_pos (by omega)), (by (try simp (disch := omega) only [z_lit, nI_clamp, nI_add, pk_mul]); exact (show _ ≤ (48 : Nat) by omega)), (by (try simp (disch := omega) only [z_lit, nI_clamp, nI_add, pk_mul]); exact (show _ ≤ (48 : Nat) by omega))⟩ ?_
  conv => whnf
  refine And.intro ⟨(by (try simp only [z_lit, nI_add, pk_mul]); exact nI_pos (by omega)), (by (try simp only [z_lit, nI_add, pk_mul]); exact nI_pos (by omega)), (by (try simp only [z_lit, nI_add, pk_mul]); exact nI_pos (by omega)), (by (try simp (disch := omega) only [z_lit, nI_clamp, nI_add, pk_mul]); exact (show _ ≤ (48 : Nat) by omega)), (by (try simp (disch := omega) only [z_lit, nI_clamp, nI_add, pk_mul]); exact (show _ ≤ (48 : Nat) by omega))⟩ ?_
  conv => whnf
  refine And.intro ⟨(by (try simp only [z_lit, nI_add, pk_mul]); exact nI_pos (by omega)), (by (try simp only [z_lit, nI_add, pk_mul]); exact nI_pos (by omega)), (by (try simp only [z_lit, nI_add, pk_mul]); exact nI_pos (by omega)), (by (try simp (disch := omega) only [z_lit, nI_clamp, nI_add, pk_mul]); exact (show _ ≤ (48 : Nat) by omega)), (by (try simp (disch := omega) only [z_lit, nI_clamp, nI_add, pk_mul]); exact (show _ ≤ (48 : Nat) by omega))⟩ ?_
  conv => whnf
  refine And.intro ⟨(by (try simp only [z_lit, nI_add, pk_mul]); exact nI_pos (by omega)), (by (try simp only [z_lit, nI_add, pk_mul]); exact nI_pos (by omega)), (by (try simp only [z_lit, nI_add, pk_mul]); exact nI_pos (by omega)), (by (try simp (disch := omega) only [z_lit, nI_clamp, nI_add, pk_mul]); exact (show _ ≤ (48 : Nat) by omega)), (by (try simp (disch := omega) only [z_lit, nI_clamp, nI_add, pk_mul]); exact (show _ ≤ (48 : Nat) by omega))⟩ ?_
  conv => whnf
  rw [show ((z_X0 L xs).fst 9).snd = 45 from rfl]
  refine And.intro ⟨(by (try simp only [z_lit, nI_add, pk_mul]); exact nI_pos (by omega)), (by (try simp only [z_lit, nI_add, pk_mul]); exact nI_pos (by omega)), (by (try simp only [z_lit, nI_add, pk_mul]); exact nI_pos (by omega)), (by (try simp (disch := omega) only [z_lit, nI_clamp, nI_add, pk_mul]); exact (show _ ≤ (45 : Nat) by omega)), (by (try simp (disch := omega) only [z_lit, nI_clamp, nI_add, pk_mul]); exact (show _ ≤ (45 : Nat) by omega))⟩ ?_
  conv => whnf
  unfold z_cpy
  simp (disch := omega) only [z_lit, nI_add, pk_mul, z_pr1, z_pr2, nI_clamp, z_up_row, z_row_s, z_row_n, z_row_row, pk_us, pk_un]
  exact hQ
end
