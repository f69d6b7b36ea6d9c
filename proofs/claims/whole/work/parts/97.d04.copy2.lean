/-! the class: a world copied from another, whole -/
/-- what is copied of a world: row and place -/
def cel (q j : Nat) : Prop := (q = 1 ∧ (5 ≤ j ∧ j ≤ 11)) ∨ (q = 3 ∧ (j < 162)) ∨ (q = 4 ∧ (j < 1200)) ∨ (q = 5 ∧ (j < 48)) ∨ (q = 6 ∧ (j < 48)) ∨ (q = 7 ∧ (j < 48)) ∨ (q = 9 ∧ (j < 45)) ∨ (q = 10 ∧ (j = 5)) ∨ (q = 11 ∧ (j < 12)) ∨ (q = 12 ∧ (j < 16)) ∨ (q = 13 ∧ (j < 2)) ∨ (q = 14 ∧ (j = 3 ∨ j = 4)) ∨ (q = 15 ∧ (j < 256)) ∨ (q = 16 ∧ (j = 3 ∨ j = 4)) ∨ (q = 17 ∧ (j < 40)) ∨ (q = 18 ∧ (j = 5)) ∨ (q = 19 ∧ (j < 264)) ∨ (q = 20 ∧ (j < 192)) ∨ (q = 21 ∧ (j < 24)) ∨ (q = 22 ∧ (j < 24)) ∨ (q = 23 ∧ (j < 8)) ∨ (q = 25 ∧ (j = 1)) ∨ (q = 26 ∧ (j < 96)) ∨ (q = 27 ∧ (j = 3 ∨ j = 4)) ∨ (q = 28 ∧ (j < 300))
theorem cel_all {P : Nat → Nat → Prop} (h1 : ∀ j, (5 ≤ j ∧ j ≤ 11) → P 1 j) (h3 : ∀ j, (j < 162) → P 3 j) (h4 : ∀ j, (j < 1200) → P 4 j) (h5 : ∀ j, (j < 48) → P 5 j) (h6 : ∀ j, (j < 48) → P 6 j) (h7 : ∀ j, (j < 48) → P 7 j) (h9 : ∀ j, (j < 45) → P 9 j) (h10 : ∀ j, (j = 5) → P 10 j) (h11 : ∀ j, (j < 12) → P 11 j) (h12 : ∀ j, (j < 16) → P 12 j) (h13 : ∀ j, (j < 2) → P 13 j) (h14 : ∀ j, (j = 3 ∨ j = 4) → P 14 j) (h15 : ∀ j, (j < 256) → P 15 j) (h16 : ∀ j, (j = 3 ∨ j = 4) → P 16 j) (h17 : ∀ j, (j < 40) → P 17 j) (h18 : ∀ j, (j = 5) → P 18 j) (h19 : ∀ j, (j < 264) → P 19 j) (h20 : ∀ j, (j < 192) → P 20 j) (h21 : ∀ j, (j < 24) → P 21 j) (h22 : ∀ j, (j < 24) → P 22 j) (h23 : ∀ j, (j < 8) → P 23 j) (h25 : ∀ j, (j = 1) → P 25 j) (h26 : ∀ j, (j < 96) → P 26 j) (h27 : ∀ j, (j = 3 ∨ j = 4) → P 27 j) (h28 : ∀ j, (j < 300) → P 28 j) : ∀ q j, cel q j → P q j := by
  intro q j h
  rcases h with ⟨rfl, h⟩ | ⟨rfl, h⟩ | ⟨rfl, h⟩ | ⟨rfl, h⟩ | ⟨rfl, h⟩ | ⟨rfl, h⟩ | ⟨rfl, h⟩ | ⟨rfl, h⟩ | ⟨rfl, h⟩ | ⟨rfl, h⟩ | ⟨rfl, h⟩ | ⟨rfl, h⟩ | ⟨rfl, h⟩ | ⟨rfl, h⟩ | ⟨rfl, h⟩ | ⟨rfl, h⟩ | ⟨rfl, h⟩ | ⟨rfl, h⟩ | ⟨rfl, h⟩ | ⟨rfl, h⟩ | ⟨rfl, h⟩ | ⟨rfl, h⟩ | ⟨rfl, h⟩ | ⟨rfl, h⟩ | ⟨rfl, h⟩
  · exact h1 j h
  · exact h3 j h
  · exact h4 j h
  · exact h5 j h
  · exact h6 j h
  · exact h7 j h
  · exact h9 j h
  · exact h10 j h
  · exact h11 j h
  · exact h12 j h
  · exact h13 j h
  · exact h14 j h
  · exact h15 j h
  · exact h16 j h
  · exact h17 j h
  · exact h18 j h
  · exact h19 j h
  · exact h20 j h
  · exact h21 j h
  · exact h22 j h
  · exact h23 j h
  · exact h25 j h
  · exact h26 j h
  · exact h27 j h
  · exact h28 j h
theorem cpy0 {α : Type} {f g : Nat → α} {n j : Nat} (h : j < n) : va_cpy f g 0 0 n j = f j := by
  rw [pk_cpy_in (by omega) (by omega)]
  congr 1; omega
section
variable {L : Nat} {xs : Nat → Int32} {d : Nat} {kp sp wd : Value} {I : z_I} {s : z_sg} {R : z_R} {J : z_J} {F : z_F} {cn : Nat} {Q : z_Q}
theorem cy_wires_50_1 (hQ : Q none (z_row (z_row (z_row (z_row (z_row (z_row (z_row (z_row I 60 (va_cpy (I 11) (I 60) 0 0 12)) 61 (va_cpy (I 12) (I 61) 0 0 16)) 62 (va_cpy (I 13) (I 62) 0 0 2)) 64 (va_cpy (I 15) (I 64) 0 0 256)) 63 (upd (upd (I 63) 3 (I 14 3)) 4 (I 14 4))) 66 (va_cpy (I 17) (I 66) 0 0 40)) 65 (upd (upd (I 65) 3 (I 16 3)) 4 (I 16 4))) 59 (upd (I 59) 5 (I 10 5))) (z_R0 kp sp wd) J F cn) : z_M (z_X0 L xs) z_P0 (d + 1) m_Wires_copyFrom [.ref 59, .ref 10] I (z_R0 kp sp wd) J F cn Q := by
  refine z_WP_gos [] 1000 fun K C hK hC => ?_
  conv => whnf
  rw [show ((z_X0 L xs).fst 60).snd = 12 from rfl]
  refine And.intro ⟨(by (try simp only [z_lit, nI_add, pk_mul]); exact nI_pos (by omega)), (by (try simp only [z_lit, nI_add, pk_mul]); exact nI_pos (by omega)), (by (try simp only [z_lit, nI_add, pk_mul]); exact nI_pos (by omega)), (by (try simp (disch := omega) only [z_lit, nI_clamp, nI_add, pk_mul]); exact (show _ ≤ (12 : Nat) by omega)), (by (try simp (disch := omega) only [z_lit, nI_clamp, nI_add, pk_mul]); exact (show _ ≤ (12 : Nat) by omega))⟩ ?_
  conv => whnf
  rw [show ((z_X0 L xs).fst 61).snd = 16 from rfl]
  refine And.intro ⟨(by (try simp only [z_lit, nI_add, pk_mul]); exact nI_pos (by omega)), (by (try simp only [z_lit, nI_add, pk_mul]); exact nI_pos (by omega)), (by (try simp only [z_lit, nI_add, pk_mul]); exact nI_pos (by omega)), (by (try simp (disch := omega) only [z_lit, nI_clamp, nI_add, pk_mul]); exact (show _ ≤ (16 : Nat) by omega)), (by (try simp (disch := omega) only [z_lit, nI_clamp, nI_add, pk_mul]); exact (show _ ≤ (16 : Nat) by omega))⟩ ?_
  conv => whnf
  rw [show ((z_X0 L xs).fst 62).snd = 2 from rfl]
  refine And.intro ⟨(by (try simp only [z_lit, nI_add, pk_mul]); exact nI_pos (by omega)), (by (try simp only [z_lit, nI_add, pk_mul]); exact nI_pos (by omega)), (by (try simp only [z_lit, nI_add, pk_mul]); exact nI_pos (by omega)), (by (try simp (disch := omega) only [z_lit, nI_clamp, nI_add, pk_mul]); exact (show _ ≤ (2 : Nat) by omega)), (by (try simp (disch := omega) only [z_lit, nI_clamp, nI_add, pk_mul]); exact (show _ ≤ (2 : Nat) by omega))⟩ ?_
  conv => whnf
  unfold z_cpy
  refine hC _ _ _ _ _ _ _ _ _ _ (fun _ _ _ _ _ _ q => q) (cy_ring_14_50_1 ?_)
  conv => whnf
  simp (disch := omega) only [z_lit, nI_add, pk_mul, z_pr1, z_pr2, nI_clamp, z_up_row, z_row_s, z_row_n, z_row_row, pk_us, pk_un]
  refine hC _ _ _ _ _ _ _ _ _ _ (fun _ _ _ _ _ _ q => q) (cy_ring_16_50_1 ?_)
  conv => whnf
  simp (disch := omega) only [z_lit, nI_add, pk_mul, z_pr1, z_pr2, nI_clamp, z_up_row, z_row_s, z_row_n, z_row_row, pk_us, pk_un]
  exact hQ
theorem cy_plan_50_1 (hQ : Q none (z_row (z_row (z_row (z_row (z_row (z_row I 68 (va_cpy (I 19) (I 68) 0 0 264)) 69 (va_cpy (I 20) (I 69) 0 0 192)) 70 (va_cpy (I 21) (I 70) 0 0 24)) 71 (va_cpy (I 22) (I 71) 0 0 24)) 72 (va_cpy (I 23) (I 72) 0 0 8)) 67 (upd (I 67) 5 (I 18 5))) (z_R0 kp sp wd) J F cn) : z_M (z_X0 L xs) z_P0 d m_Plan_copyFrom [.ref 67, .ref 18] I (z_R0 kp sp wd) J F cn Q := by
  refine z_WP_gos [] 1000 fun K C hK hC => ?_
  conv => whnf
  rw [show ((z_X0 L xs).fst 68).snd = 264 from rfl]
  refine And.intro ⟨(by (try simp only [z_lit, nI_add, pk_mul]); exact nI_pos (by omega)), (by (try simp only [z_lit, nI_add, pk_mul]); exact nI_pos (by omega)), (by (try simp only [z_lit, nI_add, pk_mul]); exact nI_pos (by omega)), (by (try simp (disch := omega) only [z_lit, nI_clamp, nI_add, pk_mul]); exact (show _ ≤ (264 : Nat) by omega)), (by (try simp (disch := omega) only [z_lit, nI_clamp, nI_add, pk_mul]); exact (show _ ≤ (264 : Nat) by omega))⟩ ?_
  conv => whnf
  rw [show ((z_X0 L xs).fst 69).snd = 192 from rfl]
  refine And.intro ⟨(by (try simp only [z_lit, nI_add, pk_mul]); exact nI_pos (by omega)), (by (try simp only [z_lit, nI_add, pk_mul]); exact nI_pos (by omega)), (by (try simp only [z_lit, nI_add, pk_mul]); exact nI_pos (by omega)), (by (try simp (disch := omega) only [z_lit, nI_clamp, nI_add, pk_mul]); exact (show _ ≤ (192 : Nat) by omega)), (by (try simp (disch := omega) only [z_lit, nI_clamp, nI_add, pk_mul]); exact (show _ ≤ (192 : Nat) by omega))⟩ ?_
  conv => whnf
  refine And.intro ⟨(by (try simp only [z_lit, nI_add, pk_mul]); exact nI_pos (by omega)), (by (try simp only [z_lit, nI_add, pk_mul]); exact nI_pos (by omega)), (by (try simp only [z_lit, nI_add, pk_mul]); exact nI_pos (by omega)), (by (try simp (disch := omega) only [z_lit, nI_clamp, nI_add, pk_mul]); exact (show _ ≤ (24 : Nat) by omega)), (by (try simp (disch := omega) only [z_lit, nI_clamp, nI_add, pk_mul]); exact (show _ ≤ (24 : Nat) by omega))⟩ ?_
  conv => whnf
  refine And.intro ⟨(by (try simp only [z_lit, nI_add, pk_mul]); exact nI_pos (by omega)), (by (try simp only [z_lit, nI_add, pk_mul]); exact nI_pos (by omega)), (by (try simp only [z_lit, nI_add, pk_mul]); exact nI_pos (by omega)), (by (try simp (disch := omega) only [z_lit, nI_clamp, nI_add, pk_mul]); exact (show _ ≤ (24 : Nat) by omega)), (by (try simp (disch := omega) only [z_lit, nI_clamp, nI_add, pk_mul]); exact (show _ ≤ (24 : Nat) by omega))⟩ ?_
  conv => whnf
  refine And.intro ⟨(by (try simp only [z_lit, nI_add, pk_mul]); exact nI_pos (by omega)), (by (try simp only [z_lit, nI_add, pk_mul]); exact nI_pos (by omega)), (by (try simp only [z_lit, nI_add, pk_mul]); exact nI_pos (by omega)), (by (try simp (disch := omega) only [z_lit, nI_clamp, nI_add, pk_mul]); exact (show _ ≤ (8 : Nat) by omega)), (by (try simp (disch := omega) only [z_lit, nI_clamp, nI_add, pk_mul]); exact (show _ ≤ (8 : Nat) by omega))⟩ ?_
  conv => whnf
  unfold z_cpy
  simp (disch := omega) only [z_lit, nI_add, pk_mul, z_pr1, z_pr2, nI_clamp, z_up_row, z_row_s, z_row_n, z_row_row, pk_us, pk_un]
  exact hQ
theorem cy_script_50_1 (hQ : Q none (z_row (z_row I 75 (va_cpy (I 26) (I 75) 0 0 96)) 74 (upd (I 74) 1 (I 25 1))) (z_R0 kp sp wd) J F cn) : z_M (z_X0 L xs) z_P0 d m_Script_copyFrom [.ref 74, .ref 25] I (z_R0 kp sp wd) J F cn Q := by
  refine z_WP_gos [] 1000 fun K C hK hC => ?_
  conv => whnf
  rw [show ((z_X0 L xs).fst 75).snd = 96 from rfl]
  refine And.intro ⟨(by (try simp only [z_lit, nI_add, pk_mul]); exact nI_pos (by omega)), (by (try simp only [z_lit, nI_add, pk_mul]); exact nI_pos (by omega)), (by (try simp only [z_lit, nI_add, pk_mul]); exact nI_pos (by omega)), (by (try simp (disch := omega) only [z_lit, nI_clamp, nI_add, pk_mul]); exact (show _ ≤ (96 : Nat) by omega)), (by (try simp (disch := omega) only [z_lit, nI_clamp, nI_add, pk_mul]); exact (show _ ≤ (96 : Nat) by omega))⟩ ?_
  conv => whnf
  unfold z_cpy
  simp (disch := omega) only [z_lit, nI_add, pk_mul, z_pr1, z_pr2, nI_clamp, z_up_row, z_row_s, z_row_n, z_row_row, pk_us, pk_un]
  exact hQ
theorem cy_world_50_1 (hQ : ∀ (I' : z_I) (F' : z_F), (∀ q j, cel q j → I' (49 + q) j = I (0 + q) j) → (∀ b, b < 50 ∨ 77 < b → I' b = I b) → (∀ j, j < 48 → F' 57 j = F 8 j) → (∀ b, b ≠ 57 → F' b = F b) → Q none I' (z_R0 kp sp wd) J F' cn) : z_M (z_X0 L xs) z_P0 (d + 2) m_World_copyFrom [.ref 50, .ref 1] I (z_R0 kp sp wd) J F cn Q := by
  have q := hQ (z_row (z_row (z_row (z_row (z_row (z_row (z_row (z_row (z_row (z_row (z_row (z_row (z_row (z_row (z_row (z_row (z_row (z_row (z_row (z_row (z_row (z_row (z_row (z_row (z_row I 52 (va_cpy (I 3) (I 52) 0 0 162)) 53 (va_cpy (I 4) (I 53) 0 0 1200)) 54 (va_cpy (I 5) (I 54) 0 0 48)) 55 (va_cpy (I 6) (I 55) 0 0 48)) 56 (va_cpy (I 7) (I 56) 0 0 48)) 58 (va_cpy (I 9) (I 58) 0 0 45)) 60 (va_cpy (I 11) (I 60) 0 0 12)) 61 (va_cpy (I 12) (I 61) 0 0 16)) 62 (va_cpy (I 13) (I 62) 0 0 2)) 64 (va_cpy (I 15) (I 64) 0 0 256)) 63 (upd (upd (I 63) 3 (I 14 3)) 4 (I 14 4))) 66 (va_cpy (I 17) (I 66) 0 0 40)) 65 (upd (upd (I 65) 3 (I 16 3)) 4 (I 16 4))) 59 (upd (I 59) 5 (I 10 5))) 68 (va_cpy (I 19) (I 68) 0 0 264)) 69 (va_cpy (I 20) (I 69) 0 0 192)) 70 (va_cpy (I 21) (I 70) 0 0 24)) 71 (va_cpy (I 22) (I 71) 0 0 24)) 72 (va_cpy (I 23) (I 72) 0 0 8)) 67 (upd (I 67) 5 (I 18 5))) 75 (va_cpy (I 26) (I 75) 0 0 96)) 74 (upd (I 74) 1 (I 25 1))) 77 (va_cpy (I 28) (I 77) 0 0 300)) 76 (upd (upd (I 76) 3 (I 27 3)) 4 (I 27 4))) 50 (upd (upd (upd (upd (upd (upd (upd (I 50) 5 (I 1 5)) 6 (I 1 6)) 7 (I 1 7)) 8 (I 1 8)) 9 (I 1 9)) 10 (I 1 10)) 11 (I 1 11))) (z_row F 57 (va_cpy (F 8) (F 57) 0 0 48)) ?_ ?_ ?_ ?_
  · refine z_WP_gos [] 1000 fun K C hK hC => ?_
    conv => whnf
    refine hC _ _ _ _ _ _ _ _ _ _ (fun _ _ _ _ _ _ q => q) (cy_units_50_1 ?_)
    conv => whnf
    refine hC _ _ _ _ _ _ _ _ _ _ (fun _ _ _ _ _ _ q => q) (cy_wires_50_1 ?_)
    conv => whnf
    simp (disch := omega) only [z_lit, nI_add, pk_mul, z_pr1, z_pr2, nI_clamp, z_up_row, z_row_s, z_row_n, z_row_row, pk_us, pk_un]
    refine hC _ _ _ _ _ _ _ _ _ _ (fun _ _ _ _ _ _ q => q) (cy_plan_50_1 ?_)
    conv => whnf
    simp (disch := omega) only [z_lit, nI_add, pk_mul, z_pr1, z_pr2, nI_clamp, z_up_row, z_row_s, z_row_n, z_row_row, pk_us, pk_un]
    refine hC _ _ _ _ _ _ _ _ _ _ (fun _ _ _ _ _ _ q => q) (cy_script_50_1 ?_)
    conv => whnf
    simp (disch := omega) only [z_lit, nI_add, pk_mul, z_pr1, z_pr2, nI_clamp, z_up_row, z_row_s, z_row_n, z_row_row, pk_us, pk_un]
    refine hC _ _ _ _ _ _ _ _ _ _ (fun _ _ _ _ _ _ q => q) (cy_ring_27_50_1 ?_)
    conv => whnf
    simp (disch := omega) only [z_lit, nI_add, pk_mul, z_pr1, z_pr2, nI_clamp, z_up_row, z_row_s, z_row_n, z_row_row, pk_us, pk_un]
    exact q
  · clear hQ
    refine cel_all ?_ ?_ ?_ ?_ ?_ ?_ ?_ ?_ ?_ ?_ ?_ ?_ ?_ ?_ ?_ ?_ ?_ ?_ ?_ ?_ ?_ ?_ ?_ ?_ ?_
    · intro j h
      have : j = 5 ∨ j = 6 ∨ j = 7 ∨ j = 8 ∨ j = 9 ∨ j = 10 ∨ j = 11 := by omega
      rcases this with rfl | rfl | rfl | rfl | rfl | rfl | rfl <;> rfl
    · intro j h; show va_cpy (I 3) (I 52) 0 0 162 j = I 3 j; exact cpy0 h
    · intro j h; show va_cpy (I 4) (I 53) 0 0 1200 j = I 4 j; exact cpy0 h
    · intro j h; show va_cpy (I 5) (I 54) 0 0 48 j = I 5 j; exact cpy0 h
    · intro j h; show va_cpy (I 6) (I 55) 0 0 48 j = I 6 j; exact cpy0 h
    · intro j h; show va_cpy (I 7) (I 56) 0 0 48 j = I 7 j; exact cpy0 h
    · intro j h; show va_cpy (I 9) (I 58) 0 0 45 j = I 9 j; exact cpy0 h
    · intro j h; subst h; rfl
    · intro j h; show va_cpy (I 11) (I 60) 0 0 12 j = I 11 j; exact cpy0 h
    · intro j h; show va_cpy (I 12) (I 61) 0 0 16 j = I 12 j; exact cpy0 h
    · intro j h; show va_cpy (I 13) (I 62) 0 0 2 j = I 13 j; exact cpy0 h
    · intro j h; rcases h with rfl | rfl <;> rfl
    · intro j h; show va_cpy (I 15) (I 64) 0 0 256 j = I 15 j; exact cpy0 h
    · intro j h; rcases h with rfl | rfl <;> rfl
    · intro j h; show va_cpy (I 17) (I 66) 0 0 40 j = I 17 j; exact cpy0 h
    · intro j h; subst h; rfl
    · intro j h; show va_cpy (I 19) (I 68) 0 0 264 j = I 19 j; exact cpy0 h
    · intro j h; show va_cpy (I 20) (I 69) 0 0 192 j = I 20 j; exact cpy0 h
    · intro j h; show va_cpy (I 21) (I 70) 0 0 24 j = I 21 j; exact cpy0 h
    · intro j h; show va_cpy (I 22) (I 71) 0 0 24 j = I 22 j; exact cpy0 h
    · intro j h; show va_cpy (I 23) (I 72) 0 0 8 j = I 23 j; exact cpy0 h
    · intro j h; subst h; rfl
    · intro j h; show va_cpy (I 26) (I 75) 0 0 96 j = I 26 j; exact cpy0 h
    · intro j h; rcases h with rfl | rfl <;> rfl
    · intro j h; show va_cpy (I 28) (I 77) 0 0 300 j = I 28 j; exact cpy0 h
  · intro b hb
    clear hQ
    repeat rw [z_row_n _ _ (by omega)]
  · intro j h; rw [z_row_s]; exact cpy0 h
  · intro b hb; exact z_row_n _ _ hb
theorem cy_wires_78_1 (hQ : Q none (z_row (z_row (z_row (z_row (z_row (z_row (z_row (z_row I 88 (va_cpy (I 11) (I 88) 0 0 12)) 89 (va_cpy (I 12) (I 89) 0 0 16)) 90 (va_cpy (I 13) (I 90) 0 0 2)) 92 (va_cpy (I 15) (I 92) 0 0 256)) 91 (upd (upd (I 91) 3 (I 14 3)) 4 (I 14 4))) 94 (va_cpy (I 17) (I 94) 0 0 40)) 93 (upd (upd (I 93) 3 (I 16 3)) 4 (I 16 4))) 87 (upd (I 87) 5 (I 10 5))) (z_R0 kp sp wd) J F cn) : z_M (z_X0 L xs) z_P0 (d + 1) m_Wires_copyFrom [.ref 87, .ref 10] I (z_R0 kp sp wd) J F cn Q := by
  refine z_WP_gos [] 1000 fun K C hK hC => ?_
  conv => whnf
  rw [show ((z_X0 L xs).fst 88).snd = 12 from rfl]
  refine And.intro ⟨(by (try simp only [z_lit, nI_add, pk_mul]); exact nI_pos (by omega)), (by (try simp only [z_lit, nI_add, pk_mul]); exact nI_pos (by omega)), (by (try simp only [z_lit, nI_add, pk_mul]); exact nI_pos (by omega)), (by (try simp (disch := omega) only [z_lit, nI_clamp, nI_add, pk_mul]); exact (show _ ≤ (12 : Nat) by omega)), (by (try simp (disch := omega) only [z_lit, nI_clamp, nI_add, pk_mul]); exact (show _ ≤ (12 : Nat) by omega))⟩ ?_
  conv => whnf
  rw [show ((z_X0 L xs).fst 89).snd = 16 from rfl]
  refine And.intro ⟨(by (try simp only [z_lit, nI_add, pk_mul]); exact nI_pos (by omega)), (by (try simp only [z_lit, nI_add, pk_mul]); exact nI_pos (by omega)), (by (try simp only [z_lit, nI_add, pk_mul]); exact nI_pos (by omega)), (by (try simp (disch := omega) only [z_lit, nI_clamp, nI_add, pk_mul]); exact (show _ ≤ (16 : Nat) by omega)), (by (try simp (disch := omega) only [z_lit, nI_clamp, nI_add, pk_mul]); exact (show _ ≤ (16 : Nat) by omega))⟩ ?_
  conv => whnf
  rw [show ((z_X0 L xs).fst 90).snd = 2 from rfl]
  refine And.intro ⟨(by (try simp only [z_lit, nI_add, pk_mul]); exact nI_pos (by omega)), (by (try simp only [z_lit, nI_add, pk_mul]); exact nI_pos (by omega)), (by (try simp only [z_lit, nI_add, pk_mul]); exact nI_pos (by omega)), (by (try simp (disch := omega) only [z_lit, nI_clamp, nI_add, pk_mul]); exact (show _ ≤ (2 : Nat) by omega)), (by (try simp (disch := omega) only [z_lit, nI_clamp, nI_add, pk_mul]); exact (show _ ≤ (2 : Nat) by omega))⟩ ?_
  conv => whnf
  unfold z_cpy
  refine hC _ _ _ _ _ _ _ _ _ _ (fun _ _ _ _ _ _ q => q) (cy_ring_14_78_1 ?_)
  conv => whnf
  simp (disch := omega) only [z_lit, nI_add, pk_mul, z_pr1, z_pr2, nI_clamp, z_up_row, z_row_s, z_row_n, z_row_row, pk_us, pk_un]
  refine hC _ _ _ _ _ _ _ _ _ _ (fun _ _ _ _ _ _ q => q) (cy_ring_16_78_1 ?_)
  conv => whnf
  simp (disch := omega) only [z_lit, nI_add, pk_mul, z_pr1, z_pr2, nI_clamp, z_up_row, z_row_s, z_row_n, z_row_row, pk_us, pk_un]
  exact hQ
theorem cy_plan_78_1 (hQ : Q none (z_row (z_row (z_row (z_row (z_row (z_row I 96 (va_cpy (I 19) (I 96) 0 0 264)) 97 (va_cpy (I 20) (I 97) 0 0 192)) 98 (va_cpy (I 21) (I 98) 0 0 24)) 99 (va_cpy (I 22) (I 99) 0 0 24)) 100 (va_cpy (I 23) (I 100) 0 0 8)) 95 (upd (I 95) 5 (I 18 5))) (z_R0 kp sp wd) J F cn) : z_M (z_X0 L xs) z_P0 d m_Plan_copyFrom [.ref 95, .ref 18] I (z_R0 kp sp wd) J F cn Q := by
  refine z_WP_gos [] 1000 fun K C hK hC => ?_
  conv => whnf
  rw [show ((z_X0 L xs).fst 96).snd = 264 from rfl]
  refine And.intro ⟨(by (try simp only [z_lit, nI_add, pk_mul]); exact nI_pos (by omega)), (by (try simp only [z_lit, nI_add, pk_mul]); exact nI_pos (by omega)), (by (try simp only [z_lit, nI_add, pk_mul]); exact nI_pos (by omega)), (by (try simp (disch := omega) only [z_lit, nI_clamp, nI_add, pk_mul]); exact (show _ ≤ (264 : Nat) by omega)), (by (try simp (disch := omega) only [z_lit, nI_clamp, nI_add, pk_mul]); exact (show _ ≤ (264 : Nat) by omega))⟩ ?_
  conv => whnf
  rw [show ((z_X0 L xs).fst 97).snd = 192 from rfl]
  refine And.intro ⟨(by (try simp only [z_lit, nI_add, pk_mul]); exact nI_pos (by omega)), (by (try simp only [z_lit, nI_add, pk_mul]); exact nI_pos (by omega)), (by (try simp only [z_lit, nI_add, pk_mul]); exact nI_pos (by omega)), (by (try simp (disch := omega) only [z_lit, nI_clamp, nI_add, pk_mul]); exact (show _ ≤ (192 : Nat) by omega)), (by (try simp (disch := omega) only [z_lit, nI_clamp, nI_add, pk_mul]); exact (show _ ≤ (192 : Nat) by omega))⟩ ?_
  conv => whnf
  refine And.intro ⟨(by (try simp only [z_lit, nI_add, pk_mul]); exact nI_pos (by omega)), (by (try simp only [z_lit, nI_add, pk_mul]); exact nI_pos (by omega)), (by (try simp only [z_lit, nI_add, pk_mul]); exact nI_pos (by omega)), (by (try simp (disch := omega) only [z_lit, nI_clamp, nI_add, pk_mul]); exact (show _ ≤ (24 : Nat) by omega)), (by (try simp (disch := omega) only [z_lit, nI_clamp, nI_add, pk_mul]); exact (show _ ≤ (24 : Nat) by omega))⟩ ?_
  conv => whnf
  refine And.intro ⟨(by (try simp only [z_lit, nI_add, pk_mul]); exact nI_pos (by omega)), (by (try simp only [z_lit, nI_add, pk_mul]); exact nI_pos (by omega)), (by (try simp only [z_lit, nI_add, pk_mul]); exact nI_pos (by omega)), (by (try simp (disch := omega) only [z_lit, nI_clamp, nI_add, pk_mul]); exact (show _ ≤ (24 : Nat) by omega)), (by (try simp (disch := omega) only [z_lit, nI_clamp, nI_add, pk_mul]); exact (show _ ≤ (24 : Nat) by omega))⟩ ?_
  conv => whnf
  refine And.intro ⟨(by (try simp only [z_lit, nI_add, pk_mul]); exact nI_pos (by omega)), (by (try simp only [z_lit, nI_add, pk_mul]); exact nI_pos (by omega)), (by (try simp only [z_lit, nI_add, pk_mul]); exact nI_pos (by omega)), (by (try simp (disch := omega) only [z_lit, nI_clamp, nI_add, pk_mul]); exact (show _ ≤ (8 : Nat) by omega)), (by (try simp (disch := omega) only [z_lit, nI_clamp, nI_add, pk_mul]); exact (show _ ≤ (8 : Nat) by omega))⟩ ?_
  conv => whnf
  unfold z_cpy
  simp (disch := omega) only [z_lit, nI_add, pk_mul, z_pr1, z_pr2, nI_clamp, z_up_row, z_row_s, z_row_n, z_row_row, pk_us, pk_un]
  exact hQ
theorem cy_script_78_1 (hQ : Q none (z_row (z_row I 103 (va_cpy (I 26) (I 103) 0 0 96)) 102 (upd (I 102) 1 (I 25 1))) (z_R0 kp sp wd) J F cn) : z_M (z_X0 L xs) z_P0 d m_Script_copyFrom [.ref 102, .ref 25] I (z_R0 kp sp wd) J F cn Q := by
  refine z_WP_gos [] 1000 fun K C hK hC => ?_
  conv => whnf
  rw [show ((z_X0 L xs).fst 103).snd = 96 from rfl]
  refine And.intro ⟨(by (try simp only [z_lit, nI_add, pk_mul]); exact nI_pos (by omega)), (by (try simp only [z_lit, nI_add, pk_mul]); exact nI_pos (by omega)), (by (try simp only [z_lit, nI_add, pk_mul]); exact nI_pos (by omega)), (by (try simp (disch := omega) only [z_lit, nI_clamp, nI_add, pk_mul]); exact (show _ ≤ (96 : Nat) by omega)), (by (try simp (disch := omega) only [z_lit, nI_clamp, nI_add, pk_mul]); exact (show _ ≤ (96 : Nat) by omega))⟩ ?_
  conv => whnf
  unfold z_cpy
  simp (disch := omega) only [z_lit, nI_add, pk_mul, z_pr1, z_pr2, nI_clamp, z_up_row, z_row_s, z_row_n, z_row_row, pk_us, pk_un]
  exact hQ
theorem cy_world_78_1 (hQ : ∀ (I' : z_I) (F' : z_F), (∀ q j, cel q j → I' (77 + q) j = I (0 + q) j) → (∀ b, b < 78 ∨ 105 < b → I' b = I b) → (∀ j, j < 48 → F' 85 j = F 8 j) → (∀ b, b ≠ 85 → F' b = F b) → Q none I' (z_R0 kp sp wd) J F' cn) : z_M (z_X0 L xs) z_P0 (d + 2) m_World_copyFrom [.ref 78, .ref 1] I (z_R0 kp sp wd) J F cn Q := by
  have q := hQ (z_row (z_row (z_row (z_row (z_row (z_row (z_row (z_row (z_row (z_row (z_row (z_row (z_row (z_row (z_row (z_row (z_row (z_row (z_row (z_row (z_row (z_row (z_row (z_row (z_row I 80 (va_cpy (I 3) (I 80) 0 0 162)) 81 (va_cpy (I 4) (I 81) 0 0 1200)) 82 (va_cpy (I 5) (I 82) 0 0 48)) 83 (va_cpy (I 6) (I 83) 0 0 48)) 84 (va_cpy (I 7) (I 84) 0 0 48)) 86 (va_cpy (I 9) (I 86) 0 0 45)) 88 (va_cpy (I 11) (I 88) 0 0 12)) 89 (va_cpy (I 12) (I 89) 0 0 16)) 90 (va_cpy (I 13) (I 90) 0 0 2)) 92 (va_cpy (I 15) (I 92) 0 0 256)) 91 (upd (upd (I 91) 3 (I 14 3)) 4 (I 14 4))) 94 (va_cpy (I 17) (I 94) 0 0 40)) 93 (upd (upd (I 93) 3 (I 16 3)) 4 (I 16 4))) 87 (upd (I 87) 5 (I 10 5))) 96 (va_cpy (I 19) (I 96) 0 0 264)) 97 (va_cpy (I 20) (I 97) 0 0 192)) 98 (va_cpy (I 21) (I 98) 0 0 24)) 99 (va_cpy (I 22) (I 99) 0 0 24)) 100 (va_cpy (I 23) (I 100) 0 0 8)) 95 (upd (I 95) 5 (I 18 5))) 103 (va_cpy (I 26) (I 103) 0 0 96)) 102 (upd (I 102) 1 (I 25 1))) 105 (va_cpy (I 28) (I 105) 0 0 300)) 104 (upd (upd (I 104) 3 (I 27 3)) 4 (I 27 4))) 78 (upd (upd (upd (upd (upd (upd (upd (I 78) 5 (I 1 5)) 6 (I 1 6)) 7 (I 1 7)) 8 (I 1 8)) 9 (I 1 9)) 10 (I 1 10)) 11 (I 1 11))) (z_row F 85 (va_cpy (F 8) (F 85) 0 0 48)) ?_ ?_ ?_ ?_
  · refine z_WP_gos [] 1000 fun K C hK hC => ?_
    conv => whnf
    refine hC _ _ _ _ _ _ _ _ _ _ (fun _ _ _ _ _ _ q => q) (cy_units_78_1 ?_)
    conv => whnf
    refine hC _ _ _ _ _ _ _ _ _ _ (fun _ _ _ _ _ _ q => q) (cy_wires_78_1 ?_)
    conv => whnf
    simp (disch := omega) only [z_lit, nI_add, pk_mul, z_pr1, z_pr2, nI_clamp, z_up_row, z_row_s, z_row_n, z_row_row, pk_us, pk_un]
    refine hC _ _ _ _ _ _ _ _ _ _ (fun _ _ _ _ _ _ q => q) (cy_plan_78_1 ?_)
    conv => whnf
    simp (disch := omega) only [z_lit, nI_add, pk_mul, z_pr1, z_pr2, nI_clamp, z_up_row, z_row_s, z_row_n, z_row_row, pk_us, pk_un]
    refine hC _ _ _ _ _ _ _ _ _ _ (fun _ _ _ _ _ _ q => q) (cy_script_78_1 ?_)
    conv => whnf
    simp (disch := omega) only [z_lit, nI_add, pk_mul, z_pr1, z_pr2, nI_clamp, z_up_row, z_row_s, z_row_n, z_row_row, pk_us, pk_un]
    refine hC _ _ _ _ _ _ _ _ _ _ (fun _ _ _ _ _ _ q => q) (cy_ring_27_78_1 ?_)
    conv => whnf
    simp (disch := omega) only [z_lit, nI_add, pk_mul, z_pr1, z_pr2, nI_clamp, z_up_row, z_row_s, z_row_n, z_row_row, pk_us, pk_un]
    exact q
  · clear hQ
    refine cel_all ?_ ?_ ?_ ?_ ?_ ?_ ?_ ?_ ?_ ?_ ?_ ?_ ?_ ?_ ?_ ?_ ?_ ?_ ?_ ?_ ?_ ?_ ?_ ?_ ?_
    · intro j h
      have : j = 5 ∨ j = 6 ∨ j = 7 ∨ j = 8 ∨ j = 9 ∨ j = 10 ∨ j = 11 := by omega
      rcases this with rfl | rfl | rfl | rfl | rfl | rfl | rfl <;> rfl
    · intro j h; show va_cpy (I 3) (I 80) 0 0 162 j = I 3 j; exact cpy0 h
    · intro j h; show va_cpy (I 4) (I 81) 0 0 1200 j = I 4 j; exact cpy0 h
    · intro j h; show va_cpy (I 5) (I 82) 0 0 48 j = I 5 j; exact cpy0 h
    · intro j h; show va_cpy (I 6) (I 83) 0 0 48 j = I 6 j; exact cpy0 h
    · intro j h; show va_cpy (I 7) (I 84) 0 0 48 j = I 7 j; exact cpy0 h
    · intro j h; show va_cpy (I 9) (I 86) 0 0 45 j = I 9 j; exact cpy0 h
    · intro j h; subst h; rfl
    · intro j h; show va_cpy (I 11) (I 88) 0 0 12 j = I 11 j; exact cpy0 h
    · intro j h; show va_cpy (I 12) (I 89) 0 0 16 j = I 12 j; exact cpy0 h
    · intro j h; show va_cpy (I 13) (I 90) 0 0 2 j = I 13 j; exact cpy0 h
    · intro j h; rcases h with rfl | rfl <;> rfl
    · intro j h; show va_cpy (I 15) (I 92) 0 0 256 j = I 15 j; exact cpy0 h
    · intro j h; rcases h with rfl | rfl <;> rfl
    · intro j h; show va_cpy (I 17) (I 94) 0 0 40 j = I 17 j; exact cpy0 h
    · intro j h; subst h; rfl
    · intro j h; show va_cpy (I 19) (I 96) 0 0 264 j = I 19 j; exact cpy0 h
    · intro j h; show va_cpy (I 20) (I 97) 0 0 192 j = I 20 j; exact cpy0 h
    · intro j h; show va_cpy (I 21) (I 98) 0 0 24 j = I 21 j; exact cpy0 h
    · intro j h; show va_cpy (I 22) (I 99) 0 0 24 j = I 22 j; exact cpy0 h
    · intro j h; show va_cpy (I 23) (I 100) 0 0 8 j = I 23 j; exact cpy0 h
    · intro j h; subst h; rfl
    · intro j h; show va_cpy (I 26) (I 103) 0 0 96 j = I 26 j; exact cpy0 h
    · intro j h; rcases h with rfl | rfl <;> rfl
    · intro j h; show va_cpy (I 28) (I 105) 0 0 300 j = I 28 j; exact cpy0 h
  · intro b hb
    clear hQ
    repeat rw [z_row_n _ _ (by omega)]
  · intro j h; rw [z_row_s]; exact cpy0 h
  · intro b hb; exact z_row_n _ _ hb
theorem cy_wires_1_50 (hQ : Q none (z_row (z_row (z_row (z_row (z_row (z_row (z_row (z_row I 11 (va_cpy (I 60) (I 11) 0 0 12)) 12 (va_cpy (I 61) (I 12) 0 0 16)) 13 (va_cpy (I 62) (I 13) 0 0 2)) 15 (va_cpy (I 64) (I 15) 0 0 256)) 14 (upd (upd (I 14) 3 (I 63 3)) 4 (I 63 4))) 17 (va_cpy (I 66) (I 17) 0 0 40)) 16 (upd (upd (I 16) 3 (I 65 3)) 4 (I 65 4))) 10 (upd (I 10) 5 (I 59 5))) (z_R0 kp sp wd) J F cn) : z_M (z_X0 L xs) z_P0 (d + 1) m_Wires_copyFrom [.ref 10, .ref 59] I (z_R0 kp sp wd) J F cn Q := by
  refine z_WP_gos [] 1000 fun K C hK hC => ?_
  conv => whnf
  rw [show ((z_X0 L xs).fst 11).snd = 12 from rfl]
  refine And.intro ⟨(by (try simp only [z_lit, nI_add, pk_mul]); exact nI_pos (by omega)), (by (try simp only [z_lit, nI_add, pk_mul]); exact nI_pos (by omega)), (by (try simp only [z_lit, nI_add, pk_mul]); exact nI_pos (by omega)), (by (try simp (disch := omega) only [z_lit, nI_clamp, nI_add, pk_mul]); exact (show _ ≤ (12 : Nat) by omega)), (by (try simp (disch := omega) only [z_lit, nI_clamp, nI_add, pk_mul]); exact (show _ ≤ (12 : Nat) by omega))⟩ ?_
  conv => whnf
  rw [show ((z_X0 L xs).fst 12).snd = 16 from rfl]
  refine And.intro ⟨(by (try simp only [z_lit, nI_add, pk_mul]); exact nI_pos (by omega)), (by (try simp only [z_lit, nI_add, pk_mul]); exact nI_pos (by omega)), (by (try simp only [z_lit, nI_add, pk_mul]); exact nI_pos (by omega)), (by (try simp (disch := omega) only [z_lit, nI_clamp, nI_add, pk_mul]); exact (show _ ≤ (16 : Nat) by omega)), (by (try simp (disch := omega) only [z_lit, nI_clamp, nI_add, pk_mul]); exact (show _ ≤ (16 : Nat) by omega))⟩ ?_
  conv => whnf
  rw [show ((z_X0 L xs).fst 13).snd = 2 from rfl]
  refine And.intro ⟨(by (try simp only [z_lit, nI_add, pk_mul]); exact nI_pos (by omega)), (by (try simp only [z_lit, nI_add, pk_mul]); exact nI_pos (by omega)), (by (try simp only [z_lit, nI_add, pk_mul]); exact nI_pos (by omega)), (by (try simp (disch := omega) only [z_lit, nI_clamp, nI_add, pk_mul]); exact (show _ ≤ (2 : Nat) by omega)), (by (try simp (disch := omega) only [z_lit, nI_clamp, nI_add, pk_mul]); exact (show _ ≤ (2 : Nat) by omega))⟩ ?_
  conv => whnf
  unfold z_cpy
  refine hC _ _ _ _ _ _ _ _ _ _ (fun _ _ _ _ _ _ q => q) (cy_ring_14_1_50 ?_)
  conv => whnf
  simp (disch := omega) only [z_lit, nI_add, pk_mul, z_pr1, z_pr2, nI_clamp, z_up_row, z_row_s, z_row_n, z_row_row, pk_us, pk_un]
  refine hC _ _ _ _ _ _ _ _ _ _ (fun _ _ _ _ _ _ q => q) (cy_ring_16_1_50 ?_)
  conv => whnf
  simp (disch := omega) only [z_lit, nI_add, pk_mul, z_pr1, z_pr2, nI_clamp, z_up_row, z_row_s, z_row_n, z_row_row, pk_us, pk_un]
  exact hQ
theorem cy_plan_1_50 (hQ : Q none (z_row (z_row (z_row (z_row (z_row (z_row I 19 (va_cpy (I 68) (I 19) 0 0 264)) 20 (va_cpy (I 69) (I 20) 0 0 192)) 21 (va_cpy (I 70) (I 21) 0 0 24)) 22 (va_cpy (I 71) (I 22) 0 0 24)) 23 (va_cpy (I 72) (I 23) 0 0 8)) 18 (upd (I 18) 5 (I 67 5))) (z_R0 kp sp wd) J F cn) : z_M (z_X0 L xs) z_P0 d m_Plan_copyFrom [.ref 18, .ref 67] I (z_R0 kp sp wd) J F cn Q := by
  refine z_WP_gos [] 1000 fun K C hK hC => ?_
  conv => whnf
  rw [show ((z_X0 L xs).fst 19).snd = 264 from rfl]
  refine And.intro ⟨(by (try simp only [z_lit, nI_add, pk_mul]); exact nI_pos (by omega)), (by (try simp only [z_lit, nI_add, pk_mul]); exact nI_pos (by omega)), (by (try simp only [z_lit, nI_add, pk_mul]); exact nI_pos (by omega)), (by (try simp (disch := omega) only [z_lit, nI_clamp, nI_add, pk_mul]); exact (show _ ≤ (264 : Nat) by omega)), (by (try simp (disch := omega) only [z_lit, nI_clamp, nI_add, pk_mul]); exact (show _ ≤ (264 : Nat) by omega))⟩ ?_
  conv => whnf
  rw [show ((z_X0 L xs).fst 20).snd = 192 from rfl]
  refine And.intro ⟨(by (try simp only [z_lit, nI_add, pk_mul]); exact nI_pos (by omega)), (by (try simp only [z_lit, nI_add, pk_mul]); exact nI_pos (by omega)), (by (try simp only [z_lit, nI_add, pk_mul]); exact nI_pos (by omega)), (by (try simp (disch := omega) only [z_lit, nI_clamp, nI_add, pk_mul]); exact (show _ ≤ (192 : Nat) by omega)), (by (try simp (disch := omega) only [z_lit, nI_clamp, nI_add, pk_mul]); exact (show _ ≤ (192 : Nat) by omega))⟩ ?_
  conv => whnf
  refine And.intro ⟨(by (try simp only [z_lit, nI_add, pk_mul]); exact nI_pos (by omega)), (by (try simp only [z_lit, nI_add, pk_mul]); exact nI_pos (by omega)), (by (try simp only [z_lit, nI_add, pk_mul]); exact nI_pos (by omega)), (by (try simp (disch := omega) only [z_lit, nI_clamp, nI_add, pk_mul]); exact (show _ ≤ (24 : Nat) by omega)), (by (try simp (disch := omega) only [z_lit, nI_clamp, nI_add, pk_mul]); exact (show _ ≤ (24 : Nat) by omega))⟩ ?_
  conv => whnf
  refine And.intro ⟨(by (try simp only [z_lit, nI_add, pk_mul]); exact nI_pos (by omega)), (by (try simp only [z_lit, nI_add, pk_mul]); exact nI_pos (by omega)), (by (try simp only [z_lit, nI_add, pk_mul]); exact nI_pos (by omega)), (by (try simp (disch := omega) only [z_lit, nI_clamp, nI_add, pk_mul]); exact (show _ ≤ (24 : Nat) by omega)), (by (try simp (disch := omega) only [z_lit, nI_clamp, nI_add, pk_mul]); exact (show _ ≤ (24 : Nat) by omega))⟩ ?_
  conv => whnf
  refine And.intro ⟨(by (try simp only [z_lit, nI_add, pk_mul]); exact nI_pos (by omega)), (by (try simp only [z_lit, nI_add, pk_mul]); exact nI_pos (by omega)), (by (try simp only [z_lit, nI_add, pk_mul]); exact nI_pos (by omega)), (by (try simp (disch := omega) only [z_lit, nI_clamp, nI_add, pk_mul]); exact (show _ ≤ (8 : Nat) by omega)), (by (try simp (disch := omega) only [z_lit, nI_clamp, nI_add, pk_mul]); exact (show _ ≤ (8 : Nat) by omega))⟩ ?_
  conv => whnf
  unfold z_cpy
  simp (disch := omega) only [z_lit, nI_add, pk_mul, z_pr1, z_pr2, nI_clamp, z_up_row, z_row_s, z_row_n, z_row_row, pk_us, pk_un]
  exact hQ
theorem cy_script_1_50 (hQ : Q none (z_row (z_row I 26 (va_cpy (I 75) (I 26) 0 0 96)) 25 (upd (I 25) 1 (I 74 1))) (z_R0 kp sp wd) J F cn) : z_M (z_X0 L xs) z_P0 d m_Script_copyFrom [.ref 25, .ref 74] I (z_R0 kp sp wd) J F cn Q := by
  refine z_WP_gos [] 1000 fun K C hK hC => ?_
  conv => whnf
  rw [show ((z_X0 L xs).fst 26).snd = 96 from rfl]
  refine And.intro ⟨(by (try simp only [z_lit, nI_add, pk_mul]); exact nI_pos (by omega)), (by (try simp only [z_lit, nI_add, pk_mul]); exact nI_pos (by omega)), (by (try simp only [z_lit, nI_add, pk_mul]); exact nI_pos (by omega)), (by (try simp (disch := omega) only [z_lit, nI_clamp, nI_add, pk_mul]); exact (show _ ≤ (96 : Nat) by omega)), (by (try simp (disch := omega) only [z_lit, nI_clamp, nI_add, pk_mul]); exact (show _ ≤ (96 : Nat) by omega))⟩ ?_
  conv => whnf
  unfold z_cpy
  simp (disch := omega) only [z_lit, nI_add, pk_mul, z_pr1, z_pr2, nI_clamp, z_up_row, z_row_s, z_row_n, z_row_row, pk_us, pk_un]
  exact hQ
theorem cy_world_1_50 (hQ : ∀ (I' : z_I) (F' : z_F), (∀ q j, cel q j → I' (0 + q) j = I (49 + q) j) → (∀ b, b < 1 ∨ 28 < b → I' b = I b) → (∀ j, j < 48 → F' 8 j = F 57 j) → (∀ b, b ≠ 8 → F' b = F b) → (∀ j, j < 2 → I' 14 j = I 14 j ∧ I' 16 j = I 16 j ∧ I' 27 j = I 27 j) → Q none I' (z_R0 kp sp wd) J F' cn) : z_M (z_X0 L xs) z_P0 (d + 2) m_World_copyFrom [.ref 1, .ref 50] I (z_R0 kp sp wd) J F cn Q := by
  have q := hQ (z_row (z_row (z_row (z_row (z_row (z_row (z_row (z_row (z_row (z_row (z_row (z_row (z_row (z_row (z_row (z_row (z_row (z_row (z_row (z_row (z_row (z_row (z_row (z_row (z_row I 3 (va_cpy (I 52) (I 3) 0 0 162)) 4 (va_cpy (I 53) (I 4) 0 0 1200)) 5 (va_cpy (I 54) (I 5) 0 0 48)) 6 (va_cpy (I 55) (I 6) 0 0 48)) 7 (va_cpy (I 56) (I 7) 0 0 48)) 9 (va_cpy (I 58) (I 9) 0 0 45)) 11 (va_cpy (I 60) (I 11) 0 0 12)) 12 (va_cpy (I 61) (I 12) 0 0 16)) 13 (va_cpy (I 62) (I 13) 0 0 2)) 15 (va_cpy (I 64) (I 15) 0 0 256)) 14 (upd (upd (I 14) 3 (I 63 3)) 4 (I 63 4))) 17 (va_cpy (I 66) (I 17) 0 0 40)) 16 (upd (upd (I 16) 3 (I 65 3)) 4 (I 65 4))) 10 (upd (I 10) 5 (I 59 5))) 19 (va_cpy (I 68) (I 19) 0 0 264)) 20 (va_cpy (I 69) (I 20) 0 0 192)) 21 (va_cpy (I 70) (I 21) 0 0 24)) 22 (va_cpy (I 71) (I 22) 0 0 24)) 23 (va_cpy (I 72) (I 23) 0 0 8)) 18 (upd (I 18) 5 (I 67 5))) 26 (va_cpy (I 75) (I 26) 0 0 96)) 25 (upd (I 25) 1 (I 74 1))) 28 (va_cpy (I 77) (I 28) 0 0 300)) 27 (upd (upd (I 27) 3 (I 76 3)) 4 (I 76 4))) 1 (upd (upd (upd (upd (upd (upd (upd (I 1) 5 (I 50 5)) 6 (I 50 6)) 7 (I 50 7)) 8 (I 50 8)) 9 (I 50 9)) 10 (I 50 10)) 11 (I 50 11))) (z_row F 8 (va_cpy (F 57) (F 8) 0 0 48)) ?_ ?_ ?_ ?_ ?_
  · refine z_WP_gos [] 1000 fun K C hK hC => ?_
    conv => whnf
    refine hC _ _ _ _ _ _ _ _ _ _ (fun _ _ _ _ _ _ q => q) (cy_units_1_50 ?_)
    conv => whnf
    refine hC _ _ _ _ _ _ _ _ _ _ (fun _ _ _ _ _ _ q => q) (cy_wires_1_50 ?_)
    conv => whnf
    simp (disch := omega) only [z_lit, nI_add, pk_mul, z_pr1, z_pr2, nI_clamp, z_up_row, z_row_s, z_row_n, z_row_row, pk_us, pk_un]
    refine hC _ _ _ _ _ _ _ _ _ _ (fun _ _ _ _ _ _ q => q) (cy_plan_1_50 ?_)
    conv => whnf
    simp (disch := omega) only [z_lit, nI_add, pk_mul, z_pr1, z_pr2, nI_clamp, z_up_row, z_row_s, z_row_n, z_row_row, pk_us, pk_un]
    refine hC _ _ _ _ _ _ _ _ _ _ (fun _ _ _ _ _ _ q => q) (cy_script_1_50 ?_)
    conv => whnf
    simp (disch := omega) only [z_lit, nI_add, pk_mul, z_pr1, z_pr2, nI_clamp, z_up_row, z_row_s, z_row_n, z_row_row, pk_us, pk_un]
    refine hC _ _ _ _ _ _ _ _ _ _ (fun _ _ _ _ _ _ q => q) (cy_ring_27_1_50 ?_)
    conv => whnf
    simp (disch := omega) only [z_lit, nI_add, pk_mul, z_pr1, z_pr2, nI_clamp, z_up_row, z_row_s, z_row_n, z_row_row, pk_us, pk_un]
    exact q
  · clear hQ
    refine cel_all ?_ ?_ ?_ ?_ ?_ ?_ ?_ ?_ ?_ ?_ ?_ ?_ ?_ ?_ ?_ ?_ ?_ ?_ ?_ ?_ ?_ ?_ ?_ ?_ ?_
    · intro j h
      have : j = 5 ∨ j = 6 ∨ j = 7 ∨ j = 8 ∨ j = 9 ∨ j = 10 ∨ j = 11 := by omega
      rcases this with rfl | rfl | rfl | rfl | rfl | rfl | rfl <;> rfl
    · intro j h; show va_cpy (I 52) (I 3) 0 0 162 j = I 52 j; exact cpy0 h
    · intro j h; show va_cpy (I 53) (I 4) 0 0 1200 j = I 53 j; exact cpy0 h
    · intro j h; show va_cpy (I 54) (I 5) 0 0 48 j = I 54 j; exact cpy0 h
    · intro j h; show va_cpy (I 55) (I 6) 0 0 48 j = I 55 j; exact cpy0 h
    · intro j h; show va_cpy (I 56) (I 7) 0 0 48 j = I 56 j; exact cpy0 h
    · intro j h; show va_cpy (I 58) (I 9) 0 0 45 j = I 58 j; exact cpy0 h
    · intro j h; subst h; rfl
    · intro j h; show va_cpy (I 60) (I 11) 0 0 12 j = I 60 j; exact cpy0 h
    · intro j h; show va_cpy (I 61) (I 12) 0 0 16 j = I 61 j; exact cpy0 h
    · intro j h; show va_cpy (I 62) (I 13) 0 0 2 j = I 62 j; exact cpy0 h
    · intro j h; rcases h with rfl | rfl <;> rfl
    · intro j h; show va_cpy (I 64) (I 15) 0 0 256 j = I 64 j; exact cpy0 h
    · intro j h; rcases h with rfl | rfl <;> rfl
    · intro j h; show va_cpy (I 66) (I 17) 0 0 40 j = I 66 j; exact cpy0 h
    · intro j h; subst h; rfl
    · intro j h; show va_cpy (I 68) (I 19) 0 0 264 j = I 68 j; exact cpy0 h
    · intro j h; show va_cpy (I 69) (I 20) 0 0 192 j = I 69 j; exact cpy0 h
    · intro j h; show va_cpy (I 70) (I 21) 0 0 24 j = I 70 j; exact cpy0 h
    · intro j h; show va_cpy (I 71) (I 22) 0 0 24 j = I 71 j; exact cpy0 h
    · intro j h; show va_cpy (I 72) (I 23) 0 0 8 j = I 72 j; exact cpy0 h
    · intro j h; subst h; rfl
    · intro j h; show va_cpy (I 75) (I 26) 0 0 96 j = I 75 j; exact cpy0 h
    · intro j h; rcases h with rfl | rfl <;> rfl
    · intro j h; show va_cpy (I 77) (I 28) 0 0 300 j = I 77 j; exact cpy0 h
  · intro b hb
    clear hQ
    repeat rw [z_row_n _ _ (by omega)]
  · intro j h; rw [z_row_s]; exact cpy0 h
  · intro b hb; exact z_row_n _ _ hb
  · intro j h
    have : j = 0 ∨ j = 1 := by omega
    rcases this with rfl | rfl <;> exact ⟨rfl, rfl, rfl⟩
theorem cy_wires_1_78 (hQ : Q none (z_row (z_row (z_row (z_row (z_row (z_row (z_row (z_row I 11 (va_cpy (I 88) (I 11) 0 0 12)) 12 (va_cpy (I 89) (I 12) 0 0 16)) 13 (va_cpy (I 90) (I 13) 0 0 2)) 15 (va_cpy (I 92) (I 15) 0 0 256)) 14 (upd (upd (I 14) 3 (I 91 3)) 4 (I 91 4))) 17 (va_cpy (I 94) (I 17) 0 0 40)) 16 (upd (upd (I 16) 3 (I 93 3)) 4 (I 93 4))) 10 (upd (I 10) 5 (I 87 5))) (z_R0 kp sp wd) J F cn) : z_M (z_X0 L xs) z_P0 (d + 1) m_Wires_copyFrom [.ref 10, .ref 87] I (z_R0 kp sp wd) J F cn Q := by
  refine z_WP_gos [] 1000 fun K C hK hC => ?_
  conv => whnf
  rw [show ((z_X0 L xs).fst 11).snd = 12 from rfl]
  refine And.intro ⟨(by (try simp only [z_lit, nI_add, pk_mul]); exact nI_pos (by omega)), (by (try simp only [z_lit, nI_add, pk_mul]); exact nI_pos (by omega)), (by (try simp only [z_lit, nI_add, pk_mul]); exact nI_pos (by omega)), (by (try simp (disch := omega) only [z_lit, nI_clamp, nI_add, pk_mul]); exact (show _ ≤ (12 : Nat) by omega)), (by (try simp (disch := omega) only [z_lit, nI_clamp, nI_add, pk_mul]); exact (show _ ≤ (12 : Nat) by omega))⟩ ?_
  conv => whnf
  rw [show ((z_X0 L xs).fst 12).snd = 16 from rfl]
  refine And.intro ⟨(by (try simp only [z_lit, nI_add, pk_mul]); exact nI_pos (by omega)), (by (try simp only [z_lit, nI_add, pk_mul]); exact nI_pos (by omega)), (by (try simp only [z_lit, nI_add, pk_mul]); exact nI_pos (by omega)), (by (try simp (disch := omega) only [z_lit, nI_clamp, nI_add, pk_mul]); exact (show _ ≤ (16 : Nat) by omega)), (by (try simp (disch := omega) only [z_lit, nI_clamp, nI_add, pk_mul]); exact (show _ ≤ (16 : Nat) by omega))⟩ ?_
  conv => whnf
  rw [show ((z_X0 L xs).fst 13).snd = 2 from rfl]
  refine And.intro ⟨(by (try simp only [z_lit, nI_add, pk_mul]); exact nI_pos (by omega)), (by (try simp only [z_lit, nI_add, pk_mul]); exact nI_pos (by omega)), (by (try simp only [z_lit, nI_add, pk_mul]); exact nI_pos (by omega)), (by (try simp (disch := omega) only [z_lit, nI_clamp, nI_add, pk_mul]); exact (show _ ≤ (2 : Nat) by omega)), (by (try simp (disch := omega) only [z_lit, nI_clamp, nI_add, pk_mul]); exact (show _ ≤ (2 : Nat) by omega))⟩ ?_
  conv => whnf
  unfold z_cpy
  refine hC _ _ _ _ _ _ _ _ _ _ (fun _ _ _ _ _ _ q => q) (cy_ring_14_1_78 ?_)
  conv => whnf
  simp (disch := omega) only [z_lit, nI_add, pk_mul, z_pr1, z_pr2, nI_clamp, z_up_row, z_row_s, z_row_n, z_row_row, pk_us, pk_un]
  refine hC _ _ _ _ _ _ _ _ _ _ (fun _ _ _ _ _ _ q => q) (cy_ring_16_1_78 ?_)
  conv => whnf
  simp (disch := omega) only [z_lit, nI_add, pk_mul, z_pr1, z_pr2, nI_clamp, z_up_row, z_row_s, z_row_n, z_row_row, pk_us, pk_un]
  exact hQ
theorem cy_plan_1_78 (hQ : Q none (z_row (z_row (z_row (z_row (z_row (z_row I 19 (va_cpy (I 96) (I 19) 0 0 264)) 20 (va_cpy (I 97) (I 20) 0 0 192)) 21 (va_cpy (I 98) (I 21) 0 0 24)) 22 (va_cpy (I 99) (I 22) 0 0 24)) 23 (va_cpy (I 100) (I 23) 0 0 8)) 18 (upd (I 18) 5 (I 95 5))) (z_R0 kp sp wd) J F cn) : z_M (z_X0 L xs) z_P0 d m_Plan_copyFrom [.ref 18, .ref 95] I (z_R0 kp sp wd) J F cn Q := by
  refine z_WP_gos [] 1000 fun K C hK hC => ?_
  conv => whnf
  rw [show ((z_X0 L xs).fst 19).snd = 264 from rfl]
  refine And.intro ⟨(by (try simp only [z_lit, nI_add, pk_mul]); exact nI_pos (by omega)), (by (try simp only [z_lit, nI_add, pk_mul]); exact nI_pos (by omega)), (by (try simp only [z_lit, nI_add, pk_mul]); exact nI_pos (by omega)), (by (try simp (disch := omega) only [z_lit, nI_clamp, nI_add, pk_mul]); exact (show _ ≤ (264 : Nat) by omega)), (by (try simp (disch := omega) only [z_lit, nI_clamp, nI_add, pk_mul]); exact (show _ ≤ (264 : Nat) by omega))⟩ ?_
  conv => whnf
  rw [show ((z_X0 L xs).fst 20).snd = 192 from rfl]
  refine And.intro ⟨(by (try simp only [z_lit, nI_add, pk_mul]); exact nI_pos (by omega)), (by (try simp only [z_lit, nI_add, pk_mul]); exact nI_pos (by omega)), (by (try simp only [z_lit, nI_add, pk_mul]); exact nI_pos (by omega)), (by (try simp (disch := omega) only [z_lit, nI_clamp, nI_add, pk_mul]); exact (show _ ≤ (192 : Nat) by omega)), (by (try simp (disch := omega) only [z_lit, nI_clamp, nI_add, pk_mul]); exact (show _ ≤ (192 : Nat) by omega))⟩ ?_
  conv => whnf
  refine And.intro ⟨(by (try simp only [z_lit, nI_add, pk_mul]); exact nI_pos (by omega)), (by (try simp only [z_lit, nI_add, pk_mul]); exact nI_pos (by omega)), (by (try simp only [z_lit, nI_add, pk_mul]); exact nI_pos (by omega)), (by (try simp (disch := omega) only [z_lit, nI_clamp, nI_add, pk_mul]); exact (show _ ≤ (24 : Nat) by omega)), (by (try simp (disch := omega) only [z_lit, nI_clamp, nI_add, pk_mul]); exact (show _ ≤ (24 : Nat) by omega))⟩ ?_
  conv => whnf
  refine And.intro ⟨(by (try simp only [z_lit, nI_add, pk_mul]); exact nI_pos (by omega)), (by (try simp only [z_lit, nI_add, pk_mul]); exact nI_pos (by omega)), (by (try simp only [z_lit, nI_add, pk_mul]); exact nI_pos (by omega)), (by (try simp (disch := omega) only [z_lit, nI_clamp, nI_add, pk_mul]); exact (show _ ≤ (24 : Nat) by omega)), (by (try simp (disch := omega) only [z_lit, nI_clamp, nI_add, pk_mul]); exact (show _ ≤ (24 : Nat) by omega))⟩ ?_
  conv => whnf
  refine And.intro ⟨(by (try simp only [z_lit, nI_add, pk_mul]); exact nI_pos (by omega)), (by (try simp only [z_lit, nI_add, pk_mul]); exact nI_pos (by omega)), (by (try simp only [z_lit, nI_add, pk_mul]); exact nI_pos (by omega)), (by (try simp (disch := omega) only [z_lit, nI_clamp, nI_add, pk_mul]); exact (show _ ≤ (8 : Nat) by omega)), (by (try simp (disch := omega) only [z_lit, nI_clamp, nI_add, pk_mul]); exact (show _ ≤ (8 : Nat) by omega))⟩ ?_
  conv => whnf
  unfold z_cpy
  simp (disch := omega) only [z_lit, nI_add, pk_mul, z_pr1, z_pr2, nI_clamp, z_up_row, z_row_s, z_row_n, z_row_row, pk_us, pk_un]
  exact hQ
theorem cy_script_1_78 (hQ : Q none (z_row (z_row I 26 (va_cpy (I 103) (I 26) 0 0 96)) 25 (upd (I 25) 1 (I 102 1))) (z_R0 kp sp wd) J F cn) : z_M (z_X0 L xs) z_P0 d m_Script_copyFrom [.ref 25, .ref 102] I (z_R0 kp sp wd) J F cn Q := by
  refine z_WP_gos [] 1000 fun K C hK hC => ?_
  conv => whnf
  rw [show ((z_X0 L xs).fst 26).snd = 96 from rfl]
  refine And.intro ⟨(by (try simp only [z_lit, nI_add, pk_mul]); exact nI_pos (by omega)), (by (try simp only [z_lit, nI_add, pk_mul]); exact nI_pos (by omega)), (by (try simp only [z_lit, nI_add, pk_mul]); exact nI_pos (by omega)), (by (try simp (disch := omega) only [z_lit, nI_clamp, nI_add, pk_mul]); exact (show _ ≤ (96 : Nat) by omega)), (by (try simp (disch := omega) only [z_lit, nI_clamp, nI_add, pk_mul]); exact (show _ ≤ (96 : Nat) by omega))⟩ ?_
  conv => whnf
  unfold z_cpy
  simp (disch := omega) only [z_lit, nI_add, pk_mul, z_pr1, z_pr2, nI_clamp, z_up_row, z_row_s, z_row_n, z_row_row, pk_us, pk_un]
  exact hQ
theorem cy_world_1_78 (hQ : ∀ (I' : z_I) (F' : z_F), (∀ q j, cel q j → I' (0 + q) j = I (77 + q) j) → (∀ b, b < 1 ∨ 28 < b → I' b = I b) → (∀ j, j < 48 → F' 8 j = F 85 j) → (∀ b, b ≠ 8 → F' b = F b) → (∀ j, j < 2 → I' 14 j = I 14 j ∧ I' 16 j = I 16 j ∧ I' 27 j = I 27 j) → Q none I' (z_R0 kp sp wd) J F' cn) : z_M (z_X0 L xs) z_P0 (d + 2) m_World_copyFrom [.ref 1, .ref 78] I (z_R0 kp sp wd) J F cn Q := by
  have q := hQ (z_row (z_row (z_row (z_row (z_row (z_row (z_row (z_row (z_row (z_row (z_row (z_row (z_row (z_row (z_row (z_row (z_row (z_row (z_row (z_row (z_row (z_row (z_row (z_row (z_row I 3 (va_cpy (I 80) (I 3) 0 0 162)) 4 (va_cpy (I 81) (I 4) 0 0 1200)) 5 (va_cpy (I 82) (I 5) 0 0 48)) 6 (va_cpy (I 83) (I 6) 0 0 48)) 7 (va_cpy (I 84) (I 7) 0 0 48)) 9 (va_cpy (I 86) (I 9) 0 0 45)) 11 (va_cpy (I 88) (I 11) 0 0 12)) 12 (va_cpy (I 89) (I 12) 0 0 16)) 13 (va_cpy (I 90) (I 13) 0 0 2)) 15 (va_cpy (I 92) (I 15) 0 0 256)) 14 (upd (upd (I 14) 3 (I 91 3)) 4 (I 91 4))) 17 (va_cpy (I 94) (I 17) 0 0 40)) 16 (upd (upd (I 16) 3 (I 93 3)) 4 (I 93 4))) 10 (upd (I 10) 5 (I 87 5))) 19 (va_cpy (I 96) (I 19) 0 0 264)) 20 (va_cpy (I 97) (I 20) 0 0 192)) 21 (va_cpy (I 98) (I 21) 0 0 24)) 22 (va_cpy (I 99) (I 22) 0 0 24)) 23 (va_cpy (I 100) (I 23) 0 0 8)) 18 (upd (I 18) 5 (I 95 5))) 26 (va_cpy (I 103) (I 26) 0 0 96)) 25 (upd (I 25) 1 (I 102 1))) 28 (va_cpy (I 105) (I 28) 0 0 300)) 27 (upd (upd (I 27) 3 (I 104 3)) 4 (I 104 4))) 1 (upd (upd (upd (upd (upd (upd (upd (I 1) 5 (I 78 5)) 6 (I 78 6)) 7 (I 78 7)) 8 (I 78 8)) 9 (I 78 9)) 10 (I 78 10)) 11 (I 78 11))) (z_row F 8 (va_cpy (F 85) (F 8) 0 0 48)) ?_ ?_ ?_ ?_ ?_
  · refine z_WP_gos [] 1000 fun K C hK hC => ?_
    conv => whnf
    refine hC _ _ _ _ _ _ _ _ _ _ (fun _ _ _ _ _ _ q => q) (cy_units_1_78 ?_)
    conv => whnf
    refine hC _ _ _ _ _ _ _ _ _ _ (fun _ _ _ _ _ _ q => q) (cy_wires_1_78 ?_)
    conv => whnf
    simp (disch := omega) only [z_lit, nI_add, pk_mul, z_pr1, z_pr2, nI_clamp, z_up_row, z_row_s, z_row_n, z_row_row, pk_us, pk_un]
    refine hC _ _ _ _ _ _ _ _ _ _ (fun _ _ _ _ _ _ q => q) (cy_plan_1_78 ?_)
    conv => whnf
    simp (disch := omega) only [z_lit, nI_add, pk_mul, z_pr1, z_pr2, nI_clamp, z_up_row, z_row_s, z_row_n, z_row_row, pk_us, pk_un]
    refine hC _ _ _ _ _ _ _ _ _ _ (fun _ _ _ _ _ _ q => q) (cy_script_1_78 ?_)
    conv => whnf
    simp (disch := omega) only [z_lit, nI_add, pk_mul, z_pr1, z_pr2, nI_clamp, z_up_row, z_row_s, z_row_n, z_row_row, pk_us, pk_un]
    refine hC _ _ _ _ _ _ _ _ _ _ (fun _ _ _ _ _ _ q => q) (cy_ring_27_1_78 ?_)
    conv => whnf
    simp (disch := omega) only [z_lit, nI_add, pk_mul, z_pr1, z_pr2, nI_clamp, z_up_row, z_row_s, z_row_n, z_row_row, pk_us, pk_un]
    exact q
  · clear hQ
    refine cel_all ?_ ?_ ?_ ?_ ?_ ?_ ?_ ?_ ?_ ?_ ?_ ?_ ?_ ?_ ?_ ?_ ?_ ?_ ?_ ?_ ?_ ?_ ?_ ?_ ?_
    · intro j h
      have : j = 5 ∨ j = 6 ∨ j = 7 ∨ j = 8 ∨ j = 9 ∨ j = 10 ∨ j = 11 := by omega
      rcases this with rfl | rfl | rfl | rfl | rfl | rfl | rfl <;> rfl
    · intro j h; show va_cpy (I 80) (I 3) 0 0 162 j = I 80 j; exact cpy0 h
    · intro j h; show va_cpy (I 81) (I 4) 0 0 1200 j = I 81 j; exact cpy0 h
    · intro j h; show va_cpy (I 82) (I 5) 0 0 48 j = I 82 j; exact cpy0 h
    · intro j h; show va_cpy (I 83) (I 6) 0 0 48 j = I 83 j; exact cpy0 h
    · intro j h; show va_cpy (I 84) (I 7) 0 0 48 j = I 84 j; exact cpy0 h
    · intro j h; show va_cpy (I 86) (I 9) 0 0 45 j = I 86 j; exact cpy0 h
    · intro j h; subst h; rfl
    · intro j h; show va_cpy (I 88) (I 11) 0 0 12 j = I 88 j; exact cpy0 h
    · intro j h; show va_cpy (I 89) (I 12) 0 0 16 j = I 89 j; exact cpy0 h
    · intro j h; show va_cpy (I 90) (I 13) 0 0 2 j = I 90 j; exact cpy0 h
    · intro j h; rcases h with rfl | rfl <;> rfl
    · intro j h; show va_cpy (I 92) (I 15) 0 0 256 j = I 92 j; exact cpy0 h
    · intro j h; rcases h with rfl | rfl <;> rfl
    · intro j h; show va_cpy (I 94) (I 17) 0 0 40 j = I 94 j; exact cpy0 h
    · intro j h; subst h; rfl
    · intro j h; show va_cpy (I 96) (I 19) 0 0 264 j = I 96 j; exact cpy0 h
    · intro j h; show va_cpy (I 97) (I 20) 0 0 192 j = I 97 j; exact cpy0 h
    · intro j h; show va_cpy (I 98) (I 21) 0 0 24 j = I 98 j; exact cpy0 h
    · intro j h; show va_cpy (I 99) (I 22) 0 0 24 j = I 99 j; exact cpy0 h
    · intro j h; show va_cpy (I 100) (I 23) 0 0 8 j = I 100 j; exact cpy0 h
    · intro j h; subst h; rfl
    · intro j h; show va_cpy (I 103) (I 26) 0 0 96 j = I 103 j; exact cpy0 h
    · intro j h; rcases h with rfl | rfl <;> rfl
    · intro j h; show va_cpy (I 105) (I 28) 0 0 300 j = I 105 j; exact cpy0 h
  · intro b hb
    clear hQ
    repeat rw [z_row_n _ _ (by omega)]
  · intro j h; rw [z_row_s]; exact cpy0 h
  · intro b hb; exact z_row_n _ _ hb
  · intro j h
    have : j = 0 ∨ j = 1 := by omega
    rcases this with rfl | rfl <;> exact ⟨rfl, rfl, rfl⟩
end
