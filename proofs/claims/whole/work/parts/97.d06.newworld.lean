/-! the class: a new world, whole -/
section
variable {L : Nat} {xs : Nat → Int32} {d : Nat} {kp sp wd : Value} {I : z_I} {s : z_sg} {R : z_R} {J : z_J} {F : z_F} {cn : Nat} {Q : z_Q}
theorem zg_14 : z_up (z_row R 14 (fun _ => .null)) 14 2 (.ref 15) = z_row R 14 (rz 14) := by
  funext m
  by_cases h14 : m = 14
  · subst h14; funext k
    match k with
    | 0 => rfl
    | 1 => rfl
    | 2 => rfl
    | k + 3 => rfl
  simp only [z_up, z_row, if_neg h14]
theorem ci_ring_14 (hQ : ∀ (J' : z_J) (F' : z_F), (∀ c, c < 14 → F' c = F c) → Q none (z_row (z_row I 14 (rg 64 4)) 15 (fun _ => 0)) (z_row R 14 (rz 14)) J' F' 16) :
    z_M (z_X0 L xs) z_P0 d m_Ring_init [.ref 14, .int (nI 64), .int (nI 4)] (z_row I 14 (fun _ => 0)) (z_row R 14 (fun _ => .null)) J F 15 Q := by
  have q := hQ (z_row J 15 (fun _ => 0)) (z_row F 15 (fun _ => 0)) (fun c hc => by repeat rw [z_row_n _ _ (by omega)])
  rw [← zg_14] at q
  refine z_WP_gos [] 1000 fun K C hK hC => ?_
  conv => whnf
  simp (disch := omega) only [z_lit, nI_add, pk_mul, z_pr1, z_pr2, nI_clamp, z_up_row, z_row_s, z_row_n, z_row_row, pk_us, pk_un]
  refine And.intro (by simp only [X_sh, X_bd]; decide) ?_
  conv => whnf
  unfold rg at q
  exact q
theorem zg_16 : z_up (z_row R 16 (fun _ => .null)) 16 2 (.ref 17) = z_row R 16 (rz 16) := by
  funext m
  by_cases h16 : m = 16
  · subst h16; funext k
    match k with
    | 0 => rfl
    | 1 => rfl
    | 2 => rfl
    | k + 3 => rfl
  simp only [z_up, z_row, if_neg h16]
theorem ci_ring_16 (hQ : ∀ (J' : z_J) (F' : z_F), (∀ c, c < 16 → F' c = F c) → Q none (z_row (z_row I 16 (rg 40 1)) 17 (fun _ => 0)) (z_row R 16 (rz 16)) J' F' 18) :
    z_M (z_X0 L xs) z_P0 d m_Ring_init [.ref 16, .int (nI 40), .int (nI 1)] (z_row I 16 (fun _ => 0)) (z_row R 16 (fun _ => .null)) J F 17 Q := by
  have q := hQ (z_row J 17 (fun _ => 0)) (z_row F 17 (fun _ => 0)) (fun c hc => by repeat rw [z_row_n _ _ (by omega)])
  rw [← zg_16] at q
  refine z_WP_gos [] 1000 fun K C hK hC => ?_
  conv => whnf
  simp (disch := omega) only [z_lit, nI_add, pk_mul, z_pr1, z_pr2, nI_clamp, z_up_row, z_row_s, z_row_n, z_row_row, pk_us, pk_un]
  refine And.intro (by simp only [X_sh, X_bd]; decide) ?_
  conv => whnf
  unfold rg at q
  exact q
theorem zg_27 : z_up (z_row R 27 (fun _ => .null)) 27 2 (.ref 28) = z_row R 27 (rz 27) := by
  funext m
  by_cases h27 : m = 27
  · subst h27; funext k
    match k with
    | 0 => rfl
    | 1 => rfl
    | 2 => rfl
    | k + 3 => rfl
  simp only [z_up, z_row, if_neg h27]
theorem ci_ring_27 (hQ : ∀ (J' : z_J) (F' : z_F), (∀ c, c < 27 → F' c = F c) → Q none (z_row (z_row I 27 (rg 60 5)) 28 (fun _ => 0)) (z_row R 27 (rz 27)) J' F' 29) :
    z_M (z_X0 L xs) z_P0 d m_Ring_init [.ref 27, .int (nI 60), .int (nI 5)] (z_row I 27 (fun _ => 0)) (z_row R 27 (fun _ => .null)) J F 28 Q := by
  have q := hQ (z_row J 28 (fun _ => 0)) (z_row F 28 (fun _ => 0)) (fun c hc => by repeat rw [z_row_n _ _ (by omega)])
  rw [← zg_27] at q
  refine z_WP_gos [] 1000 fun K C hK hC => ?_
  conv => whnf
  simp (disch := omega) only [z_lit, nI_add, pk_mul, z_pr1, z_pr2, nI_clamp, z_up_row, z_row_s, z_row_n, z_row_row, pk_us, pk_un]
  refine And.intro (by simp only [X_sh, X_bd]; decide) ?_
  conv => whnf
  unfold rg at q
  exact q
theorem zw_10 : (z_up (z_row (z_up (z_row (z_up (z_up (z_up (z_row R 10 (fun _ => .null)) 10 0 (.ref 11)) 10 1 (.ref 12)) 10 2 (.ref 13)) 14 (rz 14)) 10 3 (.ref 14)) 16 (rz 16)) 10 4 (.ref 16)) = (z_row (z_row (z_row R 10 (rz 10)) 14 (rz 14)) 16 (rz 16)) := by
  funext m
  by_cases h10 : m = 10
  · subst h10; funext k
    match k with
    | 0 => rfl
    | 1 => rfl
    | 2 => rfl
    | 3 => rfl
    | 4 => rfl
    | k + 5 => rfl
  by_cases h14 : m = 14
  · subst h14; funext k
    match k with
    | 0 => rfl
    | 1 => rfl
    | 2 => rfl
    | k + 3 => rfl
  by_cases h16 : m = 16
  · subst h16; funext k
    match k with
    | 0 => rfl
    | 1 => rfl
    | 2 => rfl
    | k + 3 => rfl
  simp only [z_up, z_row, if_neg h10, if_neg h14, if_neg h16]
theorem zwi_10 : (z_row (z_row (z_row (z_row (z_row (z_row (z_row I 11 (fun _ => 0)) 12 (fun _ => 0)) 13 (fun _ => 0)) 14 (rg 64 4)) 15 (fun _ => 0)) 16 (rg 40 1)) 17 (fun _ => 0)) = (z_row (z_row (zI 0 I 11 7) 14 (rg 64 4)) 16 (rg 40 1)) := by
  funext c
  by_cases h11 : c = 11
  · subst h11; rfl
  by_cases h12 : c = 12
  · subst h12; rfl
  by_cases h13 : c = 13
  · subst h13; rfl
  by_cases h14 : c = 14
  · subst h14; rfl
  by_cases h15 : c = 15
  · subst h15; rfl
  by_cases h16 : c = 16
  · subst h16; rfl
  by_cases h17 : c = 17
  · subst h17; rfl
  simp only [zI, z_row, if_neg h11, if_neg h12, if_neg h13, if_neg h14, if_neg h15, if_neg h16, if_neg h17]
  repeat' split
  all_goals first | rfl | omega
theorem ci_wires_10 (hQ : ∀ (J' : z_J) (F' : z_F), (∀ c, c < 10 → F' c = F c) → Q none (z_row (z_row (zI 0 I 11 7) 14 (rg 64 4)) 16 (rg 40 1)) (z_row (z_row (z_row R 10 (rz 10)) 14 (rz 14)) 16 (rz 16)) J' F' 18) :
    z_M (z_X0 L xs) z_P0 (d + 1) m_Wires_init [.ref 10] I (z_row R 10 (fun _ => .null)) J F 11 Q := by
  refine z_WP_gos [] 1000 fun K C hK hC => ?_
  conv => whnf
  refine And.intro (by simp only [X_sh, X_bd]; decide) ?_
  conv => whnf
  refine And.intro (by simp only [X_sh, X_bd]; decide) ?_
  conv => whnf
  refine And.intro (by simp only [X_sh, X_bd]; decide) ?_
  conv => whnf
  refine And.intro (by simp only [X_sh, X_bd]; decide) ?_
  conv => whnf
  refine And.intro (by simp only [X_sh, X_bd]; decide) ?_
  refine hC _ _ _ _ _ _ _ _ _ _ (fun _ _ _ _ _ _ q => q) (ci_ring_14 (fun J1 F1 hF1 => ?_))
  conv => whnf
  refine And.intro (by simp only [X_sh, X_bd]; decide) ?_
  conv => whnf
  refine And.intro (by simp only [X_sh, X_bd]; decide) ?_
  refine hC _ _ _ _ _ _ _ _ _ _ (fun _ _ _ _ _ _ q => q) (ci_ring_16 (fun J2 F2 hF2 => ?_))
  conv => whnf
  rw [zw_10, zwi_10]
  refine hQ J2 F2 (fun c hc => ?_)
  rw [hF2 c (by omega), hF1 c (by omega)]
  repeat rw [z_row_n _ _ (by omega)]
theorem zp_18 : (z_up (z_up (z_up (z_up (z_up (z_up (z_row R 18 (fun _ => .null)) 18 0 (.ref 19)) 18 1 (.ref 20)) 18 2 (.ref 21)) 18 3 (.ref 22)) 18 4 (.ref 23)) 18 6 (.ref 24)) = z_row R 18 (rz 18) := by
  funext m
  by_cases h18 : m = 18
  · subst h18; funext k
    match k with
    | 0 => rfl
    | 1 => rfl
    | 2 => rfl
    | 3 => rfl
    | 4 => rfl
    | 5 => rfl
    | 6 => rfl
    | k + 7 => rfl
  simp only [z_up, z_row, if_neg h18]
theorem zpi_18 : (z_row (z_row (z_row (z_row (z_row (z_row I 19 (fun _ => 0)) 20 (fun _ => 0)) 21 (fun _ => 0)) 22 (fun _ => 0)) 23 (fun _ => 0)) 24 (fun _ => 0)) = zI 0 I 19 6 := by
  funext c
  unfold zI z_row
  repeat' split
  all_goals first | rfl | omega
theorem ci_plan_18 (hQ : ∀ (J' : z_J) (F' : z_F), (∀ c, c < 18 → F' c = F c) → Q none (zI 0 I 19 6) (z_row R 18 (rz 18)) J' F' 25) :
    z_M (z_X0 L xs) z_P0 d m_Plan_init [.ref 18] I (z_row R 18 (fun _ => .null)) J F 19 Q := by
  have q := hQ (z_row (z_row (z_row (z_row (z_row (z_row J 19 (fun _ => 0)) 20 (fun _ => 0)) 21 (fun _ => 0)) 22 (fun _ => 0)) 23 (fun _ => 0)) 24 (fun _ => 0)) (z_row (z_row (z_row (z_row (z_row (z_row F 19 (fun _ => 0)) 20 (fun _ => 0)) 21 (fun _ => 0)) 22 (fun _ => 0)) 23 (fun _ => 0)) 24 (fun _ => 0)) (fun c hc => by repeat rw [z_row_n _ _ (by omega)])
  rw [← zp_18, ← zpi_18] at q
  refine z_WP_gos [] 1000 fun K C hK hC => ?_
  conv => whnf
  refine And.intro (by simp only [X_sh, X_bd]; decide) ?_
  conv => whnf
  refine And.intro (by simp only [X_sh, X_bd]; decide) ?_
  conv => whnf
  refine And.intro (by simp only [X_sh, X_bd]; decide) ?_
  conv => whnf
  refine And.intro (by simp only [X_sh, X_bd]; decide) ?_
  conv => whnf
  refine And.intro (by simp only [X_sh, X_bd]; decide) ?_
  conv => whnf
  refine And.intro (by simp only [X_sh, X_bd]; decide) ?_
  conv => whnf
  exact q
theorem zs_25 : z_up (z_row R 25 (fun _ => .null)) 25 0 (.ref 26) = z_row R 25 (rz 25) := by
  funext m
  by_cases h25 : m = 25
  · subst h25; funext k
    match k with
    | 0 => rfl
    | k + 1 => rfl
  simp only [z_up, z_row, if_neg h25]
theorem ci_script_25 (hQ : ∀ (J' : z_J) (F' : z_F), (∀ c, c < 25 → F' c = F c) → Q none (z_row I 26 (fun _ => 0)) (z_row R 25 (rz 25)) J' F' 27) :
    z_M (z_X0 L xs) z_P0 d m_Script_init [.ref 25] I (z_row R 25 (fun _ => .null)) J F 26 Q := by
  have q := hQ (z_row J 26 (fun _ => 0)) (z_row F 26 (fun _ => 0)) (fun c hc => by repeat rw [z_row_n _ _ (by omega)])
  rw [← zs_25] at q
  refine z_WP_gos [] 1000 fun K C hK hC => ?_
  conv => whnf
  refine And.intro (by simp only [X_sh, X_bd]; decide) ?_
  conv => whnf
  exact q
theorem zz_1 : (z_up (z_row (z_up (z_row (z_up (z_row (z_up (z_row (z_row (z_row (z_up (z_row (z_row R 1 (fun _ => .null)) 2 (rz 2)) 1 0 (.ref 2)) 10 (rz 10)) 14 (rz 14)) 16 (rz 16)) 1 1 (.ref 10)) 18 (rz 18)) 1 2 (.ref 18)) 25 (rz 25)) 1 3 (.ref 25)) 27 (rz 27)) 1 4 (.ref 27)) = (z_row (z_row (z_row (z_row (z_row (z_row (z_row (z_row R 1 (rz 1)) 2 (rz 2)) 10 (rz 10)) 14 (rz 14)) 16 (rz 16)) 18 (rz 18)) 25 (rz 25)) 27 (rz 27)) := by
  funext m
  by_cases h1 : m = 1
  · subst h1; funext k
    match k with
    | 0 => rfl
    | 1 => rfl
    | 2 => rfl
    | 3 => rfl
    | 4 => rfl
    | k + 5 => rfl
  by_cases h2 : m = 2
  · subst h2; funext k
    match k with
    | 0 => rfl
    | 1 => rfl
    | 2 => rfl
    | 3 => rfl
    | 4 => rfl
    | 5 => rfl
    | 6 => rfl
    | k + 7 => rfl
  by_cases h10 : m = 10
  · subst h10; funext k
    match k with
    | 0 => rfl
    | 1 => rfl
    | 2 => rfl
    | 3 => rfl
    | 4 => rfl
    | k + 5 => rfl
  by_cases h14 : m = 14
  · subst h14; funext k
    match k with
    | 0 => rfl
    | 1 => rfl
    | 2 => rfl
    | k + 3 => rfl
  by_cases h16 : m = 16
  · subst h16; funext k
    match k with
    | 0 => rfl
    | 1 => rfl
    | 2 => rfl
    | k + 3 => rfl
  by_cases h18 : m = 18
  · subst h18; funext k
    match k with
    | 0 => rfl
    | 1 => rfl
    | 2 => rfl
    | 3 => rfl
    | 4 => rfl
    | 5 => rfl
    | 6 => rfl
    | k + 7 => rfl
  by_cases h25 : m = 25
  · subst h25; funext k
    match k with
    | 0 => rfl
    | k + 1 => rfl
  by_cases h27 : m = 27
  · subst h27; funext k
    match k with
    | 0 => rfl
    | 1 => rfl
    | 2 => rfl
    | k + 3 => rfl
  simp only [z_up, z_row, if_neg h1, if_neg h2, if_neg h10, if_neg h14, if_neg h16, if_neg h18, if_neg h25, if_neg h27]
theorem zzi_1 : (z_row (z_row (z_row (z_row (zI 0 (z_row (z_row (z_row (zI 0 (z_row (z_row (zI 0 (z_row I 2 (fun _ => 0)) 3 7) 3 (T2 8)) 10 (fun _ => 0)) 11 7) 14 (rg 64 4)) 16 (rg 40 1)) 18 (fun _ => 0)) 19 6) 25 (fun _ => 0)) 26 (fun _ => 0)) 27 (rg 60 5)) 28 (fun _ => 0)) = (z_row (z_row (z_row (z_row (zI 0 I 2 27) 3 (T2 8)) 14 (rg 64 4)) 16 (rg 40 1)) 27 (rg 60 5)) := by
  funext c
  by_cases h2 : c = 2
  · subst h2; rfl
  by_cases h3 : c = 3
  · subst h3; rfl
  by_cases h10 : c = 10
  · subst h10; rfl
  by_cases h14 : c = 14
  · subst h14; rfl
  by_cases h16 : c = 16
  · subst h16; rfl
  by_cases h18 : c = 18
  · subst h18; rfl
  by_cases h25 : c = 25
  · subst h25; rfl
  by_cases h26 : c = 26
  · subst h26; rfl
  by_cases h27 : c = 27
  · subst h27; rfl
  by_cases h28 : c = 28
  · subst h28; rfl
  simp only [zI, z_row, if_neg h2, if_neg h3, if_neg h10, if_neg h14, if_neg h16, if_neg h18, if_neg h25, if_neg h26, if_neg h27, if_neg h28]
  repeat' split
  all_goals first | rfl | omega
theorem ci_world_1 (hQ : ∀ (J' : z_J) (F' : z_F), (∀ c, c < 1 → F' c = F c) → F' 8 = (fun _ => 0) → Q none (z_row (z_row (z_row (z_row (z_row (zI 0 I 2 27) 3 (T2 8)) 14 (rg 64 4)) 16 (rg 40 1)) 27 (rg 60 5)) 1 (upd (upd (upd (I 1) 5 (nI 2000)) 6 (nI 1)) 8 (nI 8))) (z_row (z_row (z_row (z_row (z_row (z_row (z_row (z_row R 1 (rz 1)) 2 (rz 2)) 10 (rz 10)) 14 (rz 14)) 16 (rz 16)) 18 (rz 18)) 25 (rz 25)) 27 (rz 27)) J' F' 29) :
    z_M (z_X0 L xs) z_P0 (d + 2) m_World_init [.ref 1] I (z_row R 1 (fun _ => .null)) J F 2 Q := by
  refine z_WP_gos [] 1000 fun K C hK hC => ?_
  conv => whnf
  refine And.intro (by simp only [X_sh, X_bd]; decide) ?_
  conv => whnf
  refine And.intro (by simp only [X_sh, X_bd]; decide) ?_
  refine hC _ _ _ _ _ _ _ _ _ _ (fun _ _ _ _ _ _ q => q) (ci_units_2 (fun J1 F1 hF1 hF8 => ?_))
  conv => whnf
  refine And.intro (by simp only [X_sh, X_bd]; decide) ?_
  conv => whnf
  refine And.intro (by simp only [X_sh, X_bd]; decide) ?_
  refine hC _ _ _ _ _ _ _ _ _ _ (fun _ _ _ _ _ _ q => q) (ci_wires_10 (fun J2 F2 hF2 => ?_))
  conv => whnf
  refine And.intro (by simp only [X_sh, X_bd]; decide) ?_
  conv => whnf
  refine And.intro (by simp only [X_sh, X_bd]; decide) ?_
  refine hC _ _ _ _ _ _ _ _ _ _ (fun _ _ _ _ _ _ q => q) (ci_plan_18 (fun J3 F3 hF3 => ?_))
  conv => whnf
  refine And.intro (by simp only [X_sh, X_bd]; decide) ?_
  conv => whnf
  refine And.intro (by simp only [X_sh, X_bd]; decide) ?_
  refine hC _ _ _ _ _ _ _ _ _ _ (fun _ _ _ _ _ _ q => q) (ci_script_25 (fun J4 F4 hF4 => ?_))
  conv => whnf
  refine And.intro (by simp only [X_sh, X_bd]; decide) ?_
  conv => whnf
  refine And.intro (by simp only [X_sh, X_bd]; decide) ?_
  refine hC _ _ _ _ _ _ _ _ _ _ (fun _ _ _ _ _ _ q => q) (ci_ring_27 (fun J5 F5 hF5 => ?_))
  conv => whnf
  rw [zz_1, zzi_1]
  simp (disch := omega) only [z_lit, nI_add, pk_mul, z_pr1, z_pr2, nI_clamp, z_up_row, z_row_s, z_row_n, z_row_row, pk_us, pk_un]
  refine z_Qv (hQ J5 F5 (fun c hc => ?_) ?_) ?_
  · rw [hF5 c (by omega), hF4 c (by omega), hF3 c (by omega), hF2 c (by omega), hF1 c (by omega)]
  · rw [hF5 _ (by decide), hF4 _ (by decide), hF3 _ (by decide), hF2 _ (by decide)]; exact hF8
  · rfl
theorem zg_63 : z_up (z_row R 63 (fun _ => .null)) 63 2 (.ref 64) = z_row R 63 (rz 63) := by
  funext m
  by_cases h63 : m = 63
  · subst h63; funext k
    match k with
    | 0 => rfl
    | 1 => rfl
    | 2 => rfl
    | k + 3 => rfl
  simp only [z_up, z_row, if_neg h63]
theorem ci_ring_63 (hQ : ∀ (J' : z_J) (F' : z_F), (∀ c, c < 63 → F' c = F c) → Q none (z_row (z_row I 63 (rg 64 4)) 64 (fun _ => 0)) (z_row R 63 (rz 63)) J' F' 65) :
    z_M (z_X0 L xs) z_P0 d m_Ring_init [.ref 63, .int (nI 64), .int (nI 4)] (z_row I 63 (fun _ => 0)) (z_row R 63 (fun _ => .null)) J F 64 Q := by
  have q := hQ (z_row J 64 (fun _ => 0)) (z_row F 64 (fun _ => 0)) (fun c hc => by repeat rw [z_row_n _ _ (by omega)])
  rw [← zg_63] at q
  refine z_WP_gos [] 1000 fun K C hK hC => ?_
  conv => whnf
  simp (disch := omega) only [z_lit, nI_add, pk_mul, z_pr1, z_pr2, nI_clamp, z_up_row, z_row_s, z_row_n, z_row_row, pk_us, pk_un]
  refine And.intro (by simp only [X_sh, X_bd]; decide) ?_
  conv => whnf
  unfold rg at q
  exact q
theorem zg_65 : z_up (z_row R 65 (fun _ => .null)) 65 2 (.ref 66) = z_row R 65 (rz 65) := by
  funext m
  by_cases h65 : m = 65
  · subst h65; funext k
    match k with
    | 0 => rfl
    | 1 => rfl
    | 2 => rfl
    | k + 3 => rfl
  simp only [z_up, z_row, if_neg h65]
theorem ci_ring_65 (hQ : ∀ (J' : z_J) (F' : z_F), (∀ c, c < 65 → F' c = F c) → Q none (z_row (z_row I 65 (rg 40 1)) 66 (fun _ => 0)) (z_row R 65 (rz 65)) J' F' 67) :
    z_M (z_X0 L xs) z_P0 d m_Ring_init [.ref 65, .int (nI 40), .int (nI 1)] (z_row I 65 (fun _ => 0)) (z_row R 65 (fun _ => .null)) J F 66 Q := by
  have q := hQ (z_row J 66 (fun _ => 0)) (z_row F 66 (fun _ => 0)) (fun c hc => by repeat rw [z_row_n _ _ (by omega)])
  rw [← zg_65] at q
  refine z_WP_gos [] 1000 fun K C hK hC => ?_
  conv => whnf
  simp (disch := omega) only [z_lit, nI_add, pk_mul, z_pr1, z_pr2, nI_clamp, z_up_row, z_row_s, z_row_n, z_row_row, pk_us, pk_un]
  refine And.intro (by simp only [X_sh, X_bd]; decide) ?_
  conv => whnf
  unfold rg at q
  exact q
theorem zg_76 : z_up (z_row R 76 (fun _ => .null)) 76 2 (.ref 77) = z_row R 76 (rz 76) := by
  funext m
  by_cases h76 : m = 76
  · subst h76; funext k
    match k with
    | 0 => rfl
    | 1 => rfl
    | 2 => rfl
    | k + 3 => rfl
  simp only [z_up, z_row, if_neg h76]
theorem ci_ring_76 (hQ : ∀ (J' : z_J) (F' : z_F), (∀ c, c < 76 → F' c = F c) → Q none (z_row (z_row I 76 (rg 60 5)) 77 (fun _ => 0)) (z_row R 76 (rz 76)) J' F' 78) :
    z_M (z_X0 L xs) z_P0 d m_Ring_init [.ref 76, .int (nI 60), .int (nI 5)] (z_row I 76 (fun _ => 0)) (z_row R 76 (fun _ => .null)) J F 77 Q := by
  have q := hQ (z_row J 77 (fun _ => 0)) (z_row F 77 (fun _ => 0)) (fun c hc => by repeat rw [z_row_n _ _ (by omega)])
  rw [← zg_76] at q
  refine z_WP_gos [] 1000 fun K C hK hC => ?_
  conv => whnf
  simp (disch := omega) only [z_lit, nI_add, pk_mul, z_pr1, z_pr2, nI_clamp, z_up_row, z_row_s, z_row_n, z_row_row, pk_us, pk_un]
  refine And.intro (by simp only [X_sh, X_bd]; decide) ?_
  conv => whnf
  unfold rg at q
  exact q
theorem zw_59 : (z_up (z_row (z_up (z_row (z_up (z_up (z_up (z_row R 59 (fun _ => .null)) 59 0 (.ref 60)) 59 1 (.ref 61)) 59 2 (.ref 62)) 63 (rz 63)) 59 3 (.ref 63)) 65 (rz 65)) 59 4 (.ref 65)) = (z_row (z_row (z_row R 59 (rz 59)) 63 (rz 63)) 65 (rz 65)) := by
  funext m
  by_cases h59 : m = 59
  · subst h59; funext k
    match k with
    | 0 => rfl
    | 1 => rfl
    | 2 => rfl
    | 3 => rfl
    | 4 => rfl
    | k + 5 => rfl
  by_cases h63 : m = 63
  · subst h63; funext k
    match k with
    | 0 => rfl
    | 1 => rfl
    | 2 => rfl
    | k + 3 => rfl
  by_cases h65 : m = 65
  · subst h65; funext k
    match k with
    | 0 => rfl
    | 1 => rfl
    | 2 => rfl
    | k + 3 => rfl
  simp only [z_up, z_row, if_neg h59, if_neg h63, if_neg h65]
theorem zwi_59 : (z_row (z_row (z_row (z_row (z_row (z_row (z_row I 60 (fun _ => 0)) 61 (fun _ => 0)) 62 (fun _ => 0)) 63 (rg 64 4)) 64 (fun _ => 0)) 65 (rg 40 1)) 66 (fun _ => 0)) = (z_row (z_row (zI 0 I 60 7) 63 (rg 64 4)) 65 (rg 40 1)) := by
  funext c
  by_cases h60 : c = 60
  · subst h60; rfl
  by_cases h61 : c = 61
  · subst h61; rfl
  by_cases h62 : c = 62
  · subst h62; rfl
  by_cases h63 : c = 63
  · subst h63; rfl
  by_cases h64 : c = 64
  · subst h64; rfl
  by_cases h65 : c = 65
  · subst h65; rfl
  by_cases h66 : c = 66
  · subst h66; rfl
  simp only [zI, z_row, if_neg h60, if_neg h61, if_neg h62, if_neg h63, if_neg h64, if_neg h65, if_neg h66]
  repeat' split
  all_goals first | rfl | omega
theorem ci_wires_59 (hQ : ∀ (J' : z_J) (F' : z_F), (∀ c, c < 59 → F' c = F c) → Q none (z_row (z_row (zI 0 I 60 7) 63 (rg 64 4)) 65 (rg 40 1)) (z_row (z_row (z_row R 59 (rz 59)) 63 (rz 63)) 65 (rz 65)) J' F' 67) :
    z_M (z_X0 L xs) z_P0 (d + 1) m_Wires_init [.ref 59] I (z_row R 59 (fun _ => .null)) J F 60 Q := by
  refine z_WP_gos [] 1000 fun K C hK hC => ?_
  conv => whnf
  refine And.intro (by simp only [X_sh, X_bd]; decide) ?_
  conv => whnf
  refine And.intro (by simp only [X_sh, X_bd]; decide) ?_
  conv => whnf
  refine And.intro (by simp only [X_sh, X_bd]; decide) ?_
  conv => whnf
  refine And.intro (by simp only [X_sh, X_bd]; decide) ?_
  conv => whnf
  refine And.intro (by simp only [X_sh, X_bd]; decide) ?_
  refine hC _ _ _ _ _ _ _ _ _ _ (fun _ _ _ _ _ _ q => q) (ci_ring_63 (fun J1 F1 hF1 => ?_))
  conv => whnf
  refine And.intro (by simp only [X_sh, X_bd]; decide) ?_
  conv => whnf
  refine And.intro (by simp only [X_sh, X_bd]; decide) ?_
  refine hC _ _ _ _ _ _ _ _ _ _ (fun _ _ _ _ _ _ q => q) (ci_ring_65 (fun J2 F2 hF2 => ?_))
  conv => whnf
  rw [zw_59, zwi_59]
  refine hQ J2 F2 (fun c hc => ?_)
  rw [hF2 c (by omega), hF1 c (by omega)]
  repeat rw [z_row_n _ _ (by omega)]
theorem zp_67 : (z_up (z_up (z_up (z_up (z_up (z_up (z_row R 67 (fun _ => .null)) 67 0 (.ref 68)) 67 1 (.ref 69)) 67 2 (.ref 70)) 67 3 (.ref 71)) 67 4 (.ref 72)) 67 6 (.ref 73)) = z_row R 67 (rz 67) := by
  funext m
  by_cases h67 : m = 67
  · subst h67; funext k
    match k with
    | 0 => rfl
    | 1 => rfl
    | 2 => rfl
    | 3 => rfl
    | 4 => rfl
    | 5 => rfl
    | 6 => rfl
    | k + 7 => rfl
  simp only [z_up, z_row, if_neg h67]
theorem zpi_67 : (z_row (z_row (z_row (z_row (z_row (z_row I 68 (fun _ => 0)) 69 (fun _ => 0)) 70 (fun _ => 0)) 71 (fun _ => 0)) 72 (fun _ => 0)) 73 (fun _ => 0)) = zI 0 I 68 6 := by
  funext c
  unfold zI z_row
  repeat' split
  all_goals first | rfl | omega
theorem ci_plan_67 (hQ : ∀ (J' : z_J) (F' : z_F), (∀ c, c < 67 → F' c = F c) → Q none (zI 0 I 68 6) (z_row R 67 (rz 67)) J' F' 74) :
    z_M (z_X0 L xs) z_P0 d m_Plan_init [.ref 67] I (z_row R 67 (fun _ => .null)) J F 68 Q := by
  have q := hQ (z_row (z_row (z_row (z_row (z_row (z_row J 68 (fun _ => 0)) 69 (fun _ => 0)) 70 (fun _ => 0)) 71 (fun _ => 0)) 72 (fun _ => 0)) 73 (fun _ => 0)) (z_row (z_row (z_row (z_row (z_row (z_row F 68 (fun _ => 0)) 69 (fun _ => 0)) 70 (fun _ => 0)) 71 (fun _ => 0)) 72 (fun _ => 0)) 73 (fun _ => 0)) (fun c hc => by repeat rw [z_row_n _ _ (by omega)])
  rw [← zp_67, ← zpi_67] at q
  refine z_WP_gos [] 1000 fun K C hK hC => ?_
  conv => whnf
  refine And.intro (by simp only [X_sh, X_bd]; decide) ?_
  conv => whnf
  refine And.intro (by simp only [X_sh, X_bd]; decide) ?_
  conv => whnf
  refine And.intro (by simp only [X_sh, X_bd]; decide) ?_
  conv => whnf
  refine And.intro (by simp only [X_sh, X_bd]; decide) ?_
  conv => whnf
  refine And.intro (by simp only [X_sh, X_bd]; decide) ?_
  conv => whnf
  refine And.intro (by simp only [X_sh, X_bd]; decide) ?_
  conv => whnf
  exact q
theorem zs_74 : z_up (z_row R 74 (fun _ => .null)) 74 0 (.ref 75) = z_row R 74 (rz 74) := by
  funext m
  by_cases h74 : m = 74
  · subst h74; funext k
    match k with
    | 0 => rfl
    | k + 1 => rfl
  simp only [z_up, z_row, if_neg h74]
theorem ci_script_74 (hQ : ∀ (J' : z_J) (F' : z_F), (∀ c, c < 74 → F' c = F c) → Q none (z_row I 75 (fun _ => 0)) (z_row R 74 (rz 74)) J' F' 76) :
    z_M (z_X0 L xs) z_P0 d m_Script_init [.ref 74] I (z_row R 74 (fun _ => .null)) J F 75 Q := by
  have q := hQ (z_row J 75 (fun _ => 0)) (z_row F 75 (fun _ => 0)) (fun c hc => by repeat rw [z_row_n _ _ (by omega)])
  rw [← zs_74] at q
  refine z_WP_gos [] 1000 fun K C hK hC => ?_
  conv => whnf
  refine And.intro (by simp only [X_sh, X_bd]; decide) ?_
  conv => whnf
  exact q
theorem zz_50 : (z_up (z_row (z_up (z_row (z_up (z_row (z_up (z_row (z_row (z_row (z_up (z_row (z_row R 50 (fun _ => .null)) 51 (rz 51)) 50 0 (.ref 51)) 59 (rz 59)) 63 (rz 63)) 65 (rz 65)) 50 1 (.ref 59)) 67 (rz 67)) 50 2 (.ref 67)) 74 (rz 74)) 50 3 (.ref 74)) 76 (rz 76)) 50 4 (.ref 76)) = (z_row (z_row (z_row (z_row (z_row (z_row (z_row (z_row R 50 (rz 50)) 51 (rz 51)) 59 (rz 59)) 63 (rz 63)) 65 (rz 65)) 67 (rz 67)) 74 (rz 74)) 76 (rz 76)) := by
  funext m
  by_cases h50 : m = 50
  · subst h50; funext k
    match k with
    | 0 => rfl
    | 1 => rfl
    | 2 => rfl
    | 3 => rfl
    | 4 => rfl
    | k + 5 => rfl
  by_cases h51 : m = 51
  · subst h51; funext k
    match k with
    | 0 => rfl
    | 1 => rfl
    | 2 => rfl
    | 3 => rfl
    | 4 => rfl
    | 5 => rfl
    | 6 => rfl
    | k + 7 => rfl
  by_cases h59 : m = 59
  · subst h59; funext k
    match k with
    | 0 => rfl
    | 1 => rfl
    | 2 => rfl
    | 3 => rfl
    | 4 => rfl
    | k + 5 => rfl
  by_cases h63 : m = 63
  · subst h63; funext k
    match k with
    | 0 => rfl
    | 1 => rfl
    | 2 => rfl
    | k + 3 => rfl
  by_cases h65 : m = 65
  · subst h65; funext k
    match k with
    | 0 => rfl
    | 1 => rfl
    | 2 => rfl
    | k + 3 => rfl
  by_cases h67 : m = 67
  · subst h67; funext k
    match k with
    | 0 => rfl
    | 1 => rfl
    | 2 => rfl
    | 3 => rfl
    | 4 => rfl
    | 5 => rfl
    | 6 => rfl
    | k + 7 => rfl
  by_cases h74 : m = 74
  · subst h74; funext k
    match k with
    | 0 => rfl
    | k + 1 => rfl
  by_cases h76 : m = 76
  · subst h76; funext k
    match k with
    | 0 => rfl
    | 1 => rfl
    | 2 => rfl
    | k + 3 => rfl
  simp only [z_up, z_row, if_neg h50, if_neg h51, if_neg h59, if_neg h63, if_neg h65, if_neg h67, if_neg h74, if_neg h76]
theorem zzi_50 : (z_row (z_row (z_row (z_row (zI 0 (z_row (z_row (z_row (zI 0 (z_row (z_row (zI 0 (z_row I 51 (fun _ => 0)) 52 7) 52 (T2 8)) 59 (fun _ => 0)) 60 7) 63 (rg 64 4)) 65 (rg 40 1)) 67 (fun _ => 0)) 68 6) 74 (fun _ => 0)) 75 (fun _ => 0)) 76 (rg 60 5)) 77 (fun _ => 0)) = (z_row (z_row (z_row (z_row (zI 0 I 51 27) 52 (T2 8)) 63 (rg 64 4)) 65 (rg 40 1)) 76 (rg 60 5)) := by
  funext c
  by_cases h51 : c = 51
  · subst h51; rfl
  by_cases h52 : c = 52
  · subst h52; rfl
  by_cases h59 : c = 59
  · subst h59; rfl
  by_cases h63 : c = 63
  · subst h63; rfl
  by_cases h65 : c = 65
  · subst h65; rfl
  by_cases h67 : c = 67
  · subst h67; rfl
  by_cases h74 : c = 74
  · subst h74; rfl
  by_cases h75 : c = 75
  · subst h75; rfl
  by_cases h76 : c = 76
  · subst h76; rfl
  by_cases h77 : c = 77
  · subst h77; rfl
  simp only [zI, z_row, if_neg h51, if_neg h52, if_neg h59, if_neg h63, if_neg h65, if_neg h67, if_neg h74, if_neg h75, if_neg h76, if_neg h77]
  repeat' split
  all_goals first | rfl | omega
theorem ci_world_50 (hQ : ∀ (J' : z_J) (F' : z_F), (∀ c, c < 50 → F' c = F c) → F' 57 = (fun _ => 0) → Q none (z_row (z_row (z_row (z_row (z_row (zI 0 I 51 27) 52 (T2 8)) 63 (rg 64 4)) 65 (rg 40 1)) 76 (rg 60 5)) 50 (upd (upd (upd (I 50) 5 (nI 2000)) 6 (nI 1)) 8 (nI 8))) (z_row (z_row (z_row (z_row (z_row (z_row (z_row (z_row R 50 (rz 50)) 51 (rz 51)) 59 (rz 59)) 63 (rz 63)) 65 (rz 65)) 67 (rz 67)) 74 (rz 74)) 76 (rz 76)) J' F' 78) :
    z_M (z_X0 L xs) z_P0 (d + 2) m_World_init [.ref 50] I (z_row R 50 (fun _ => .null)) J F 51 Q := by
  refine z_WP_gos [] 1000 fun K C hK hC => ?_
  conv => whnf
  refine And.intro (by simp only [X_sh, X_bd]; decide) ?_
  conv => whnf
  refine And.intro (by simp only [X_sh, X_bd]; decide) ?_
  refine hC _ _ _ _ _ _ _ _ _ _ (fun _ _ _ _ _ _ q => q) (ci_units_51 (fun J1 F1 hF1 hF8 => ?_))
  conv => whnf
  refine And.intro (by simp only [X_sh, X_bd]; decide) ?_
  conv => whnf
  refine And.intro (by simp only [X_sh, X_bd]; decide) ?_
  refine hC _ _ _ _ _ _ _ _ _ _ (fun _ _ _ _ _ _ q => q) (ci_wires_59 (fun J2 F2 hF2 => ?_))
  conv => whnf
  refine And.intro (by simp only [X_sh, X_bd]; decide) ?_
  conv => whnf
  refine And.intro (by simp only [X_sh, X_bd]; decide) ?_
  refine hC _ _ _ _ _ _ _ _ _ _ (fun _ _ _ _ _ _ q => q) (ci_plan_67 (fun J3 F3 hF3 => ?_))
  conv => whnf
  refine And.intro (by simp only [X_sh, X_bd]; decide) ?_
  conv => whnf
  refine And.intro (by simp only [X_sh, X_bd]; decide) ?_
  refine hC _ _ _ _ _ _ _ _ _ _ (fun _ _ _ _ _ _ q => q) (ci_script_74 (fun J4 F4 hF4 => ?_))
  conv => whnf
  refine And.intro (by simp only [X_sh, X_bd]; decide) ?_
  conv => whnf
  refine And.intro (by simp only [X_sh, X_bd]; decide) ?_
  refine hC _ _ _ _ _ _ _ _ _ _ (fun _ _ _ _ _ _ q => q) (ci_ring_76 (fun J5 F5 hF5 => ?_))
  conv => whnf
  rw [zz_50, zzi_50]
  simp (disch := omega) only [z_lit, nI_add, pk_mul, z_pr1, z_pr2, nI_clamp, z_up_row, z_row_s, z_row_n, z_row_row, pk_us, pk_un]
  refine z_Qv (hQ J5 F5 (fun c hc => ?_) ?_) ?_
  · rw [hF5 c (by omega), hF4 c (by omega), hF3 c (by omega), hF2 c (by omega), hF1 c (by omega)]
  · rw [hF5 _ (by decide), hF4 _ (by decide), hF3 _ (by decide), hF2 _ (by decide)]; exact hF8
  · rfl
theorem zg_91 : z_up (z_row R 91 (fun _ => .null)) 91 2 (.ref 92) = z_row R 91 (rz 91) := by
  funext m
  by_cases h91 : m = 91
  · subst h91; funext k
    match k with
    | 0 => rfl
    | 1 => rfl
    | 2 => rfl
    | k + 3 => rfl
  simp only [z_up, z_row, if_neg h91]
theorem ci_ring_91 (hQ : ∀ (J' : z_J) (F' : z_F), (∀ c, c < 91 → F' c = F c) → Q none (z_row (z_row I 91 (rg 64 4)) 92 (fun _ => 0)) (z_row R 91 (rz 91)) J' F' 93) :
    z_M (z_X0 L xs) z_P0 d m_Ring_init [.ref 91, .int (nI 64), .int (nI 4)] (z_row I 91 (fun _ => 0)) (z_row R 91 (fun _ => .null)) J F 92 Q := by
  have q := hQ (z_row J 92 (fun _ => 0)) (z_row F 92 (fun _ => 0)) (fun c hc => by repeat rw [z_row_n _ _ (by omega)])
  rw [← zg_91] at q
  refine z_WP_gos [] 1000 fun K C hK hC => ?_
  conv => whnf
  simp (disch := omega) only [z_lit, nI_add, pk_mul, z_pr1, z_pr2, nI_clamp, z_up_row, z_row_s, z_row_n, z_row_row, pk_us, pk_un]
  refine And.intro (by simp only [X_sh, X_bd]; decide) ?_
  conv => whnf
  unfold rg at q
  exact q
theorem zg_93 : z_up (z_row R 93 (fun _ => .null)) 93 2 (.ref 94) = z_row R 93 (rz 93) := by
  funext m
  by_cases h93 : m = 93
  · subst h93; funext k
    match k with
    | 0 => rfl
    | 1 => rfl
    | 2 => rfl
    | k + 3 => rfl
  simp only [z_up, z_row, if_neg h93]
theorem ci_ring_93 (hQ : ∀ (J' : z_J) (F' : z_F), (∀ c, c < 93 → F' c = F c) → Q none (z_row (z_row I 93 (rg 40 1)) 94 (fun _ => 0)) (z_row R 93 (rz 93)) J' F' 95) :
    z_M (z_X0 L xs) z_P0 d m_Ring_init [.ref 93, .int (nI 40), .int (nI 1)] (z_row I 93 (fun _ => 0)) (z_row R 93 (fun _ => .null)) J F 94 Q := by
  have q := hQ (z_row J 94 (fun _ => 0)) (z_row F 94 (fun _ => 0)) (fun c hc => by repeat rw [z_row_n _ _ (by omega)])
  rw [← zg_93] at q
  refine z_WP_gos [] 1000 fun K C hK hC => ?_
  conv => whnf
  simp (disch := omega) only [z_lit, nI_add, pk_mul, z_pr1, z_pr2, nI_clamp, z_up_row, z_row_s, z_row_n, z_row_row, pk_us, pk_un]
  refine And.intro (by simp only [X_sh, X_bd]; decide) ?_
  conv => whnf
  unfold rg at q
  exact q
theorem zg_104 : z_up (z_row R 104 (fun _ => .null)) 104 2 (.ref 105) = z_row R 104 (rz 104) := by
  funext m
  by_cases h104 : m = 104
  · subst h104; funext k
    match k with
    | 0 => rfl
    | 1 => rfl
    | 2 => rfl
    | k + 3 => rfl
  simp only [z_up, z_row, if_neg h104]
theorem ci_ring_104 (hQ : ∀ (J' : z_J) (F' : z_F), (∀ c, c < 104 → F' c = F c) → Q none (z_row (z_row I 104 (rg 60 5)) 105 (fun _ => 0)) (z_row R 104 (rz 104)) J' F' 106) :
    z_M (z_X0 L xs) z_P0 d m_Ring_init [.ref 104, .int (nI 60), .int (nI 5)] (z_row I 104 (fun _ => 0)) (z_row R 104 (fun _ => .null)) J F 105 Q := by
  have q := hQ (z_row J 105 (fun _ => 0)) (z_row F 105 (fun _ => 0)) (fun c hc => by repeat rw [z_row_n _ _ (by omega)])
  rw [← zg_104] at q
  refine z_WP_gos [] 1000 fun K C hK hC => ?_
  conv => whnf
  simp (disch := omega) only [z_lit, nI_add, pk_mul, z_pr1, z_pr2, nI_clamp, z_up_row, z_row_s, z_row_n, z_row_row, pk_us, pk_un]
  refine And.intro (by simp only [X_sh, X_bd]; decide) ?_
  conv => whnf
  unfold rg at q
  exact q
theorem zw_87 : (z_up (z_row (z_up (z_row (z_up (z_up (z_up (z_row R 87 (fun _ => .null)) 87 0 (.ref 88)) 87 1 (.ref 89)) 87 2 (.ref 90)) 91 (rz 91)) 87 3 (.ref 91)) 93 (rz 93)) 87 4 (.ref 93)) = (z_row (z_row (z_row R 87 (rz 87)) 91 (rz 91)) 93 (rz 93)) := by
  funext m
  by_cases h87 : m = 87
  · subst h87; funext k
    match k with
    | 0 => rfl
    | 1 => rfl
    | 2 => rfl
    | 3 => rfl
    | 4 => rfl
    | k + 5 => rfl
  by_cases h91 : m = 91
  · subst h91; funext k
    match k with
    | 0 => rfl
    | 1 => rfl
    | 2 => rfl
    | k + 3 => rfl
  by_cases h93 : m = 93
  · subst h93; funext k
    match k with
    | 0 => rfl
    | 1 => rfl
    | 2 => rfl
    | k + 3 => rfl
  simp only [z_up, z_row, if_neg h87, if_neg h91, if_neg h93]
theorem zwi_87 : (z_row (z_row (z_row (z_row (z_row (z_row (z_row I 88 (fun _ => 0)) 89 (fun _ => 0)) 90 (fun _ => 0)) 91 (rg 64 4)) 92 (fun _ => 0)) 93 (rg 40 1)) 94 (fun _ => 0)) = (z_row (z_row (zI 0 I 88 7) 91 (rg 64 4)) 93 (rg 40 1)) := by
  funext c
  by_cases h88 : c = 88
  · subst h88; rfl
  by_cases h89 : c = 89
  · subst h89; rfl
  by_cases h90 : c = 90
  · subst h90; rfl
  by_cases h91 : c = 91
  · subst h91; rfl
  by_cases h92 : c = 92
  · subst h92; rfl
  by_cases h93 : c = 93
  · subst h93; rfl
  by_cases h94 : c = 94
  · subst h94; rfl
  simp only [zI, z_row, if_neg h88, if_neg h89, if_neg h90, if_neg h91, if_neg h92, if_neg h93, if_neg h94]
  repeat' split
  all_goals first | rfl | omega
theorem ci_wires_87 (hQ : ∀ (J' : z_J) (F' : z_F), (∀ c, c < 87 → F' c = F c) → Q none (z_row (z_row (zI 0 I 88 7) 91 (rg 64 4)) 93 (rg 40 1)) (z_row (z_row (z_row R 87 (rz 87)) 91 (rz 91)) 93 (rz 93)) J' F' 95) :
    z_M (z_X0 L xs) z_P0 (d + 1) m_Wires_init [.ref 87] I (z_row R 87 (fun _ => .null)) J F 88 Q := by
  refine z_WP_gos [] 1000 fun K C hK hC => ?_
  conv => whnf
  refine And.intro (by simp only [X_sh, X_bd]; decide) ?_
  conv => whnf
  refine And.intro (by simp only [X_sh, X_bd]; decide) ?_
  conv => whnf
  refine And.intro (by simp only [X_sh, X_bd]; decide) ?_
  conv => whnf
  refine And.intro (by simp only [X_sh, X_bd]; decide) ?_
  conv => whnf
  refine And.intro (by simp only [X_sh, X_bd]; decide) ?_
  refine hC _ _ _ _ _ _ _ _ _ _ (fun _ _ _ _ _ _ q => q) (ci_ring_91 (fun J1 F1 hF1 => ?_))
  conv => whnf
  refine And.intro (by simp only [X_sh, X_bd]; decide) ?_
  conv => whnf
  refine And.intro (by simp only [X_sh, X_bd]; decide) ?_
  refine hC _ _ _ _ _ _ _ _ _ _ (fun _ _ _ _ _ _ q => q) (ci_ring_93 (fun J2 F2 hF2 => ?_))
  conv => whnf
  rw [zw_87, zwi_87]
  refine hQ J2 F2 (fun c hc => ?_)
  rw [hF2 c (by omega), hF1 c (by omega)]
  repeat rw [z_row_n _ _ (by omega)]
theorem zp_95 : (z_up (z_up (z_up (z_up (z_up (z_up (z_row R 95 (fun _ => .null)) 95 0 (.ref 96)) 95 1 (.ref 97)) 95 2 (.ref 98)) 95 3 (.ref 99)) 95 4 (.ref 100)) 95 6 (.ref 101)) = z_row R 95 (rz 95) := by
  funext m
  by_cases h95 : m = 95
  · subst h95; funext k
    match k with
    | 0 => rfl
    | 1 => rfl
    | 2 => rfl
    | 3 => rfl
    | 4 => rfl
    | 5 => rfl
    | 6 => rfl
    | k + 7 => rfl
  simp only [z_up, z_row, if_neg h95]
theorem zpi_95 : (z_row (z_row (z_row (z_row (z_row (z_row I 96 (fun _ => 0)) 97 (fun _ => 0)) 98 (fun _ => 0)) 99 (fun _ => 0)) 100 (fun _ => 0)) 101 (fun _ => 0)) = zI 0 I 96 6 := by
  funext c
  unfold zI z_row
  repeat' split
  all_goals first | rfl | omega
theorem ci_plan_95 (hQ : ∀ (J' : z_J) (F' : z_F), (∀ c, c < 95 → F' c = F c) → Q none (zI 0 I 96 6) (z_row R 95 (rz 95)) J' F' 102) :
    z_M (z_X0 L xs) z_P0 d m_Plan_init [.ref 95] I (z_row R 95 (fun _ => .null)) J F 96 Q := by
  have q := hQ (z_row (z_row (z_row (z_row (z_row (z_row J 96 (fun _ => 0)) 97 (fun _ => 0)) 98 (fun _ => 0)) 99 (fun _ => 0)) 100 (fun _ => 0)) 101 (fun _ => 0)) (z_row (z_row (z_row (z_row (z_row (z_row F 96 (fun _ => 0)) 97 (fun _ => 0)) 98 (fun _ => 0)) 99 (fun _ => 0)) 100 (fun _ => 0)) 101 (fun _ => 0)) (fun c hc => by repeat rw [z_row_n _ _ (by omega)])
  rw [← zp_95, ← zpi_95] at q
  refine z_WP_gos [] 1000 fun K C hK hC => ?_
  conv => whnf
  refine And.intro (by simp only [X_sh, X_bd]; decide) ?_
  conv => whnf
  refine And.intro (by simp only [X_sh, X_bd]; decide) ?_
  conv => whnf
  refine And.intro (by simp only [X_sh, X_bd]; decide) ?_
  conv => whnf
  refine And.intro (by simp only [X_sh, X_bd]; decide) ?_
  conv => whnf
  refine And.intro (by simp only [X_sh, X_bd]; decide) ?_
  conv => whnf
  refine And.intro (by simp only [X_sh, X_bd]; decide) ?_
  conv => whnf
  exact q
theorem zs_102 : z_up (z_row R 102 (fun _ => .null)) 102 0 (.ref 103) = z_row R 102 (rz 102) := by
  funext m
  by_cases h102 : m = 102
  · subst h102; funext k
    match k with
    | 0 => rfl
    | k + 1 => rfl
  simp only [z_up, z_row, if_neg h102]
theorem ci_script_102 (hQ : ∀ (J' : z_J) (F' : z_F), (∀ c, c < 102 → F' c = F c) → Q none (z_row I 103 (fun _ => 0)) (z_row R 102 (rz 102)) J' F' 104) :
    z_M (z_X0 L xs) z_P0 d m_Script_init [.ref 102] I (z_row R 102 (fun _ => .null)) J F 103 Q := by
  have q := hQ (z_row J 103 (fun _ => 0)) (z_row F 103 (fun _ => 0)) (fun c hc => by repeat rw [z_row_n _ _ (by omega)])
  rw [← zs_102] at q
  refine z_WP_gos [] 1000 fun K C hK hC => ?_
  conv => whnf
  refine And.intro (by simp only [X_sh, X_bd]; decide) ?_
  conv => whnf
  exact q
theorem zz_78 : (z_up (z_row (z_up (z_row (z_up (z_row (z_up (z_row (z_row (z_row (z_up (z_row (z_row R 78 (fun _ => .null)) 79 (rz 79)) 78 0 (.ref 79)) 87 (rz 87)) 91 (rz 91)) 93 (rz 93)) 78 1 (.ref 87)) 95 (rz 95)) 78 2 (.ref 95)) 102 (rz 102)) 78 3 (.ref 102)) 104 (rz 104)) 78 4 (.ref 104)) = (z_row (z_row (z_row (z_row (z_row (z_row (z_row (z_row R 78 (rz 78)) 79 (rz 79)) 87 (rz 87)) 91 (rz 91)) 93 (rz 93)) 95 (rz 95)) 102 (rz 102)) 104 (rz 104)) := by
  funext m
  by_cases h78 : m = 78
  · subst h78; funext k
    match k with
    | 0 => rfl
    | 1 => rfl
    | 2 => rfl
    | 3 => rfl
    | 4 => rfl
    | k + 5 => rfl
  by_cases h79 : m = 79
  · subst h79; funext k
    match k with
    | 0 => rfl
    | 1 => rfl
    | 2 => rfl
    | 3 => rfl
    | 4 => rfl
    | 5 => rfl
    | 6 => rfl
    | k + 7 => rfl
  by_cases h87 : m = 87
  · subst h87; funext k
    match k with
    | 0 => rfl
    | 1 => rfl
    | 2 => rfl
    | 3 => rfl
    | 4 => rfl
    | k + 5 => rfl
  by_cases h91 : m = 91
  · subst h91; funext k
    match k with
    | 0 => rfl
    | 1 => rfl
    | 2 => rfl
    | k + 3 => rfl
  by_cases h93 : m = 93
  · subst h93; funext k
    match k with
    | 0 => rfl
    | 1 => rfl
    | 2 => rfl
    | k + 3 => rfl
  by_cases h95 : m = 95
  · subst h95; funext k
    match k with
    | 0 => rfl
    | 1 => rfl
    | 2 => rfl
    | 3 => rfl
    | 4 => rfl
    | 5 => rfl
    | 6 => rfl
    | k + 7 => rfl
  by_cases h102 : m = 102
  · subst h102; funext k
    match k with
    | 0 => rfl
    | k + 1 => rfl
  by_cases h104 : m = 104
  · subst h104; funext k
    match k with
    | 0 => rfl
    | 1 => rfl
    | 2 => rfl
    | k + 3 => rfl
  simp only [z_up, z_row, if_neg h78, if_neg h79, if_neg h87, if_neg h91, if_neg h93, if_neg h95, if_neg h102, if_neg h104]
theorem zzi_78 : (z_row (z_row (z_row (z_row (zI 0 (z_row (z_row (z_row (zI 0 (z_row (z_row (zI 0 (z_row I 79 (fun _ => 0)) 80 7) 80 (T2 8)) 87 (fun _ => 0)) 88 7) 91 (rg 64 4)) 93 (rg 40 1)) 95 (fun _ => 0)) 96 6) 102 (fun _ => 0)) 103 (fun _ => 0)) 104 (rg 60 5)) 105 (fun _ => 0)) = (z_row (z_row (z_row (z_row (zI 0 I 79 27) 80 (T2 8)) 91 (rg 64 4)) 93 (rg 40 1)) 104 (rg 60 5)) := by
  funext c
  by_cases h79 : c = 79
  · subst h79; rfl
  by_cases h80 : c = 80
  · subst h80; rfl
  by_cases h87 : c = 87
  · subst h87; rfl
  by_cases h91 : c = 91
  · subst h91; rfl
  by_cases h93 : c = 93
  · subst h93; rfl
  by_cases h95 : c = 95
  · subst h95; rfl
  by_cases h102 : c = 102
  · subst h102; rfl
  by_cases h103 : c = 103
  · subst h103; rfl
  by_cases h104 : c = 104
  · subst h104; rfl
  by_cases h105 : c = 105
  · subst h105; rfl
  simp only [zI, z_row, if_neg h79, if_neg h80, if_neg h87, if_neg h91, if_neg h93, if_neg h95, if_neg h102, if_neg h103, if_neg h104, if_neg h105]
  repeat' split
  all_goals first | rfl | omega
theorem ci_world_78 (hQ : ∀ (J' : z_J) (F' : z_F), (∀ c, c < 78 → F' c = F c) → F' 85 = (fun _ => 0) → Q none (z_row (z_row (z_row (z_row (z_row (zI 0 I 79 27) 80 (T2 8)) 91 (rg 64 4)) 93 (rg 40 1)) 104 (rg 60 5)) 78 (upd (upd (upd (I 78) 5 (nI 2000)) 6 (nI 1)) 8 (nI 8))) (z_row (z_row (z_row (z_row (z_row (z_row (z_row (z_row R 78 (rz 78)) 79 (rz 79)) 87 (rz 87)) 91 (rz 91)) 93 (rz 93)) 95 (rz 95)) 102 (rz 102)) 104 (rz 104)) J' F' 106) :
    z_M (z_X0 L xs) z_P0 (d + 2) m_World_init [.ref 78] I (z_row R 78 (fun _ => .null)) J F 79 Q := by
  refine z_WP_gos [] 1000 fun K C hK hC => ?_
  conv => whnf
  refine And.intro (by simp only [X_sh, X_bd]; decide) ?_
  conv => whnf
  refine And.intro (by simp only [X_sh, X_bd]; decide) ?_
  refine hC _ _ _ _ _ _ _ _ _ _ (fun _ _ _ _ _ _ q => q) (ci_units_79 (fun J1 F1 hF1 hF8 => ?_))
  conv => whnf
  refine And.intro (by simp only [X_sh, X_bd]; decide) ?_
  conv => whnf
  refine And.intro (by simp only [X_sh, X_bd]; decide) ?_
  refine hC _ _ _ _ _ _ _ _ _ _ (fun _ _ _ _ _ _ q => q) (ci_wires_87 (fun J2 F2 hF2 => ?_))
  conv => whnf
  refine And.intro (by simp only [X_sh, X_bd]; decide) ?_
  conv => whnf
  refine And.intro (by simp only [X_sh, X_bd]; decide) ?_
  refine hC _ _ _ _ _ _ _ _ _ _ (fun _ _ _ _ _ _ q => q) (ci_plan_95 (fun J3 F3 hF3 => ?_))
  conv => whnf
  refine And.intro (by simp only [X_sh, X_bd]; decide) ?_
  conv => whnf
  refine And.intro (by simp only [X_sh, X_bd]; decide) ?_
  refine hC _ _ _ _ _ _ _ _ _ _ (fun _ _ _ _ _ _ q => q) (ci_script_102 (fun J4 F4 hF4 => ?_))
  conv => whnf
  refine And.intro (by simp only [X_sh, X_bd]; decide) ?_
  conv => whnf
  refine And.intro (by simp only [X_sh, X_bd]; decide) ?_
  refine hC _ _ _ _ _ _ _ _ _ _ (fun _ _ _ _ _ _ q => q) (ci_ring_104 (fun J5 F5 hF5 => ?_))
  conv => whnf
  rw [zz_78, zzi_78]
  simp (disch := omega) only [z_lit, nI_add, pk_mul, z_pr1, z_pr2, nI_clamp, z_up_row, z_row_s, z_row_n, z_row_row, pk_us, pk_un]
  refine z_Qv (hQ J5 F5 (fun c hc => ?_) ?_) ?_
  · rw [hF5 c (by omega), hF4 c (by omega), hF3 c (by omega), hF2 c (by omega), hF1 c (by omega)]
  · rw [hF5 _ (by decide), hF4 _ (by decide), hF3 _ (by decide), hF2 _ (by decide)]; exact hF8
  · rfl
end
