/-! a new object of the class's -/
section
variable {L : Nat} {xs : Nat → Int32} {d : Nat} {kp sp wd : Value} {I : z_I} {s : z_sg} {R : z_R} {J : z_J} {F : z_F} {cn : Nat} {Q : z_Q}
theorem zt_29 : (z_up (z_up (z_up (z_up (z_row (z_row R 1 (rz 1)) 29 (fun _ => .null)) 29 3 (.ref 30)) 29 0 (.ref 1)) 29 1 (.ref 2)) 29 2 (.ref 10)) = z_row (z_row R 1 (rz 1)) 29 (rz 29) := by
  funext m
  by_cases h29 : m = 29
  · subst h29; funext k
    match k with
    | 0 => rfl
    | 1 => rfl
    | 2 => rfl
    | 3 => rfl
    | k + 4 => rfl
  simp only [z_up, z_row, if_neg h29]
theorem ci_trial (hQ : ∀ (J' : z_J) (F' : z_F), (∀ c, c < 29 → F' c = F c) → Q none (z_row I 30 (fun _ => 0)) (z_row (z_row R 1 (rz 1)) 29 (rz 29)) J' F' 31) :
    z_M (z_X0 L xs) z_P0 d m_Trial_init [.ref 29, .ref 1] I (z_row (z_row R 1 (rz 1)) 29 (fun _ => .null)) J F 30 Q := by
  have q := hQ (z_row J 30 (fun _ => 0)) (z_row F 30 (fun _ => 0)) (fun c hc => by repeat rw [z_row_n _ _ (by omega)])
  rw [← zt_29] at q
  refine z_WP_gos [] 1000 fun K C hK hC => ?_
  conv => whnf
  refine And.intro (by simp only [X_sh, X_bd]; decide) ?_
  conv => whnf
  exact q
theorem zf_31 : (z_up (z_up (z_row R 31 (fun _ => .null)) 31 0 (.ref 1)) 31 1 (.ref 29)) = z_row R 31 (rz 31) := by
  funext m
  by_cases h31 : m = 31
  · subst h31; funext k
    match k with
    | 0 => rfl
    | 1 => rfl
    | k + 2 => rfl
  simp only [z_up, z_row, if_neg h31]
theorem ci_frames (hQ : Q none I (z_row R 31 (rz 31)) J F cn) : z_M (z_X0 L xs) z_P0 d m_Frames_init [.ref 31, .ref 1, .ref 29] I (z_row R 31 (fun _ => .null)) J F cn Q := by
  rw [← zf_31] at hQ
  refine z_WP_gos [] 1000 fun K C hK hC => ?_
  conv => whnf
  exact hQ
theorem zr_32 : (z_up (z_up (z_up (z_row R 32 (fun _ => .null)) 32 0 (.ref 33)) 32 1 (.ref 34)) 32 5 (.retAddr 2)) = z_row R 32 (z_R0 .null .null (.retAddr 2) 32) := by
  funext m
  by_cases h32 : m = 32
  · subst h32; funext k
    match k with
    | 0 => rfl
    | 1 => rfl
    | 2 => rfl
    | 3 => rfl
    | 4 => rfl
    | 5 => rfl
    | k + 6 => rfl
  simp only [z_up, z_row, if_neg h32]
theorem ci_reader (hQ : ∀ (J' : z_J) (F' : z_F), (∀ c, c < 32 → F' c = F c) → Q none (z_row (z_row (z_row I 33 (fun _ => 0)) 34 (fun _ => 0)) 32 (upd (I 32) 4 (-1))) (z_row R 32 (z_R0 .null .null (.retAddr 2) 32)) J' F' 35) :
    z_M (z_X0 L xs) z_P0 d m_Reader_init [.ref 32] I (z_row R 32 (fun _ => .null)) J F 33 Q := by
  have q := hQ (z_row (z_row J 33 (fun _ => 0)) 34 (fun _ => 0)) (z_row (z_row F 33 (fun _ => 0)) 34 (fun _ => 0)) (fun c hc => by repeat rw [z_row_n _ _ (by omega)])
  rw [← zr_32] at q
  refine z_WP_gos [] 1000 fun K C hK hC => ?_
  conv => whnf
  refine And.intro (by simp only [X_sh, X_bd]; decide) ?_
  conv => whnf
  refine And.intro (by simp only [X_sh, X_bd]; decide) ?_
  conv => whnf
  simp (disch := omega) only [z_lit, nI_add, pk_mul, z_pr1, z_pr2, nI_clamp, z_up_row, z_row_s, z_row_n, z_row_row, pk_us, pk_un]
  exact q
theorem zm_35 : (z_up (z_up (z_up (z_up (z_row R 35 (fun _ => .null)) 35 0 (.ref 36)) 35 1 (.ref 37)) 35 2 (.ref 38)) 35 3 (.ref 39)) = z_row R 35 (rz 35) := by
  funext m
  by_cases h35 : m = 35
  · subst h35; funext k
    match k with
    | 0 => rfl
    | 1 => rfl
    | 2 => rfl
    | 3 => rfl
    | k + 4 => rfl
  simp only [z_up, z_row, if_neg h35]
theorem ci_times (hQ : ∀ (J' : z_J) (F' : z_F), (∀ c, c < 35 → F' c = F c) → Q none (z_row (z_row (z_row (z_row I 36 (fun _ => 0)) 37 (fun _ => 0)) 38 (fun _ => 0)) 39 (fun _ => 0)) (z_row R 35 (rz 35)) J' F' 40) :
    z_M (z_X0 L xs) z_P0 d m_Times_init [.ref 35] I (z_row R 35 (fun _ => .null)) J F 36 Q := by
  have q := hQ (z_row (z_row (z_row (z_row J 36 (fun _ => 0)) 37 (fun _ => 0)) 38 (fun _ => 0)) 39 (fun _ => 0)) (z_row (z_row (z_row (z_row F 36 (fun _ => 0)) 37 (fun _ => 0)) 38 (fun _ => 0)) 39 (fun _ => 0)) (fun c hc => by repeat rw [z_row_n _ _ (by omega)])
  rw [← zm_35] at q
  refine z_WP_gos [] 1000 fun K C hK hC => ?_
  conv => whnf
  refine And.intro (by simp only [X_sh, X_bd]; decide) ?_
  conv => whnf
  refine And.intro (by simp only [X_sh, X_bd]; decide) ?_
  conv => whnf
  refine And.intro (by simp only [X_sh, X_bd]; decide) ?_
  conv => whnf
  refine And.intro (by simp only [X_sh, X_bd]; decide) ?_
  conv => whnf
  exact q
theorem zb_1 : (z_up (z_row (z_row (z_row (z_row (z_row (z_row (z_row (z_row (z_row R 0 (fun _ => .null)) 1 (rz 1)) 2 (rz 2)) 10 (rz 10)) 14 (rz 14)) 16 (rz 16)) 18 (rz 18)) 25 (rz 25)) 27 (rz 27)) 0 0 (.ref 1)) = (z_row (z_up (z_row (z_row (z_row (z_row (z_row (z_row (z_row (z_row (z_row R 0 (fun _ => .null)) 1 (rz 1)) 2 (rz 2)) 10 (rz 10)) 14 (rz 14)) 16 (rz 16)) 18 (rz 18)) 25 (rz 25)) 27 (rz 27)) 0 0 (.ref 1)) 1 (rz 1)) := by
  funext m
  by_cases h1 : m = 1
  · subst h1; funext k
    match k with
    | 0 => rfl
    | 1 => rfl
    | 2 => rfl
    | 3 => rfl
    | 4 => rfl
    | k + 5 => rfl
  simp only [z_up, z_row, if_neg h1]
theorem zb_all : (z_up (z_up (z_up (z_row (z_up (z_row (z_up (z_row (z_up (z_row (z_row (z_up (z_row (z_row (z_row (z_row (z_row (z_row (z_row (z_row (z_row (z_R0 .null .null (.retAddr 2)) 0 (fun _ => .null)) 1 (rz 1)) 2 (rz 2)) 10 (rz 10)) 14 (rz 14)) 16 (rz 16)) 18 (rz 18)) 25 (rz 25)) 27 (rz 27)) 0 0 (.ref 1)) 1 (rz 1)) 29 (rz 29)) 0 1 (.ref 29)) 31 (rz 31)) 0 2 (.ref 31)) 32 (z_R0 .null .null (.retAddr 2) 32)) 0 3 (.ref 32)) 35 (rz 35)) 0 4 (.ref 35)) 0 5 .null) 0 6 .null) = (z_R0 .null .null (.retAddr 2)) := by
  funext m
  by_cases h0 : m = 0
  · subst h0; funext k
    match k with
    | 0 => rfl
    | 1 => rfl
    | 2 => rfl
    | 3 => rfl
    | 4 => rfl
    | 5 => rfl
    | 6 => rfl
    | k + 7 => rfl
  by_cases h1 : m = 1
  · subst h1; funext k
    match k with
    | 0 => rfl
    | 1 => rfl
    | 2 => rfl
    | 3 => rfl
    | 4 => rfl
    | k + 5 => rfl
  by_cases h2 : m = 2
  · subst h2; funext k
    match k with
    | 0 => rfl
    | 1 => rfl
    | 2 => rfl
    | 3 => rfl
    | 4 => rfl
    | 5 => rfl
    | 6 => rfl
    | k + 7 => rfl
  by_cases h10 : m = 10
  · subst h10; funext k
    match k with
    | 0 => rfl
    | 1 => rfl
    | 2 => rfl
    | 3 => rfl
    | 4 => rfl
    | k + 5 => rfl
  by_cases h14 : m = 14
  · subst h14; funext k
    match k with
    | 0 => rfl
    | 1 => rfl
    | 2 => rfl
    | k + 3 => rfl
  by_cases h16 : m = 16
  · subst h16; funext k
    match k with
    | 0 => rfl
    | 1 => rfl
    | 2 => rfl
    | k + 3 => rfl
  by_cases h18 : m = 18
  · subst h18; funext k
    match k with
    | 0 => rfl
    | 1 => rfl
    | 2 => rfl
    | 3 => rfl
    | 4 => rfl
    | 5 => rfl
    | 6 => rfl
    | k + 7 => rfl
  by_cases h25 : m = 25
  · subst h25; funext k
    match k with
    | 0 => rfl
    | k + 1 => rfl
  by_cases h27 : m = 27
  · subst h27; funext k
    match k with
    | 0 => rfl
    | 1 => rfl
    | 2 => rfl
    | k + 3 => rfl
  by_cases h29 : m = 29
  · subst h29; funext k
    match k with
    | 0 => rfl
    | 1 => rfl
    | 2 => rfl
    | 3 => rfl
    | k + 4 => rfl
  by_cases h31 : m = 31
  · subst h31; funext k
    match k with
    | 0 => rfl
    | 1 => rfl
    | k + 2 => rfl
  by_cases h32 : m = 32
  · subst h32; funext k
    match k with
    | 0 => rfl
    | 1 => rfl
    | 2 => rfl
    | 3 => rfl
    | 4 => rfl
    | 5 => rfl
    | k + 6 => rfl
  by_cases h35 : m = 35
  · subst h35; funext k
    match k with
    | 0 => rfl
    | 1 => rfl
    | 2 => rfl
    | 3 => rfl
    | k + 4 => rfl
  simp only [z_up, z_row, if_neg h0, if_neg h1, if_neg h2, if_neg h10, if_neg h14, if_neg h16, if_neg h18, if_neg h25, if_neg h27, if_neg h29, if_neg h31, if_neg h32, if_neg h35]
theorem zbi : (z_row (z_row (z_row (z_row (z_row (z_row (z_row (z_row (z_row (z_row (z_row (z_row (z_row (z_row (z_row (z_row (z_row (zI 0 (z_row I 1 (fun _ => 0)) 2 27) 3 (T2 8)) 14 (rg 64 4)) 16 (rg 40 1)) 27 (rg 60 5)) 1 (upd (upd (upd (fun _ => 0) 5 (nI 2000)) 6 (nI 1)) 8 (nI 8))) 29 (fun _ => 0)) 30 (fun _ => 0)) 31 (fun _ => 0)) 32 (fun _ => 0)) 33 (fun _ => 0)) 34 (fun _ => 0)) 32 (upd (fun _ => 0) 4 (-1))) 35 (fun _ => 0)) 36 (fun _ => 0)) 37 (fun _ => 0)) 38 (fun _ => 0)) 39 (fun _ => 0)) = (z_row (z_row (z_row (z_row (z_row (z_row (zI 0 I 1 39) 1 (upd (upd (upd (fun _ => 0) 5 (nI 2000)) 6 (nI 1)) 8 (nI 8))) 3 (T2 8)) 14 (rg 64 4)) 16 (rg 40 1)) 27 (rg 60 5)) 32 (upd (fun _ => 0) 4 (-1))) := by
  funext c
  by_cases h1 : c = 1
  · subst h1; rfl
  by_cases h3 : c = 3
  · subst h3; rfl
  by_cases h14 : c = 14
  · subst h14; rfl
  by_cases h16 : c = 16
  · subst h16; rfl
  by_cases h27 : c = 27
  · subst h27; rfl
  by_cases h29 : c = 29
  · subst h29; rfl
  by_cases h30 : c = 30
  · subst h30; rfl
  by_cases h31 : c = 31
  · subst h31; rfl
  by_cases h32 : c = 32
  · subst h32; rfl
  by_cases h33 : c = 33
  · subst h33; rfl
  by_cases h34 : c = 34
  · subst h34; rfl
  by_cases h35 : c = 35
  · subst h35; rfl
  by_cases h36 : c = 36
  · subst h36; rfl
  by_cases h37 : c = 37
  · subst h37; rfl
  by_cases h38 : c = 38
  · subst h38; rfl
  by_cases h39 : c = 39
  · subst h39; rfl
  simp only [zI, z_row, if_neg h1, if_neg h3, if_neg h14, if_neg h16, if_neg h27, if_neg h29, if_neg h30, if_neg h31, if_neg h32, if_neg h33, if_neg h34, if_neg h35, if_neg h36, if_neg h37, if_neg h38, if_neg h39]
  repeat' split
  all_goals first | rfl | omega
theorem ci_bus (hQ : ∀ (J' : z_J) (F' : z_F), F' 8 = (fun _ => 0) → Q none (z_row (z_row (z_row (z_row (z_row (z_row (zI 0 I 1 39) 1 (upd (upd (upd (fun _ => 0) 5 (nI 2000)) 6 (nI 1)) 8 (nI 8))) 3 (T2 8)) 14 (rg 64 4)) 16 (rg 40 1)) 27 (rg 60 5)) 32 (upd (fun _ => 0) 4 (-1))) (z_R0 .null .null (.retAddr 2)) J' F' 40) :
    z_M (z_X0 L xs) z_P0 (d + 3) m_Bus_init [.ref 0] I (z_row (z_R0 .null .null (.retAddr 2)) 0 (fun _ => .null)) J F 1 Q := by
  refine z_WP_gos [] 1000 fun K C hK hC => ?_
  conv => whnf
  refine And.intro (by simp only [X_sh, X_bd]; decide) ?_
  conv => whnf
  refine And.intro (by simp only [X_sh, X_bd]; decide) ?_
  refine hC _ _ _ _ _ _ _ _ _ _ (fun _ _ _ _ _ _ q => q) (ci_world_1 (fun J1 F1 _ hF1 => ?_))
  conv => whnf
  rw [z_row_s, zb_1]
  refine And.intro (by simp only [X_sh, X_bd]; decide) ?_
  conv => whnf
  refine And.intro (by simp only [X_sh, X_bd]; decide) ?_
  refine hC _ _ _ _ _ _ _ _ _ _ (fun _ _ _ _ _ _ q => q) (ci_trial (fun J2 F2 hF2 => ?_))
  conv => whnf
  refine And.intro (by simp only [X_sh, X_bd]; decide) ?_
  conv => whnf
  refine hC _ _ _ _ _ _ _ _ _ _ (fun _ _ _ _ _ _ q => q) (ci_frames ?_)
  conv => whnf
  refine And.intro (by simp only [X_sh, X_bd]; decide) ?_
  conv => whnf
  refine And.intro (by simp only [X_sh, X_bd]; decide) ?_
  refine hC _ _ _ _ _ _ _ _ _ _ (fun _ _ _ _ _ _ q => q) (ci_reader (fun J3 F3 hF3 => ?_))
  conv => whnf
  refine And.intro (by simp only [X_sh, X_bd]; decide) ?_
  conv => whnf
  refine And.intro (by simp only [X_sh, X_bd]; decide) ?_
  refine hC _ _ _ _ _ _ _ _ _ _ (fun _ _ _ _ _ _ q => q) (ci_times (fun J4 F4 hF4 => ?_))
  conv => whnf
  rw [zb_all, z_row_s, zbi]
  refine hQ J4 F4 ?_
  rw [hF4 8 (by decide), hF3 8 (by decide), hF2 8 (by decide)]; exact hF1
end
