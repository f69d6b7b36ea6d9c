/-! the class: a new world -/
def zI {α : Type} (z : α) (M : Nat → Nat → α) (a n : Nat) : Nat → Nat → α := fun c => if a ≤ c ∧ c < a + n then (fun _ => z) else M c
def T1 (i : Nat) : Nat → Int32 := fun j => if j % 18 = 0 ∧ j / 18 < i then nI 1 else nI 0
def T2 (i : Nat) : Nat → Int32 := fun j => if j % 18 = 0 ∧ j / 18 < 9 then nI 1 else if j % 18 = 8 ∧ j / 18 < i then nI 126 else if j % 18 = 13 ∧ j / 18 < i then nI (j / 18) <<< (nI 11 &&& nI 31) else nI 0
theorem T1_0 : T1 0 = fun _ => 0 := by
  funext j; unfold T1; rw [if_neg (by omega)]; rfl
theorem T1_s {i : Nat} : upd (T1 i) (i * 18 + 0) (nI 1) = T1 (i + 1) := by
  funext j
  by_cases h : j = i * 18 + 0
  · rw [h, pk_us]; unfold T1; rw [if_pos (by omega)]
  · rw [pk_un h]; unfold T1
    by_cases g : j % 18 = 0 ∧ j / 18 < i
    · rw [if_pos g, if_pos (by omega)]
    · rw [if_neg g, if_neg (by omega)]
theorem T2_0 : T2 0 = T1 9 := by
  funext j; unfold T2 T1
  by_cases g : j % 18 = 0 ∧ j / 18 < 9
  · rw [if_pos g, if_pos g]
  · rw [if_neg g, if_neg g, if_neg (by omega), if_neg (by omega)]
theorem T2_s {i : Nat} : upd (upd (T2 i) (i * 18 + 8) (nI 126)) (i * 18 + 13) (nI i <<< (nI 11 &&& nI 31)) = T2 (i + 1) := by
  funext j
  by_cases h : j = i * 18 + 13
  · rw [h, pk_us]; unfold T2; rw [if_neg (by omega), if_neg (by omega), if_pos (by omega), show (i * 18 + 13) / 18 = i by omega]
  · rw [pk_un h]
    by_cases h2 : j = i * 18 + 8
    · rw [h2, pk_us]; unfold T2; rw [if_neg (by omega), if_pos (by omega)]
    · rw [pk_un h2]; unfold T2
      by_cases g0 : j % 18 = 0 ∧ j / 18 < 9
      · rw [if_pos g0, if_pos g0]
      · rw [if_neg g0, if_neg g0]
        by_cases g1 : j % 18 = 8 ∧ j / 18 < i
        · rw [if_pos g1, if_pos (show j % 18 = 8 ∧ j / 18 < i + 1 by omega)]
        · rw [if_neg g1, if_neg (show ¬ (j % 18 = 8 ∧ j / 18 < i + 1) by omega)]
          by_cases g2 : j % 18 = 13 ∧ j / 18 < i
          · rw [if_pos g2, if_pos (show j % 18 = 13 ∧ j / 18 < i + 1 by omega)]
          · rw [if_neg g2, if_neg (show ¬ (j % 18 = 13 ∧ j / 18 < i + 1) by omega)]
theorem X_sh {L : Nat} {xs : Nat → Int32} : (z_X0 L xs).1 = z_sh0 := rfl
theorem X_bd {L : Nat} {xs : Nat → Int32} : (z_X0 L xs).2.2.2.1 = z_bd0 := rfl
abbrev rz (q : Nat) : Nat → Value := z_R0 .null .null .null q
def rg (a b : Nat) : Nat → Int32 := upd (upd (fun _ => 0) 0 (nI a)) 1 (nI b)
section
variable {L : Nat} {xs : Nat → Int32} {d : Nat} {kp sp wd : Value} {I : z_I} {s : z_sg} {R : z_R} {J : z_J} {F : z_F} {cn : Nat} {Q : z_Q}
theorem zu_2 : (z_up (z_up (z_up (z_up (z_up (z_up (z_up (z_row R 2 (fun _ => .null)) 2 0 (.ref 3)) 2 1 (.ref 4)) 2 2 (.ref 5)) 2 3 (.ref 6)) 2 4 (.ref 7)) 2 5 (.ref 8)) 2 6 (.ref 9)) = z_row R 2 (rz 2) := by
  funext m
  by_cases h : m = 2
  · subst h; funext k
    match k with
    | 0 => rfl
    | 1 => rfl
    | 2 => rfl
    | 3 => rfl
    | 4 => rfl
    | 5 => rfl
    | 6 => rfl
    | k + 7 => rfl
  · simp only [z_up, z_row, if_neg h]
theorem lp_ui1_2 (hQ : z_WP (z_X0 L xs) z_P0 d m_Units_init 88 [some (.ref 2), some (.int (nI 9))] [] (z_row I 3 (T1 9)) (z_up (z_up (z_up (z_up (z_up (z_up (z_up (z_row R 2 (fun _ => .null)) 2 0 (.ref 3)) 2 1 (.ref 4)) 2 2 (.ref 5)) 2 3 (.ref 6)) 2 4 (.ref 7)) 2 5 (.ref 8)) 2 6 (.ref 9)) J F cn 7 1599 Q) :
    ∀ j i, i + j = 9 → z_WP (z_X0 L xs) z_P0 d m_Units_init 64 [some (.ref 2), some (.int (nI i))] [] (z_row I 3 (T1 i)) (z_up (z_up (z_up (z_up (z_up (z_up (z_up (z_row R 2 (fun _ => .null)) 2 0 (.ref 3)) 2 1 (.ref 4)) 2 2 (.ref 5)) 2 3 (.ref 6)) 2 4 (.ref 7)) 2 5 (.ref 8)) 2 6 (.ref 9)) J F cn 7 1599 Q := by
  intro j
  induction j with
  | zero =>
    intro i hi
    obtain rfl : i = 9 := by omega
    refine z_WP_gos [64, 88] 1000 fun K C hK hC => ?_
    conv => whnf
    repeat ((first | refine And.intro (by (conv => arg 2; whnf); (try simp only [z_lit, nI_add, pk_mul, z_pr1, z_pr2]); exact z_in (by omega) (by decide)) ?_ | refine z_bt1 (by decide) ?_ | refine z_bf1 (by decide) ?_ | refine z_bt2 (by decide) ?_ | refine z_bf2 (by decide) ?_); conv => whnf)
    refine hK _ _ _ _ _ _ _ _ _ _ (hQ)
  | succ j ih =>
    intro i hi
    refine z_WP_gos [64, 88] 1000 fun K C hK hC => ?_
    conv => whnf
    refine ⟨fun g => absurd g (nI_nlt (a := 8) (b := i) (by omega) (by omega)), fun _ => ?_⟩
    conv => whnf
    repeat ((first | refine And.intro (by (conv => arg 2; whnf); (try simp only [z_lit, nI_add, pk_mul, z_pr1, z_pr2]); exact z_in (by omega) (by decide)) ?_ | refine z_bt1 (by decide) ?_ | refine z_bf1 (by decide) ?_ | refine z_bt2 (by decide) ?_ | refine z_bf2 (by decide) ?_); conv => whnf)
    simp (disch := omega) only [z_lit, nI_add, pk_mul, z_pr1, z_pr2, nI_clamp, z_up_row, z_row_s, z_row_n, z_row_row, pk_us, pk_un]
    rw [T1_s]
    refine hK _ _ _ _ _ _ _ _ _ _ (ih (i + 1) (by omega))
theorem lp_ui2_2 (hQ : Q none (z_row I 3 (T2 8)) (z_up (z_up (z_up (z_up (z_up (z_up (z_up (z_row R 2 (fun _ => .null)) 2 0 (.ref 3)) 2 1 (.ref 4)) 2 2 (.ref 5)) 2 3 (.ref 6)) 2 4 (.ref 7)) 2 5 (.ref 8)) 2 6 (.ref 9)) J F cn) :
    ∀ j i, i + j = 8 → z_WP (z_X0 L xs) z_P0 d m_Units_init 90 [some (.ref 2), some (.int (nI i))] [] (z_row I 3 (T2 i)) (z_up (z_up (z_up (z_up (z_up (z_up (z_up (z_row R 2 (fun _ => .null)) 2 0 (.ref 3)) 2 1 (.ref 4)) 2 2 (.ref 5)) 2 3 (.ref 6)) 2 4 (.ref 7)) 2 5 (.ref 8)) 2 6 (.ref 9)) J F cn 7 1599 Q := by
  intro j
  induction j with
  | zero =>
    intro i hi
    obtain rfl : i = 8 := by omega
    refine z_WP_gos [90] 1000 fun K C hK hC => ?_
    conv => whnf
    repeat ((first | refine And.intro (by (conv => arg 2; whnf); (try simp only [z_lit, nI_add, pk_mul, z_pr1, z_pr2]); exact z_in (by omega) (by decide)) ?_ | refine z_bt1 (by decide) ?_ | refine z_bf1 (by decide) ?_ | refine z_bt2 (by decide) ?_ | refine z_bf2 (by decide) ?_); conv => whnf)
    exact hQ
  | succ j ih =>
    intro i hi
    refine z_WP_gos [90] 1000 fun K C hK hC => ?_
    conv => whnf
    refine ⟨fun g => absurd g (nI_ge (a := i) (b := 8) (by omega) (by omega)), fun _ => ?_⟩
    conv => whnf
    repeat ((first | refine And.intro (by (conv => arg 2; whnf); (try simp only [z_lit, nI_add, pk_mul, z_pr1, z_pr2]); exact z_in (by omega) (by decide)) ?_ | refine z_bt1 (by decide) ?_ | refine z_bf1 (by decide) ?_ | refine z_bt2 (by decide) ?_ | refine z_bf2 (by decide) ?_); conv => whnf)
    simp (disch := omega) only [z_lit, nI_add, pk_mul, z_pr1, z_pr2, nI_clamp, z_up_row, z_row_s, z_row_n, z_row_row, pk_us, pk_un]
    rw [T2_s]
    refine hK _ _ _ _ _ _ _ _ _ _ (ih (i + 1) (by omega))
theorem ci_units_2 (hQ : ∀ (J' : z_J) (F' : z_F), (∀ c, c < 2 → F' c = F c) → F' 8 = (fun _ => 0) → Q none (z_row (zI 0 I 3 7) 3 (T2 8)) (z_row R 2 (rz 2)) J' F' 10) :
    z_M (z_X0 L xs) z_P0 d m_Units_init [.ref 2] I (z_row R 2 (fun _ => .null)) J F 3 Q := by
  have eI : (z_row (z_row (z_row (z_row (z_row (z_row (z_row I 3 (fun _ => 0)) 4 (fun _ => 0)) 5 (fun _ => 0)) 6 (fun _ => 0)) 7 (fun _ => 0)) 8 (fun _ => 0)) 9 (fun _ => 0)) = zI 0 I 3 7 := by
    funext c
    unfold zI z_row
    repeat' split
    all_goals first | rfl | omega
  have e1 : z_row (zI 0 I 3 7) 3 (T1 0) = zI 0 I 3 7 := by
    rw [T1_0]
    exact z_row_idJ (zI 0 I 3 7) 3
  have q := hQ (z_row (z_row (z_row (z_row (z_row (z_row (z_row J 3 (fun _ => 0)) 4 (fun _ => 0)) 5 (fun _ => 0)) 6 (fun _ => 0)) 7 (fun _ => 0)) 8 (fun _ => 0)) 9 (fun _ => 0)) (z_row (z_row (z_row (z_row (z_row (z_row (z_row F 3 (fun _ => 0)) 4 (fun _ => 0)) 5 (fun _ => 0)) 6 (fun _ => 0)) 7 (fun _ => 0)) 8 (fun _ => 0)) 9 (fun _ => 0)) (fun c hc => by repeat rw [z_row_n _ _ (by omega)]) rfl
  rw [← zu_2] at q
  have r2 := lp_ui2_2 (L := L) (xs := xs) (d := d) q 8 0 (by omega)
  rw [T2_0] at r2
  refine z_WP_gos [64] 1000 fun K C hK hC => ?_
  conv => whnf
  refine And.intro (by simp only [X_sh, X_bd]; decide) ?_
  conv => whnf
  refine And.intro (by simp only [X_sh, X_bd]; decide) ?_
  conv => whnf
  refine And.intro (by simp only [X_sh, X_bd]; decide) ?_
  conv => whnf
  refine And.intro (by simp only [X_sh, X_bd]; decide) ?_
  conv => whnf
  refine And.intro (by simp only [X_sh, X_bd]; decide) ?_
  conv => whnf
  refine And.intro (by simp only [X_sh, X_bd]; decide) ?_
  conv => whnf
  refine And.intro (by simp only [X_sh, X_bd]; decide) ?_
  conv => whnf
  rw [eI, ← e1]
  refine hK _ _ _ _ _ _ _ _ _ _ (lp_ui1_2 ?_ 9 0 (by omega))
  refine z_WP_gos [90] 1000 fun K C hK hC => ?_
  conv => whnf
  refine hK _ _ _ _ _ _ _ _ _ _ (r2)
theorem zu_51 : (z_up (z_up (z_up (z_up (z_up (z_up (z_up (z_row R 51 (fun _ => .null)) 51 0 (.ref 52)) 51 1 (.ref 53)) 51 2 (.ref 54)) 51 3 (.ref 55)) 51 4 (.ref 56)) 51 5 (.ref 57)) 51 6 (.ref 58)) = z_row R 51 (rz 51) := by
  funext m
  by_cases h : m = 51
  · subst h; funext k
    match k with
    | 0 => rfl
    | 1 => rfl
    | 2 => rfl
    | 3 => rfl
    | 4 => rfl
    | 5 => rfl
    | 6 => rfl
    | k + 7 => rfl
  · simp only [z_up, z_row, if_neg h]
theorem lp_ui1_51 (hQ : z_WP (z_X0 L xs) z_P0 d m_Units_init 88 [some (.ref 51), some (.int (nI 9))] [] (z_row I 52 (T1 9)) (z_up (z_up (z_up (z_up (z_up (z_up (z_up (z_row R 51 (fun _ => .null)) 51 0 (.ref 52)) 51 1 (.ref 53)) 51 2 (.ref 54)) 51 3 (.ref 55)) 51 4 (.ref 56)) 51 5 (.ref 57)) 51 6 (.ref 58)) J F cn 7 1599 Q) :
    ∀ j i, i + j = 9 → z_WP (z_X0 L xs) z_P0 d m_Units_init 64 [some (.ref 51), some (.int (nI i))] [] (z_row I 52 (T1 i)) (z_up (z_up (z_up (z_up (z_up (z_up (z_up (z_row R 51 (fun _ => .null)) 51 0 (.ref 52)) 51 1 (.ref 53)) 51 2 (.ref 54)) 51 3 (.ref 55)) 51 4 (.ref 56)) 51 5 (.ref 57)) 51 6 (.ref 58)) J F cn 7 1599 Q := by
  intro j
  induction j with
  | zero =>
    intro i hi
    obtain rfl : i = 9 := by omega
    refine z_WP_gos [64, 88] 1000 fun K C hK hC => ?_
    conv => whnf
    repeat ((first | refine And.intro (by (conv => arg 2; whnf); (try simp only [z_lit, nI_add, pk_mul, z_pr1, z_pr2]); exact z_in (by omega) (by decide)) ?_ | refine z_bt1 (by decide) ?_ | refine z_bf1 (by decide) ?_ | refine z_bt2 (by decide) ?_ | refine z_bf2 (by decide) ?_); conv => whnf)
    refine hK _ _ _ _ _ _ _ _ _ _ (hQ)
  | succ j ih =>
    intro i hi
    refine z_WP_gos [64, 88] 1000 fun K C hK hC => ?_
    conv => whnf
    refine ⟨fun g => absurd g (nI_nlt (a := 8) (b := i) (by omega) (by omega)), fun _ => ?_⟩
    conv => whnf
    repeat ((first | refine And.intro (by (conv => arg 2; whnf); (try simp only [z_lit, nI_add, pk_mul, z_pr1, z_pr2]); exact z_in (by omega) (by decide)) ?_ | refine z_bt1 (by decide) ?_ | refine z_bf1 (by decide) ?_ | refine z_bt2 (by decide) ?_ | refine z_bf2 (by decide) ?_); conv => whnf)
    simp (disch := omega) only [z_lit, nI_add, pk_mul, z_pr1, z_pr2, nI_clamp, z_up_row, z_row_s, z_row_n, z_row_row, pk_us, pk_un]
    rw [T1_s]
    refine hK _ _ _ _ _ _ _ _ _ _ (ih (i + 1) (by omega))
theorem lp_ui2_51 (hQ : Q none (z_row I 52 (T2 8)) (z_up (z_up (z_up (z_up (z_up (z_up (z_up (z_row R 51 (fun _ => .null)) 51 0 (.ref 52)) 51 1 (.ref 53)) 51 2 (.ref 54)) 51 3 (.ref 55)) 51 4 (.ref 56)) 51 5 (.ref 57)) 51 6 (.ref 58)) J F cn) :
    ∀ j i, i + j = 8 → z_WP (z_X0 L xs) z_P0 d m_Units_init 90 [some (.ref 51), some (.int (nI i))] [] (z_row I 52 (T2 i)) (z_up (z_up (z_up (z_up (z_up (z_up (z_up (z_row R 51 (fun _ => .null)) 51 0 (.ref 52)) 51 1 (.ref 53)) 51 2 (.ref 54)) 51 3 (.ref 55)) 51 4 (.ref 56)) 51 5 (.ref 57)) 51 6 (.ref 58)) J F cn 7 1599 Q := by
  intro j
  induction j with
  | zero =>
    intro i hi
    obtain rfl : i = 8 := by omega
    refine z_WP_gos [90] 1000 fun K C hK hC => ?_
    conv => whnf
    repeat ((first | refine And.intro (by (conv => arg 2; whnf); (try simp only [z_lit, nI_add, pk_mul, z_pr1, z_pr2]); exact z_in (by omega) (by decide)) ?_ | refine z_bt1 (by decide) ?_ | refine z_bf1 (by decide) ?_ | refine z_bt2 (by decide) ?_ | refine z_bf2 (by decide) ?_); conv => whnf)
    exact hQ
  | succ j ih =>
    intro i hi
    refine z_WP_gos [90] 1000 fun K C hK hC => ?_
    conv => whnf
    refine ⟨fun g => absurd g (nI_ge (a := i) (b := 8) (by omega) (by omega)), fun _ => ?_⟩
    conv => whnf
    repeat ((first | refine And.intro (by (conv => arg 2; whnf); (try simp only [z_lit, nI_add, pk_mul, z_pr1, z_pr2]); exact z_in (by omega) (by decide)) ?_ | refine z_bt1 (by decide) ?_ | refine z_bf1 (by decide) ?_ | refine z_bt2 (by decide) ?_ | refine z_bf2 (by decide) ?_); conv => whnf)
    simp (disch := omega) only [z_lit, nI_add, pk_mul, z_pr1, z_pr2, nI_clamp, z_up_row, z_row_s, z_row_n, z_row_row, pk_us, pk_un]
    rw [T2_s]
    refine hK _ _ _ _ _ _ _ _ _ _ (ih (i + 1) (by omega))
theorem ci_units_51 (hQ : ∀ (J' : z_J) (F' : z_F), (∀ c, c < 51 → F' c = F c) → F' 57 = (fun _ => 0) → Q none (z_row (zI 0 I 52 7) 52 (T2 8)) (z_row R 51 (rz 51)) J' F' 59) :
    z_M (z_X0 L xs) z_P0 d m_Units_init [.ref 51] I (z_row R 51 (fun _ => .null)) J F 52 Q := by
  have eI : (z_row (z_row (z_row (z_row (z_row (z_row (z_row I 52 (fun _ => 0)) 53 (fun _ => 0)) 54 (fun _ => 0)) 55 (fun _ => 0)) 56 (fun _ => 0)) 57 (fun _ => 0)) 58 (fun _ => 0)) = zI 0 I 52 7 := by
    funext c
    unfold zI z_row
    repeat' split
    all_goals first | rfl | omega
  have e1 : z_row (zI 0 I 52 7) 52 (T1 0) = zI 0 I 52 7 := by
    rw [T1_0]
    exact z_row_idJ (zI 0 I 52 7) 52
  have q := hQ (z_row (z_row (z_row (z_row (z_row (z_row (z_row J 52 (fun _ => 0)) 53 (fun _ => 0)) 54 (fun _ => 0)) 55 (fun _ => 0)) 56 (fun _ => 0)) 57 (fun _ => 0)) 58 (fun _ => 0)) (z_row (z_row (z_row (z_row (z_row (z_row (z_row F 52 (fun _ => 0)) 53 (fun _ => 0)) 54 (fun _ => 0)) 55 (fun _ => 0)) 56 (fun _ => 0)) 57 (fun _ => 0)) 58 (fun _ => 0)) (fun c hc => by repeat rw [z_row_n _ _ (by omega)]) rfl
  rw [← zu_51] at q
  have r2 := lp_ui2_51 (L := L) (xs := xs) (d := d) q 8 0 (by omega)
  rw [T2_0] at r2
  refine z_WP_gos [64] 1000 fun K C hK hC => ?_
  conv => whnf
  refine And.intro (by simp only [X_sh, X_bd]; decide) ?_
  conv => whnf
  refine And.intro (by simp only [X_sh, X_bd]; decide) ?_
  conv => whnf
  refine And.intro (by simp only [X_sh, X_bd]; decide) ?_
  conv => whnf
  refine And.intro (by simp only [X_sh, X_bd]; decide) ?_
  conv => whnf
  refine And.intro (by simp only [X_sh, X_bd]; decide) ?_
  conv => whnf
  refine And.intro (by simp only [X_sh, X_bd]; decide) ?_
  conv => whnf
  refine And.intro (by simp only [X_sh, X_bd]; decide) ?_
  conv => whnf
  rw [eI, ← e1]
  refine hK _ _ _ _ _ _ _ _ _ _ (lp_ui1_51 ?_ 9 0 (by omega))
  refine z_WP_gos [90] 1000 fun K C hK hC => ?_
  conv => whnf
  refine hK _ _ _ _ _ _ _ _ _ _ (r2)
theorem zu_79 : (z_up (z_up (z_up (z_up (z_up (z_up (z_up (z_row R 79 (fun _ => .null)) 79 0 (.ref 80)) 79 1 (.ref 81)) 79 2 (.ref 82)) 79 3 (.ref 83)) 79 4 (.ref 84)) 79 5 (.ref 85)) 79 6 (.ref 86)) = z_row R 79 (rz 79) := by
  funext m
  by_cases h : m = 79
  · subst h; funext k
    match k with
    | 0 => rfl
    | 1 => rfl
    | 2 => rfl
    | 3 => rfl
    | 4 => rfl
    | 5 => rfl
    | 6 => rfl
    | k + 7 => rfl
  · simp only [z_up, z_row, if_neg h]
theorem lp_ui1_79 (hQ : z_WP (z_X0 L xs) z_P0 d m_Units_init 88 [some (.ref 79), some (.int (nI 9))] [] (z_row I 80 (T1 9)) (z_up (z_up (z_up (z_up (z_up (z_up (z_up (z_row R 79 (fun _ => .null)) 79 0 (.ref 80)) 79 1 (.ref 81)) 79 2 (.ref 82)) 79 3 (.ref 83)) 79 4 (.ref 84)) 79 5 (.ref 85)) 79 6 (.ref 86)) J F cn 7 1599 Q) :
    ∀ j i, i + j = 9 → z_WP (z_X0 L xs) z_P0 d m_Units_init 64 [some (.ref 79), some (.int (nI i))] [] (z_row I 80 (T1 i)) (z_up (z_up (z_up (z_up (z_up (z_up (z_up (z_row R 79 (fun _ => .null)) 79 0 (.ref 80)) 79 1 (.ref 81)) 79 2 (.ref 82)) 79 3 (.ref 83)) 79 4 (.ref 84)) 79 5 (.ref 85)) 79 6 (.ref 86)) J F cn 7 1599 Q := by
  intro j
  induction j with
  | zero =>
    intro i hi
    obtain rfl : i = 9 := by omega
    refine z_WP_gos [64, 88] 1000 fun K C hK hC => ?_
    conv => whnf
    repeat ((first | refine And.intro (by (conv => arg 2; whnf); (try simp only [z_lit, nI_add, pk_mul, z_pr1, z_pr2]); exact z_in (by omega) (by decide)) ?_ | refine z_bt1 (by decide) ?_ | refine z_bf1 (by decide) ?_ | refine z_bt2 (by decide) ?_ | refine z_bf2 (by decide) ?_); conv => whnf)
    refine hK _ _ _ _ _ _ _ _ _ _ (hQ)
  | succ j ih =>
    intro i hi
    refine z_WP_gos [64, 88] 1000 fun K C hK hC => ?_
    conv => whnf
    refine ⟨fun g => absurd g (nI_nlt (a := 8) (b := i) (by omega) (by omega)), fun _ => ?_⟩
    conv => whnf
    repeat ((first | refine And.intro (by (conv => arg 2; whnf); (try simp only [z_lit, nI_add, pk_mul, z_pr1, z_pr2]); exact z_in (by omega) (by decide)) ?_ | refine z_bt1 (by decide) ?_ | refine z_bf1 (by decide) ?_ | refine z_bt2 (by decide) ?_ | refine z_bf2 (by decide) ?_); conv => whnf)
    simp (disch := omega) only [z_lit, nI_add, pk_mul, z_pr1, z_pr2, nI_clamp, z_up_row, z_row_s, z_row_n, z_row_row, pk_us, pk_un]
    rw [T1_s]
    refine hK _ _ _ _ _ _ _ _ _ _ (ih (i + 1) (by omega))
theorem lp_ui2_79 (hQ : Q none (z_row I 80 (T2 8)) (z_up (z_up (z_up (z_up (z_up (z_up (z_up (z_row R 79 (fun _ => .null)) 79 0 (.ref 80)) 79 1 (.ref 81)) 79 2 (.ref 82)) 79 3 (.ref 83)) 79 4 (.ref 84)) 79 5 (.ref 85)) 79 6 (.ref 86)) J F cn) :
    ∀ j i, i + j = 8 → z_WP (z_X0 L xs) z_P0 d m_Units_init 90 [some (.ref 79), some (.int (nI i))] [] (z_row I 80 (T2 i)) (z_up (z_up (z_up (z_up (z_up (z_up (z_up (z_row R 79 (fun _ => .null)) 79 0 (.ref 80)) 79 1 (.ref 81)) 79 2 (.ref 82)) 79 3 (.ref 83)) 79 4 (.ref 84)) 79 5 (.ref 85)) 79 6 (.ref 86)) J F cn 7 1599 Q := by
  intro j
  induction j with
  | zero =>
    intro i hi
    obtain rfl : i = 8 := by omega
    refine z_WP_gos [90] 1000 fun K C hK hC => ?_
    conv => whnf
    repeat ((first | refine And.intro (by (conv => arg 2; whnf); (try simp only [z_lit, nI_add, pk_mul, z_pr1, z_pr2]); exact z_in (by omega) (by decide)) ?_ | refine z_bt1 (by decide) ?_ | refine z_bf1 (by decide) ?_ | refine z_bt2 (by decide) ?_ | refine z_bf2 (by decide) ?_); conv => whnf)
    exact hQ
  | succ j ih =>
    intro i hi
    refine z_WP_gos [90] 1000 fun K C hK hC => ?_
    conv => whnf
    refine ⟨fun g => absurd g (nI_ge (a := i) (b := 8) (by omega) (by omega)), fun _ => ?_⟩
    conv => whnf
    repeat ((first | refine And.intro (by (conv => arg 2; whnf); (try simp only [z_lit, nI_add, pk_mul, z_pr1, z_pr2]); exact z_in (by omega) (by decide)) ?_ | refine z_bt1 (by decide) ?_ | refine z_bf1 (by decide) ?_ | refine z_bt2 (by decide) ?_ | refine z_bf2 (by decide) ?_); conv => whnf)
    simp (disch := omega) only [z_lit, nI_add, pk_mul, z_pr1, z_pr2, nI_clamp, z_up_row, z_row_s, z_row_n, z_row_row, pk_us, pk_un]
    rw [T2_s]
    refine hK _ _ _ _ _ _ _ _ _ _ (ih (i + 1) (by omega))
theorem ci_units_79 (hQ : ∀ (J' : z_J) (F' : z_F), (∀ c, c < 79 → F' c = F c) → F' 85 = (fun _ => 0) → Q none (z_row (zI 0 I 80 7) 80 (T2 8)) (z_row R 79 (rz 79)) J' F' 87) :
    z_M (z_X0 L xs) z_P0 d m_Units_init [.ref 79] I (z_row R 79 (fun _ => .null)) J F 80 Q := by
  have eI : (z_row (z_row (z_row (z_row (z_row (z_row (z_row I 80 (fun _ => 0)) 81 (fun _ => 0)) 82 (fun _ => 0)) 83 (fun _ => 0)) 84 (fun _ => 0)) 85 (fun _ => 0)) 86 (fun _ => 0)) = zI 0 I 80 7 := by
    funext c
    unfold zI z_row
    repeat' split
    all_goals first | rfl | omega
  have e1 : z_row (zI 0 I 80 7) 80 (T1 0) = zI 0 I 80 7 := by
    rw [T1_0]
    exact z_row_idJ (zI 0 I 80 7) 80
  have q := hQ (z_row (z_row (z_row (z_row (z_row (z_row (z_row J 80 (fun _ => 0)) 81 (fun _ => 0)) 82 (fun _ => 0)) 83 (fun _ => 0)) 84 (fun _ => 0)) 85 (fun _ => 0)) 86 (fun _ => 0)) (z_row (z_row (z_row (z_row (z_row (z_row (z_row F 80 (fun _ => 0)) 81 (fun _ => 0)) 82 (fun _ => 0)) 83 (fun _ => 0)) 84 (fun _ => 0)) 85 (fun _ => 0)) 86 (fun _ => 0)) (fun c hc => by repeat rw [z_row_n _ _ (by omega)]) rfl
  rw [← zu_79] at q
  have r2 := lp_ui2_79 (L := L) (xs := xs) (d := d) q 8 0 (by omega)
  rw [T2_0] at r2
  refine z_WP_gos [64] 1000 fun K C hK hC => ?_
  conv => whnf
  refine And.intro (by simp only [X_sh, X_bd]; decide) ?_
  conv => whnf
  refine And.intro (by simp only [X_sh, X_bd]; decide) ?_
  conv => whnf
  refine And.intro (by simp only [X_sh, X_bd]; decide) ?_
  conv => whnf
  refine And.intro (by simp only [X_sh, X_bd]; decide) ?_
  conv => whnf
  refine And.intro (by simp only [X_sh, X_bd]; decide) ?_
  conv => whnf
  refine And.intro (by simp only [X_sh, X_bd]; decide) ?_
  conv => whnf
  refine And.intro (by simp only [X_sh, X_bd]; decide) ?_
  conv => whnf
  rw [eI, ← e1]
  refine hK _ _ _ _ _ _ _ _ _ _ (lp_ui1_79 ?_ 9 0 (by omega))
  refine z_WP_gos [90] 1000 fun K C hK hC => ?_
  conv => whnf
  refine hK _ _ _ _ _ _ _ _ _ _ (r2)
end
