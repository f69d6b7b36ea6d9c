/-! a new object of the model's -/
def V1 (i : Nat) : Nat → Int32 := fun j => if j = 0 then nI 2000 else if j = 1 then nI 1 else if j = 3 then nI 8 else if 31 ≤ j ∧ j < 31 + i then nI 1 else nI 0
def V2 (i : Nat) : Nat → Int32 := fun j => if j = 0 then nI 2000 else if j = 1 then nI 1 else if j = 3 then nI 8 else if 31 ≤ j ∧ j < 40 then nI 1 else if 96 ≤ j ∧ j < 96 + i then nI 126 else if 136 ≤ j ∧ j < 136 + i then nI (j - 136) <<< (nI 11 &&& nI 31) else nI 0
theorem V1_0 : V1 0 = upd (upd (upd (fun _ => nI 0) 0 (nI 2000)) 1 (nI 1)) 3 (nI 8) := by
  funext j; unfold V1 upd
  by_cases h0 : j = 0
  · subst h0; rfl
  by_cases h1 : j = 1
  · subst h1; rfl
  by_cases h3 : j = 3
  · subst h3; rfl
  rw [if_neg h0, if_neg h1, if_neg h3, if_neg (by omega), if_neg h3, if_neg h1, if_neg h0]
theorem V1_s {i : Nat} (hi : i < 9) : upd (V1 i) (31 + i) (nI 1) = V1 (i + 1) := by
  funext j
  by_cases h : j = 31 + i
  · rw [h, pk_us]; unfold V1; rw [if_neg (by omega), if_neg (by omega), if_neg (by omega), if_pos (by omega)]
  · rw [pk_un h]; unfold V1
    by_cases g : 31 ≤ j ∧ j < 31 + i
    · rw [if_pos g, if_pos (show 31 ≤ j ∧ j < 31 + (i + 1) by omega)]
    · rw [if_neg g, if_neg (show ¬ (31 ≤ j ∧ j < 31 + (i + 1)) by omega)]
theorem V2_0 : V2 0 = V1 9 := by
  funext j; unfold V2 V1
  rw [if_neg (show ¬ (96 ≤ j ∧ j < 96 + 0) by omega), if_neg (show ¬ (136 ≤ j ∧ j < 136 + 0) by omega)]
theorem V2_s {i : Nat} (hi : i < 8) : upd (upd (V2 i) (96 + i) (nI 126)) (136 + i) (nI i <<< (nI 11 &&& nI 31)) = V2 (i + 1) := by
  funext j
  by_cases h : j = 136 + i
  · rw [h, pk_us]; unfold V2; rw [if_neg (by omega), if_neg (by omega), if_neg (by omega), if_neg (by omega), if_neg (by omega), if_pos (by omega), show 136 + i - 136 = i by omega]
  · rw [pk_un h]
    by_cases h2 : j = 96 + i
    · rw [h2, pk_us]; unfold V2; rw [if_neg (by omega), if_neg (by omega), if_neg (by omega), if_neg (by omega), if_pos (by omega)]
    · rw [pk_un h2]; unfold V2
      have e1 : (96 ≤ j ∧ j < 96 + (i + 1)) = (96 ≤ j ∧ j < 96 + i) := by apply propext; omega
      have e2 : (136 ≤ j ∧ j < 136 + (i + 1)) = (136 ≤ j ∧ j < 136 + i) := by apply propext; omega
      by_cases g1 : 96 ≤ j ∧ j < 96 + i
      · rw [if_pos g1, if_pos (show 96 ≤ j ∧ j < 96 + (i + 1) by omega)]
      · rw [if_neg g1, if_neg (show ¬ (96 ≤ j ∧ j < 96 + (i + 1)) by omega)]
        by_cases g2 : 136 ≤ j ∧ j < 136 + i
        · rw [if_pos g2, if_pos (show 136 ≤ j ∧ j < 136 + (i + 1) by omega)]
        · rw [if_neg g2, if_neg (show ¬ (136 ≤ j ∧ j < 136 + (i + 1)) by omega)]
section
variable {L : Nat} {xs : Nat → Int32} {d : Nat} {kp sp wd : Value} {I : z_I} {s : z_sg} {R : z_R} {J : z_J} {F : z_F} {cn : Nat} {Q : z_Q}
theorem zo_40 : (z_up (z_up (z_up (z_up (z_up (z_up (z_up (z_up (z_up (z_row R 40 (fun _ => .null)) 40 0 (.ref 41)) 40 1 (.ref 42)) 40 2 (.ref 43)) 40 5 (.ref 44)) 40 9 (.ref 45)) 40 10 (.ref 46)) 40 11 (.ref 47)) 40 12 (.ref 48)) 40 13 (.ref 49)) = z_row R 40 (rz 40) := by
  funext m
  by_cases h40 : m = 40
  · subst h40; funext k
    match k with
    | 0 => rfl
    | 1 => rfl
    | 2 => rfl
    | 3 => rfl
    | 4 => rfl
    | 5 => rfl
    | 6 => rfl
    | 7 => rfl
    | 8 => rfl
    | 9 => rfl
    | 10 => rfl
    | 11 => rfl
    | 12 => rfl
    | 13 => rfl
    | k + 14 => rfl
  simp only [z_up, z_row, if_neg h40]
theorem lp_mi1 (hQ : z_WP (z_X0 L xs) z_P0 d m_Mod_init 135 [some (.ref 40), some (.int (nI 9))] [] (z_row I 41 (V1 9)) (z_up (z_up (z_up (z_up (z_up (z_up (z_up (z_up (z_up (z_row R 40 (fun _ => .null)) 40 0 (.ref 41)) 40 1 (.ref 42)) 40 2 (.ref 43)) 40 5 (.ref 44)) 40 9 (.ref 45)) 40 10 (.ref 46)) 40 11 (.ref 47)) 40 12 (.ref 48)) 40 13 (.ref 49)) J F cn 9 19461 Q) :
    ∀ j i, i + j = 9 → z_WP (z_X0 L xs) z_P0 d m_Mod_init 113 [some (.ref 40), some (.int (nI i))] [] (z_row I 41 (V1 i)) (z_up (z_up (z_up (z_up (z_up (z_up (z_up (z_up (z_up (z_row R 40 (fun _ => .null)) 40 0 (.ref 41)) 40 1 (.ref 42)) 40 2 (.ref 43)) 40 5 (.ref 44)) 40 9 (.ref 45)) 40 10 (.ref 46)) 40 11 (.ref 47)) 40 12 (.ref 48)) 40 13 (.ref 49)) J F cn 9 19461 Q := by
  intro j
  induction j with
  | zero =>
    intro i hi
    obtain rfl : i = 9 := by omega
    refine z_WP_gos [113, 135] 1000 fun K C hK hC => ?_
    conv => whnf
    repeat ((first | refine And.intro (by (conv => arg 2; whnf); (try simp only [z_lit, nI_add, pk_mul, z_pr1, z_pr2]); exact z_in (by omega) (by decide)) ?_ | refine z_bt1 (by decide) ?_ | refine z_bf1 (by decide) ?_ | refine z_bt2 (by decide) ?_ | refine z_bf2 (by decide) ?_); conv => whnf)
    refine hK _ _ _ _ _ _ _ _ _ _ (hQ)
  | succ j ih =>
    intro i hi
    refine z_WP_gos [113, 135] 1000 fun K C hK hC => ?_
    conv => whnf
    refine ⟨fun g => absurd g (nI_nlt (a := 8) (b := i) (by omega) (by omega)), fun _ => ?_⟩
    conv => whnf
    repeat ((first | refine And.intro (by (conv => arg 2; whnf); (try simp only [z_lit, nI_add, pk_mul, z_pr1, z_pr2]); exact z_in (by omega) (by decide)) ?_ | refine z_bt1 (by decide) ?_ | refine z_bf1 (by decide) ?_ | refine z_bt2 (by decide) ?_ | refine z_bf2 (by decide) ?_); conv => whnf)
    simp (disch := omega) only [z_lit, nI_add, pk_mul, z_pr1, z_pr2, nI_clamp, z_up_row, z_row_s, z_row_n, z_row_row, pk_us, pk_un]
    rw [V1_s (by omega)]
    refine hK _ _ _ _ _ _ _ _ _ _ (ih (i + 1) (by omega))
theorem lp_mi2 (hQ : Q none (z_row I 41 (V2 8)) (z_up (z_up (z_up (z_up (z_up (z_up (z_up (z_up (z_up (z_row R 40 (fun _ => .null)) 40 0 (.ref 41)) 40 1 (.ref 42)) 40 2 (.ref 43)) 40 5 (.ref 44)) 40 9 (.ref 45)) 40 10 (.ref 46)) 40 11 (.ref 47)) 40 12 (.ref 48)) 40 13 (.ref 49)) J F cn) :
    ∀ j i, i + j = 8 → z_WP (z_X0 L xs) z_P0 d m_Mod_init 137 [some (.ref 40), some (.int (nI i))] [] (z_row I 41 (V2 i)) (z_up (z_up (z_up (z_up (z_up (z_up (z_up (z_up (z_up (z_row R 40 (fun _ => .null)) 40 0 (.ref 41)) 40 1 (.ref 42)) 40 2 (.ref 43)) 40 5 (.ref 44)) 40 9 (.ref 45)) 40 10 (.ref 46)) 40 11 (.ref 47)) 40 12 (.ref 48)) 40 13 (.ref 49)) J F cn 9 19461 Q := by
  intro j
  induction j with
  | zero =>
    intro i hi
    obtain rfl : i = 8 := by omega
    refine z_WP_gos [137] 1000 fun K C hK hC => ?_
    conv => whnf
    repeat ((first | refine And.intro (by (conv => arg 2; whnf); (try simp only [z_lit, nI_add, pk_mul, z_pr1, z_pr2]); exact z_in (by omega) (by decide)) ?_ | refine z_bt1 (by decide) ?_ | refine z_bf1 (by decide) ?_ | refine z_bt2 (by decide) ?_ | refine z_bf2 (by decide) ?_); conv => whnf)
    exact hQ
  | succ j ih =>
    intro i hi
    refine z_WP_gos [137] 1000 fun K C hK hC => ?_
    conv => whnf
    refine ⟨fun g => absurd g (nI_ge (a := i) (b := 8) (by omega) (by omega)), fun _ => ?_⟩
    conv => whnf
    repeat ((first | refine And.intro (by (conv => arg 2; whnf); (try simp only [z_lit, nI_add, pk_mul, z_pr1, z_pr2]); exact z_in (by omega) (by decide)) ?_ | refine z_bt1 (by decide) ?_ | refine z_bf1 (by decide) ?_ | refine z_bt2 (by decide) ?_ | refine z_bf2 (by decide) ?_); conv => whnf)
    simp (disch := omega) only [z_lit, nI_add, pk_mul, z_pr1, z_pr2, nI_clamp, z_up_row, z_row_s, z_row_n, z_row_row, pk_us, pk_un]
    rw [V2_s (by omega)]
    refine hK _ _ _ _ _ _ _ _ _ _ (ih (i + 1) (by omega))
theorem zmi : (z_up (z_row (z_row (z_row (z_row (z_row (z_row (z_row (z_row (z_row (z_row I 40 (fun _ => 0)) 41 (fun _ => 0)) 42 (fun _ => 0)) 43 (fun _ => 0)) 44 (fun _ => 0)) 45 (fun _ => 0)) 46 (fun _ => 0)) 47 (fun _ => 0)) 48 (fun _ => 0)) 49 (fun _ => 0)) 40 23 (-1)) = (z_row (zI 0 I 41 9) 40 (upd (fun _ => 0) 23 (-1))) := by
  funext c
  by_cases h40 : c = 40
  · subst h40; rfl
  by_cases h41 : c = 41
  · subst h41; rfl
  by_cases h42 : c = 42
  · subst h42; rfl
  by_cases h43 : c = 43
  · subst h43; rfl
  by_cases h44 : c = 44
  · subst h44; rfl
  by_cases h45 : c = 45
  · subst h45; rfl
  by_cases h46 : c = 46
  · subst h46; rfl
  by_cases h47 : c = 47
  · subst h47; rfl
  by_cases h48 : c = 48
  · subst h48; rfl
  by_cases h49 : c = 49
  · subst h49; rfl
  simp only [zI, z_row, z_up, if_neg h40, if_neg h41, if_neg h42, if_neg h43, if_neg h44, if_neg h45, if_neg h46, if_neg h47, if_neg h48, if_neg h49]
  repeat' split
  all_goals first | rfl | omega
theorem ci_mod (hQ : ∀ (J' : z_J) (F' : z_F), F' 8 = F 8 → Q none (z_row (z_row (zI 0 I 41 9) 40 (upd (fun _ => 0) 23 (-1))) 41 (V2 8)) (z_row R 40 (rz 40)) J' F' 50) :
    z_M (z_X0 L xs) z_P0 d m_Mod_init [.ref 40] (z_row I 40 (fun _ => 0)) (z_row R 40 (fun _ => .null)) J F 41 Q := by
  have q := hQ (z_row (z_row (z_row (z_row (z_row (z_row (z_row (z_row (z_row J 41 (fun _ => 0)) 42 (fun _ => 0)) 43 (fun _ => 0)) 44 (fun _ => 0)) 45 (fun _ => 0)) 46 (fun _ => 0)) 47 (fun _ => 0)) 48 (fun _ => 0)) 49 (fun _ => 0)) (z_row (z_row (z_row (z_row (z_row (z_row (z_row (z_row (z_row F 41 (fun _ => 0)) 42 (fun _ => 0)) 43 (fun _ => 0)) 44 (fun _ => 0)) 45 (fun _ => 0)) 46 (fun _ => 0)) 47 (fun _ => 0)) 48 (fun _ => 0)) 49 (fun _ => 0)) (by repeat rw [z_row_n _ _ (by omega)])
  rw [← zo_40] at q
  have r2 := lp_mi2 (L := L) (xs := xs) (d := d) q 8 0 (by omega)
  rw [V2_0] at r2
  refine z_WP_gos [113] 1000 fun K C hK hC => ?_
  conv => whnf
  refine And.intro (by simp only [X_sh, X_bd]; decide) ?_
  conv => whnf
  refine And.intro (by simp only [X_sh, X_bd]; decide) ?_
  conv => whnf
  refine And.intro (by simp only [X_sh, X_bd]; decide) ?_
  conv => whnf
  refine And.intro (by simp only [X_sh, X_bd]; decide) ?_
  conv => whnf
  refine And.intro (by simp only [X_sh, X_bd]; decide) ?_
  conv => whnf
  refine And.intro (by simp only [X_sh, X_bd]; decide) ?_
  conv => whnf
  refine And.intro (by simp only [X_sh, X_bd]; decide) ?_
  conv => whnf
  refine And.intro (by simp only [X_sh, X_bd]; decide) ?_
  conv => whnf
  refine And.intro (by simp only [X_sh, X_bd]; decide) ?_
  conv => whnf
  rw [zmi]
  repeat ((first | refine And.intro (by (conv => arg 2; whnf); (try simp only [z_lit, nI_add, pk_mul, z_pr1, z_pr2]); exact z_in (by omega) (by decide)) ?_ | refine z_bt1 (by decide) ?_ | refine z_bf1 (by decide) ?_ | refine z_bt2 (by decide) ?_ | refine z_bf2 (by decide) ?_); conv => whnf)
  simp (disch := omega) only [z_lit, nI_add, pk_mul, z_pr1, z_pr2, nI_clamp, z_up_row, z_row_s, z_row_n, z_row_row, pk_us, pk_un]
  rw [show zI (nI 0) I 41 9 41 = (fun _ => nI 0) from rfl, ← V1_0]
  simp only [X_sh]
  refine hK _ _ _ _ _ _ _ _ _ _ (lp_mi1 ?_ 9 0 (by omega))
  refine z_WP_gos [137] 1000 fun K C hK hC => ?_
  conv => whnf
  refine hK _ _ _ _ _ _ _ _ _ _ (r2)
end
