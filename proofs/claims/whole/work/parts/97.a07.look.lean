/-! what may be asked: a look at all -/
def q_look (w : Nat → Int32) : Nat → Int32
  | 0 => w 0
  | 1 => w 1
  | 2 => w 2
  | 3 => w 3
  | 4 => w 8
  | 5 => w 4
  | 6 => w 5
  | 7 => w 13
  | 8 => w 14
  | 9 => nI (cntn w 0 8)
  | 10 => nI (cntn w 1 8)
  | 11 => w 9
  | 12 => w 10
  | 13 => w 7
  | 14 => w 6
  | 15 => w 2764
  | _ => -100000
section
variable {L : Nat} {xs : Nat → Int32} {d : Nat} {kp sp wd : Value} {I : z_I} {s : z_sg} {R : z_R} {J : z_J} {F : z_F} {cn : Nat} {Q : z_Q} {n k : Nat}
theorem sp_more {q : Int32} (h1 : ∀ q', 8 ≤ q' → q' < 16 → q = nI q' → Q (some (.int (q_look s.2.1 q'))) (z_ms I s) (z_R0 kp sp wd) J F cn) (h0 : (∀ q', 8 ≤ q' → q' < 16 → ¬ q = nI q') → Q (some (.int (-100000))) (z_ms I s) (z_R0 kp sp wd) J F cn) :
    z_M (z_X0 L xs) z_P0 (d + 1) m_Mod_more [.ref 40, .int q] (z_ms I s) (z_R0 kp sp wd) J F cn Q := by
  refine z_WP_gos [1] 1000 fun K C hK hC => ?_
  conv => whnf
  rcases in_or (q := q) 8 16 (by decide) with ⟨q', hq0, hq, eq⟩ | hno
  · subst eq
    have r := h1 q' hq0 hq rfl
    have hq' : q' = 8 ∨ q' = 9 ∨ q' = 10 ∨ q' = 11 ∨ q' = 12 ∨ q' = 13 ∨ q' = 14 ∨ q' = 15 := by omega
    rcases hq' with rfl | rfl | rfl | rfl | rfl | rfl | rfl | rfl
    · refine hK _ _ _ _ _ _ _ _ _ _ (z_WP_ts 48 rfl (by decide) ?_)
      refine z_WP_gos [] 1000 fun K C hK hC => ?_
      conv => whnf
      repeat ((first | refine And.intro (by (conv => arg 2; whnf); (try simp only [z_lit, nI_add, pk_mul, z_pr1, z_pr2]); exact z_in (by omega) (by decide)) ?_ | refine z_bt1 (by decide) ?_ | refine z_bf1 (by decide) ?_ | refine z_bt2 (by decide) ?_ | refine z_bf2 (by decide) ?_); conv => whnf)
      simp (disch := omega) only [z_lit, nI_add, pk_mul, z_pr1, z_pr2, nI_clamp, z_m3_40, z_m3_41, z_m3_44, z_m3_u40, z_m3_u41, z_m3_u44, z_m3_m3, pk_us, pk_un]
      exact r
    · refine hK _ _ _ _ _ _ _ _ _ _ (z_WP_ts 56 rfl (by decide) ?_)
      refine z_WP_gos [] 1000 fun K C hK hC => ?_
      conv => whnf
      refine hC _ _ _ _ _ _ _ _ _ _ (fun _ _ _ _ _ _ q => q) (sp_noisesOn (b := 0) (by omega) ?_)
      conv => whnf
      exact r
    · refine hK _ _ _ _ _ _ _ _ _ _ (z_WP_ts 62 rfl (by decide) ?_)
      refine z_WP_gos [] 1000 fun K C hK hC => ?_
      conv => whnf
      refine hC _ _ _ _ _ _ _ _ _ _ (fun _ _ _ _ _ _ q => q) (sp_noisesOn (b := 1) (by omega) ?_)
      conv => whnf
      exact r
    · refine hK _ _ _ _ _ _ _ _ _ _ (z_WP_ts 68 rfl (by decide) ?_)
      refine z_WP_gos [] 1000 fun K C hK hC => ?_
      conv => whnf
      repeat ((first | refine And.intro (by (conv => arg 2; whnf); (try simp only [z_lit, nI_add, pk_mul, z_pr1, z_pr2]); exact z_in (by omega) (by decide)) ?_ | refine z_bt1 (by decide) ?_ | refine z_bf1 (by decide) ?_ | refine z_bt2 (by decide) ?_ | refine z_bf2 (by decide) ?_); conv => whnf)
      simp (disch := omega) only [z_lit, nI_add, pk_mul, z_pr1, z_pr2, nI_clamp, z_m3_40, z_m3_41, z_m3_44, z_m3_u40, z_m3_u41, z_m3_u44, z_m3_m3, pk_us, pk_un]
      exact r
    · refine hK _ _ _ _ _ _ _ _ _ _ (z_WP_ts 76 rfl (by decide) ?_)
      refine z_WP_gos [] 1000 fun K C hK hC => ?_
      conv => whnf
      repeat ((first | refine And.intro (by (conv => arg 2; whnf); (try simp only [z_lit, nI_add, pk_mul, z_pr1, z_pr2]); exact z_in (by omega) (by decide)) ?_ | refine z_bt1 (by decide) ?_ | refine z_bf1 (by decide) ?_ | refine z_bt2 (by decide) ?_ | refine z_bf2 (by decide) ?_); conv => whnf)
      simp (disch := omega) only [z_lit, nI_add, pk_mul, z_pr1, z_pr2, nI_clamp, z_m3_40, z_m3_41, z_m3_44, z_m3_u40, z_m3_u41, z_m3_u44, z_m3_m3, pk_us, pk_un]
      exact r
    · refine hK _ _ _ _ _ _ _ _ _ _ (z_WP_ts 84 rfl (by decide) ?_)
      refine z_WP_gos [] 1000 fun K C hK hC => ?_
      conv => whnf
      repeat ((first | refine And.intro (by (conv => arg 2; whnf); (try simp only [z_lit, nI_add, pk_mul, z_pr1, z_pr2]); exact z_in (by omega) (by decide)) ?_ | refine z_bt1 (by decide) ?_ | refine z_bf1 (by decide) ?_ | refine z_bt2 (by decide) ?_ | refine z_bf2 (by decide) ?_); conv => whnf)
      simp (disch := omega) only [z_lit, nI_add, pk_mul, z_pr1, z_pr2, nI_clamp, z_m3_40, z_m3_41, z_m3_44, z_m3_u40, z_m3_u41, z_m3_u44, z_m3_m3, pk_us, pk_un]
      exact r
    · refine hK _ _ _ _ _ _ _ _ _ _ (z_WP_ts 92 rfl (by decide) ?_)
      refine z_WP_gos [] 1000 fun K C hK hC => ?_
      conv => whnf
      repeat ((first | refine And.intro (by (conv => arg 2; whnf); (try simp only [z_lit, nI_add, pk_mul, z_pr1, z_pr2]); exact z_in (by omega) (by decide)) ?_ | refine z_bt1 (by decide) ?_ | refine z_bf1 (by decide) ?_ | refine z_bt2 (by decide) ?_ | refine z_bf2 (by decide) ?_); conv => whnf)
      simp (disch := omega) only [z_lit, nI_add, pk_mul, z_pr1, z_pr2, nI_clamp, z_m3_40, z_m3_41, z_m3_44, z_m3_u40, z_m3_u41, z_m3_u44, z_m3_m3, pk_us, pk_un]
      exact r
    · refine hK _ _ _ _ _ _ _ _ _ _ (z_WP_ts 100 rfl (by decide) ?_)
      refine z_WP_gos [] 1000 fun K C hK hC => ?_
      conv => whnf
      repeat ((first | refine And.intro (by (conv => arg 2; whnf); (try simp only [z_lit, nI_add, pk_mul, z_pr1, z_pr2]); exact z_in (by omega) (by decide)) ?_ | refine z_bt1 (by decide) ?_ | refine z_bf1 (by decide) ?_ | refine z_bt2 (by decide) ?_ | refine z_bf2 (by decide) ?_); conv => whnf)
      simp (disch := omega) only [z_lit, nI_add, pk_mul, z_pr1, z_pr2, nI_clamp, z_m3_40, z_m3_41, z_m3_44, z_m3_u40, z_m3_u41, z_m3_u44, z_m3_m3, pk_us, pk_un]
      exact r
  · refine hK _ _ _ _ _ _ _ _ _ _ (z_WP_ts 109 rfl (z_swt_no _ fun p hp => ?_) ?_)
    · simp only [List.mem_cons, List.not_mem_nil, or_false] at hp
      rcases hp with rfl | rfl | rfl | rfl | rfl | rfl | rfl | rfl <;> first
        | exact hno 8 (by omega) (by omega)
        | exact hno 9 (by omega) (by omega)
        | exact hno 10 (by omega) (by omega)
        | exact hno 11 (by omega) (by omega)
        | exact hno 12 (by omega) (by omega)
        | exact hno 13 (by omega) (by omega)
        | exact hno 14 (by omega) (by omega)
        | exact hno 15 (by omega) (by omega)
    · refine z_WP_gos [] 1000 fun K C hK hC => ?_
      conv => whnf
      exact h0 hno
theorem sp_look {q : Int32} (h1 : ∀ q', q' < 16 → q = nI q' → Q (some (.int (q_look s.2.1 q'))) (z_ms I s) (z_R0 kp sp wd) J F cn) (h0 : (∀ q', q' < 16 → ¬ q = nI q') → Q (some (.int (-100000))) (z_ms I s) (z_R0 kp sp wd) J F cn) :
    z_M (z_X0 L xs) z_P0 (d + 2) m_Mod_look [.ref 40, .int q] (z_ms I s) (z_R0 kp sp wd) J F cn Q := by
  refine z_WP_gos [1] 1000 fun K C hK hC => ?_
  conv => whnf
  rcases in_or (q := q) 0 8 (by decide) with ⟨q', hq0, hq, eq⟩ | hno
  · subst eq
    have r := h1 q' (by omega) rfl
    have hq' : q' = 0 ∨ q' = 1 ∨ q' = 2 ∨ q' = 3 ∨ q' = 4 ∨ q' = 5 ∨ q' = 6 ∨ q' = 7 := by omega
    rcases hq' with rfl | rfl | rfl | rfl | rfl | rfl | rfl | rfl
    · refine hK _ _ _ _ _ _ _ _ _ _ (z_WP_ts 48 rfl (by decide) ?_)
      refine z_WP_gos [] 1000 fun K C hK hC => ?_
      conv => whnf
      repeat ((first | refine And.intro (by (conv => arg 2; whnf); (try simp only [z_lit, nI_add, pk_mul, z_pr1, z_pr2]); exact z_in (by omega) (by decide)) ?_ | refine z_bt1 (by decide) ?_ | refine z_bf1 (by decide) ?_ | refine z_bt2 (by decide) ?_ | refine z_bf2 (by decide) ?_); conv => whnf)
      simp (disch := omega) only [z_lit, nI_add, pk_mul, z_pr1, z_pr2, nI_clamp, z_m3_40, z_m3_41, z_m3_44, z_m3_u40, z_m3_u41, z_m3_u44, z_m3_m3, pk_us, pk_un]
      exact r
    · refine hK _ _ _ _ _ _ _ _ _ _ (z_WP_ts 55 rfl (by decide) ?_)
      refine z_WP_gos [] 1000 fun K C hK hC => ?_
      conv => whnf
      repeat ((first | refine And.intro (by (conv => arg 2; whnf); (try simp only [z_lit, nI_add, pk_mul, z_pr1, z_pr2]); exact z_in (by omega) (by decide)) ?_ | refine z_bt1 (by decide) ?_ | refine z_bf1 (by decide) ?_ | refine z_bt2 (by decide) ?_ | refine z_bf2 (by decide) ?_); conv => whnf)
      simp (disch := omega) only [z_lit, nI_add, pk_mul, z_pr1, z_pr2, nI_clamp, z_m3_40, z_m3_41, z_m3_44, z_m3_u40, z_m3_u41, z_m3_u44, z_m3_m3, pk_us, pk_un]
      exact r
    · refine hK _ _ _ _ _ _ _ _ _ _ (z_WP_ts 62 rfl (by decide) ?_)
      refine z_WP_gos [] 1000 fun K C hK hC => ?_
      conv => whnf
      repeat ((first | refine And.intro (by (conv => arg 2; whnf); (try simp only [z_lit, nI_add, pk_mul, z_pr1, z_pr2]); exact z_in (by omega) (by decide)) ?_ | refine z_bt1 (by decide) ?_ | refine z_bf1 (by decide) ?_ | refine z_bt2 (by decide) ?_ | refine z_bf2 (by decide) ?_); conv => whnf)
      simp (disch := omega) only [z_lit, nI_add, pk_mul, z_pr1, z_pr2, nI_clamp, z_m3_40, z_m3_41, z_m3_44, z_m3_u40, z_m3_u41, z_m3_u44, z_m3_m3, pk_us, pk_un]
      exact r
    · refine hK _ _ _ _ _ _ _ _ _ _ (z_WP_ts 69 rfl (by decide) ?_)
      refine z_WP_gos [] 1000 fun K C hK hC => ?_
      conv => whnf
      repeat ((first | refine And.intro (by (conv => arg 2; whnf); (try simp only [z_lit, nI_add, pk_mul, z_pr1, z_pr2]); exact z_in (by omega) (by decide)) ?_ | refine z_bt1 (by decide) ?_ | refine z_bf1 (by decide) ?_ | refine z_bt2 (by decide) ?_ | refine z_bf2 (by decide) ?_); conv => whnf)
      simp (disch := omega) only [z_lit, nI_add, pk_mul, z_pr1, z_pr2, nI_clamp, z_m3_40, z_m3_41, z_m3_44, z_m3_u40, z_m3_u41, z_m3_u44, z_m3_m3, pk_us, pk_un]
      exact r
    · refine hK _ _ _ _ _ _ _ _ _ _ (z_WP_ts 76 rfl (by decide) ?_)
      refine z_WP_gos [] 1000 fun K C hK hC => ?_
      conv => whnf
      repeat ((first | refine And.intro (by (conv => arg 2; whnf); (try simp only [z_lit, nI_add, pk_mul, z_pr1, z_pr2]); exact z_in (by omega) (by decide)) ?_ | refine z_bt1 (by decide) ?_ | refine z_bf1 (by decide) ?_ | refine z_bt2 (by decide) ?_ | refine z_bf2 (by decide) ?_); conv => whnf)
      simp (disch := omega) only [z_lit, nI_add, pk_mul, z_pr1, z_pr2, nI_clamp, z_m3_40, z_m3_41, z_m3_44, z_m3_u40, z_m3_u41, z_m3_u44, z_m3_m3, pk_us, pk_un]
      exact r
    · refine hK _ _ _ _ _ _ _ _ _ _ (z_WP_ts 84 rfl (by decide) ?_)
      refine z_WP_gos [] 1000 fun K C hK hC => ?_
      conv => whnf
      repeat ((first | refine And.intro (by (conv => arg 2; whnf); (try simp only [z_lit, nI_add, pk_mul, z_pr1, z_pr2]); exact z_in (by omega) (by decide)) ?_ | refine z_bt1 (by decide) ?_ | refine z_bf1 (by decide) ?_ | refine z_bt2 (by decide) ?_ | refine z_bf2 (by decide) ?_); conv => whnf)
      simp (disch := omega) only [z_lit, nI_add, pk_mul, z_pr1, z_pr2, nI_clamp, z_m3_40, z_m3_41, z_m3_44, z_m3_u40, z_m3_u41, z_m3_u44, z_m3_m3, pk_us, pk_un]
      exact r
    · refine hK _ _ _ _ _ _ _ _ _ _ (z_WP_ts 91 rfl (by decide) ?_)
      refine z_WP_gos [] 1000 fun K C hK hC => ?_
      conv => whnf
      repeat ((first | refine And.intro (by (conv => arg 2; whnf); (try simp only [z_lit, nI_add, pk_mul, z_pr1, z_pr2]); exact z_in (by omega) (by decide)) ?_ | refine z_bt1 (by decide) ?_ | refine z_bf1 (by decide) ?_ | refine z_bt2 (by decide) ?_ | refine z_bf2 (by decide) ?_); conv => whnf)
      simp (disch := omega) only [z_lit, nI_add, pk_mul, z_pr1, z_pr2, nI_clamp, z_m3_40, z_m3_41, z_m3_44, z_m3_u40, z_m3_u41, z_m3_u44, z_m3_m3, pk_us, pk_un]
      exact r
    · refine hK _ _ _ _ _ _ _ _ _ _ (z_WP_ts 98 rfl (by decide) ?_)
      refine z_WP_gos [] 1000 fun K C hK hC => ?_
      conv => whnf
      repeat ((first | refine And.intro (by (conv => arg 2; whnf); (try simp only [z_lit, nI_add, pk_mul, z_pr1, z_pr2]); exact z_in (by omega) (by decide)) ?_ | refine z_bt1 (by decide) ?_ | refine z_bf1 (by decide) ?_ | refine z_bt2 (by decide) ?_ | refine z_bf2 (by decide) ?_); conv => whnf)
      simp (disch := omega) only [z_lit, nI_add, pk_mul, z_pr1, z_pr2, nI_clamp, z_m3_40, z_m3_41, z_m3_44, z_m3_u40, z_m3_u41, z_m3_u44, z_m3_m3, pk_us, pk_un]
      exact r
  · refine hK _ _ _ _ _ _ _ _ _ _ (z_WP_ts 106 rfl (z_swt_no _ fun p hp => ?_) ?_)
    · simp only [List.mem_cons, List.not_mem_nil, or_false] at hp
      rcases hp with rfl | rfl | rfl | rfl | rfl | rfl | rfl | rfl <;> first
        | exact hno 0 (by omega) (by omega)
        | exact hno 1 (by omega) (by omega)
        | exact hno 2 (by omega) (by omega)
        | exact hno 3 (by omega) (by omega)
        | exact hno 4 (by omega) (by omega)
        | exact hno 5 (by omega) (by omega)
        | exact hno 6 (by omega) (by omega)
        | exact hno 7 (by omega) (by omega)
    · refine z_WP_gos [] 1000 fun K C hK hC => ?_
      conv => whnf
      refine hC _ _ _ _ _ _ _ _ _ _ (fun _ _ _ _ _ _ q => q) (sp_more (fun q' a b e => ?_) (fun x => ?_))
      conv => whnf
      · exact h1 q' b e
      · refine h0 fun q' a e => ?_
        by_cases z : q' < 8
        · exact hno q' (by omega) z e
        · exact x q' (by omega) a e
theorem cb_look {q : Int32} {w : Nat → Int32} {ln : Nat} (h : hR I F w n k ln) (h1 : ∀ q', q' < 16 → q = nI q' → Q (some (.int (q_look w q'))) I (z_R0 kp sp wd) J F cn) (h0 : (∀ q', q' < 16 → ¬ q = nI q') → Q (some (.int (-100000))) I (z_R0 kp sp wd) J F cn) :
    z_M (z_X0 L xs) z_P0 d m_Bus_look [.ref 0, .int q] I (z_R0 kp sp wd) J F cn Q := by
  obtain ⟨⟨-, ⟨⟨a1, -, a3, -, -⟩, b5, t⟩, -, -⟩, ⟨c5, c6, c7, c10⟩, ⟨r9, r8, r11⟩, ⟨⟨p5, -⟩, -⟩, -, hJ, ⟨s1, -⟩, -⟩ := h
  have n0 : ∀ b, b < 2 → I 13 b = nI (cntn w b 8) := fun b hb => by
    obtain ⟨p, hp, e, pm⟩ := a3 b hb
    rw [e, ← nsl_len, pm.length_eq]; unfold ncl; rw [List.length_map, List.length_range]
  have x0 := a1 0 (by omega)
  have x1 := a1 1 (by omega)
  have n1 := n0 1 (by omega)
  replace n0 := n0 0 (by omega)
  have e9 : I 27 4 = w 9 := hJ.2.2.2.1.trans hJ.2.2.2.2.1.symm
  have e10 : I 16 4 = w 10 := t.2.2.2.1.trans t.2.2.2.2.1.symm
  refine z_WP_gos [9] 1000 fun K C hK hC => ?_
  conv => whnf
  rcases in_or (q := q) 0 16 (by decide) with ⟨q', hq0, hq, eq⟩ | hno
  · subst eq
    have r := h1 q' (by omega) rfl
    have hq' : q' = 0 ∨ q' = 1 ∨ q' = 2 ∨ q' = 3 ∨ q' = 4 ∨ q' = 5 ∨ q' = 6 ∨ q' = 7 ∨ q' = 8 ∨ q' = 9 ∨ q' = 10 ∨ q' = 11 ∨ q' = 12 ∨ q' = 13 ∨ q' = 14 ∨ q' = 15 := by omega
    rcases hq' with rfl | rfl | rfl | rfl | rfl | rfl | rfl | rfl | rfl | rfl | rfl | rfl | rfl | rfl | rfl | rfl
    · refine hK _ _ _ _ _ _ _ _ _ _ (z_WP_ts 88 rfl (by decide) ?_)
      refine z_WP_gos [] 1000 fun K C hK hC => ?_
      conv => whnf
      repeat ((first | refine And.intro (by (conv => arg 2; whnf); (try simp only [z_lit, nI_add, pk_mul, z_pr1, z_pr2]); exact z_in (by omega) (by decide)) ?_ | refine z_bt1 (by decide) ?_ | refine z_bf1 (by decide) ?_ | refine z_bt2 (by decide) ?_ | refine z_bf2 (by decide) ?_); conv => whnf)
      exact z_Qi r c5 rfl
    · refine hK _ _ _ _ _ _ _ _ _ _ (z_WP_ts 96 rfl (by decide) ?_)
      refine z_WP_gos [] 1000 fun K C hK hC => ?_
      conv => whnf
      repeat ((first | refine And.intro (by (conv => arg 2; whnf); (try simp only [z_lit, nI_add, pk_mul, z_pr1, z_pr2]); exact z_in (by omega) (by decide)) ?_ | refine z_bt1 (by decide) ?_ | refine z_bf1 (by decide) ?_ | refine z_bt2 (by decide) ?_ | refine z_bf2 (by decide) ?_); conv => whnf)
      exact z_Qi r c6 rfl
    · refine hK _ _ _ _ _ _ _ _ _ _ (z_WP_ts 104 rfl (by decide) ?_)
      refine z_WP_gos [] 1000 fun K C hK hC => ?_
      conv => whnf
      repeat ((first | refine And.intro (by (conv => arg 2; whnf); (try simp only [z_lit, nI_add, pk_mul, z_pr1, z_pr2]); exact z_in (by omega) (by decide)) ?_ | refine z_bt1 (by decide) ?_ | refine z_bf1 (by decide) ?_ | refine z_bt2 (by decide) ?_ | refine z_bf2 (by decide) ?_); conv => whnf)
      exact z_Qi r c7 rfl
    · refine hK _ _ _ _ _ _ _ _ _ _ (z_WP_ts 112 rfl (by decide) ?_)
      refine z_WP_gos [] 1000 fun K C hK hC => ?_
      conv => whnf
      repeat ((first | refine And.intro (by (conv => arg 2; whnf); (try simp only [z_lit, nI_add, pk_mul, z_pr1, z_pr2]); exact z_in (by omega) (by decide)) ?_ | refine z_bt1 (by decide) ?_ | refine z_bf1 (by decide) ?_ | refine z_bt2 (by decide) ?_ | refine z_bf2 (by decide) ?_); conv => whnf)
      exact z_Qi r r8 rfl
    · refine hK _ _ _ _ _ _ _ _ _ _ (z_WP_ts 120 rfl (by decide) ?_)
      refine z_WP_gos [] 1000 fun K C hK hC => ?_
      conv => whnf
      repeat ((first | refine And.intro (by (conv => arg 2; whnf); (try simp only [z_lit, nI_add, pk_mul, z_pr1, z_pr2]); exact z_in (by omega) (by decide)) ?_ | refine z_bt1 (by decide) ?_ | refine z_bf1 (by decide) ?_ | refine z_bt2 (by decide) ?_ | refine z_bf2 (by decide) ?_); conv => whnf)
      exact z_Qi r p5 rfl
    · refine hK _ _ _ _ _ _ _ _ _ _ (z_WP_ts 131 rfl (by decide) ?_)
      refine z_WP_gos [] 1000 fun K C hK hC => ?_
      conv => whnf
      repeat ((first | refine And.intro (by (conv => arg 2; whnf); (try simp only [z_lit, nI_add, pk_mul, z_pr1, z_pr2]); exact z_in (by omega) (by decide)) ?_ | refine z_bt1 (by decide) ?_ | refine z_bf1 (by decide) ?_ | refine z_bt2 (by decide) ?_ | refine z_bf2 (by decide) ?_); conv => whnf)
      exact z_Qi r r9 rfl
    · refine hK _ _ _ _ _ _ _ _ _ _ (z_WP_ts 139 rfl (by decide) ?_)
      refine z_WP_gos [] 1000 fun K C hK hC => ?_
      conv => whnf
      repeat ((first | refine And.intro (by (conv => arg 2; whnf); (try simp only [z_lit, nI_add, pk_mul, z_pr1, z_pr2]); exact z_in (by omega) (by decide)) ?_ | refine z_bt1 (by decide) ?_ | refine z_bf1 (by decide) ?_ | refine z_bt2 (by decide) ?_ | refine z_bf2 (by decide) ?_); conv => whnf)
      exact z_Qi r b5 rfl
    · refine hK _ _ _ _ _ _ _ _ _ _ (z_WP_ts 144 rfl (by decide) ?_)
      refine z_WP_gos [] 1000 fun K C hK hC => ?_
      conv => whnf
      repeat ((first | refine And.intro (by (conv => arg 2; whnf); (try simp only [z_lit, nI_add, pk_mul, z_pr1, z_pr2]); exact z_in (by omega) (by decide)) ?_ | refine z_bt1 (by decide) ?_ | refine z_bf1 (by decide) ?_ | refine z_bt2 (by decide) ?_ | refine z_bf2 (by decide) ?_); conv => whnf)
      exact z_Qi r x0 rfl
    · refine hK _ _ _ _ _ _ _ _ _ _ (z_WP_ts 151 rfl (by decide) ?_)
      refine z_WP_gos [] 1000 fun K C hK hC => ?_
      conv => whnf
      repeat ((first | refine And.intro (by (conv => arg 2; whnf); (try simp only [z_lit, nI_add, pk_mul, z_pr1, z_pr2]); exact z_in (by omega) (by decide)) ?_ | refine z_bt1 (by decide) ?_ | refine z_bf1 (by decide) ?_ | refine z_bt2 (by decide) ?_ | refine z_bf2 (by decide) ?_); conv => whnf)
      exact z_Qi r x1 rfl
    · refine hK _ _ _ _ _ _ _ _ _ _ (z_WP_ts 159 rfl (by decide) ?_)
      refine z_WP_gos [] 1000 fun K C hK hC => ?_
      conv => whnf
      repeat ((first | refine And.intro (by (conv => arg 2; whnf); (try simp only [z_lit, nI_add, pk_mul, z_pr1, z_pr2]); exact z_in (by omega) (by decide)) ?_ | refine z_bt1 (by decide) ?_ | refine z_bf1 (by decide) ?_ | refine z_bt2 (by decide) ?_ | refine z_bf2 (by decide) ?_); conv => whnf)
      exact z_Qi r n0 rfl
    · refine hK _ _ _ _ _ _ _ _ _ _ (z_WP_ts 166 rfl (by decide) ?_)
      refine z_WP_gos [] 1000 fun K C hK hC => ?_
      conv => whnf
      repeat ((first | refine And.intro (by (conv => arg 2; whnf); (try simp only [z_lit, nI_add, pk_mul, z_pr1, z_pr2]); exact z_in (by omega) (by decide)) ?_ | refine z_bt1 (by decide) ?_ | refine z_bf1 (by decide) ?_ | refine z_bt2 (by decide) ?_ | refine z_bf2 (by decide) ?_); conv => whnf)
      exact z_Qi r n1 rfl
    · refine hK _ _ _ _ _ _ _ _ _ _ (z_WP_ts 173 rfl (by decide) ?_)
      refine z_WP_gos [] 1000 fun K C hK hC => ?_
      conv => whnf
      repeat ((first | refine And.intro (by (conv => arg 2; whnf); (try simp only [z_lit, nI_add, pk_mul, z_pr1, z_pr2]); exact z_in (by omega) (by decide)) ?_ | refine z_bt1 (by decide) ?_ | refine z_bf1 (by decide) ?_ | refine z_bt2 (by decide) ?_ | refine z_bf2 (by decide) ?_); conv => whnf)
      exact z_Qi r e9 rfl
    · refine hK _ _ _ _ _ _ _ _ _ _ (z_WP_ts 184 rfl (by decide) ?_)
      refine z_WP_gos [] 1000 fun K C hK hC => ?_
      conv => whnf
      repeat ((first | refine And.intro (by (conv => arg 2; whnf); (try simp only [z_lit, nI_add, pk_mul, z_pr1, z_pr2]); exact z_in (by omega) (by decide)) ?_ | refine z_bt1 (by decide) ?_ | refine z_bf1 (by decide) ?_ | refine z_bt2 (by decide) ?_ | refine z_bf2 (by decide) ?_); conv => whnf)
      exact z_Qi r e10 rfl
    · refine hK _ _ _ _ _ _ _ _ _ _ (z_WP_ts 192 rfl (by decide) ?_)
      refine z_WP_gos [] 1000 fun K C hK hC => ?_
      conv => whnf
      repeat ((first | refine And.intro (by (conv => arg 2; whnf); (try simp only [z_lit, nI_add, pk_mul, z_pr1, z_pr2]); exact z_in (by omega) (by decide)) ?_ | refine z_bt1 (by decide) ?_ | refine z_bf1 (by decide) ?_ | refine z_bt2 (by decide) ?_ | refine z_bf2 (by decide) ?_); conv => whnf)
      exact z_Qi r c10 rfl
    · refine hK _ _ _ _ _ _ _ _ _ _ (z_WP_ts 200 rfl (by decide) ?_)
      refine z_WP_gos [] 1000 fun K C hK hC => ?_
      conv => whnf
      repeat ((first | refine And.intro (by (conv => arg 2; whnf); (try simp only [z_lit, nI_add, pk_mul, z_pr1, z_pr2]); exact z_in (by omega) (by decide)) ?_ | refine z_bt1 (by decide) ?_ | refine z_bf1 (by decide) ?_ | refine z_bt2 (by decide) ?_ | refine z_bf2 (by decide) ?_); conv => whnf)
      exact z_Qi r r11 rfl
    · refine hK _ _ _ _ _ _ _ _ _ _ (z_WP_ts 208 rfl (by decide) ?_)
      refine z_WP_gos [] 1000 fun K C hK hC => ?_
      conv => whnf
      repeat ((first | refine And.intro (by (conv => arg 2; whnf); (try simp only [z_lit, nI_add, pk_mul, z_pr1, z_pr2]); exact z_in (by omega) (by decide)) ?_ | refine z_bt1 (by decide) ?_ | refine z_bf1 (by decide) ?_ | refine z_bt2 (by decide) ?_ | refine z_bf2 (by decide) ?_); conv => whnf)
      exact z_Qi r s1 rfl
  · refine hK _ _ _ _ _ _ _ _ _ _ (z_WP_ts 219 rfl (z_swt_no _ fun p hp => ?_) ?_)
    · simp only [List.mem_cons, List.not_mem_nil, or_false] at hp
      rcases hp with rfl | rfl | rfl | rfl | rfl | rfl | rfl | rfl | rfl | rfl | rfl | rfl | rfl | rfl | rfl | rfl <;> first
        | exact hno 0 (by omega) (by omega)
        | exact hno 1 (by omega) (by omega)
        | exact hno 2 (by omega) (by omega)
        | exact hno 3 (by omega) (by omega)
        | exact hno 4 (by omega) (by omega)
        | exact hno 5 (by omega) (by omega)
        | exact hno 6 (by omega) (by omega)
        | exact hno 7 (by omega) (by omega)
        | exact hno 8 (by omega) (by omega)
        | exact hno 9 (by omega) (by omega)
        | exact hno 10 (by omega) (by omega)
        | exact hno 11 (by omega) (by omega)
        | exact hno 12 (by omega) (by omega)
        | exact hno 13 (by omega) (by omega)
        | exact hno 14 (by omega) (by omega)
        | exact hno 15 (by omega) (by omega)
    · refine z_WP_gos [] 1000 fun K C hK hC => ?_
      conv => whnf
      exact h0 fun q' a e => hno q' (by omega) a e
end
