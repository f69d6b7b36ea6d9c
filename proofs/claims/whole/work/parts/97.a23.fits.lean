/-! how full: in both -/
def bst (w : Nat → Int32) : Int32 := if 4 < (alf w (w 8).toNatClampNeg 0).length then -1 else nI (bsl (alf w (w 8).toNatClampNeg 0) w)
def q_fits (w : Nat → Int32) (q : Int32) : Int32 := if q = 0 then nI (grt w) else if q = 1 then bst w else if q = 2 then fov w 8 0 else if q = 3 then w 0 - nI (grt w) else -100000
theorem alf_any {w : Nat → Int32} : ∀ {j k}, (alf w j k).length ≤ j
  | 0, _ => Nat.le_refl _
  | j + 1, k => by
    have := alf_any (w := w) (j := j) (k := k + 1)
    rw [alf_s]
    split
    · omega
    · rw [List.length_cons]; omega
section
variable {L : Nat} {xs : Nat → Int32} {d : Nat} {kp sp wd : Value} {I : z_I} {s : z_sg} {R : z_R} {J : z_J} {F : z_F} {cn : Nat} {Q : z_Q} {n k : Nat}
theorem sp_fits {q : Int32} (ht : tb_ok s.2.1) (hQ : ∀ I' : z_I, (∀ b, b ≠ 48 → I' b = I b) → Q (some (.int (q_fits s.2.1 q))) (z_ms I' s) (z_R0 kp sp wd) J F cn) :
    z_M (z_X0 L xs) z_P0 (d + 10) m_Mod_fits [.ref 40, .int q] (z_ms I s) (z_R0 kp sp wd) J F cn Q := by
  unfold q_fits at hQ
  have h := hQ I (fun _ _ => rfl)
  refine z_WP_gos [1] 1000 fun K C hK hC => ?_
  conv => whnf
  by_cases q0 : q = 0
  · subst q0
    rw [if_pos rfl] at h
    refine hK _ _ _ _ _ _ _ _ _ _ (z_WP_ts 32 rfl (by decide) ?_)
    refine z_WP_gos [] 1000 fun K C hK hC => ?_
    conv => whnf
    refine hC _ _ _ _ _ _ _ _ _ _ (fun _ _ _ _ _ _ q => q) (sp_greatest ht ?_)
    conv => whnf
    exact h
  rw [if_neg q0] at h hQ
  by_cases q1 : q = 1
  · subst q1
    rw [if_pos rfl] at hQ
    refine hK _ _ _ _ _ _ _ _ _ _ (z_WP_ts 37 rfl (by decide) ?_)
    refine z_WP_gos [] 1000 fun K C hK hC => ?_
    conv => whnf
    refine hC _ _ _ _ _ _ _ _ _ _ (fun _ _ _ _ _ _ q => q) (sp_best ht (fun I' hI => ?_))
    conv => whnf
    exact hQ I' hI
  rw [if_neg q1] at h
  by_cases q2 : q = 2
  · subst q2
    rw [if_pos rfl] at h
    refine hK _ _ _ _ _ _ _ _ _ _ (z_WP_ts 42 rfl (by decide) ?_)
    refine z_WP_gos [] 1000 fun K C hK hC => ?_
    conv => whnf
    refine hC _ _ _ _ _ _ _ _ _ _ (fun _ _ _ _ _ _ q => q) (sp_firstOver ht ?_)
    conv => whnf
    exact h
  rw [if_neg q2] at h
  by_cases q3 : q = 3
  · subst q3
    rw [if_pos rfl] at h
    refine hK _ _ _ _ _ _ _ _ _ _ (z_WP_ts 47 rfl (by decide) ?_)
    refine z_WP_gos [] 1000 fun K C hK hC => ?_
    conv => whnf
    repeat ((first | refine And.intro (by (conv => arg 2; whnf); (try simp only [z_lit, nI_add, pk_mul, z_pr1, z_pr2]); exact z_in (by omega) (by decide)) ?_ | refine z_bt1 (by decide) ?_ | refine z_bf1 (by decide) ?_ | refine z_bt2 (by decide) ?_ | refine z_bf2 (by decide) ?_); conv => whnf)
    refine hC _ _ _ _ _ _ _ _ _ _ (fun _ _ _ _ _ _ q => q) (sp_greatest ht ?_)
    conv => whnf
    exact h
  rw [if_neg q3] at h
  refine hK _ _ _ _ _ _ _ _ _ _ (z_WP_ts 59 rfl (z_swt_no _ fun p hp => ?_) ?_)
  · simp only [List.mem_cons, List.not_mem_nil, or_false] at hp
    rcases hp with rfl | rfl | rfl | rfl
    · exact q0
    · exact q1
    · exact q2
    · exact q3
  · refine z_WP_gos [] 1000 fun K C hK hC => ?_
    conv => whnf
    exact h
theorem lp_leastPeak {w : Nat → Int32} (hp : pS I w) (ht : tb_ok w) (hl : hL I)
    (hQ : ∀ I', fr [18, 24] I I' → (∀ j, j ≠ 7 → I' 18 j = I 18 j) → Q (some (.int (bst w))) I' (z_R0 kp sp wd) J F cn) :
    ∀ j k pre, k + j = (w 8).toNatClampNeg → pre ≤ k → (alf w (w 8).toNatClampNeg 0).length = pre + (alf w j k).length → z_WP (z_X0 L xs) z_P0 (d + 7) m_Plan_leastPeak 4 [some (.ref 18), some (.int (nI pre)), some (.int (nI k))] [] I (z_R0 kp sp wd) J F cn 0 0 Q := by
  have h24 := ht.2.1
  have p5 := hp.1
  rw [ht.1] at p5
  unfold bst at hQ
  intro j
  induction j with
  | zero =>
    intro k pre hk hpk he
    have he' : (alf w (w 8).toNatClampNeg 0).length = pre := he
    refine z_WP_gos [4] 1000 fun K C hK hC => ?_
    conv => whnf
    simp (disch := omega) only [z_lit, nI_add, pk_mul, z_pr1, z_pr2, nI_clamp, z_up_row, z_row_s, z_row_n, z_row_row, pk_us, pk_un]
    rw [p5]
    refine ⟨fun _ => ?_, fun h => absurd (nI_le (a := (w 8).toNatClampNeg) (b := k) (by omega) (by omega)) h⟩
    conv => whnf
    refine ⟨fun g => ?_, fun g => ?_⟩
    · have g' : pre ≤ 4 := (nI_leI (b := 4) (by omega) (by omega)).mp g
      rw [if_neg (by omega)] at hQ
      have hbk := bsl_ckl (w 8).toNatClampNeg 0 w ht (by omega)
      have hble := bsl_le ht (alf w (w 8).toNatClampNeg 0) (fun i hi => by have := alf_in hi; omega)
      have hgl := grt_le ht
      have hll : ∀ f, ldn w f 0 (w 8).toNatClampNeg ≤ 6240 := fun f => by
        have a := ldn_le (f := f) (M := 0) ht.2.2
        omega
      conv => whnf
      refine hC _ _ _ _ _ _ _ _ _ _ (fun _ _ _ _ _ _ q => q) (cp_greatestLoad hl hp ht ?_)
      conv => whnf
      simp (disch := omega) only [z_lit, nI_add, pk_mul, z_pr1, z_pr2, nI_clamp, z_up_row, z_row_s, z_row_n, z_row_row, pk_us, pk_un]
      have hp1 : pS (z_row I 18 (upd (I 18) 7 (nI (grt w)))) w := pS_c hp (by rw [z_row_s, pk_un (by decide)]) (z_row_n _ _ (by decide)) rfl h24 (fun _ _ _ _ => rfl)
      refine hC _ _ _ _ _ _ _ _ _ _ (fun _ _ _ _ _ _ q => q) (cp_fixed24 hp1 ht (fun r hr => ?_))
      conv => whnf
      have hp2 : pS (z_row (z_row I 18 (upd (I 18) 7 (nI (grt w)))) 24 r) w := pS_c hp1 (by rw [z_row_n _ _ (by decide)]) (z_row_n _ _ (by decide)) rfl h24 (fun _ _ _ _ => rfl)
      obtain ⟨e, he4⟩ : ∃ e, d + 6 = e + pre + 2 := ⟨d + 4 - pre, by omega⟩
      refine hC _ _ _ _ _ _ _ _ _ _ (fun _ _ _ _ _ _ q => q) ?_
      show z_M (z_X0 L xs) z_P0 (d + 6) m_Plan_seek [.ref 18, .int (nI 0), .int (nI 0)] (z_row (z_row I 18 (upd (I 18) 7 (nI (grt w)))) 24 r) (z_R0 kp sp wd) J F cn _
      rw [he4, ← he']
      refine cp_seek ht (alf w (w 8).toNatClampNeg 0) 0 (w 8).toNatClampNeg 0 _ (fun f => ldn w f 0 (w 8).toNatClampNeg) (grt w) e _ hp2 (by omega) rfl (by omega) (fun f hf => ⟨?_, ?_⟩) ?_ (by omega) (fun I2 f2 g18 g7 g24 => ?_)
      · rw [z_row_s]; exact hr f hf
      · have := hll f; omega
      · rw [z_row_n _ _ (by decide), z_row_s, pk_us]
      conv => whnf
      rw [← hbk, Nat.min_eq_right hble] at g7
      rw [g7]
      refine hQ I2 (fun b hb => ?_) (fun j hj => ?_)
      · rw [f2 b hb]
        simp only [List.mem_cons, List.not_mem_nil, or_false, not_or] at hb
        rw [z_row_n _ _ hb.2, z_row_n _ _ hb.1]
      · rw [g18 j hj, z_row_n _ _ (by decide), z_row_s, pk_un hj]
    · have g' : 4 < pre := by
        rcases Nat.lt_or_ge 4 pre with y | y
        · exact y
        · exact absurd (nI_le (b := 4) y (by omega)) g
      rw [if_pos (by omega)] at hQ
      conv => whnf
      exact hQ I fr_r (fun _ _ => rfl)
  | succ j ih =>
    intro k pre hk hpk he
    have ho := ht.2.2 k (by omega)
    have h9 := ho.2.2.2.2.2.2.2.2.2.2.2.2.2.2.1
    obtain ⟨-, -, -, -, -, -, -, -, b8, -⟩ := hp.2 k (by omega)
    rw [alf_s] at he
    refine z_WP_gos [4] 1000 fun K C hK hC => ?_
    conv => whnf
    simp (disch := omega) only [z_lit, nI_add, pk_mul, z_pr1, z_pr2, nI_clamp, z_up_row, z_row_s, z_row_n, z_row_row, pk_us, pk_un]
    rw [p5]
    refine ⟨fun h => absurd h (nI_ge (by omega) (by omega)), fun _ => ?_⟩
    conv => whnf
    refine hC _ _ _ _ _ _ _ _ _ _ (fun _ _ _ _ _ _ q => q) (cp_told (f := 8) (by omega) (by omega) b8 ?_)
    conv => whnf
    simp (disch := omega) only [z_lit, nI_add, pk_mul, z_pr1, z_pr2, nI_clamp, z_up_row, z_row_s, z_row_n, z_row_row, pk_us, pk_un]
    by_cases g9 : lnn w k 9 = 0
    · rw [if_pos g9] at he
      rw [g9]
      refine hK _ _ _ _ _ _ _ _ _ _ (ih (k + 1) pre (by omega) (by omega) he)
    · rw [if_neg g9, List.length_cons] at he
      rw [show lnn w k 9 = 1 by omega]
      refine hK _ _ _ _ _ _ _ _ _ _ (ih (k + 1) (pre + 1) (by omega) (by omega) (by omega))
theorem cp_leastPeak {w : Nat → Int32} (hp : pS I w) (ht : tb_ok w) (hl : hL I) (hQ : ∀ I', fr [18, 24] I I' → (∀ j, j ≠ 7 → I' 18 j = I 18 j) → Q (some (.int (bst w))) I' (z_R0 kp sp wd) J F cn) :
    z_M (z_X0 L xs) z_P0 (d + 7) m_Plan_leastPeak [.ref 18] I (z_R0 kp sp wd) J F cn Q := by
  refine z_WP_gos [4] 1000 fun K C hK hC => ?_
  conv => whnf
  refine hK _ _ _ _ _ _ _ _ _ _ (lp_leastPeak hp ht hl hQ (w 8).toNatClampNeg 0 0 (by omega) (Nat.le_refl _) (by omega))
theorem cb_fits {w : Nat → Int32} {q : Int32} (hp : pS I w) (ht : tb_ok w) (hl : hL I) (h5 : I 1 5 = w 0) (hQ : ∀ I', fr [18, 24] I I' → (∀ j, j ≠ 7 → I' 18 j = I 18 j) → Q (some (.int (q_fits w q))) I' (z_R0 kp sp wd) J F cn) :
    z_M (z_X0 L xs) z_P0 (d + 8) m_Bus_fits [.ref 0, .int q] I (z_R0 kp sp wd) J F cn Q := by
  unfold q_fits at hQ
  have h := hQ I fr_r (fun _ _ => rfl)
  refine z_WP_gos [9] 1000 fun K C hK hC => ?_
  conv => whnf
  by_cases q0 : q = 0
  · subst q0
    rw [if_pos rfl] at h
    refine hK _ _ _ _ _ _ _ _ _ _ (z_WP_ts 40 rfl (by decide) ?_)
    refine z_WP_gos [] 1000 fun K C hK hC => ?_
    conv => whnf
    refine hC _ _ _ _ _ _ _ _ _ _ (fun _ _ _ _ _ _ q => q) (cp_greatestLoad hl hp ht ?_)
    conv => whnf
    exact h
  rw [if_neg q0] at h hQ
  by_cases q1 : q = 1
  · subst q1
    rw [if_pos rfl] at hQ
    refine hK _ _ _ _ _ _ _ _ _ _ (z_WP_ts 45 rfl (by decide) ?_)
    refine z_WP_gos [] 1000 fun K C hK hC => ?_
    conv => whnf
    refine hC _ _ _ _ _ _ _ _ _ _ (fun _ _ _ _ _ _ q => q) (cp_leastPeak hp ht hl (fun I' a b => ?_))
    conv => whnf
    exact hQ I' a b
  rw [if_neg q1] at h
  by_cases q2 : q = 2
  · subst q2
    rw [if_pos rfl] at h
    refine hK _ _ _ _ _ _ _ _ _ _ (z_WP_ts 50 rfl (by decide) ?_)
    refine z_WP_gos [] 1000 fun K C hK hC => ?_
    conv => whnf
    simp (disch := omega) only [z_lit, nI_add, pk_mul, z_pr1, z_pr2, nI_clamp, z_up_row, z_row_s, z_row_n, z_row_row, pk_us, pk_un]
    rw [h5]
    refine hC _ _ _ _ _ _ _ _ _ _ (fun _ _ _ _ _ _ q => q) (cp_firstAbove hl hp ht ?_)
    conv => whnf
    exact h
  rw [if_neg q2] at h
  by_cases q3 : q = 3
  · subst q3
    rw [if_pos rfl] at h
    refine hK _ _ _ _ _ _ _ _ _ _ (z_WP_ts 62 rfl (by decide) ?_)
    refine z_WP_gos [] 1000 fun K C hK hC => ?_
    conv => whnf
    simp (disch := omega) only [z_lit, nI_add, pk_mul, z_pr1, z_pr2, nI_clamp, z_up_row, z_row_s, z_row_n, z_row_row, pk_us, pk_un]
    rw [h5]
    refine hC _ _ _ _ _ _ _ _ _ _ (fun _ _ _ _ _ _ q => q) (cp_greatestLoad hl hp ht ?_)
    conv => whnf
    exact h
  rw [if_neg q3] at h
  refine hK _ _ _ _ _ _ _ _ _ _ (z_WP_ts 75 rfl (z_swt_no _ fun p hp => ?_) ?_)
  · simp only [List.mem_cons, List.not_mem_nil, or_false] at hp
    rcases hp with rfl | rfl | rfl | rfl
    · exact q0
    · exact q1
    · exact q2
    · exact q3
  · refine z_WP_gos [] 1000 fun K C hK hC => ?_
    conv => whnf
    exact h
end
