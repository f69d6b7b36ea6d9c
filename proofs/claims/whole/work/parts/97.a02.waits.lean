/-! what may be asked: who waits -/
def s_ld (w : Nat → Int32) (t : Nat) : Bool := !decide (nI t = w 3) && s_can w t
def s_lb (w : Nat → Int32) : Nat → Bool
  | 0 => false
  | t + 1 => s_lb w t || s_ld w t
theorem lb_mono {w : Nat → Int32} {j : Nat} (h : s_ld w j = true) : ∀ t, j < t → s_lb w t = true
  | 0, z => absurd z (Nat.not_lt_zero _)
  | t + 1, z => by
    unfold s_lb
    rcases Nat.lt_or_eq_of_le (Nat.le_of_lt_succ z) with y | y
    · rw [lb_mono h t y]; rfl
    · subst y; rw [h, Bool.or_true]
def s_wt (w : Nat → Int32) (t : Nat) : Int32 := bif s_ld w t && !s_lb w t then (if nI 1 ≤ nI (t + 2) - w 4 then nI (t + 2) - w 4 else nI 1) else -1
section
variable {L : Nat} {xs : Nat → Int32} {d : Nat} {kp sp wd : Value} {I : z_I} {s : z_sg} {R : z_R} {J : z_J} {F : z_F} {cn : Nat} {Q : z_Q} {n k : Nat}
theorem lp_waitc {t : Nat} {w : Nat → Int32} (ht : t < 9) (hu : uT (I 3) w) (ho : uW w) (h8 : I 1 8 = w 3) (h9 : I 1 9 = w 4) (hl : s_ld w t = true) (hQ : Q (some (.int (s_wt w t))) I (z_R0 kp sp wd) J F cn) :
    ∀ j i, i + j = t → s_lb w i = false → z_WP (z_X0 L xs) z_P0 (d + 3) m_Bus_waits 25 [some (.ref 0), some (.int (nI t)), some (.int (nI i))] [] I (z_R0 kp sp wd) J F cn 0 0 Q := by
  intro j
  induction j with
  | zero =>
    intro i hi hb
    obtain rfl : i = t := by omega
    unfold s_wt at hQ
    rw [hl, hb] at hQ
    refine z_WP_gos [25] 1000 fun K C hK hC => ?_
    conv => whnf
    refine ⟨fun _ => ?_, fun h => absurd (Int32.le_refl _) h⟩
    conv => whnf
    rw [h9]
    refine hC _ _ _ _ _ _ _ _ _ _ (fun _ _ _ _ _ _ q => q) (cm_max ?_)
    conv => whnf
    refine z_Qi hQ ?_ rfl
    simp only [z_lit, nI_add, Bool.not_false, Bool.and_true, cond_true]
    exact z_max1 _
  | succ j ih =>
    intro i hi hb
    refine z_WP_gos [25] 1000 fun K C hK hC => ?_
    conv => whnf
    refine ⟨fun h => absurd h (nI_ge (by omega) (by omega)), fun _ => ?_⟩
    conv => whnf
    refine hC _ _ _ _ _ _ _ _ _ _ (fun _ _ _ _ _ _ q => q) (cw_could (t := i) (by omega) hu ho h8 ?_)
    conv => whnf
    rw [show (!decide (nI i = w 3) && s_can w i) = s_ld w i from rfl]
    cases hd : s_ld w i
    · repeat ((first | refine And.intro (by (conv => arg 2; whnf); (try simp only [z_lit, nI_add, pk_mul, z_pr1, z_pr2]); exact z_in (by omega) (by decide)) ?_ | refine z_bt1 (by decide) ?_ | refine z_bf1 (by decide) ?_ | refine z_bt2 (by decide) ?_ | refine z_bf2 (by decide) ?_); conv => whnf)
      rw [show nI i + 1 = nI (i + 1) from nI_1 _]
      refine hK _ _ _ _ _ _ _ _ _ _ (ih (i + 1) (by omega) (by unfold s_lb; rw [hb, hd]; rfl))
    · repeat ((first | refine And.intro (by (conv => arg 2; whnf); (try simp only [z_lit, nI_add, pk_mul, z_pr1, z_pr2]); exact z_in (by omega) (by decide)) ?_ | refine z_bt1 (by decide) ?_ | refine z_bf1 (by decide) ?_ | refine z_bt2 (by decide) ?_ | refine z_bf2 (by decide) ?_); conv => whnf)
      refine z_Qi hQ ?_ rfl
      unfold s_wt
      rw [lb_mono hd t (by omega), Bool.not_true, Bool.and_false]
      rfl
theorem cb_waits {t : Int32} {w : Nat → Int32} (hu : uT (I 3) w) (ho : uW w) (h8 : I 1 8 = w 3) (h9 : I 1 9 = w 4) (h1 : ∀ t', t' ≤ 8 → t = nI t' → Q (some (.int (s_wt w t'))) I (z_R0 kp sp wd) J F cn) (h0 : (∀ t', t' ≤ 8 → ¬ t = nI t') → Q (some (.int (-1))) I (z_R0 kp sp wd) J F cn) :
    z_M (z_X0 L xs) z_P0 (d + 3) m_Bus_waits [.ref 0, .int t] I (z_R0 kp sp wd) J F cn Q := by
  refine z_WP_gos [25] 1000 fun K C hK hC => ?_
  conv => whnf
  refine ⟨fun g => ?_, fun g => ?_⟩
  · conv => whnf
    refine h0 fun a b h => absurd g (Int32.not_lt.mpr ?_)
    rw [h]; exact nI_pos' (by omega)
  conv => whnf
  refine ⟨fun g2 => ?_, fun g2 => ?_⟩
  · conv => whnf
    refine h0 fun a b h => absurd g2 (Int32.not_lt.mpr ?_)
    rw [h]; exact nI_le (b := 8) b (by decide)
  obtain ⟨t', ht, et⟩ := isIn_nat (b := 8) (by decide) (Int32.not_lt.mp g) (Int32.not_lt.mp g2)
  subst et
  have q := h1 t' ht rfl
  conv => whnf
  refine hC _ _ _ _ _ _ _ _ _ _ (fun _ _ _ _ _ _ q => q) (cw_could (t := t') (by omega) hu ho h8 ?_)
  conv => whnf
  rw [show (!decide (nI t' = w 3) && s_can w t') = s_ld w t' from rfl]
  cases hd : s_ld w t'
  · repeat ((first | refine And.intro (by (conv => arg 2; whnf); (try simp only [z_lit, nI_add, pk_mul, z_pr1, z_pr2]); exact z_in (by omega) (by decide)) ?_ | refine z_bt1 (by decide) ?_ | refine z_bf1 (by decide) ?_ | refine z_bt2 (by decide) ?_ | refine z_bf2 (by decide) ?_); conv => whnf)
    refine z_Qi q ?_ rfl
    unfold s_wt
    rw [hd]; rfl
  · repeat ((first | refine And.intro (by (conv => arg 2; whnf); (try simp only [z_lit, nI_add, pk_mul, z_pr1, z_pr2]); exact z_in (by omega) (by decide)) ?_ | refine z_bt1 (by decide) ?_ | refine z_bf1 (by decide) ?_ | refine z_bt2 (by decide) ?_ | refine z_bf2 (by decide) ?_); conv => whnf)
    refine hK _ _ _ _ _ _ _ _ _ _ (lp_waitc (by omega) hu ho h8 h9 hd q t' 0 (by omega) rfl)
theorem lp_waitm {t : Nat} (ht : t < 9) (hl : s_ld s.2.1 t = true) (hQ : Q (some (.int (s_wt s.2.1 t))) (z_ms I s) (z_R0 kp sp wd) J F cn) :
    ∀ j i, i + j = t → s_lb s.2.1 i = false → z_WP (z_X0 L xs) z_P0 (d + 3) m_Mod_waits 32 [some (.ref 40), some (.int (nI t)), some (.int (nI i))] [] (z_ms I s) (z_R0 kp sp wd) J F cn 0 0 Q := by
  intro j
  induction j with
  | zero =>
    intro i hi hb
    obtain rfl : i = t := by omega
    unfold s_wt at hQ
    rw [hl, hb] at hQ
    simp only [Bool.not_false, Bool.and_true, cond_true] at hQ
    refine z_WP_gos [32] 1000 fun K C hK hC => ?_
    conv => whnf
    refine ⟨fun _ => ?_, fun h => absurd (Int32.le_refl _) h⟩
    conv => whnf
    repeat ((first | refine And.intro (by (conv => arg 2; whnf); (try simp only [z_lit, nI_add, pk_mul, z_pr1, z_pr2]); exact z_in (by omega) (by decide)) ?_ | refine z_bt1 (by decide) ?_ | refine z_bf1 (by decide) ?_ | refine z_bt2 (by decide) ?_ | refine z_bf2 (by decide) ?_); conv => whnf)
    simp (disch := omega) only [z_lit, nI_add, pk_mul, z_pr1, z_pr2, nI_clamp, z_m3_40, z_m3_41, z_m3_44, z_m3_u40, z_m3_u41, z_m3_u44, z_m3_m3, pk_us, pk_un]
    refine ⟨fun g => ?_, fun g => ?_⟩
    · rw [if_pos g] at hQ
      conv => whnf
      exact hQ
    · rw [if_neg g] at hQ
      conv => whnf
      exact hQ
  | succ j ih =>
    intro i hi hb
    have ih' := ih (i + 1) (by omega)
    refine z_WP_gos [32] 1000 fun K C hK hC => ?_
    conv => whnf
    refine ⟨fun h => absurd h (nI_ge (by omega) (by omega)), fun _ => ?_⟩
    conv => whnf
    repeat ((first | refine And.intro (by (conv => arg 2; whnf); (try simp only [z_lit, nI_add, pk_mul, z_pr1, z_pr2]); exact z_in (by omega) (by decide)) ?_ | refine z_bt1 (by decide) ?_ | refine z_bf1 (by decide) ?_ | refine z_bt2 (by decide) ?_ | refine z_bf2 (by decide) ?_); conv => whnf)
    simp (disch := omega) only [z_lit, nI_add, pk_mul, z_pr1, z_pr2, nI_clamp, z_m3_40, z_m3_41, z_m3_44, z_m3_u40, z_m3_u41, z_m3_u44, z_m3_m3, pk_us, pk_un]
    refine ⟨fun g => ?_, fun g => ?_⟩
    · have hd : s_ld s.2.1 i = false := by unfold s_ld; rw [decide_eq_true g]; rfl
      conv => whnf
      simp only [z_lit, nI_add]
      refine hK _ _ _ _ _ _ _ _ _ _ (ih' (by unfold s_lb; rw [hb, hd]; rfl))
    · have hd : s_ld s.2.1 i = s_can s.2.1 i := by unfold s_ld; rw [decide_eq_false g]; rfl
      conv => whnf
      refine hC _ _ _ _ _ _ _ _ _ _ (fun _ _ _ _ _ _ q => q) (sp_canControl (s := s) (t := i) (by omega) ?_)
      conv => whnf
      cases hc : s_can s.2.1 i <;> rw [hc] at hd
      · repeat ((first | refine And.intro (by (conv => arg 2; whnf); (try simp only [z_lit, nI_add, pk_mul, z_pr1, z_pr2]); exact z_in (by omega) (by decide)) ?_ | refine z_bt1 (by decide) ?_ | refine z_bf1 (by decide) ?_ | refine z_bt2 (by decide) ?_ | refine z_bf2 (by decide) ?_); conv => whnf)
        simp only [z_lit, nI_add]
        refine hK _ _ _ _ _ _ _ _ _ _ (ih' (by unfold s_lb; rw [hb, hd]; rfl))
      · repeat ((first | refine And.intro (by (conv => arg 2; whnf); (try simp only [z_lit, nI_add, pk_mul, z_pr1, z_pr2]); exact z_in (by omega) (by decide)) ?_ | refine z_bt1 (by decide) ?_ | refine z_bf1 (by decide) ?_ | refine z_bt2 (by decide) ?_ | refine z_bf2 (by decide) ?_); conv => whnf)
        refine z_Qi hQ ?_ rfl
        unfold s_wt
        rw [lb_mono hd t (by omega), Bool.not_true, Bool.and_false]
        rfl
theorem sp_waits {t : Int32} (h1 : ∀ t', t' ≤ 8 → t = nI t' → Q (some (.int (s_wt s.2.1 t'))) (z_ms I s) (z_R0 kp sp wd) J F cn) (h0 : (∀ t', t' ≤ 8 → ¬ t = nI t') → Q (some (.int (-1))) (z_ms I s) (z_R0 kp sp wd) J F cn) :
    z_M (z_X0 L xs) z_P0 (d + 3) m_Mod_waits [.ref 40, .int t] (z_ms I s) (z_R0 kp sp wd) J F cn Q := by
  refine z_WP_gos [32] 1000 fun K C hK hC => ?_
  conv => whnf
  refine hC _ _ _ _ _ _ _ _ _ _ (fun _ _ _ _ _ _ q => q) (sp_Mod_isIn (fun x1 x2 => ?_) (fun x => ?_))
  conv => whnf
  · obtain ⟨t', ht, et⟩ := isIn_nat (b := 8) (by decide) x1 x2
    subst et
    have q := h1 t' ht rfl
    repeat ((first | refine And.intro (by (conv => arg 2; whnf); (try simp only [z_lit, nI_add, pk_mul, z_pr1, z_pr2]); exact z_in (by omega) (by decide)) ?_ | refine z_bt1 (by decide) ?_ | refine z_bf1 (by decide) ?_ | refine z_bt2 (by decide) ?_ | refine z_bf2 (by decide) ?_); conv => whnf)
    simp (disch := omega) only [z_lit, nI_add, pk_mul, z_pr1, z_pr2, nI_clamp, z_m3_40, z_m3_41, z_m3_44, z_m3_u40, z_m3_u41, z_m3_u44, z_m3_m3, pk_us, pk_un]
    refine ⟨fun g => ?_, fun g => ?_⟩
    · have hd : s_ld s.2.1 t' = false := by unfold s_ld; rw [decide_eq_true g]; rfl
      conv => whnf
      refine z_Qi q ?_ rfl
      unfold s_wt
      rw [hd]; rfl
    · have hd : s_ld s.2.1 t' = s_can s.2.1 t' := by unfold s_ld; rw [decide_eq_false g]; rfl
      conv => whnf
      refine hC _ _ _ _ _ _ _ _ _ _ (fun _ _ _ _ _ _ q => q) (sp_canControl (s := s) (t := t') (by omega) ?_)
      conv => whnf
      cases hc : s_can s.2.1 t' <;> rw [hc] at hd
      · repeat ((first | refine And.intro (by (conv => arg 2; whnf); (try simp only [z_lit, nI_add, pk_mul, z_pr1, z_pr2]); exact z_in (by omega) (by decide)) ?_ | refine z_bt1 (by decide) ?_ | refine z_bf1 (by decide) ?_ | refine z_bt2 (by decide) ?_ | refine z_bf2 (by decide) ?_); conv => whnf)
        refine z_Qi q ?_ rfl
        unfold s_wt
        rw [hd]; rfl
      · repeat ((first | refine And.intro (by (conv => arg 2; whnf); (try simp only [z_lit, nI_add, pk_mul, z_pr1, z_pr2]); exact z_in (by omega) (by decide)) ?_ | refine z_bt1 (by decide) ?_ | refine z_bf1 (by decide) ?_ | refine z_bt2 (by decide) ?_ | refine z_bf2 (by decide) ?_); conv => whnf)
        refine hK _ _ _ _ _ _ _ _ _ _ (lp_waitm (by omega) hd q t' 0 (by omega) rfl)
  · repeat ((first | refine And.intro (by (conv => arg 2; whnf); (try simp only [z_lit, nI_add, pk_mul, z_pr1, z_pr2]); exact z_in (by omega) (by decide)) ?_ | refine z_bt1 (by decide) ?_ | refine z_bf1 (by decide) ?_ | refine z_bt2 (by decide) ?_ | refine z_bf2 (by decide) ?_); conv => whnf)
    refine h0 fun a b h => x ?_
    rw [h]; exact ⟨nI_pos' (by omega), nI_le (b := 8) b (by decide)⟩
end
