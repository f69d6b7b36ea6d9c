/-! the model: noise -/
def cntn (w : Nat → Int32) (b k : Nat) : Nat := (((List.range k).map fun j => w (15 + 8 * b + j)).filter z_pos).length
theorem cntn_s {w : Nat → Int32} {b k : Nat} : cntn w b (k + 1) = cntn w b k + (if z_pos (w (15 + 8 * b + k)) = true then 1 else 0) := by
  unfold cntn
  rw [List.range_succ, List.map_append, List.filter_append, List.length_append]
  congr 1
  by_cases h : z_pos (w (15 + 8 * b + k)) = true
  · simp [h]
  · simp [h]
theorem cntn_le {w : Nat → Int32} {b : Nat} : ∀ k, cntn w b k ≤ k
  | 0 => Nat.le_refl _
  | k + 1 => by
    rw [cntn_s]
    have := cntn_le (w := w) (b := b) k
    split <;> omega
theorem nsl_len {w : Nat → Int32} {b : Nat} : (nsl w b).length = cntn w b 8 := rfl
/-- the first place that is free -/
def s_fr (w : Nat → Int32) (b : Nat) : Nat → Nat → Nat
  | 0, k => k
  | j + 1, k => bif z_pos (w (15 + 8 * b + k)) then s_fr w b j (k + 1) else k
theorem fr_spec {w : Nat → Int32} {b : Nat} : ∀ j k, k + j = 8 → cntn w b k = k → cntn w b 8 < 8 → s_fr w b j k < 8 ∧ z_pos (w (15 + 8 * b + s_fr w b j k)) = false
  | 0, k, hk, hc, hl => by
    obtain rfl : k = 8 := by omega
    omega
  | j + 1, k, hk, hc, hl => by
    unfold s_fr
    cases hz : z_pos (w (15 + 8 * b + k))
    · exact ⟨by simp only [cond_false]; omega, hz⟩
    · exact fr_spec j (k + 1) (by omega) (by rw [cntn_s, hc, if_pos hz]) hl
def m_noise (s : z_sg) (b : Nat) (n : Nat) : z_sg := m_w s (15 + 8 * b + s_fr s.2.1 b 8 0) (s.2.1 (13 + b) + nI n)
/-- what noise can be told -/
def nzv (b n : Int32) (b' n' : Nat) : Prop := b = nI b' ∧ n = nI n' ∧ b' < 2 ∧ 1 ≤ n' ∧ n' ≤ 999
section
variable {L : Nat} {xs : Nat → Int32} {d : Nat} {kp sp wd : Value} {I : z_I} {s : z_sg} {R : z_R} {J : z_J} {F : z_F} {cn : Nat} {Q : z_Q}
theorem lp_noisesOn {b : Nat} (hb : b < 2) (hQ : Q (some (.int (nI (cntn s.2.1 b 8)))) (z_ms I s) (z_R0 kp sp wd) J F cn) :
    ∀ j k, k + j = 8 → z_WP (z_X0 L xs) z_P0 d m_Mod_noisesOn 4 [some (.ref 40), some (.int (nI b)), some (.int (nI (cntn s.2.1 b k))), some (.int (nI k))] [] (z_ms I s) (z_R0 kp sp wd) J F cn 0 0 Q := by
  intro j
  induction j with
  | zero =>
    intro k hk
    obtain rfl : k = 8 := by omega
    refine z_WP_gos [4] 1000 fun K C hK hC => ?_
    conv => whnf
    refine ⟨fun _ => ?_, fun h => absurd (by decide) h⟩
    conv => whnf
    exact hQ
  | succ j ih =>
    intro k hk
    have ih' := ih (k + 1) (by omega)
    rw [cntn_s] at ih'
    refine z_WP_gos [4] 1000 fun K C hK hC => ?_
    conv => whnf
    refine ⟨fun h => absurd h (nI_ge (a := k) (b := 8) (by omega) (by decide)), fun _ => ?_⟩
    conv => whnf
    repeat ((first | refine And.intro (by (conv => arg 2; whnf); (try simp only [z_lit, nI_add, pk_mul, z_pr1, z_pr2]); exact z_in (by omega) (by decide)) ?_ | refine z_bt1 (by decide) ?_ | refine z_bf1 (by decide) ?_ | refine z_bt2 (by decide) ?_ | refine z_bf2 (by decide) ?_); conv => whnf)
    refine ⟨fun g => ?_, fun g => ?_⟩ <;> (try simp (disch := omega) only [z_lit, nI_add, pk_mul, z_pr1, z_pr2, nI_clamp, z_m3_40, z_m3_41, z_m3_44, z_m3_u40, z_m3_u41, z_m3_u44, z_m3_m3, pk_us, pk_un] at g) <;> (conv => whnf)
    · have : z_pos (s.2.1 (15 + 8 * b + k)) = false := decide_eq_false (Int32.not_lt.mpr g)
      rw [if_neg (by rw [this]; decide)] at ih'
      simp only [z_lit, nI_add]
      refine hK _ _ _ _ _ _ _ _ _ _ (ih')
    · have : z_pos (s.2.1 (15 + 8 * b + k)) = true := decide_eq_true (Int32.not_le.mp g)
      rw [if_pos this] at ih'
      simp only [z_lit, nI_add]
      refine hK _ _ _ _ _ _ _ _ _ _ (ih')
theorem sp_noisesOn {b : Nat} (hb : b < 2) (hQ : Q (some (.int (nI (cntn s.2.1 b 8)))) (z_ms I s) (z_R0 kp sp wd) J F cn) : z_M (z_X0 L xs) z_P0 d m_Mod_noisesOn [.ref 40, .int (nI b)] (z_ms I s) (z_R0 kp sp wd) J F cn Q := by
  refine z_WP_gos [4] 1000 fun K C hK hC => ?_
  conv => whnf
  refine hK _ _ _ _ _ _ _ _ _ _ (lp_noisesOn hb hQ 8 0 rfl)
theorem lp_free {b : Nat} {n : Int32} (hb : b < 2) (hl : cntn s.2.1 b 8 < 8) (hQ : z_WP (z_X0 L xs) z_P0 (d + 1) m_Mod_noise 55 [some (.ref 40), some (.int (nI b)), some (.int n), some (.int (nI (15 + 8 * b + s_fr s.2.1 b 8 0)))] [] (z_ms I s) (z_R0 kp sp wd) J F cn 0 0 Q) :
    ∀ j k, k + j = 8 → cntn s.2.1 b k = k → s_fr s.2.1 b 8 0 = s_fr s.2.1 b j k → z_WP (z_X0 L xs) z_P0 (d + 1) m_Mod_noise 40 [some (.ref 40), some (.int (nI b)), some (.int n), some (.int (nI (15 + 8 * b + k)))] [] (z_ms I s) (z_R0 kp sp wd) J F cn 0 0 Q := by
  intro j
  induction j with
  | zero =>
    intro k hk hc
    obtain rfl : k = 8 := by omega
    omega
  | succ j ih =>
    intro k hk hc he
    unfold s_fr at he
    refine z_WP_gos [40, 55] 1000 fun K C hK hC => ?_
    conv => whnf
    repeat ((first | refine And.intro (by (conv => arg 2; whnf); (try simp only [z_lit, nI_add, pk_mul, z_pr1, z_pr2]); exact z_in (by omega) (by decide)) ?_ | refine z_bt1 (by decide) ?_ | refine z_bf1 (by decide) ?_ | refine z_bt2 (by decide) ?_ | refine z_bf2 (by decide) ?_); conv => whnf)
    refine ⟨fun g => ?_, fun g => ?_⟩ <;> (try simp (disch := omega) only [z_lit, nI_add, pk_mul, z_pr1, z_pr2, nI_clamp, z_m3_40, z_m3_41, z_m3_44, z_m3_u40, z_m3_u41, z_m3_u44, z_m3_m3, pk_us, pk_un] at g) <;> (conv => whnf)
    · have hz : z_pos (s.2.1 (15 + 8 * b + k)) = false := decide_eq_false (Int32.not_lt.mpr g)
      rw [hz] at he
      simp only [cond_false] at he
      have he' : s_fr s.2.1 b 8 0 = k := he
      rw [he'] at hQ
      refine hK _ _ _ _ _ _ _ _ _ _ (hQ)
    · have hz : z_pos (s.2.1 (15 + 8 * b + k)) = true := decide_eq_true (Int32.not_le.mp g)
      rw [hz] at he
      simp only [cond_true] at he
      rw [show nI (15 + 8 * b + k) + 1 = nI (15 + 8 * b + (k + 1)) from nI_1 _]
      refine hK _ _ _ _ _ _ _ _ _ _ (ih (k + 1) (by omega) (by rw [cntn_s, hc, if_pos hz]) he)
theorem sp_noise {b n : Int32} (h1 : ∀ b' n', nzv b n b' n' → cntn s.2.1 b' 8 < 8 → Q (some (.int (nI (cntn (m_noise s b' n').2.1 b' 8)))) (z_ms I (m_noise s b' n')) (z_R0 kp sp wd) J F cn) (h0 : (∀ b' n', nzv b n b' n' → cntn s.2.1 b' 8 = 8) → Q (some (.int (-1))) (z_ms I s) (z_R0 kp sp wd) J F cn) :
    z_M (z_X0 L xs) z_P0 (d + 1) m_Mod_noise [.ref 40, .int b, .int n] (z_ms I s) (z_R0 kp sp wd) J F cn Q := by
  refine z_WP_gos [40, 55] 1000 fun K C hK hC => ?_
  conv => whnf
  refine hC _ _ _ _ _ _ _ _ _ _ (fun _ _ _ _ _ _ q => q) (sp_Mod_isIn (fun a c => ?_) (fun a => ?_))
  conv => whnf
  · obtain ⟨b', hb, eb⟩ := isIn_nat (b := 1) (by decide) a c
    subst eb
    repeat ((first | refine And.intro (by (conv => arg 2; whnf); (try simp only [z_lit, nI_add, pk_mul, z_pr1, z_pr2]); exact z_in (by omega) (by decide)) ?_ | refine z_bt1 (by decide) ?_ | refine z_bf1 (by decide) ?_ | refine z_bt2 (by decide) ?_ | refine z_bf2 (by decide) ?_); conv => whnf)
    refine hC _ _ _ _ _ _ _ _ _ _ (fun _ _ _ _ _ _ q => q) (sp_Mod_isIn (fun a2 c2 => ?_) (fun a2 => ?_))
    conv => whnf
    · obtain ⟨n', hn, en⟩ := isIn_nat (b := 999) (by decide) (Int32.le_trans (by decide) a2) c2
      subst en
      have hn1 : 1 ≤ n' := by
        apply Nat.le_of_not_lt; intro z
        exact nI_ge (a := n') (b := 1) z (by decide) a2
      repeat ((first | refine And.intro (by (conv => arg 2; whnf); (try simp only [z_lit, nI_add, pk_mul, z_pr1, z_pr2]); exact z_in (by omega) (by decide)) ?_ | refine z_bt1 (by decide) ?_ | refine z_bf1 (by decide) ?_ | refine z_bt2 (by decide) ?_ | refine z_bf2 (by decide) ?_); conv => whnf)
      refine hC _ _ _ _ _ _ _ _ _ _ (fun _ _ _ _ _ _ q => q) (sp_noisesOn (b := b') (by omega) ?_)
      conv => whnf
      have hle := cntn_le (w := s.2.1) (b := b') 8
      refine ⟨fun g => ?_, fun g => ?_⟩
      · have hl : cntn s.2.1 b' 8 < 8 := by
          rcases Nat.lt_or_eq_of_le hle with z | z
          · exact z
          · exact absurd (by rw [z]; rfl) g
        have fs := fr_spec (w := s.2.1) (b := b') 8 0 rfl rfl hl
        have fin : z_WP (z_X0 L xs) z_P0 (d + 1) m_Mod_noise 55 [some (.ref 40), some (.int (nI b')), some (.int (nI n')), some (.int (nI (15 + 8 * b' + s_fr s.2.1 b' 8 0)))] [] (z_ms I s) (z_R0 kp sp wd) J F cn 0 0 Q := by
          have q := h1 b' n' ⟨rfl, rfl, by omega, hn1, hn⟩ hl
          unfold m_noise m_w at q
          generalize s_fr s.2.1 b' 8 0 = p at *
          refine z_WP_gos [] 1000 fun K C hK hC => ?_
          conv => whnf
          repeat ((first | refine And.intro (by (conv => arg 2; whnf); (try simp only [z_lit, nI_add, pk_mul, z_pr1, z_pr2]); exact z_in (by omega) (by decide)) ?_ | refine z_bt1 (by decide) ?_ | refine z_bf1 (by decide) ?_ | refine z_bt2 (by decide) ?_ | refine z_bf2 (by decide) ?_); conv => whnf)
          simp (disch := omega) only [z_lit, nI_add, pk_mul, z_pr1, z_pr2, nI_clamp, z_m3_40, z_m3_41, z_m3_44, z_m3_u40, z_m3_u41, z_m3_u44, z_m3_m3, pk_us, pk_un]
          refine hC _ _ _ _ _ _ _ _ _ _ (fun _ _ _ _ _ _ q => q) (sp_noisesOn (s := (s.1, upd s.2.1 (15 + 8 * b' + p) (s.2.1 (13 + b') + nI n'), s.2.2)) (b := b') (by omega) ?_)
          conv => whnf
          exact q
        conv => whnf
        simp only [z_lit, nI_add, pk_mul]
        refine hK _ _ _ _ _ _ _ _ _ _ (lp_free (by omega) hl fin 8 0 rfl rfl rfl)
      · have hl : cntn s.2.1 b' 8 = 8 := nI_inj9 (by omega) (by omega) g
        conv => whnf
        refine h0 (fun x y z => ?_)
        have : b' = x := nI_inj9 (by omega) (by have := z.2.2.1; omega) z.1
        rw [← this]; exact hl
    · repeat ((first | refine And.intro (by (conv => arg 2; whnf); (try simp only [z_lit, nI_add, pk_mul, z_pr1, z_pr2]); exact z_in (by omega) (by decide)) ?_ | refine z_bt1 (by decide) ?_ | refine z_bf1 (by decide) ?_ | refine z_bt2 (by decide) ?_ | refine z_bf2 (by decide) ?_); conv => whnf)
      refine h0 (fun x y z => absurd ?_ a2)
      obtain ⟨z1, z2, z3, z4, z5⟩ := z
      rw [z2]
      exact ⟨nI_le (a := 1) z4 (by omega), nI_le (b := 999) z5 (by decide)⟩
  · repeat ((first | refine And.intro (by (conv => arg 2; whnf); (try simp only [z_lit, nI_add, pk_mul, z_pr1, z_pr2]); exact z_in (by omega) (by decide)) ?_ | refine z_bt1 (by decide) ?_ | refine z_bf1 (by decide) ?_ | refine z_bt2 (by decide) ?_ | refine z_bf2 (by decide) ?_); conv => whnf)
    refine h0 (fun x y z => absurd ?_ a)
    obtain ⟨z1, z2, z3, z4, z5⟩ := z
    rw [z1]
    exact ⟨nI_pos' (by omega), nI_le (b := 1) (by omega) (by decide)⟩
end
