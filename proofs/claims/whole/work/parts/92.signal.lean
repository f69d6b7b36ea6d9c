/-! signals told, in both -/
def sgr (v : Int32) : Prop := -nI 999999 ≤ v ∧ v ≤ nI 999999
def sgv (t u a b : Int32) (t' u' : Nat) : Prop := t = nI t' ∧ u = nI (u' + 1) ∧ t' < 8 ∧ u' < 6 ∧ sgr a ∧ sgr b
def m_sgl (s : z_sg) (c : Nat) (a b : Int32) : z_sg := m_w (m_w (m_w s (1392 + c) (nI 1)) (1440 + c) a) (1488 + c) b
theorem sgr_ok {v : Int32} (h : sgr v) : g_ok v := by
  obtain ⟨h1, h2⟩ := h
  have a := Int32.le_iff_toInt_le.mp h1
  have b := Int32.le_iff_toInt_le.mp h2
  have e1 : (-nI 999999).toInt = -999999 := by decide
  have e2 : (nI 999999).toInt = 999999 := by decide
  rw [e1] at a
  rw [e2] at b
  unfold g_ok
  omega
section
variable {L : Nat} {xs : Nat → Int32} {d : Nat} {kp sp wd : Value} {I : z_I} {s : z_sg} {R : z_R} {J : z_J} {F : z_F} {cn : Nat} {Q : z_Q} {n k : Nat}
theorem isIn_1 {v : Int32} {b : Nat} (hb : b < 2 ^ 31) (h : nI 1 ≤ v) (g : v ≤ nI b) : ∃ j : Nat, j + 1 ≤ b ∧ v = nI (j + 1) := by
  obtain ⟨j, hj, e⟩ := isIn_nat hb (Int32.le_trans (by decide) h) g
  subst e
  have : 1 ≤ j := by
    apply Nat.le_of_not_lt; intro z
    exact nI_ge (a := j) (b := 1) z (by decide) h
  exact ⟨j - 1, by omega, by rw [Nat.sub_add_cancel this]⟩
theorem sp_signal {t u a b : Int32} (h1 : ∀ t' u', sgv t u a b t' u' → Q (some (.int 1)) (z_ms I (m_sgl s (6 * t' + u') a b)) (z_R0 kp sp wd) J F cn) (h0 : (∀ t' u', ¬ sgv t u a b t' u') → Q (some (.int 0)) (z_ms I s) (z_R0 kp sp wd) J F cn) :
    z_M (z_X0 L xs) z_P0 (d + 2) m_Mod_signal [.ref 40, .int t, .int u, .int a, .int b] (z_ms I s) (z_R0 kp sp wd) J F cn Q := by
  obtain ⟨ff, w, y⟩ := s
  unfold m_sgl m_w at h1
  simp only at h1
  have bad : ((∀ t' u', ¬ sgv t u a b t' u')) → ((0 : Int32) = 0 ∨ (0 : Int32) = 1) ∧ Q (some (.int 0)) (z_ms I (ff, w, y)) (z_R0 kp sp wd) J F cn := fun h => ⟨Or.inl rfl, h0 h⟩
  refine z_WP_gos [] 1000 fun K C hK hC => ?_
  conv => whnf
  refine hC _ _ _ _ _ _ _ _ _ _ (fun _ _ _ _ _ _ q => q) (sp_Mod_isTerminal (fun t' ht et => ?_) (fun ht => ?_))
  conv => whnf
  · subst et
    repeat ((first | refine And.intro (by (conv => arg 2; whnf); (try simp only [z_lit, nI_add, pk_mul, z_pr1, z_pr2]); exact z_in (by omega) (by decide)) ?_ | refine z_bt1 (by decide) ?_ | refine z_bf1 (by decide) ?_ | refine z_bt2 (by decide) ?_ | refine z_bf2 (by decide) ?_); conv => whnf)
    refine hC _ _ _ _ _ _ _ _ _ _ (fun _ _ _ _ _ _ q => q) (sp_Mod_isIn (fun x1 x2 => ?_) (fun x => ?_))
    conv => whnf
    · obtain ⟨u', hu, eu⟩ := isIn_1 (b := 6) (by decide) x1 x2
      subst eu
      repeat ((first | refine And.intro (by (conv => arg 2; whnf); (try simp only [z_lit, nI_add, pk_mul, z_pr1, z_pr2]); exact z_in (by omega) (by decide)) ?_ | refine z_bt1 (by decide) ?_ | refine z_bf1 (by decide) ?_ | refine z_bt2 (by decide) ?_ | refine z_bf2 (by decide) ?_); conv => whnf)
      refine hC _ _ _ _ _ _ _ _ _ _ (fun _ _ _ _ _ _ q => q) (sp_Mod_isIn (fun y1 y2 => ?_) (fun y => ?_))
      conv => whnf
      · repeat ((first | refine And.intro (by (conv => arg 2; whnf); (try simp only [z_lit, nI_add, pk_mul, z_pr1, z_pr2]); exact z_in (by omega) (by decide)) ?_ | refine z_bt1 (by decide) ?_ | refine z_bf1 (by decide) ?_ | refine z_bt2 (by decide) ?_ | refine z_bf2 (by decide) ?_); conv => whnf)
        refine hC _ _ _ _ _ _ _ _ _ _ (fun _ _ _ _ _ _ q => q) (sp_Mod_isIn (fun z1 z2 => ?_) (fun z => ?_))
        conv => whnf
        · have q := h1 t' u' ⟨rfl, rfl, ht, by omega, ⟨y1, y2⟩, ⟨z1, z2⟩⟩
          repeat ((first | refine And.intro (by (conv => arg 2; whnf); (try simp only [z_lit, nI_add, pk_mul, z_pr1, z_pr2]); exact z_in (by omega) (by decide)) ?_ | refine z_bt1 (by decide) ?_ | refine z_bf1 (by decide) ?_ | refine z_bt2 (by decide) ?_ | refine z_bf2 (by decide) ?_); conv => whnf)
          refine hC _ _ _ _ _ _ _ _ _ _ (fun _ _ _ _ _ _ q => q) (sp_at0 ?_)
          conv => whnf
          repeat ((first | refine And.intro (by (conv => arg 2; whnf); (try simp only [z_lit, nI_add, pk_mul, z_pr1, z_pr2]); exact z_in (by omega) (by decide)) ?_ | refine z_bt1 (by decide) ?_ | refine z_bf1 (by decide) ?_ | refine z_bt2 (by decide) ?_ | refine z_bf2 (by decide) ?_); conv => whnf)
          refine hC _ _ _ _ _ _ _ _ _ _ (fun _ _ _ _ _ _ q => q) (sp_at0 ?_)
          conv => whnf
          repeat ((first | refine And.intro (by (conv => arg 2; whnf); (try simp only [z_lit, nI_add, pk_mul, z_pr1, z_pr2]); exact z_in (by omega) (by decide)) ?_ | refine z_bt1 (by decide) ?_ | refine z_bf1 (by decide) ?_ | refine z_bt2 (by decide) ?_ | refine z_bf2 (by decide) ?_); conv => whnf)
          refine hC _ _ _ _ _ _ _ _ _ _ (fun _ _ _ _ _ _ q => q) (sp_at0 ?_)
          conv => whnf
          repeat ((first | refine And.intro (by (conv => arg 2; whnf); (try simp only [z_lit, nI_add, pk_mul, z_pr1, z_pr2]); exact z_in (by omega) (by decide)) ?_ | refine z_bt1 (by decide) ?_ | refine z_bf1 (by decide) ?_ | refine z_bt2 (by decide) ?_ | refine z_bf2 (by decide) ?_); conv => whnf)
          refine ⟨Or.inr rfl, ?_⟩
          simp (disch := omega) only [z_lit, nI_add, pk_mul, z_pr1, z_pr2, nI_clamp, z_m3_40, z_m3_41, z_m3_44, z_m3_u40, z_m3_u41, z_m3_u44, z_m3_m3, pk_us, pk_un]
          exact q
        · repeat ((first | refine And.intro (by (conv => arg 2; whnf); (try simp only [z_lit, nI_add, pk_mul, z_pr1, z_pr2]); exact z_in (by omega) (by decide)) ?_ | refine z_bt1 (by decide) ?_ | refine z_bf1 (by decide) ?_ | refine z_bt2 (by decide) ?_ | refine z_bf2 (by decide) ?_); conv => whnf)
          exact bad fun x y h => z h.2.2.2.2.2
      · repeat ((first | refine And.intro (by (conv => arg 2; whnf); (try simp only [z_lit, nI_add, pk_mul, z_pr1, z_pr2]); exact z_in (by omega) (by decide)) ?_ | refine z_bt1 (by decide) ?_ | refine z_bf1 (by decide) ?_ | refine z_bt2 (by decide) ?_ | refine z_bf2 (by decide) ?_); conv => whnf)
        exact bad fun x z h => y h.2.2.2.2.1
    · repeat ((first | refine And.intro (by (conv => arg 2; whnf); (try simp only [z_lit, nI_add, pk_mul, z_pr1, z_pr2]); exact z_in (by omega) (by decide)) ?_ | refine z_bt1 (by decide) ?_ | refine z_bf1 (by decide) ?_ | refine z_bt2 (by decide) ?_ | refine z_bf2 (by decide) ?_); conv => whnf)
      refine bad fun x' y h => x ?_
      rw [h.2.1]
      have := h.2.2.2.1
      exact ⟨nI_le (a := 1) (by omega) (by omega), nI_le (b := 6) (by omega) (by decide)⟩
  · repeat ((first | refine And.intro (by (conv => arg 2; whnf); (try simp only [z_lit, nI_add, pk_mul, z_pr1, z_pr2]); exact z_in (by omega) (by decide)) ?_ | refine z_bt1 (by decide) ?_ | refine z_bf1 (by decide) ?_ | refine z_bt2 (by decide) ?_ | refine z_bf2 (by decide) ?_); conv => whnf)
    exact bad fun x y h => ht x h.2.2.1 h.1
theorem cb_isSub {v : Int32} (h1 : ∀ u : Nat, u < 6 → v = nI (u + 1) → Q (some (.int 1)) I R J F cn) (h0 : (∀ u : Nat, u < 6 → ¬ v = nI (u + 1)) → Q (some (.int 0)) I R J F cn) : z_M (z_X0 L xs) z_P0 d m_Bus_isSub [.int v] I R J F cn Q := by
  refine z_WP_gos [] 1000 fun K C hK hC => ?_
  conv => whnf
  refine ⟨fun g => ?_, fun g => ?_⟩
  · conv => whnf
    refine ⟨Or.inl rfl, h0 fun u hu e => absurd g (Int32.not_lt.mpr ?_)⟩
    rw [e]; exact nI_le (a := 1) (by omega) (by omega)
  conv => whnf
  refine ⟨fun g2 => ?_, fun g2 => ?_⟩
  · conv => whnf
    refine ⟨Or.inl rfl, h0 fun u hu e => absurd g2 (Int32.not_lt.mpr ?_)⟩
    rw [e]; exact nI_le (b := 6) (by omega) (by decide)
  · obtain ⟨u, hu, e⟩ := isIn_1 (b := 6) (by decide) (Int32.not_lt.mp g) (Int32.not_lt.mp g2)
    conv => whnf
    exact ⟨Or.inr rfl, h1 u (by omega) e⟩
theorem cb_isTh {v : Int32} (h1 : sgr v → Q (some (.int 1)) I R J F cn) (h0 : ¬ sgr v → Q (some (.int 0)) I R J F cn) : z_M (z_X0 L xs) z_P0 d m_Bus_isThousandths [.int v] I R J F cn Q := by
  refine z_WP_gos [] 1000 fun K C hK hC => ?_
  conv => whnf
  refine ⟨fun g => ?_, fun g => ?_⟩
  · conv => whnf
    exact ⟨Or.inl rfl, h0 fun e => absurd g (Int32.not_lt.mpr e.1)⟩
  conv => whnf
  refine ⟨fun g2 => ?_, fun g2 => ?_⟩
  · conv => whnf
    exact ⟨Or.inl rfl, h0 fun e => absurd g2 (Int32.not_lt.mpr e.2)⟩
  · conv => whnf
    exact ⟨Or.inr rfl, h1 ⟨Int32.not_lt.mp g, Int32.not_lt.mp g2⟩⟩
theorem cu_tellSignal {t u : Nat} {a b : Int32} (ht : t < 8) (hu : u < 6) (hQ : Q none (z_row (z_row (z_row I 5 (upd (I 5) (6 * t + u) a)) 6 (upd (I 6) (6 * t + u) b)) 7 (upd (I 7) (6 * t + u) (nI 1))) (z_R0 kp sp wd) J F cn) : z_M (z_X0 L xs) z_P0 (d + 1) m_Units_tellSignal [.ref 2, .int (nI t), .int (nI (u + 1)), .int a, .int b] I (z_R0 kp sp wd) J F cn Q := by
  refine z_WP_gos [] 1000 fun K C hK hC => ?_
  conv => whnf
  refine hC _ _ _ _ _ _ _ _ _ _ (fun _ _ _ _ _ _ q => q) (cu_cell ?_)
  conv => whnf
  repeat ((first | refine And.intro (by (conv => arg 2; whnf); (try simp only [z_lit, nI_add, pk_mul, z_pr1, z_pr2]); exact z_in (by omega) (by decide)) ?_ | refine z_bt1 (by decide) ?_ | refine z_bf1 (by decide) ?_ | refine z_bt2 (by decide) ?_ | refine z_bf2 (by decide) ?_); conv => whnf)
  simp (disch := omega) only [z_lit, nI_add, pk_mul, z_pr1, z_pr2, nI_clamp, z_up_row, z_row_s, z_row_n, z_row_row, pk_us, pk_un]
  exact hQ
end
