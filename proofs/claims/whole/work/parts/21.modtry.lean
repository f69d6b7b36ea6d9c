/-! the model's small methods -/
section
variable {L : Nat} {xs : Nat → Int32} {d : Nat} {kp sp wd : Value} {I : z_I} {f w y : Nat → Int32} {R : z_R} {J : z_J} {F : z_F} {cn : Nat} {Q : z_Q}
theorem sp_Mod_isIn {v a b : Int32} (h1 : a ≤ v → v ≤ b → Q (some (.int 1)) I R J F cn) (h0 : ¬ (a ≤ v ∧ v ≤ b) → Q (some (.int 0)) I R J F cn) : z_M (z_X0 L xs) z_P0 d m_Mod_isIn [.int v, .int a, .int b] I R J F cn Q := by
  refine z_WP_go 20 fun K C hK hC => ?_
  conv => whnf
  refine ⟨fun h => ?_, fun h => ?_⟩
  · conv => whnf
    exact ⟨Or.inl rfl, h0 (fun z => absurd z.1 (Int32.not_le.mpr h))⟩
  · conv => whnf
    refine ⟨fun g => ?_, fun g => ?_⟩
    · conv => whnf
      exact ⟨Or.inl rfl, h0 (fun z => absurd z.2 (Int32.not_le.mpr g))⟩
    · conv => whnf
      exact ⟨Or.inr rfl, h1 (Int32.not_lt.mp h) (Int32.not_lt.mp g)⟩
theorem sp_Mod_isTerminal {v : Int32} (h1 : ∀ t : Nat, t < 8 → v = nI t → Q (some (.int 1)) I R J F cn) (h0 : (∀ t : Nat, t < 8 → ¬ v = nI t) → Q (some (.int 0)) I R J F cn) : z_M (z_X0 L xs) z_P0 (d + 1) m_Mod_isTerminal [.int v] I R J F cn Q := by
  refine z_WP_go 20 fun K C hK hC => ?_
  conv => whnf
  refine hC _ _ _ _ _ _ _ _ _ _ (fun _ _ _ _ _ _ q => q) (sp_Mod_isIn (fun a b => ?_) (fun a => ?_))
  conv => whnf
  · refine ⟨Or.inr rfl, ?_⟩
    obtain ⟨j, hj, rfl⟩ := nI_of2 (M := 7) (n := 7) rfl (Int32.not_lt.mpr a) b
    exact h1 j (by omega) rfl
  · conv => whnf
    refine ⟨Or.inl rfl, h0 (fun t ht e => ?_)⟩
    subst e
    exact a ⟨nI_pos' (by omega), nI_le (a := t) (b := 7) (by omega) (by decide)⟩
theorem sp_Mod_at0 {t sub : Int32} (hQ : Q (some (.int (6 * t + sub - 1))) I R J F cn) : z_M (z_X0 L xs) z_P0 d m_Mod_at0 [.int t, .int sub] I R J F cn Q := by
  refine z_WP_go 20 fun K C hK hC => ?_
  conv => whnf
  exact hQ
theorem sp_Mod_command {t k sub n : Int32} (hQ : Q (some (.int (t <<< (nI 11 &&& nI 31) ||| k <<< (nI 10 &&& nI 31) ||| sub <<< (nI 5 &&& nI 31) ||| n &&& nI 31))) I R J F cn) : z_M (z_X0 L xs) z_P0 d m_Mod_command [.int t, .int k, .int sub, .int n] I R J F cn Q := by
  refine z_WP_go 20 fun K C hK hC => ?_
  conv => whnf
  exact hQ
def s_status (f w : Nat → Int32) (t : Nat) : Int32 :=
  nI t <<< (nI 11 &&& nI 31) ||| w (176 + t) <<< (nI 10 &&& nI 31) ||| w (48 + t) <<< (nI 8 &&& nI 31) ||| w (184 + t) <<< (nI 4 &&& nI 31) ||| w (40 + t) <<< (nI 3 &&& nI 31) ||| w (56 + t) <<< (nI 2 &&& nI 31) ||| f 6 <<< (nI 1 &&& nI 31) ||| (if w (120 + t) = nI 1 then nI 0 else w (64 + t))
theorem sp_Mod_statusOf {t : Nat} (ht : t < 8) (hQ : Q (some (.int (s_status f w t))) (z_m3 I f w y) (z_R0 kp sp wd) J F cn) : z_M (z_X0 L xs) z_P0 d m_Mod_statusOf [.ref 40, .int (nI t)] (z_m3 I f w y) (z_R0 kp sp wd) J F cn Q := by
  refine z_WP_go 100 fun K C hK hC => ?_
  conv => whnf
  repeat ((first | refine And.intro (by (conv => arg 2; whnf); (try simp only [z_lit, nI_add, pk_mul, z_pr1, z_pr2]); exact z_in (by omega) (by decide)) ?_ | refine z_bt1 (by decide) ?_ | refine z_bf1 (by decide) ?_ | refine z_bt2 (by decide) ?_ | refine z_bf2 (by decide) ?_); conv => whnf)
  refine ⟨fun h => ?_, fun h => ?_⟩
  · conv => whnf
    repeat ((first | refine And.intro (by (conv => arg 2; whnf); (try simp only [z_lit, nI_add, pk_mul, z_pr1, z_pr2]); exact z_in (by omega) (by decide)) ?_ | refine z_bt1 (by decide) ?_ | refine z_bf1 (by decide) ?_ | refine z_bt2 (by decide) ?_ | refine z_bf2 (by decide) ?_); conv => whnf)
    refine z_Qi hQ ?_ rfl
    simp (disch := omega) only [z_lit, nI_add, pk_mul, z_pr1, z_pr2, nI_clamp, z_m3_40, z_m3_41, z_m3_44, z_m3_u40, z_m3_u41, z_m3_u44, z_m3_m3, pk_us, pk_un] at h ⊢
    simp only [s_status, h, if_false]
  · conv => whnf
    repeat ((first | refine And.intro (by (conv => arg 2; whnf); (try simp only [z_lit, nI_add, pk_mul, z_pr1, z_pr2]); exact z_in (by omega) (by decide)) ?_ | refine z_bt1 (by decide) ?_ | refine z_bf1 (by decide) ?_ | refine z_bt2 (by decide) ?_ | refine z_bf2 (by decide) ?_); conv => whnf)
    refine z_Qi hQ ?_ rfl
    simp (disch := omega) only [z_lit, nI_add, pk_mul, z_pr1, z_pr2, nI_clamp, z_m3_40, z_m3_41, z_m3_44, z_m3_u40, z_m3_u41, z_m3_u44, z_m3_m3, pk_us, pk_un] at h ⊢
    simp only [s_status, h, if_true]
theorem sp_Mod_tellsLast {t : Nat} (ht : t < 8) (hQ : Q none (z_m3 I f (upd w (136 + t) (s_status f w t)) y) (z_R0 kp sp wd) J F cn) : z_M (z_X0 L xs) z_P0 (d + 1) m_Mod_tellsLast [.ref 40, .int (nI t)] (z_m3 I f w y) (z_R0 kp sp wd) J F cn Q := by
  refine z_WP_go 100 fun K C hK hC => ?_
  conv => whnf
  refine hC _ _ _ _ _ _ _ _ _ _ (fun _ _ _ _ _ _ q => q) (sp_Mod_statusOf ht ?_)
  conv => whnf
  repeat ((first | refine And.intro (by (conv => arg 2; whnf); (try simp only [z_lit, nI_add, pk_mul, z_pr1, z_pr2]); exact z_in (by omega) (by decide)) ?_ | refine z_bt1 (by decide) ?_ | refine z_bf1 (by decide) ?_ | refine z_bt2 (by decide) ?_ | refine z_bf2 (by decide) ?_); conv => whnf)
  refine z_Qv hQ ?_
  simp (disch := omega) only [z_lit, nI_add, pk_mul, z_pr1, z_pr2, nI_clamp, z_m3_40, z_m3_41, z_m3_44, z_m3_u40, z_m3_u41, z_m3_u44, z_m3_m3, pk_us, pk_un]
def s_begins (w : Nat → Int32) (t : Nat) (c : Int32) : Nat → Int32 := upd (upd (upd w (176 + t) (nI 0)) (184 + t) (nI 0)) (144 + t) c
theorem sp_Mod_begins {t : Nat} {c : Int32} (ht : t < 8) (hQ : Q none (z_m3 I (upd f 6 (nI 0)) (upd (s_begins w t c) (136 + t) (s_status (upd f 6 (nI 0)) (s_begins w t c) t)) y) (z_R0 kp sp wd) J F cn) : z_M (z_X0 L xs) z_P0 (d + 2) m_Mod_begins [.ref 40, .int (nI t), .int c] (z_m3 I f w y) (z_R0 kp sp wd) J F cn Q := by
  refine z_WP_go 100 fun K C hK hC => ?_
  conv => whnf
  repeat ((first | refine And.intro (by (conv => arg 2; whnf); (try simp only [z_lit, nI_add, pk_mul, z_pr1, z_pr2]); exact z_in (by omega) (by decide)) ?_ | refine z_bt1 (by decide) ?_ | refine z_bf1 (by decide) ?_ | refine z_bt2 (by decide) ?_ | refine z_bf2 (by decide) ?_); conv => whnf)
  simp (disch := omega) only [z_lit, nI_add, pk_mul, z_pr1, z_pr2, nI_clamp, z_m3_40, z_m3_41, z_m3_44, z_m3_u40, z_m3_u41, z_m3_u44, z_m3_m3, pk_us, pk_un]
  refine hC _ _ _ _ _ _ _ _ _ _ (fun _ _ _ _ _ _ q => q) (sp_Mod_tellsLast ht ?_)
  conv => whnf
  exact hQ
def s_errs (w : Nat → Int32) (t : Nat) : Nat → Int32 := upd (upd w (176 + t) (nI 1)) (128 + t) (w (128 + t) + nI 1)
theorem sp_Mod_errs {t : Nat} (ht : t < 8) (hQ : Q none (z_m3 I f (upd (s_errs w t) (136 + t) (s_status f (s_errs w t) t)) y) (z_R0 kp sp wd) J F cn) : z_M (z_X0 L xs) z_P0 (d + 2) m_Mod_errs [.ref 40, .int (nI t)] (z_m3 I f w y) (z_R0 kp sp wd) J F cn Q := by
  refine z_WP_go 100 fun K C hK hC => ?_
  conv => whnf
  repeat ((first | refine And.intro (by (conv => arg 2; whnf); (try simp only [z_lit, nI_add, pk_mul, z_pr1, z_pr2]); exact z_in (by omega) (by decide)) ?_ | refine z_bt1 (by decide) ?_ | refine z_bf1 (by decide) ?_ | refine z_bt2 (by decide) ?_ | refine z_bf2 (by decide) ?_); conv => whnf)
  simp (disch := omega) only [z_lit, nI_add, pk_mul, z_pr1, z_pr2, nI_clamp, z_m3_40, z_m3_41, z_m3_44, z_m3_u40, z_m3_u41, z_m3_u44, z_m3_m3, pk_us, pk_un]
  refine hC _ _ _ _ _ _ _ _ _ _ (fun _ _ _ _ _ _ q => q) (sp_Mod_tellsLast ht ?_)
  conv => whnf
  exact hQ
end
