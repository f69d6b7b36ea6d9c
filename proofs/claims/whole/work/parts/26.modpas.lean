/-! the model's messages: what is smoothed; GET -/
def s_exp (b : Int32) : Int32 := (b.toUInt32 >>> ((nI 23).toUInt32 &&& Int32.toUInt32 (nI 31))).toInt32 &&& nI 255
def s_tame (b : Int32) : Bool := decide (b = nI 0) || (decide (nI 64 ≤ s_exp b) && decide (s_exp b ≤ nI 149))
def s_sum (x v : UInt32) : UInt32 := FP.fadd v (FP.fmul (FP.fsub x v) (UInt32.ofNat 1048576000))
def s_cut (v : UInt32) : UInt32 := if cmpValue (FP.fcmp v (UInt32.ofNat 3129152111)) .l ≤ nI 0 ∨ nI 0 ≤ cmpValue (FP.fcmp v (UInt32.ofNat 981668463)) .g then v else FP.fconst0
def s_safe (b v : Int32) : Prop := vn_sni2f b = false ∧ vn_sni2f v = false ∧ vf_n32 (FP.fsub b.toUInt32 v.toUInt32) ∧ vf_n32 (FP.fmul (FP.fsub b.toUInt32 v.toUInt32) (UInt32.ofNat 1048576000)) ∧ vf_n32 (s_sum b.toUInt32 v.toUInt32) ∧ cmpValue (FP.fcmp (s_sum b.toUInt32 v.toUInt32) (s_sum b.toUInt32 v.toUInt32)) .l = nI 0
def s_bits (w : Nat → Int32) (k : Nat) : Int32 := w k <<< (nI 16 &&& nI 31) ||| w (k + 1)
def m_smooths (s : z_sg) (c : Nat) : z_sg :=
  (s.1, bif s_tame (s_bits s.2.1 (960 + 8 * c)) then upd s.2.1 (1536 + c) (s_cut (s_sum (s_bits s.2.1 (960 + 8 * c)).toUInt32 (s.2.1 (1536 + c)).toUInt32)).toInt32 else s.2.1, s.2.2)
section
variable {L : Nat} {xs : Nat → Int32} {d : Nat} {kp sp wd : Value} {I : z_I} {s : z_sg} {R : z_R} {J : z_J} {F : z_F} {cn : Nat} {Q : z_Q}
theorem z_nan {x : UInt32} (h : cmpValue (FP.fcmp x x) .l = nI 0) (hQ : Q (some (.int 0)) I R J F cn) : z_M (z_X0 L xs) z_P0 d m_Float_isNaN [.float x] I R J F cn Q := by
  refine z_WP_gos [] 1000 fun K C hK hC => ?_
  conv => whnf
  refine z_bt1 h ?_
  conv => whnf
  exact ⟨Or.inl rfl, hQ⟩
theorem z_f2bits {x : UInt32} (h : cmpValue (FP.fcmp x x) .l = nI 0) (hQ : Q (some (.int x.toInt32)) I R J F cn) : z_M (z_X0 L xs) z_P0 (d + 1) m_Float_floatToIntBits [.float x] I R J F cn Q := by
  refine z_WP_gos [] 1000 fun K C hK hC => ?_
  conv => whnf
  refine hC _ _ _ _ _ _ _ _ _ _ (fun _ _ _ _ _ _ q => q) (z_nan h ?_)
  conv => whnf
  repeat ((first | refine And.intro (by (conv => arg 2; whnf); (try simp only [z_lit, nI_add, pk_mul, z_pr1, z_pr2]); exact z_in (by omega) (by decide)) ?_ | refine z_bt1 (by decide) ?_ | refine z_bf1 (by decide) ?_ | refine z_bt2 (by decide) ?_ | refine z_bf2 (by decide) ?_); conv => whnf)
  exact hQ
theorem sp_smooths {t u : Nat} (ht : t < 8) (hu : u < 6) (hf : ∀ b, s_tame b = true → s_safe b (s.2.1 (1536 + (6 * t + u)))) (hQ : Q none (z_ms I (m_smooths s (6 * t + u))) (z_R0 kp sp wd) J F cn) : z_M (z_X0 L xs) z_P0 (d + 2) m_Mod_smooths [.ref 40, .int (nI t), .int (nI (u + 1))] (z_ms I s) (z_R0 kp sp wd) J F cn Q := by
  obtain ⟨f, w, y⟩ := s
  unfold m_smooths at hQ
  simp only at hQ hf
  have tail : s_tame (s_bits w (960 + 8 * (6 * t + u))) = true → z_WP (z_X0 L xs) z_P0 (d + 2) m_Mod_smooths 59 [some (.ref 40), some (.int (nI t)), some (.int (nI (u + 1))), some (.int (nI (960 + 8 * (6 * t + u)))), some (.int (s_bits w (960 + 8 * (6 * t + u)))), none, none, none, none] [] (z_m3 I f w y) (z_R0 kp sp wd) J F cn 0 0 Q := by
    intro hb
    rw [hb, cond_true] at hQ
    obtain ⟨g1, g2, g3, g4, g5, g6⟩ := hf _ hb
    generalize s_bits w (960 + 8 * (6 * t + u)) = b at hb g1 g2 g3 g4 g5 g6 hQ ⊢
    refine z_WP_gos [] 1000 fun K C hK hC => ?_
    conv => whnf
    refine ⟨g1, ?_⟩
    conv => whnf
    refine hC _ _ _ _ _ _ _ _ _ _ (fun _ _ _ _ _ _ q => q) (sp_at0 ?_)
    conv => whnf
    repeat ((first | refine And.intro (by (conv => arg 2; whnf); (try simp only [z_lit, nI_add, pk_mul, z_pr1, z_pr2]); exact z_in (by omega) (by decide)) ?_ | refine z_bt1 (by decide) ?_ | refine z_bf1 (by decide) ?_ | refine z_bt2 (by decide) ?_ | refine z_bf2 (by decide) ?_); conv => whnf)
    simp (disch := omega) only [z_lit, nI_add, pk_mul, z_pr1, z_pr2, nI_clamp, z_m3_40, z_m3_41, z_m3_44, z_m3_u40, z_m3_u41, z_m3_u44, z_m3_m3, pk_us, pk_un]
    refine ⟨g2, ?_⟩
    conv => whnf
    refine ⟨g3, ?_⟩
    conv => whnf
    refine ⟨g4, ?_⟩
    conv => whnf
    refine ⟨g5, ?_⟩
    conv => whnf
    refine ⟨fun h => ?_, fun h => ?_⟩ <;> (try simp (disch := omega) only [z_lit, nI_add, pk_mul, z_pr1, z_pr2, nI_clamp, z_m3_40, z_m3_41, z_m3_44, z_m3_u40, z_m3_u41, z_m3_u44, z_m3_m3, pk_us, pk_un] at h) <;> (conv => whnf)
    · refine hC _ _ _ _ _ _ _ _ _ _ (fun _ _ _ _ _ _ q => q) (sp_at0 ?_)
      conv => whnf
      refine hC _ _ _ _ _ _ _ _ _ _ (fun _ _ _ _ _ _ q => q) (z_f2bits g6 ?_)
      conv => whnf
      repeat ((first | refine And.intro (by (conv => arg 2; whnf); (try simp only [z_lit, nI_add, pk_mul, z_pr1, z_pr2]); exact z_in (by omega) (by decide)) ?_ | refine z_bt1 (by decide) ?_ | refine z_bf1 (by decide) ?_ | refine z_bt2 (by decide) ?_ | refine z_bf2 (by decide) ?_); conv => whnf)
      refine z_Qv hQ ?_
      simp (disch := omega) only [z_lit, nI_add, pk_mul, z_pr1, z_pr2, nI_clamp, z_m3_40, z_m3_41, z_m3_44, z_m3_u40, z_m3_u41, z_m3_u44, z_m3_m3, pk_us, pk_un]
      have e : s_cut (s_sum b.toUInt32 (w (1536 + (6 * t + u))).toUInt32) = s_sum b.toUInt32 (w (1536 + (6 * t + u))).toUInt32 := if_pos (Or.inl h)
      rw [e]; rfl
    · refine ⟨fun k => ?_, fun k => ?_⟩ <;> (try simp (disch := omega) only [z_lit, nI_add, pk_mul, z_pr1, z_pr2, nI_clamp, z_m3_40, z_m3_41, z_m3_44, z_m3_u40, z_m3_u41, z_m3_u44, z_m3_m3, pk_us, pk_un] at k) <;> (conv => whnf)
      · refine hC _ _ _ _ _ _ _ _ _ _ (fun _ _ _ _ _ _ q => q) (sp_at0 ?_)
        conv => whnf
        refine hC _ _ _ _ _ _ _ _ _ _ (fun _ _ _ _ _ _ q => q) (z_f2bits g6 ?_)
        conv => whnf
        repeat ((first | refine And.intro (by (conv => arg 2; whnf); (try simp only [z_lit, nI_add, pk_mul, z_pr1, z_pr2]); exact z_in (by omega) (by decide)) ?_ | refine z_bt1 (by decide) ?_ | refine z_bf1 (by decide) ?_ | refine z_bt2 (by decide) ?_ | refine z_bf2 (by decide) ?_); conv => whnf)
        refine z_Qv hQ ?_
        simp (disch := omega) only [z_lit, nI_add, pk_mul, z_pr1, z_pr2, nI_clamp, z_m3_40, z_m3_41, z_m3_44, z_m3_u40, z_m3_u41, z_m3_u44, z_m3_m3, pk_us, pk_un]
        have e : s_cut (s_sum b.toUInt32 (w (1536 + (6 * t + u))).toUInt32) = s_sum b.toUInt32 (w (1536 + (6 * t + u))).toUInt32 := if_pos (Or.inr k)
        rw [e]; rfl
      · refine hC _ _ _ _ _ _ _ _ _ _ (fun _ _ _ _ _ _ q => q) (sp_at0 ?_)
        conv => whnf
        refine hC _ _ _ _ _ _ _ _ _ _ (fun _ _ _ _ _ _ q => q) (z_f2bits (by decide +kernel) ?_)
        conv => whnf
        repeat ((first | refine And.intro (by (conv => arg 2; whnf); (try simp only [z_lit, nI_add, pk_mul, z_pr1, z_pr2]); exact z_in (by omega) (by decide)) ?_ | refine z_bt1 (by decide) ?_ | refine z_bf1 (by decide) ?_ | refine z_bt2 (by decide) ?_ | refine z_bf2 (by decide) ?_); conv => whnf)
        refine z_Qv hQ ?_
        simp (disch := omega) only [z_lit, nI_add, pk_mul, z_pr1, z_pr2, nI_clamp, z_m3_40, z_m3_41, z_m3_44, z_m3_u40, z_m3_u41, z_m3_u44, z_m3_m3, pk_us, pk_un]
        have e : s_cut (s_sum b.toUInt32 (w (1536 + (6 * t + u))).toUInt32) = FP.fconst0 := if_neg (fun z => z.elim h k)
        rw [e]
  refine z_WP_gos [59] 1000 fun K C hK hC => ?_
  conv => whnf
  refine hC _ _ _ _ _ _ _ _ _ _ (fun _ _ _ _ _ _ q => q) (sp_at0 ?_)
  conv => whnf
  repeat ((first | refine And.intro (by (conv => arg 2; whnf); (try simp only [z_lit, nI_add, pk_mul, z_pr1, z_pr2]); exact z_in (by omega) (by decide)) ?_ | refine z_bt1 (by decide) ?_ | refine z_bf1 (by decide) ?_ | refine z_bt2 (by decide) ?_ | refine z_bf2 (by decide) ?_); conv => whnf)
  simp (disch := omega) only [z_lit, nI_add, pk_mul, z_pr1, z_pr2, nI_clamp, z_m3_40, z_m3_41, z_m3_44, z_m3_u40, z_m3_u41, z_m3_u44, z_m3_m3, pk_us, pk_un]
  refine ⟨fun h => ?_, fun h => ?_⟩ <;> (try simp (disch := omega) only [z_lit, nI_add, pk_mul, z_pr1, z_pr2, nI_clamp, z_m3_40, z_m3_41, z_m3_44, z_m3_u40, z_m3_u41, z_m3_u44, z_m3_m3, pk_us, pk_un] at h) <;> (conv => whnf)
  · refine hK _ _ _ _ _ _ _ _ _ _ (tail ?_)
    unfold s_tame s_bits
    rw [decide_eq_true h]; rfl
  · refine hC _ _ _ _ _ _ _ _ _ _ (fun _ _ _ _ _ _ q => q) (sp_Mod_isIn (fun a b => ?_) (fun a => ?_))
    conv => whnf
    · repeat ((first | refine And.intro (by (conv => arg 2; whnf); (try simp only [z_lit, nI_add, pk_mul, z_pr1, z_pr2]); exact z_in (by omega) (by decide)) ?_ | refine z_bt1 (by decide) ?_ | refine z_bf1 (by decide) ?_ | refine z_bt2 (by decide) ?_ | refine z_bf2 (by decide) ?_); conv => whnf)
      refine hK _ _ _ _ _ _ _ _ _ _ (tail ?_)
      have a' : nI 64 ≤ s_exp (s_bits w (960 + 8 * (6 * t + u))) := a
      have b' : s_exp (s_bits w (960 + 8 * (6 * t + u))) ≤ nI 149 := b
      unfold s_tame
      rw [decide_eq_true a', decide_eq_true b', Bool.and_true, Bool.or_true]
    · repeat ((first | refine And.intro (by (conv => arg 2; whnf); (try simp only [z_lit, nI_add, pk_mul, z_pr1, z_pr2]); exact z_in (by omega) (by decide)) ?_ | refine z_bt1 (by decide) ?_ | refine z_bf1 (by decide) ?_ | refine z_bt2 (by decide) ?_ | refine z_bf2 (by decide) ?_); conv => whnf)
      have e : s_tame (s_bits w (960 + 8 * (6 * t + u))) = false := by
        rw [Bool.eq_false_iff]; intro z
        unfold s_tame at z
        simp only [Bool.or_eq_true, Bool.and_eq_true, decide_eq_true_eq] at z
        exact z.elim h a
      rw [e, cond_false] at hQ
      exact hQ
end
