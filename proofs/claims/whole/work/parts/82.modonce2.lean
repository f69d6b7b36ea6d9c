/-! the model: a frame, put together -/
def m_pre (s : z_sg) : z_sg := m_sig 48 (m_ev (s.2.1 2764).toNatClampNeg (m_f (m_f s 4 (nI 0)) 7 (nI 0)))
def m_pow (s : z_sg) : z_sg := m_f (m_w s 4 (nI 0)) 24 (s.2.1 3)
def m_run (s : z_sg) : z_sg := m_lns (s.2.1 2).toNatClampNeg (s.2.1 8).toNatClampNeg (m_pow s)
def m_asked (s : z_sg) : z_sg := m_ask (s.1 7) 8 s
def m_post (s : z_sg) : z_sg := m_w (m_f (m_w s 7 (s.1 4)) 25 (if s.1 4 ≤ s.1 25 then s.1 25 else s.1 4)) 2 (s.2.1 2 + nI 1)
def s_ctp (w : Nat → Int32) : Int32 := w (31 + (w 3).toNatClampNeg)
def m_once (s : z_sg) : z_sg := m_post (if s_ctp (m_pre s).2.1 = nI 0 then m_sil (m_pre s) else m_ctl (m_asked (m_run (m_pre s))) ((m_asked (m_run (m_pre s))).1 24))
/-- what a frame of the model's asks for -/
def oF (s : z_sg) (B ln f c : Nat) : Prop := oS s B ln ∧ ev_ok s.2.1 ∧ gS s.2.1 ∧ s.2.1 2 = nI f ∧ s.2.1 3 = nI c ∧ c ≤ 8 ∧ f < 2 ^ 30
theorem pre_o {s : z_sg} (he : ev_ok s.2.1) {j : Nat} (hj : j < 15 ∨ (112 ≤ j ∧ j < 192) ∨ 576 ≤ j) : (m_pre s).2.1 j = s.2.1 j := by
  unfold m_pre
  rw [sig_o (by omega) 48 (Nat.le_refl _)]
  exact (ev_o (s := m_f (m_f s 4 (nI 0)) 7 (nI 0)) he (by omega) _ (Nat.le_refl _)).1
section
variable {L : Nat} {xs : Nat → Int32} {d : Nat} {kp sp wd : Value} {I : z_I} {s : z_sg} {R : z_R} {J : z_J} {F : z_F} {cn : Nat} {Q : z_Q} {n k : Nat}
theorem en_once {l1 l2 : Option Value} {f : Nat} (hf : s.2.1 2 = nI f) (hQ : Q none (z_ms I (m_post s)) (z_R0 kp sp wd) J F cn) : z_WP (z_X0 L xs) z_P0 (d + 10) m_Mod_goesOnce 141 [some (.ref 40), l1, l2] [] (z_ms I s) (z_R0 kp sp wd) J F cn 0 0 Q := by
  obtain ⟨ff, w, y⟩ := s
  unfold m_post m_w m_f at hQ
  simp only at hQ hf
  refine z_WP_gos [] 1000 fun K C hK hC => ?_
  conv => whnf
  repeat ((first | refine And.intro (by (conv => arg 2; whnf); (try simp only [z_lit, nI_add, pk_mul, z_pr1, z_pr2]); exact z_in (by omega) (by decide)) ?_ | refine z_bt1 (by decide) ?_ | refine z_bf1 (by decide) ?_ | refine z_bt2 (by decide) ?_ | refine z_bf2 (by decide) ?_); conv => whnf)
  simp (disch := omega) only [z_lit, nI_add, pk_mul, z_pr1, z_pr2, nI_clamp, z_m3_40, z_m3_41, z_m3_44, z_m3_u40, z_m3_u41, z_m3_u44, z_m3_m3, pk_us, pk_un]
  refine ⟨fun g => ?_, fun g => ?_⟩
  · rw [if_pos g] at hQ
    conv => whnf
    repeat ((first | refine And.intro (by (conv => arg 2; whnf); (try simp only [z_lit, nI_add, pk_mul, z_pr1, z_pr2]); exact z_in (by omega) (by decide)) ?_ | refine z_bt1 (by decide) ?_ | refine z_bf1 (by decide) ?_ | refine z_bt2 (by decide) ?_ | refine z_bf2 (by decide) ?_); conv => whnf)
    refine z_Qv hQ ?_
    simp (disch := omega) only [z_lit, nI_add, pk_mul, z_pr1, z_pr2, nI_clamp, z_m3_40, z_m3_41, z_m3_44, z_m3_u40, z_m3_u41, z_m3_u44, z_m3_m3, pk_us, pk_un]
  · rw [if_neg g] at hQ
    conv => whnf
    repeat ((first | refine And.intro (by (conv => arg 2; whnf); (try simp only [z_lit, nI_add, pk_mul, z_pr1, z_pr2]); exact z_in (by omega) (by decide)) ?_ | refine z_bt1 (by decide) ?_ | refine z_bf1 (by decide) ?_ | refine z_bt2 (by decide) ?_ | refine z_bf2 (by decide) ?_); conv => whnf)
    refine z_Qv hQ ?_
    simp (disch := omega) only [z_lit, nI_add, pk_mul, z_pr1, z_pr2, nI_clamp, z_m3_40, z_m3_41, z_m3_44, z_m3_u40, z_m3_u41, z_m3_u44, z_m3_m3, pk_us, pk_un]
end
