/-! the model: signals -/
def g_cl (v : Int32) : Int32 := if -nI 32768 ≤ v then (if v ≤ nI 32767 then v else nI 32767) else -nI 32768
abbrev g_b (x : UInt32) : Int32 := x.toInt32
def g_hi (x : UInt32) : Int32 := ((g_b x).toUInt32 >>> (nI 16 &&& 31).toUInt32).toInt32
def m_sig1 (s : z_sg) (c : Nat) : z_sg := if s.2.1 (1392 + c) = nI 0 ∨ s.2.1 (31 + c / 6) = nI 0 then s else
  m_w (m_w (m_w s (192 + 8 * c) (g_hi (g_x (s.2.1 (1440 + c)) (s.2.1 (1488 + c)) (s.2.1 2)))) (192 + 8 * c + 1) (g_b (g_x (s.2.1 (1440 + c)) (s.2.1 (1488 + c)) (s.2.1 2)) &&& nI 65535)) (192 + 8 * c + 2) (g_cl (FP.f2i (g_e (s.2.1 (1440 + c)) (s.2.1 (1488 + c)) (s.2.1 2))) &&& nI 65535)
def m_sig : Nat → z_sg → z_sg
  | 0, s => s
  | c + 1, s => m_sig1 (m_sig c s) c
theorem sig1_o {s : z_sg} {c j : Nat} (h : j < 192 ∨ 576 ≤ j) (hc : c < 48) : (m_sig1 s c).2.1 j = s.2.1 j := by
  unfold m_sig1
  split
  · rfl
  · show upd (upd (upd _ _ _) _ _) _ _ j = _
    rw [pk_un (by omega), pk_un (by omega), pk_un (by omega)]
theorem sig_o {s : z_sg} {j : Nat} (h : j < 192 ∨ 576 ≤ j) : ∀ c, c ≤ 48 → (m_sig c s).2.1 j = s.2.1 j
  | 0, _ => rfl
  | c + 1, hc => (sig1_o h (by omega)).trans (sig_o h c (by omega))
theorem sig1_f {s : z_sg} {c : Nat} : (m_sig1 s c).1 = s.1 := by
  unfold m_sig1
  split <;> rfl
theorem sig_f {s : z_sg} : ∀ c, (m_sig c s).1 = s.1
  | 0 => rfl
  | c + 1 => sig1_f.trans (sig_f c)
/-- what signals may be told, and the frame -/
def gS (w : Nat → Int32) : Prop := (∀ c, c < 48 → g_ok (w (1440 + c)) ∧ g_ok (w (1488 + c))) ∧ (w 2).toInt.natAbs < 2 ^ 20
section
variable {L : Nat} {xs : Nat → Int32} {d : Nat} {kp sp wd : Value} {I : z_I} {s : z_sg} {R : z_R} {J : z_J} {F : z_F} {cn : Nat} {Q : z_Q} {n k : Nat}
theorem lp_sigu {t : Nat} (ht : t < 8) (hg : gS s.2.1) (hQ : ∀ l3 l4 l5 l6 l7 l8 l9 l10, z_WP (z_X0 L xs) z_P0 (d + 2) m_Mod_laysSignals 219 [some (.ref 40), some (.int (nI t)), some (.int (nI 7)), l3, l4, l5, l6, l7, l8, l9, l10] [] (z_ms I (m_sig (6 * t + 6) s)) (z_R0 kp sp wd) J F cn 0 0 Q) :
    ∀ j u l3 l4 l5 l6 l7 l8 l9 l10, u + j = 6 → z_WP (z_X0 L xs) z_P0 (d + 2) m_Mod_laysSignals 10 [some (.ref 40), some (.int (nI t)), some (.int (nI (u + 1))), l3, l4, l5, l6, l7, l8, l9, l10] [] (z_ms I (m_sig (6 * t + u) s)) (z_R0 kp sp wd) J F cn 0 0 Q := by
  intro j
  induction j with
  | zero =>
    intro u l3 l4 l5 l6 l7 l8 l9 l10 hu
    obtain rfl : u = 6 := by omega
    refine z_WP_gos [10, 219] 1000 fun K C hK hC => ?_
    conv => whnf
    refine ⟨fun _ => ?_, fun h => absurd (by decide) h⟩
    conv => whnf
    refine hK _ _ _ _ _ _ _ _ _ _ (hQ _ _ _ _ _ _ _ _)
  | succ j ih =>
    intro u l3 l4 l5 l6 l7 l8 l9 l10 hu
    have ih' := fun l3 l4 l5 l6 l7 l8 l9 l10 => ih (u + 1) l3 l4 l5 l6 l7 l8 l9 l10 (by omega)
    have e1 : m_sig (6 * t + (u + 1)) s = m_sig1 (m_sig (6 * t + u) s) (6 * t + u) := rfl
    have o : ∀ j, j < 192 ∨ 576 ≤ j → (m_sig (6 * t + u) s).2.1 j = s.2.1 j := fun j hj => sig_o hj _ (by omega)
    rw [e1] at ih'
    unfold m_sig1 at ih'
    have hk := hg.1 (6 * t + u) (by omega)
    rw [← o _ (by omega), ← o (1488 + _) (by omega)] at hk
    have hf := hg.2
    rw [← o 2 (by omega)] at hf
    generalize m_sig (6 * t + u) s = z at *
    obtain ⟨f, w, y⟩ := z
    simp only at hk hf ih'
    have hd : (6 * t + u) / 6 = t := by omega
    rw [hd] at ih'
    obtain ⟨a1, a2, a3, a4, a5, a6, a7, a8⟩ := g_all hk.1 hk.2 hf
    refine z_WP_gos [10, 219] 1000 fun K C hK hC => ?_
    conv => whnf
    refine ⟨fun h => absurd h (Int32.not_lt.mpr (nI_le (b := 6) (by omega) (by decide))), fun _ => ?_⟩
    conv => whnf
    refine hC _ _ _ _ _ _ _ _ _ _ (fun _ _ _ _ _ _ q => q) (sp_at0 ?_)
    conv => whnf
    repeat ((first | refine And.intro (by (conv => arg 2; whnf); (try simp only [z_lit, nI_add, pk_mul, z_pr1, z_pr2]); exact z_in (by omega) (by decide)) ?_ | refine z_bt1 (by decide) ?_ | refine z_bf1 (by decide) ?_ | refine z_bt2 (by decide) ?_ | refine z_bf2 (by decide) ?_); conv => whnf)
    simp (disch := omega) only [z_lit, nI_add, pk_mul, z_pr1, z_pr2, nI_clamp, z_m3_40, z_m3_41, z_m3_44, z_m3_u40, z_m3_u41, z_m3_u44, z_m3_m3, pk_us, pk_un]
    refine ⟨fun g => ?_, fun g => ?_⟩
    · rw [if_pos (Or.inl g)] at ih'
      conv => whnf
      rw [show nI (u + 1) + 1 = nI (u + 1 + 1) from nI_1 _]
      refine hK _ _ _ _ _ _ _ _ _ _ (ih' _ _ _ _ _ _ _ _)
    conv => whnf
    repeat ((first | refine And.intro (by (conv => arg 2; whnf); (try simp only [z_lit, nI_add, pk_mul, z_pr1, z_pr2]); exact z_in (by omega) (by decide)) ?_ | refine z_bt1 (by decide) ?_ | refine z_bf1 (by decide) ?_ | refine z_bt2 (by decide) ?_ | refine z_bf2 (by decide) ?_); conv => whnf)
    simp (disch := omega) only [z_lit, nI_add, pk_mul, z_pr1, z_pr2, nI_clamp, z_m3_40, z_m3_41, z_m3_44, z_m3_u40, z_m3_u41, z_m3_u44, z_m3_m3, pk_us, pk_un]
    refine ⟨fun g2 => ?_, fun g2 => ?_⟩
    rotate_left
    · rw [if_pos (Or.inr g2)] at ih'
      conv => whnf
      rw [show nI (u + 1) + 1 = nI (u + 1 + 1) from nI_1 _]
      refine hK _ _ _ _ _ _ _ _ _ _ (ih' _ _ _ _ _ _ _ _)
    rw [if_neg (not_or.mpr ⟨g, g2⟩)] at ih'
    unfold m_w at ih'
    conv => whnf
    repeat ((first | refine And.intro (by (conv => arg 2; whnf); (try simp only [z_lit, nI_add, pk_mul, z_pr1, z_pr2]); exact z_in (by omega) (by decide)) ?_ | refine z_bt1 (by decide) ?_ | refine z_bf1 (by decide) ?_ | refine z_bt2 (by decide) ?_ | refine z_bf2 (by decide) ?_); conv => whnf)
    simp (disch := omega) only [z_lit, nI_add, pk_mul, z_pr1, z_pr2, nI_clamp, z_m3_40, z_m3_41, z_m3_44, z_m3_u40, z_m3_u41, z_m3_u44, z_m3_m3, pk_us, pk_un]
    refine ⟨a1, ?_⟩
    conv => whnf
    repeat ((first | refine And.intro (by (conv => arg 2; whnf); (try simp only [z_lit, nI_add, pk_mul, z_pr1, z_pr2]); exact z_in (by omega) (by decide)) ?_ | refine z_bt1 (by decide) ?_ | refine z_bf1 (by decide) ?_ | refine z_bt2 (by decide) ?_ | refine z_bf2 (by decide) ?_); conv => whnf)
    simp (disch := omega) only [z_lit, nI_add, pk_mul, z_pr1, z_pr2, nI_clamp, z_m3_40, z_m3_41, z_m3_44, z_m3_u40, z_m3_u41, z_m3_u44, z_m3_m3, pk_us, pk_un]
    refine ⟨a2, ?_⟩
    conv => whnf
    repeat ((first | refine And.intro (by (conv => arg 2; whnf); (try simp only [z_lit, nI_add, pk_mul, z_pr1, z_pr2]); exact z_in (by omega) (by decide)) ?_ | refine z_bt1 (by decide) ?_ | refine z_bf1 (by decide) ?_ | refine z_bt2 (by decide) ?_ | refine z_bf2 (by decide) ?_); conv => whnf)
    simp (disch := omega) only [z_lit, nI_add, pk_mul, z_pr1, z_pr2, nI_clamp, z_m3_40, z_m3_41, z_m3_44, z_m3_u40, z_m3_u41, z_m3_u44, z_m3_m3, pk_us, pk_un]
    refine ⟨a3, ?_⟩
    conv => whnf
    refine ⟨a4, ?_⟩
    conv => whnf
    refine hC _ _ _ _ _ _ _ _ _ _ (fun _ _ _ _ _ _ q => q) (z_f2bits a8 ?_)
    conv => whnf
    refine ⟨a6, ?_⟩
    unfold g_e g_x g_k at ih'
    generalize FP.fadd (FP.fmul (FP.fdiv (FP.i2f (w (1488 + (6 * t + u)))) (UInt32.ofNat 1148846080)) (FP.i2f (w 2))) (FP.fdiv (FP.i2f (w (1440 + (6 * t + u)))) (UInt32.ofNat 1148846080)) = x at ih' ⊢
    unfold g_cl at ih'
    simp only at ih'
    conv => whnf
    generalize FP.f2i (FP.fdiv x (UInt32.ofNat 1040187392)) = e at ih' ⊢
    refine ⟨fun q1 => ?_, fun q1 => ?_⟩
    · conv => whnf
      refine ⟨fun (q2 : e ≤ nI 32767) => ?_, fun (q2 : ¬ e ≤ nI 32767) => ?_⟩
      · rw [if_pos q1, if_pos q2] at ih'
        conv => whnf
        repeat ((first | refine And.intro (by (conv => arg 2; whnf); (try simp only [z_lit, nI_add, pk_mul, z_pr1, z_pr2]); exact z_in (by omega) (by decide)) ?_ | refine z_bt1 (by decide) ?_ | refine z_bf1 (by decide) ?_ | refine z_bt2 (by decide) ?_ | refine z_bf2 (by decide) ?_); conv => whnf)
        simp (disch := omega) only [z_lit, nI_add, pk_mul, z_pr1, z_pr2, nI_clamp, z_m3_40, z_m3_41, z_m3_44, z_m3_u40, z_m3_u41, z_m3_u44, z_m3_m3, pk_us, pk_un]
        refine hK _ _ _ _ _ _ _ _ _ _ (ih' _ _ _ _ _ _ _ _)
      · rw [if_pos q1, if_neg q2] at ih'
        conv => whnf
        repeat ((first | refine And.intro (by (conv => arg 2; whnf); (try simp only [z_lit, nI_add, pk_mul, z_pr1, z_pr2]); exact z_in (by omega) (by decide)) ?_ | refine z_bt1 (by decide) ?_ | refine z_bf1 (by decide) ?_ | refine z_bt2 (by decide) ?_ | refine z_bf2 (by decide) ?_); conv => whnf)
        simp (disch := omega) only [z_lit, nI_add, pk_mul, z_pr1, z_pr2, nI_clamp, z_m3_40, z_m3_41, z_m3_44, z_m3_u40, z_m3_u41, z_m3_u44, z_m3_m3, pk_us, pk_un]
        refine hK _ _ _ _ _ _ _ _ _ _ (ih' _ _ _ _ _ _ _ _)
    · rw [if_neg q1] at ih'
      conv => whnf
      repeat ((first | refine And.intro (by (conv => arg 2; whnf); (try simp only [z_lit, nI_add, pk_mul, z_pr1, z_pr2]); exact z_in (by omega) (by decide)) ?_ | refine z_bt1 (by decide) ?_ | refine z_bf1 (by decide) ?_ | refine z_bt2 (by decide) ?_ | refine z_bf2 (by decide) ?_); conv => whnf)
      simp (disch := omega) only [z_lit, nI_add, pk_mul, z_pr1, z_pr2, nI_clamp, z_m3_40, z_m3_41, z_m3_44, z_m3_u40, z_m3_u41, z_m3_u44, z_m3_m3, pk_us, pk_un]
      refine hK _ _ _ _ _ _ _ _ _ _ (ih' _ _ _ _ _ _ _ _)
theorem lp_sigt (hg : gS s.2.1) (hQ : Q none (z_ms I (m_sig 48 s)) (z_R0 kp sp wd) J F cn) :
    ∀ j t l2 l3 l4 l5 l6 l7 l8 l9 l10, t + j = 8 → z_WP (z_X0 L xs) z_P0 (d + 2) m_Mod_laysSignals 2 [some (.ref 40), some (.int (nI t)), l2, l3, l4, l5, l6, l7, l8, l9, l10] [] (z_ms I (m_sig (6 * t) s)) (z_R0 kp sp wd) J F cn 0 0 Q := by
  intro j
  induction j with
  | zero =>
    intro t l2 l3 l4 l5 l6 l7 l8 l9 l10 ht
    obtain rfl : t = 8 := by omega
    rw [show 6 * 8 = 48 from rfl]
    generalize m_sig 48 s = z at *
    refine z_WP_gos [2] 1000 fun K C hK hC => ?_
    conv => whnf
    refine ⟨fun _ => ?_, fun h => absurd (by decide) h⟩
    conv => whnf
    exact hQ
  | succ j ih =>
    intro t l2 l3 l4 l5 l6 l7 l8 l9 l10 ht
    have ih' := fun l2 l3 l4 l5 l6 l7 l8 l9 l10 => ih (t + 1) l2 l3 l4 l5 l6 l7 l8 l9 l10 (by omega)
    rw [show 6 * (t + 1) = 6 * t + 6 by omega] at ih'
    have lp := lp_sigu (d := d) (L := L) (xs := xs) (kp := kp) (sp := sp) (wd := wd) (I := I) (J := J) (F := F) (cn := cn) (Q := Q) (t := t) (by omega) hg (fun l3 l4 l5 l6 l7 l8 l9 l10 => by
      generalize m_sig (6 * t + 6) s = z at *
      refine z_WP_gos [2] 1000 fun K C hK hC => ?_
      conv => whnf
      rw [show nI t + 1 = nI (t + 1) from nI_1 t]
      refine hK _ _ _ _ _ _ _ _ _ _ (ih' _ _ _ _ _ _ _ _ _)) 6 0 l3 l4 l5 l6 l7 l8 l9 l10 rfl
    rw [Nat.add_zero, show 0 + 1 = 1 from rfl] at lp
    generalize m_sig (6 * t) s = z at *
    refine z_WP_gos [2, 10] 1000 fun K C hK hC => ?_
    conv => whnf
    refine ⟨fun h => absurd h (nI_ge (a := t) (b := 8) (by omega) (by decide)), fun _ => ?_⟩
    conv => whnf
    refine hK _ _ _ _ _ _ _ _ _ _ (lp)
theorem sp_laysSignals (hg : gS s.2.1) (hQ : Q none (z_ms I (m_sig 48 s)) (z_R0 kp sp wd) J F cn) : z_M (z_X0 L xs) z_P0 (d + 2) m_Mod_laysSignals [.ref 40] (z_ms I s) (z_R0 kp sp wd) J F cn Q := by
  have lp := fun l2 l3 l4 l5 l6 l7 l8 l9 l10 => lp_sigt (d := d) (L := L) (xs := xs) hg hQ 8 0 l2 l3 l4 l5 l6 l7 l8 l9 l10 rfl
  have e0 : m_sig (6 * 0) s = s := rfl
  rw [e0] at lp
  refine z_WP_gos [2] 1000 fun K C hK hC => ?_
  conv => whnf
  refine hK _ _ _ _ _ _ _ _ _ _ (lp _ _ _ _ _ _ _ _ _)
end
