/-! the model: a frame, put together -/
def m_pre (s : z_sg) : z_sg := m_sig 48 (m_ev (s.2.1 2764).toNatClampNeg (m_f (m_f s 4 (nI 0)) 7 (nI 0)))
def m_pow (s : z_sg) : z_sg := m_f (m_w s 4 (nI 0)) 24 (s.2.1 3)
def m_run (s : z_sg) : z_sg := m_lns (s.2.1 2).toNatClampNeg (s.2.1 8).toNatClampNeg (m_pow s)
def m_asked (s : z_sg) : z_sg := m_ask (s.1 7) 8 s
def m_post (s : z_sg) : z_sg := m_w (m_f (m_w s 7 (s.1 4)) 25 (if s.1 4 ≤ s.1 25 then s.1 25 else s.1 4)) 2 (s.2.1 2 + nI 1)
def s_ctp (w : Nat → Int32) : Int32 := w (31 + (w 3).toNatClampNeg)
def m_once (s : z_sg) : z_sg := m_post (if s_ctp (m_pre s).2.1 = nI 0 then m_sil (m_pre s) else m_ctl (m_asked (m_run (m_pre s))) ((m_asked (m_run (m_pre s))).1 24))
/-- what a frame of the model's asks for -/
def oF (s : z_sg) (B ln f c : Nat) : Prop := oS s B ln ∧ ev_ok s.2.1 ∧ gS s.2.1 ∧ s.2.1 2 = nI f ∧ s.2.1 3 = nI c ∧ c ≤ 8 ∧ f < 2 ^ 30
theorem ctl_o {s : z_sg} {t : Int32} {j : Nat} (h3 : j ≠ 3) (h6 : j ≠ 6) : (m_ctl s t).2.1 j = s.2.1 j := by
  unfold m_ctl
  split
  · rfl
  · exact (pk_un h6).trans (pk_un h3)
theorem sil_o {s : z_sg} {j : Nat} (h3 : j ≠ 3) (h6 : j ≠ 6) (h4 : j ≠ 4) : (m_sil s).2.1 j = s.2.1 j := by
  unfold m_sil
  split
  · exact pk_un h4
  · exact (pk_un h4).trans ((ctl_o h3 h6).trans (pk_un h4))
theorem pow_o {s : z_sg} {j : Nat} (h4 : j ≠ 4) : (m_pow s).2.1 j = s.2.1 j := show upd s.2.1 4 (nI 0) j = s.2.1 j from pk_un h4
theorem pre_o {s : z_sg} (he : ev_ok s.2.1) {j : Nat} (hj : j < 15 ∨ (112 ≤ j ∧ j < 192) ∨ 576 ≤ j) : (m_pre s).2.1 j = s.2.1 j := by
  unfold m_pre
  rw [sig_o (by omega) 48 (Nat.le_refl _)]
  exact (ev_o (s := m_f (m_f s 4 (nI 0)) 7 (nI 0)) he (by omega) _ (Nat.le_refl _)).1
section
variable {L : Nat} {xs : Nat → Int32} {d : Nat} {kp sp wd : Value} {I : z_I} {s : z_sg} {R : z_R} {J : z_J} {F : z_F} {cn : Nat} {Q : z_Q} {n k : Nat}
theorem en_once {l1 l2 : Option Value} {f : Nat} (hf : s.2.1 2 = nI f) (hQ : Q none (z_ms I (m_post s)) (z_R0 kp sp wd) J F cn) : z_WP (z_X0 L xs) z_P0 (d + 10) m_Mod_goesOnce 141 [some (.ref 40), l1, l2] [] (z_ms I s) (z_R0 kp sp wd) J F cn 0 0 Q := by
  obtain ⟨ff, w, y⟩ := s
  unfold m_post m_w m_f at hQ
  simp only at hQ hf
  refine z_WP_gos [] 1000 fun K C hK hC => ?_
  conv => whnf
  repeat ((first | refine And.intro (by (conv => arg 2; whnf); (try simp only [z_lit, nI_add, pk_mul, z_pr1, z_pr2]); exact z_in (by omega) (by decide)) ?_ | refine z_bt1 (by decide) ?_ | refine z_bf1 (by decide) ?_ | refine z_bt2 (by decide) ?_ | refine z_bf2 (by decide) ?_); conv => whnf)
  simp (disch := omega) only [z_lit, nI_add, pk_mul, z_pr1, z_pr2, nI_clamp, z_m3_40, z_m3_41, z_m3_44, z_m3_u40, z_m3_u41, z_m3_u44, z_m3_m3, pk_us, pk_un]
  refine ⟨fun g => ?_, fun g => ?_⟩
  · rw [if_pos g] at hQ
    conv => whnf
    repeat ((first | refine And.intro (by (conv => arg 2; whnf); (try simp only [z_lit, nI_add, pk_mul, z_pr1, z_pr2]); exact z_in (by omega) (by decide)) ?_ | refine z_bt1 (by decide) ?_ | refine z_bf1 (by decide) ?_ | refine z_bt2 (by decide) ?_ | refine z_bf2 (by decide) ?_); conv => whnf)
    refine z_Qv hQ ?_
    simp (disch := omega) only [z_lit, nI_add, pk_mul, z_pr1, z_pr2, nI_clamp, z_m3_40, z_m3_41, z_m3_44, z_m3_u40, z_m3_u41, z_m3_u44, z_m3_m3, pk_us, pk_un]
  · rw [if_neg g] at hQ
    conv => whnf
    repeat ((first | refine And.intro (by (conv => arg 2; whnf); (try simp only [z_lit, nI_add, pk_mul, z_pr1, z_pr2]); exact z_in (by omega) (by decide)) ?_ | refine z_bt1 (by decide) ?_ | refine z_bf1 (by decide) ?_ | refine z_bt2 (by decide) ?_ | refine z_bf2 (by decide) ?_); conv => whnf)
    refine z_Qv hQ ?_
    simp (disch := omega) only [z_lit, nI_add, pk_mul, z_pr1, z_pr2, nI_clamp, z_m3_40, z_m3_41, z_m3_44, z_m3_u40, z_m3_u41, z_m3_u44, z_m3_m3, pk_us, pk_un]
theorem en_run {l1 l2 : Option Value} {B ln f : Nat} (h : oS s B ln) (hf : s.2.1 2 = nI f) (hB : B + 400 < 2 ^ 29) (hQ : Q none (z_ms I (m_post (m_ctl (m_asked s) ((m_asked s).1 24)))) (z_R0 kp sp wd) J F cn) : z_WP (z_X0 L xs) z_P0 (d + 10) m_Mod_goesOnce 129 [some (.ref 40), l1, l2] [] (z_ms I s) (z_R0 kp sp wd) J F cn 0 0 Q := by
  have e2 : (m_ctl (m_asked s) ((m_asked s).1 24)).2.1 2 = nI f := by
    have a2 : (m_asked s).2.1 2 = nI f := (ask_o (s := s) (all := s.1 7) (j := 2) (by omega) 8 (Nat.le_refl _)).trans hf
    rw [ctl_o (by decide) (by decide)]; exact a2
  have en := fun l1 l2 => en_once (d := d) (L := L) (xs := xs) (I := I) (kp := kp) (sp := sp) (wd := wd) (J := J) (F := F) (cn := cn) (l1 := l1) (l2 := l2) e2 hQ
  refine z_WP_gos [141] 1000 fun K C hK hC => ?_
  conv => whnf
  refine hC _ _ _ _ _ _ _ _ _ _ (fun _ _ _ _ _ _ q => q) (sp_asksWanted (B := B) h.2.2.2.1 (by omega) ?_)
  conv => whnf
  rw [show m_ask (s.1 7) 8 s = m_asked s from rfl]
  generalize m_asked s = z at *
  obtain ⟨ff, w, y⟩ := z
  simp (disch := omega) only [z_lit, nI_add, pk_mul, z_pr1, z_pr2, nI_clamp, z_m3_40, z_m3_41, z_m3_44, z_m3_u40, z_m3_u41, z_m3_u44, z_m3_m3, pk_us, pk_un]
  refine hC _ _ _ _ _ _ _ _ _ _ (fun _ _ _ _ _ _ q => q) (sp_controls (s := (ff, w, y)) ?_)
  conv => whnf
  refine hK _ _ _ _ _ _ _ _ _ _ (en _ _)
theorem sp_goesOnce {B ln f c : Nat} (h : oF s B ln f c) (hB : B + 3000 < 2 ^ 29) (hln : ln + 100 < 2 ^ 30) (hQ : Q none (z_ms I (m_once s)) (z_R0 kp sp wd) J F cn) : z_M (z_X0 L xs) z_P0 (d + 10) m_Mod_goesOnce [.ref 40] (z_ms I s) (z_R0 kp sp wd) J F cn Q := by
  obtain ⟨hs, he, hg, h2, h3, hc, hf⟩ := h
  have po := fun j hj => pre_o (s := s) he (j := j) hj
  have p2 := (po 2 (by omega)).trans h2
  have p3 := (po 3 (by omega)).trans h3
  have p8 := po 8 (by omega)
  have hsP : oS (m_pre s) B ln := oS_c hs fun j hj => po j (by omega)
  have eP : m_sig 48 (m_ev (s.2.1 2764).toNatClampNeg (m_f (m_f s 4 (nI 0)) 7 (nI 0))) = m_pre s := rfl
  unfold m_once at hQ
  have hgE : gS (m_ev (s.2.1 2764).toNatClampNeg (m_f (m_f s 4 (nI 0)) 7 (nI 0))).2.1 := by
    have ee : ∀ j, (j < 15 ∨ 112 ≤ j) → (m_ev (s.2.1 2764).toNatClampNeg (m_f (m_f s 4 (nI 0)) 7 (nI 0))).2.1 j = s.2.1 j := fun j hj => (ev_o (s := m_f (m_f s 4 (nI 0)) 7 (nI 0)) he (j := j) hj _ (Nat.le_refl _)).1
    exact ⟨fun c hc => by rw [ee _ (by omega), ee _ (by omega)]; exact hg.1 c hc, by rw [ee 2 (by omega)]; exact hg.2⟩
  refine z_WP_gos [68, 141] 1000 fun K C hK hC => ?_
  conv => whnf
  simp (disch := omega) only [z_lit, nI_add, pk_mul, z_pr1, z_pr2, nI_clamp, z_m3_40, z_m3_41, z_m3_44, z_m3_u40, z_m3_u41, z_m3_u44, z_m3_m3, pk_us, pk_un]
  refine hC _ _ _ _ _ _ _ _ _ _ (fun _ _ _ _ _ _ q => q) (sp_tellsEvents (s := m_f (m_f s 4 (nI 0)) 7 (nI 0)) he ?_)
  conv => whnf
  refine hC _ _ _ _ _ _ _ _ _ _ (fun _ _ _ _ _ _ q => q) (sp_laysSignals (s := m_ev (s.2.1 2764).toNatClampNeg (m_f (m_f s 4 (nI 0)) 7 (nI 0))) hgE ?_)
  conv => whnf
  rw [eP]
  have hcl : ((m_pre s).2.1 3).toNatClampNeg = c := by rw [p3, nI_clamp (by omega)]
  have hfl : ((m_pre s).2.1 2).toNatClampNeg = f := by rw [p2, nI_clamp (by omega)]
  unfold s_ctp at hQ
  rw [hcl] at hQ
  generalize m_pre s = P at *
  have hsil := fun l1 l2 => en_once (d := d) (L := L) (xs := xs) (I := I) (kp := kp) (sp := sp) (wd := wd) (J := J) (F := F) (cn := cn) (Q := Q) (s := m_sil P) (l1 := l1) (l2 := l2) (f := f) ((sil_o (by decide) (by decide) (by decide)).trans p2)
  have hsW : oS (m_pow P) B ln := oS_c hsP fun j hj => pow_o (by omega)
  have h24 := hsP.1.2.1
  have pw8 : ((m_pow P).2.1 8).toNatClampNeg = (P.2.1 8).toNatClampNeg := congrArg Int32.toNatClampNeg (pow_o (by decide))
  have pw2 : (m_pow P).2.1 2 = P.2.1 2 := pow_o (by decide)
  obtain ⟨⟨ln', q1, q2⟩, q3, -⟩ := lns_oS (f := f) hsW (by omega) (P.2.1 8).toNatClampNeg (by rw [pw8]; exact Nat.le_refl _)
  unfold m_run at hQ
  rw [hfl] at hQ
  have lp := lp_lns (d := d) (L := L) (xs := xs) (I := I) (kp := kp) (sp := sp) (wd := wd) (J := J) (F := F) (cn := cn) (Q := Q) hsW hf (by omega) hln pw8
  generalize (P.2.1 8).toNatClampNeg = sz at *
  have q2' : oS (m_lns f sz (m_pow P)) (B + 2016) ln' := by
    obtain ⟨a, b, c, d, e⟩ := q2
    exact ⟨a, b, c, ok_le d (by omega), e⟩
  have qf : (m_lns f sz (m_pow P)).2.1 2 = nI f := (q3 2 (by omega)).trans (pw2.trans p2)
  have main : ¬ P.2.1 (31 + c) = nI 0 → z_WP (z_X0 L xs) z_P0 (d + 10) m_Mod_goesOnce 68 [some (.ref 40), some (.int (nI f)), some (.int (nI 0))] [] (z_ms I (m_pow P)) (z_R0 kp sp wd) J F cn 0 0 Q := by
    intro hz
    rw [if_neg hz] at hQ
    exact lp (en_run q2' qf (by omega) hQ) sz 0 (by omega)
  clear lp q2 q3 q2' qf
  obtain ⟨ff, w, y⟩ := P
  unfold m_pow m_w m_f at main
  simp only at main p3 p2 hQ
  repeat ((first | refine And.intro (by (conv => arg 2; whnf); (try simp only [z_lit, nI_add, pk_mul, z_pr1, z_pr2]); exact z_in (by omega) (by decide)) ?_ | refine z_bt1 (by decide) ?_ | refine z_bf1 (by decide) ?_ | refine z_bt2 (by decide) ?_ | refine z_bf2 (by decide) ?_); conv => whnf)
  simp (disch := omega) only [z_lit, nI_add, pk_mul, z_pr1, z_pr2, nI_clamp, z_m3_40, z_m3_41, z_m3_44, z_m3_u40, z_m3_u41, z_m3_u44, z_m3_m3, pk_us, pk_un]
  rw [p3]
  simp (disch := omega) only [z_lit, nI_add, pk_mul, z_pr1, z_pr2, nI_clamp, z_m3_40, z_m3_41, z_m3_44, z_m3_u40, z_m3_u41, z_m3_u44, z_m3_m3, pk_us, pk_un]
  repeat ((first | refine And.intro (by (conv => arg 2; whnf); (try simp only [z_lit, nI_add, pk_mul, z_pr1, z_pr2]); exact z_in (by omega) (by decide)) ?_ | refine z_bt1 (by decide) ?_ | refine z_bf1 (by decide) ?_ | refine z_bt2 (by decide) ?_ | refine z_bf2 (by decide) ?_); conv => whnf)
  simp (disch := omega) only [z_lit, nI_add, pk_mul, z_pr1, z_pr2, nI_clamp, z_m3_40, z_m3_41, z_m3_44, z_m3_u40, z_m3_u41, z_m3_u44, z_m3_m3, pk_us, pk_un]
  refine ⟨fun g => ?_, fun g => ?_⟩
  · have mm := main g
    conv => whnf
    repeat ((first | refine And.intro (by (conv => arg 2; whnf); (try simp only [z_lit, nI_add, pk_mul, z_pr1, z_pr2]); exact z_in (by omega) (by decide)) ?_ | refine z_bt1 (by decide) ?_ | refine z_bf1 (by decide) ?_ | refine z_bt2 (by decide) ?_ | refine z_bf2 (by decide) ?_); conv => whnf)
    simp (disch := omega) only [z_lit, nI_add, pk_mul, z_pr1, z_pr2, nI_clamp, z_m3_40, z_m3_41, z_m3_44, z_m3_u40, z_m3_u41, z_m3_u44, z_m3_m3, pk_us, pk_un]
    rw [p2]
    rw [p3] at mm ⊢
    refine hK _ _ _ _ _ _ _ _ _ _ (mm)
  · rw [if_pos g] at hQ
    conv => whnf
    refine hC _ _ _ _ _ _ _ _ _ _ (fun _ _ _ _ _ _ q => q) (sp_isSilent (s := (ff, w, y)) ?_)
    conv => whnf
    refine hK _ _ _ _ _ _ _ _ _ _ (hsil _ _ hQ)
end
