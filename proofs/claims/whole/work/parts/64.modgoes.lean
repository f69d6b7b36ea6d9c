/-! the model: a line goes -/
def m_f (s : z_sg) (k : Nat) (v : Int32) : z_sg := (upd s.1 k v, s.2.1, s.2.2)
def m_hd (s1 : z_sg) (kd t : Nat) : z_sg := if kd = 5 ∧ s1.1 26 = nI 0 then (if s1.1 6 = nI 1 then m_f s1 24 (nI t) else m_f s1 26 (nI 5)) else s1
def m_in (s : z_sg) (o : Int32) : z_sg := (upd (upd (upd s.1 26 o) 27 (nI 0)) 28 (-1), s.2.1, s.2.2)
def m_tl (s : z_sg) (i : Nat) : z_sg := m_hd (m_lp i 4 (m_in s (nI 6)) (lnn s.2.1 i 8) 0) (lnn s.2.1 i 0) (lnn s.2.1 i 1)
theorem ln_b {w : Nat → Int32} {i : Nat} (h : ln_ok w i) : lnn w i 8 < 2 := by
  obtain ⟨-, -, -, -, -, -, -, -, -, -, -, -, -, h1, -⟩ := h
  exact h1
theorem l_n_lt {w : Nat → Int32} {i : Nat} (h : ln_ok w i) : l_n w i < 32 := by
  have h3 : lnn w i 3 ≤ 8 := h.2.2.2.2.2.2.1
  have := ln_c h
  unfold l_n; split
  · omega
  · split <;> omega
/-- the outcome of a line's tries -/
theorem lp_oc {i : Nat} (hi : i < 24) : ∀ fu (s : z_sg) bus tr, ln_ok s.2.1 i → bus < 2 → (∃ o, o ≤ 7 ∧ s.1 26 = nI o) → ∃ o, o ≤ 7 ∧ (m_lp i fu s bus tr).1 26 = nI o
  | 0, s, bus, tr, ho, hb, h => h
  | fu + 1, s, bus, tr, ho, hb, h => by
    unfold m_lp
    cases s_much s (nI (s_time s.2.1 i))
    · simp only [cond_false]
      have k1 : m_kept s (m_set3 (m_try1 s i bus).1 (m_try1 s i bus).2 (tr + 1) (nI bus)) := kept_try ho hb
      have h1 : ∃ o, o ≤ 7 ∧ (m_set3 (m_try1 s i bus).1 (m_try1 s i bus).2 (tr + 1) (nI bus)).1 26 = nI o := by
        obtain ⟨o, h1, h2⟩ := try1_oc (bus := bus) ho
        exact ⟨o, by omega, h2⟩
      cases s_lost (m_try1 s i bus).2 && decide (nI (tr + 1) ≤ s.2.1 1)
      · exact h1
      · exact lp_oc hi fu _ (1 - bus) (tr + 1) (ln_ok_c (kept_ln k1) hi ho) (by omega) h1
    · exact h
theorem hd_oc {s1 : z_sg} {kd t : Nat} (h : ∃ o, o ≤ 7 ∧ s1.1 26 = nI o) : ∃ o, o ≤ 7 ∧ (m_hd s1 kd t).1 26 = nI o := by
  unfold m_hd
  split
  · split
    · exact h
    · exact ⟨5, by omega, rfl⟩
  · exact h
theorem hd_w {s1 : z_sg} {kd t : Nat} : (m_hd s1 kd t).2.1 = s1.2.1 := by
  unfold m_hd
  split
  · split <;> rfl
  · rfl
theorem hd_kept {s s1 : z_sg} {kd t : Nat} (h : m_kept s s1) : m_kept s (m_hd s1 kd t) := by
  refine ⟨fun j hj => by rw [hd_w]; exact h.1 j hj, fun j a b c d e => ?_⟩
  unfold m_hd
  split
  · split
    · exact (pk_un b).trans (h.2 j a b c d e)
    · exact (pk_un c).trans (h.2 j a b c d e)
  · exact h.2 j a b c d e
theorem in_kept {s : z_sg} {o : Int32} : m_kept s (m_in s o) := ⟨fun _ _ => rfl, fun j a b c d e => by
  show upd (upd (upd _ _ _) _ _) _ _ j = _
  rw [pk_un e, pk_un d, pk_un c]⟩
theorem tl_kept {s : z_sg} {i : Nat} (hi : i < 24) (ho : ln_ok s.2.1 i) : m_kept s (m_tl s i) := hd_kept (kept_t in_kept (lp_kept hi 4 (m_in s (nI 6)) (lnn s.2.1 i 8) 0 ho (ln_b ho)))
theorem tl_oc {s : z_sg} {i : Nat} (hi : i < 24) (ho : ln_ok s.2.1 i) : ∃ o, o ≤ 7 ∧ (m_tl s i).1 26 = nI o := hd_oc (lp_oc hi 4 (m_in s (nI 6)) (lnn s.2.1 i 8) 0 ho (ln_b ho) ⟨6, by omega, rfl⟩)
theorem hd_ok {s1 : z_sg} {kd t B : Nat} (h : m_ok s1 B) : m_ok (m_hd s1 kd t) B := by
  unfold m_ok at h ⊢; rw [hd_w]; exact h
theorem hd_fok {s1 : z_sg} {kd t : Nat} (h : m_fok s1) : m_fok (m_hd s1 kd t) := by
  unfold m_fok at h ⊢; rw [hd_w]; exact h
theorem in_ok {s : z_sg} {o : Int32} {B : Nat} (h : m_ok s B) : m_ok (m_in s o) B := h
theorem in_fok {s : z_sg} {o : Int32} (h : m_fok s) : m_fok (m_in s o) := h
theorem tl_ok {s : z_sg} {i B : Nat} (hi : i < 24) (ho : ln_ok s.2.1 i) (hs : m_ok s B) (hf : m_fok s) (hB : B + 150 < 2 ^ 29) : m_ok (m_tl s i) (B + 84) ∧ m_fok (m_tl s i) := by
  have q := lp_ok hi 4 (m_in s (nI 6)) (lnn s.2.1 i 8) 0 B ho (ln_b ho) (in_ok hs) (in_fok hf) (by omega)
  exact ⟨hd_ok q.1, hd_fok q.2⟩
section
variable {L : Nat} {xs : Nat → Int32} {d : Nat} {kp sp wd : Value} {I : z_I} {s : z_sg} {R : z_R} {J : z_J} {F : z_F} {cn : Nat} {Q : z_Q}
theorem en_tl {kd nn i : Nat} {s1 : z_sg} {b' ag : Int32} (hi : i < 24) (ho : ln_ok s1.2.1 i) (hk : kd ≤ 5) (hQ : Q none (z_ms I (m_hd s1 kd (lnn s1.2.1 i 1))) (z_R0 kp sp wd) J F cn) :
    z_WP (z_X0 L xs) z_P0 (d + 8) m_Mod_triesLine 185 [some (.ref 40), some (.int (nI i)), some (.int (nI kd)), some (.int (nI nn)), some (.int b'), some (.int ag)] [] (z_ms I s1) (z_R0 kp sp wd) J F cn 0 0 Q := by
  unfold m_hd at hQ
  refine z_WP_gos [] 1000 fun K C hK hC => ?_
  conv => whnf
  refine ⟨fun g5 => ?_, fun g5 => ?_⟩
  · have n5 : ¬ kd = 5 := fun z => g5 (by rw [z]; rfl)
    rw [if_neg (fun z => n5 z.1)] at hQ
    conv => whnf
    exact hQ
  · have n5 : kd = 5 := nI_inj9 (by omega) (by omega) g5
    conv => whnf
    refine ⟨fun g => ?_, fun g => ?_⟩ <;> (try simp (disch := omega) only [z_lit, nI_add, pk_mul, z_pr1, z_pr2, nI_clamp, z_m3_40, z_m3_41, z_m3_44, z_m3_u40, z_m3_u41, z_m3_u44, z_m3_m3, pk_us, pk_un] at g) <;> (conv => whnf)
    · rw [if_pos ⟨n5, g⟩] at hQ
      refine ⟨fun e => ?_, fun e => ?_⟩ <;> (try simp (disch := omega) only [z_lit, nI_add, pk_mul, z_pr1, z_pr2, nI_clamp, z_m3_40, z_m3_41, z_m3_44, z_m3_u40, z_m3_u41, z_m3_u44, z_m3_m3, pk_us, pk_un] at e) <;> (conv => whnf)
      · rw [if_neg e] at hQ
        refine z_Qv hQ ?_
        simp (disch := omega) only [z_lit, nI_add, pk_mul, z_pr1, z_pr2, nI_clamp, z_m3_40, z_m3_41, z_m3_44, z_m3_u40, z_m3_u41, z_m3_u44, z_m3_m3, pk_us, pk_un]
        rfl
      · rw [if_pos e] at hQ
        refine hC _ _ _ _ _ _ _ _ _ _ (fun _ _ _ _ _ _ q => q) (sp_toldn (s := s1) (f := 1) hi (by decide) ho ?_)
        conv => whnf
        refine z_Qv hQ ?_
        simp (disch := omega) only [z_lit, nI_add, pk_mul, z_pr1, z_pr2, nI_clamp, z_m3_40, z_m3_41, z_m3_44, z_m3_u40, z_m3_u41, z_m3_u44, z_m3_m3, pk_us, pk_un]
        rfl
    · rw [if_neg (fun z => g z.2)] at hQ
      exact hQ
theorem sp_triesLine {i B : Nat} (hi : i < 24) (ho : ln_ok s.2.1 i) (hrt : ∃ rt, rt ≤ 3 ∧ s.2.1 1 = nI rt) (hs : m_ok s B) (hf : m_fok s) (hB : B + 150 < 2 ^ 29) (hQ : Q none (z_ms I (m_tl s i)) (z_R0 kp sp wd) J F cn) :
    z_M (z_X0 L xs) z_P0 (d + 8) m_Mod_triesLine [.ref 40, .int (nI i)] (z_ms I s) (z_R0 kp sp wd) J F cn Q := by
  have hk5 : lnn s.2.1 i 0 ≤ 5 := ho.2.1
  have k1 := lp_kept hi 4 (m_in s (nI 6)) (lnn s.2.1 i 8) 0 ho (ln_b ho)
  have fin : z_WP (z_X0 L xs) z_P0 (d + 8) m_Mod_triesLine 66 [some (.ref 40), some (.int (nI i)), some (.int (nI (lnn s.2.1 i 0))), some (.int (nI (l_n s.2.1 i))), some (.int (nI (lnn s.2.1 i 8))), some (.int (nI 1))] [] (z_ms I (m_in s (nI 6))) (z_R0 kp sp wd) J F cn 0 0 Q := by
    refine lp_tl hi 4 (m_in s (nI 6)) (lnn s.2.1 i 8) 0 B (l_n s.2.1 i) rfl (by omega) ho (ln_b ho) rfl hrt rfl rfl (in_ok hs) (in_fok hf) (by omega) (fun b' ag => ?_)
    refine en_tl hi (ln_ok_c (kept_ln k1) hi ho) hk5 ?_
    rw [lnn_c (kept_ln k1) hi (by omega)]
    exact hQ
  unfold l_n at fin
  refine z_WP_gos [66] 1000 fun K C hK hC => ?_
  conv => whnf
  refine hC _ _ _ _ _ _ _ _ _ _ (fun _ _ _ _ _ _ q => q) (sp_toldn (s := s) (f := 0) hi (by decide) ho ?_)
  conv => whnf
  refine ⟨fun g4 => ?_, fun g4 => ?_⟩
  · have n4 : ¬ lnn s.2.1 i 0 = 4 := fun z => g4 (by rw [z]; rfl)
    rw [if_neg n4] at fin
    conv => whnf
    refine ⟨fun g5 => ?_, fun g5 => ?_⟩
    · have n5 : ¬ lnn s.2.1 i 0 = 5 := fun z => g5 (by rw [z]; rfl)
      rw [if_neg n5] at fin
      conv => whnf
      refine hC _ _ _ _ _ _ _ _ _ _ (fun _ _ _ _ _ _ q => q) (sp_toldn (s := s) (f := 3) hi (by decide) ho ?_)
      conv => whnf
      refine hC _ _ _ _ _ _ _ _ _ _ (fun _ _ _ _ _ _ q => q) (sp_toldn (s := s) (f := 8) hi (by decide) ho ?_)
      conv => whnf
      simp (disch := omega) only [z_lit, nI_add, pk_mul, z_pr1, z_pr2, nI_clamp, z_m3_40, z_m3_41, z_m3_44, z_m3_u40, z_m3_u41, z_m3_u44, z_m3_m3, pk_us, pk_un]
      refine hK _ _ _ _ _ _ _ _ _ _ (fin)
    · have n5 : lnn s.2.1 i 0 = 5 := nI_inj9 (by omega) (by omega) g5
      rw [if_pos n5] at fin
      conv => whnf
      refine hC _ _ _ _ _ _ _ _ _ _ (fun _ _ _ _ _ _ q => q) (sp_toldn (s := s) (f := 8) hi (by decide) ho ?_)
      conv => whnf
      simp (disch := omega) only [z_lit, nI_add, pk_mul, z_pr1, z_pr2, nI_clamp, z_m3_40, z_m3_41, z_m3_44, z_m3_u40, z_m3_u41, z_m3_u44, z_m3_m3, pk_us, pk_un]
      refine hK _ _ _ _ _ _ _ _ _ _ (fin)
  · have n4 : lnn s.2.1 i 0 = 4 := nI_inj9 (by omega) (by omega) g4
    rw [if_pos n4] at fin
    conv => whnf
    refine hC _ _ _ _ _ _ _ _ _ _ (fun _ _ _ _ _ _ q => q) (sp_toldn (s := s) (f := 10) hi (by decide) ho ?_)
    conv => whnf
    refine hC _ _ _ _ _ _ _ _ _ _ (fun _ _ _ _ _ _ q => q) (sp_toldn (s := s) (f := 8) hi (by decide) ho ?_)
    conv => whnf
    simp (disch := omega) only [z_lit, nI_add, pk_mul, z_pr1, z_pr2, nI_clamp, z_m3_40, z_m3_41, z_m3_44, z_m3_u40, z_m3_u41, z_m3_u44, z_m3_m3, pk_us, pk_un]
    refine hK _ _ _ _ _ _ _ _ _ _ (fin)
/-- the log and the line's own counts -/
def w_log (w f : Nat → Int32) (i q : Nat) : Nat → Int32 := upd (upd (upd (upd (upd (upd w (1920 + 5 * q) (w 2)) (1920 + 5 * q + 1) (nI i)) (1920 + 5 * q + 2) (f 27)) (1920 + 5 * q + 3) (f 28)) (1920 + 5 * q + 4) (f 26)) 9 (w 9 + nI 1)
def w_cnt (w : Nat → Int32) (i o : Nat) : Nat → Int32 := upd (upd (upd (upd w (1584 + 14 * i + 11) (w (1584 + 14 * i + 11) + nI 1)) (2572 + 8 * i + o) (w (2572 + 8 * i + o) + nI 1)) (1584 + 14 * i + 12) (w (1584 + 14 * i + 12) + (if o = 0 then nI 1 else nI 0))) (1584 + 14 * i + 13) (nI o)
def m_nt (s : z_sg) (i o : Nat) : z_sg := (s.1, w_cnt (w_log s.2.1 s.1 i ((s.2.1 9).toNatClampNeg % 60)) i o, s.2.2)
theorem en_goes {i o ln : Nat} {l2 l3 : Option Value} (hi : i < 24) (ho : o ≤ 7) (h26 : s.1 26 = nI o) (h9 : s.2.1 9 = nI ln) (hln : ln < 2 ^ 30) (hQ : Q (some (.int (z_bi (decide (o = 0))))) (z_ms I (m_nt s i o)) (z_R0 kp sp wd) J F cn) :
    z_WP (z_X0 L xs) z_P0 (d + 9) m_Mod_goes 29 [some (.ref 40), some (.int (nI i)), l2, l3] [] (z_ms I s) (z_R0 kp sp wd) J F cn 0 0 Q := by
  have hrem : nI ln - nI ln / nI 60 * nI 60 = nI (ln % 60) := pk_rem (by omega) (by decide) (by decide)
  have hm : ln % 60 < 60 := Nat.mod_lt _ (by decide)
  unfold m_nt at hQ
  rw [h9, nI_clamp (by omega)] at hQ
  generalize ln % 60 = q at hrem hm hQ
  refine z_WP_gos [] 1000 fun K C hK hC => ?_
  conv => whnf
  repeat ((first | refine And.intro (by (conv => arg 2; whnf); (try simp only [z_lit, nI_add, pk_mul, z_pr1, z_pr2]); exact z_in (by omega) (by decide)) ?_ | refine z_bt1 (by decide) ?_ | refine z_bf1 (by decide) ?_ | refine z_bt2 (by decide) ?_ | refine z_bf2 (by decide) ?_); conv => whnf)
  refine ⟨by decide, ?_⟩
  conv => whnf
  simp (disch := omega) only [z_lit, nI_add, pk_mul, z_pr1, z_pr2, nI_clamp, z_m3_40, z_m3_41, z_m3_44, z_m3_u40, z_m3_u41, z_m3_u44, z_m3_m3, pk_us, pk_un]
  rw [h9, hrem]
  simp (disch := omega) only [z_lit, nI_add, pk_mul, z_pr1, z_pr2, nI_clamp, z_m3_40, z_m3_41, z_m3_44, z_m3_u40, z_m3_u41, z_m3_u44, z_m3_m3, pk_us, pk_un]
  repeat ((first | refine And.intro (by (conv => arg 2; whnf); (try simp only [z_lit, nI_add, pk_mul, z_pr1, z_pr2]); exact z_in (by omega) (by decide)) ?_ | refine z_bt1 (by decide) ?_ | refine z_bf1 (by decide) ?_ | refine z_bt2 (by decide) ?_ | refine z_bf2 (by decide) ?_); conv => whnf)
  simp (disch := omega) only [z_lit, nI_add, pk_mul, z_pr1, z_pr2, nI_clamp, z_m3_40, z_m3_41, z_m3_44, z_m3_u40, z_m3_u41, z_m3_u44, z_m3_m3, pk_us, pk_un]
  repeat ((first | refine And.intro (by (conv => arg 2; whnf); (try simp only [z_lit, nI_add, pk_mul, z_pr1, z_pr2]); exact z_in (by omega) (by decide)) ?_ | refine z_bt1 (by decide) ?_ | refine z_bf1 (by decide) ?_ | refine z_bt2 (by decide) ?_ | refine z_bf2 (by decide) ?_); conv => whnf)
  rw [h26]
  simp (disch := omega) only [z_lit, nI_add, pk_mul, z_pr1, z_pr2, nI_clamp, z_m3_40, z_m3_41, z_m3_44, z_m3_u40, z_m3_u41, z_m3_u44, z_m3_m3, pk_us, pk_un]
  repeat ((first | refine And.intro (by (conv => arg 2; whnf); (try simp only [z_lit, nI_add, pk_mul, z_pr1, z_pr2]); exact z_in (by omega) (by decide)) ?_ | refine z_bt1 (by decide) ?_ | refine z_bf1 (by decide) ?_ | refine z_bt2 (by decide) ?_ | refine z_bf2 (by decide) ?_); conv => whnf)
  simp (disch := omega) only [z_lit, nI_add, pk_mul, z_pr1, z_pr2, nI_clamp, z_m3_40, z_m3_41, z_m3_44, z_m3_u40, z_m3_u41, z_m3_u44, z_m3_m3, pk_us, pk_un]
  rw [h26]
  have hst : z_m3 I s.1 (upd (upd (upd (upd (upd (upd (upd (upd (upd (upd s.2.1 (1920 + 5 * q) (s.2.1 2)) (1920 + 5 * q + 1) (nI i)) (1920 + 5 * q + 2) (s.1 27)) (1920 + 5 * q + 3) (s.1 28)) (1920 + 5 * q + 4) (nI o)) 9 (s.2.1 9 + nI 1)) (1584 + 14 * i + 11) (s.2.1 (1584 + 14 * i + 11) + nI 1)) (2572 + 8 * i + o) (s.2.1 (2572 + 8 * i + o) + nI 1)) (1584 + 14 * i + 12) (s.2.1 (1584 + 14 * i + 12) + (if o = 0 then nI 1 else nI 0))) (1584 + 14 * i + 13) (nI o)) s.2.2 = z_ms I (s.1, w_cnt (w_log s.2.1 s.1 i q) i o, s.2.2) := by
    unfold w_cnt w_log
    simp (disch := omega) only [pk_un]
    rw [h26]
  refine ⟨fun g => ?_, fun g => ?_⟩
  · have ho0 : ¬ o = 0 := fun z => g (by rw [z])
    rw [decide_eq_false ho0] at hQ
    rw [if_neg ho0] at hst
    conv => whnf
    repeat ((first | refine And.intro (by (conv => arg 2; whnf); (try simp only [z_lit, nI_add, pk_mul, z_pr1, z_pr2]); exact z_in (by omega) (by decide)) ?_ | refine z_bt1 (by decide) ?_ | refine z_bf1 (by decide) ?_ | refine z_bt2 (by decide) ?_ | refine z_bf2 (by decide) ?_); conv => whnf)
    simp (disch := omega) only [z_lit, nI_add, pk_mul, z_pr1, z_pr2, nI_clamp, z_m3_40, z_m3_41, z_m3_44, z_m3_u40, z_m3_u41, z_m3_u44, z_m3_m3, pk_us, pk_un]
    rw [h26]
    repeat ((first | refine And.intro (by (conv => arg 2; whnf); (try simp only [z_lit, nI_add, pk_mul, z_pr1, z_pr2]); exact z_in (by omega) (by decide)) ?_ | refine z_bt1 (by decide) ?_ | refine z_bf1 (by decide) ?_ | refine z_bt2 (by decide) ?_ | refine z_bf2 (by decide) ?_ | refine z_bt1 (by first | exact g) ?_ | refine z_bf1 (by first | exact g) ?_ | refine z_bt2 (by first | exact g) ?_ | refine z_bf2 (by first | exact g) ?_); conv => whnf)
    simp (disch := omega) only [z_lit, nI_add, pk_mul, z_pr1, z_pr2, nI_clamp, z_m3_40, z_m3_41, z_m3_44, z_m3_u40, z_m3_u41, z_m3_u44, z_m3_m3, pk_us, pk_un]
    exact ⟨Or.inl trivial, z_Qi hQ rfl hst⟩
  · have ho0 : o = 0 := nI_inj9 (by omega) (by omega) g
    rw [decide_eq_true ho0] at hQ
    rw [if_pos ho0] at hst
    conv => whnf
    repeat ((first | refine And.intro (by (conv => arg 2; whnf); (try simp only [z_lit, nI_add, pk_mul, z_pr1, z_pr2]); exact z_in (by omega) (by decide)) ?_ | refine z_bt1 (by decide) ?_ | refine z_bf1 (by decide) ?_ | refine z_bt2 (by decide) ?_ | refine z_bf2 (by decide) ?_); conv => whnf)
    simp (disch := omega) only [z_lit, nI_add, pk_mul, z_pr1, z_pr2, nI_clamp, z_m3_40, z_m3_41, z_m3_44, z_m3_u40, z_m3_u41, z_m3_u44, z_m3_m3, pk_us, pk_un]
    rw [h26]
    repeat ((first | refine And.intro (by (conv => arg 2; whnf); (try simp only [z_lit, nI_add, pk_mul, z_pr1, z_pr2]); exact z_in (by omega) (by decide)) ?_ | refine z_bt1 (by decide) ?_ | refine z_bf1 (by decide) ?_ | refine z_bt2 (by decide) ?_ | refine z_bf2 (by decide) ?_ | refine z_bt1 (by first | exact g) ?_ | refine z_bf1 (by first | exact g) ?_ | refine z_bt2 (by first | exact g) ?_ | refine z_bf2 (by first | exact g) ?_); conv => whnf)
    simp (disch := omega) only [z_lit, nI_add, pk_mul, z_pr1, z_pr2, nI_clamp, z_m3_40, z_m3_41, z_m3_44, z_m3_u40, z_m3_u41, z_m3_u44, z_m3_m3, pk_us, pk_un]
    exact ⟨Or.inr trivial, z_Qi hQ rfl hst⟩
def m_goes (s : z_sg) (i : Nat) : z_sg := bif s_toC s.2.1 i then m_in s (nI 7) else m_tl (m_in s (nI 7)) i
def s_out (s : z_sg) : Nat := (s.1 26).toNatClampNeg
theorem goes_oc {i : Nat} (hi : i < 24) (ho : ln_ok s.2.1 i) : ∃ o, o ≤ 7 ∧ (m_goes s i).1 26 = nI o ∧ s_out (m_goes s i) = o := by
  have h : ∃ o, o ≤ 7 ∧ (m_goes s i).1 26 = nI o := by
    unfold m_goes
    cases s_toC s.2.1 i
    · exact tl_oc hi ho
    · exact ⟨7, by omega, rfl⟩
  obtain ⟨o, h1, h2⟩ := h
  refine ⟨o, h1, h2, ?_⟩
  unfold s_out
  rw [h2, nI_clamp (by omega)]
theorem goes_kept {i : Nat} (hi : i < 24) (ho : ln_ok s.2.1 i) : m_kept s (m_goes s i) := by
  unfold m_goes
  cases s_toC s.2.1 i
  · exact kept_t in_kept (tl_kept hi ho)
  · exact in_kept
theorem goes_ok {i B : Nat} (hi : i < 24) (ho : ln_ok s.2.1 i) (hs : m_ok s B) (hf : m_fok s) (hB : B + 150 < 2 ^ 29) : m_ok (m_goes s i) (B + 84) ∧ m_fok (m_goes s i) := by
  unfold m_goes
  cases s_toC s.2.1 i
  · exact tl_ok hi ho (in_ok hs) (in_fok hf) hB
  · exact ⟨m_ok_mo (in_ok hs) (by omega), in_fok hf⟩
theorem sp_goes {i B ln : Nat} (hi : i < 24) (ho : ln_ok s.2.1 i) (hrt : ∃ rt, rt ≤ 3 ∧ s.2.1 1 = nI rt) (h9 : s.2.1 9 = nI ln) (hln : ln < 2 ^ 30) (hs : m_ok s B) (hf : m_fok s) (hB : B + 150 < 2 ^ 29) (hQ : Q (some (.int (z_bi (decide (s_out (m_goes s i) = 0))))) (z_ms I (m_nt (m_goes s i) i (s_out (m_goes s i)))) (z_R0 kp sp wd) J F cn) :
    z_M (z_X0 L xs) z_P0 (d + 9) m_Mod_goes [.ref 40, .int (nI i)] (z_ms I s) (z_R0 kp sp wd) J F cn Q := by
  obtain ⟨o, h1, h2, h3⟩ := goes_oc (s := s) hi ho
  have k9 : (m_goes s i).2.1 9 = nI ln := by rw [(goes_kept hi ho).1 9 (by omega), h9]
  rw [h3] at hQ
  have fin : z_WP (z_X0 L xs) z_P0 (d + 9) m_Mod_goes 29 [some (.ref 40), some (.int (nI i)), none, none] [] (z_ms I (m_goes s i)) (z_R0 kp sp wd) J F cn 0 0 Q := en_goes hi h1 h2 k9 hln hQ
  unfold m_goes at fin
  refine z_WP_gos [29] 1000 fun K C hK hC => ?_
  conv => whnf
  simp (disch := omega) only [z_lit, nI_add, pk_mul, z_pr1, z_pr2, nI_clamp, z_m3_40, z_m3_41, z_m3_44, z_m3_u40, z_m3_u41, z_m3_u44, z_m3_m3, pk_us, pk_un]
  refine hC _ _ _ _ _ _ _ _ _ _ (fun _ _ _ _ _ _ q => q) (sp_isToController (s := m_in s (nI 7)) hi ho ?_)
  conv => whnf
  rw [show (m_in s (nI 7)).2.1 = s.2.1 from rfl]
  cases hc : s_toC s.2.1 i <;> rw [hc] at fin
  · repeat ((first | refine And.intro (by (conv => arg 2; whnf); (try simp only [z_lit, nI_add, pk_mul, z_pr1, z_pr2]); exact z_in (by omega) (by decide)) ?_ | refine z_bt1 (by decide) ?_ | refine z_bf1 (by decide) ?_ | refine z_bt2 (by decide) ?_ | refine z_bf2 (by decide) ?_); conv => whnf)
    refine hC _ _ _ _ _ _ _ _ _ _ (fun _ _ _ _ _ _ q => q) (sp_triesLine (s := m_in s (nI 7)) hi ho hrt (in_ok hs) (in_fok hf) hB ?_)
    conv => whnf
    refine hK _ _ _ _ _ _ _ _ _ _ (fin)
  · repeat ((first | refine And.intro (by (conv => arg 2; whnf); (try simp only [z_lit, nI_add, pk_mul, z_pr1, z_pr2]); exact z_in (by omega) (by decide)) ?_ | refine z_bt1 (by decide) ?_ | refine z_bf1 (by decide) ?_ | refine z_bt2 (by decide) ?_ | refine z_bf2 (by decide) ?_); conv => whnf)
    refine hK _ _ _ _ _ _ _ _ _ _ (fin)
end
