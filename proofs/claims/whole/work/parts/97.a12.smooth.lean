/-! what may be asked: what is smoothed -/
theorem z_WP_ls {X : z_X} {P : z_P} {d m pc : Nat} {L : z_L} {st : List Value} {I : z_I} {R : z_R} {J : z_J} {F : z_F} {cn uc us : Nat} {Q : z_Q} {x : Int32} (g : Nat) {i1 i2 len a b c dd v ps r}
    (he : z_from pc (P m).2.2 = ((pc, .lookupswitch i1 i2, len, (a, b, c, dd), v, ps) : z_E) :: r) (hg : z_swt x a ps = g) (q : z_WP X P d m g L st I R J F cn uc us Q) : z_WP X P d m pc L (.int x :: st) I R J F cn uc us Q :=
  z_WP_cl d m (pc, .lookupswitch i1 i2, len, (a, b, c, dd), v, ps) L (.int x :: st) I R J F cn uc us Q (z_from_sub (pc := pc) (by rw [he]; exact List.mem_cons_self)) (z_sw_of (k := fun g => z_WP X P d m g L st I R J F cn uc us Q) ps (by rw [hg]; exact q))
def smq (t u : Int32) (c : Nat) : Prop := ∃ t' u', t' < 8 ∧ u' < 6 ∧ t = nI t' ∧ u = nI (u' + 1) ∧ c = 6 * t' + u'
def f_1000 (v : Int32) : Int32 := FP.f2i (FP.fmul v.toUInt32 (UInt32.ofNat 1148846080))
theorem f_1000n {v : Int32} (h : f_ok v) : vf_n32 (FP.fmul v.toUInt32 (UInt32.ofNat 1148846080)) ∧ vn_sni2f v = false := by
  obtain ⟨s, c, q, hx, hu, -⟩ := h
  refine ⟨?_, f_sni hx⟩
  have hc : fv (UInt32.ofNat 1148846080) = .fin false 16384000 (-14) := by decide +kernel
  have hs : (s != false) = s := by cases s <;> rfl
  obtain ⟨g1, g2, g3, g4⟩ := f_fits hx
  by_cases hz : c = 0
  · subst hz
    refine f_nn (f_mul_v (c' := 0) (q' := -149) (s' := s) _ _ hx hc ?_ ⟨by decide, by decide, by decide, Or.inl rfl⟩)
    rw [hs, Nat.zero_mul]
    unfold FP.Core.roundRatio; rw [if_pos rfl]; rfl
  · have hcp : 0 < c := Nat.pos_of_ne_zero hz
    unfold f_u at hu
    obtain ⟨h1, h2⟩ := f_le_of hcp hu
    have hA : 0 < c * 16384000 := by omega
    have h3 : c * 16384000 ≤ 2 ^ ((34 : Int) - (q + (-14))).toNat := by
      have := Nat.mul_le_mul h2 (show 16384000 ≤ 2 ^ 24 by decide)
      rw [f_p2] at this
      refine Nat.le_trans this (Nat.pow_le_pow_right (by decide) (by omega))
    obtain ⟨c', q', r1, r2, -⟩ := f_rnd (s := s) (A := c * 16384000) (e := q + (-14)) (m := 34) hA (by omega) h3 (by omega) (by omega)
    exact f_nn (f_mul_v _ _ hx hc (by rw [hs]; exact r1) r2)
theorem f_ok_nm {v : Int32} (h : f_ok v) : f_nm v.toUInt32 := by
  obtain ⟨s, c, q, hx, -, hz⟩ := h
  exact ⟨s, c, q, hx, hz⟩
section
variable {L : Nat} {xs : Nat → Int32} {d : Nat} {kp sp wd : Value} {I : z_I} {s : z_sg} {R : z_R} {J : z_J} {F : z_F} {cn : Nat} {Q : z_Q} {n k : Nat}
theorem sp_smooth {t u q : Int32} (hf : m_fok s) (h1 : ∀ c, smq t u c → q = nI 0 → Q (some (.int (s.2.1 (1536 + c)))) (z_ms I s) (z_R0 kp sp wd) J F cn) (h2 : ∀ c, smq t u c → q = nI 1 → Q (some (.int (f_1000 (s.2.1 (1536 + c))))) (z_ms I s) (z_R0 kp sp wd) J F cn) (h0 : (∀ c, smq t u c → q ≠ nI 0 ∧ q ≠ nI 1) → Q (some (.int 0)) (z_ms I s) (z_R0 kp sp wd) J F cn) :
    z_M (z_X0 L xs) z_P0 (d + 2) m_Mod_smooth [.ref 40, .int t, .int u, .int q] (z_ms I s) (z_R0 kp sp wd) J F cn Q := by
  refine z_WP_gos [] 1000 fun K C hK hC => ?_
  conv => whnf
  refine hC _ _ _ _ _ _ _ _ _ _ (fun _ _ _ _ _ _ q => q) (sp_Mod_isTerminal (fun t' ht et => ?_) (fun x => ?_))
  conv => whnf
  rotate_left
  · repeat ((first | refine And.intro (by (conv => arg 2; whnf); (try simp only [z_lit, nI_add, pk_mul, z_pr1, z_pr2]); exact z_in (by omega) (by decide)) ?_ | refine z_bt1 (by decide) ?_ | refine z_bf1 (by decide) ?_ | refine z_bt2 (by decide) ?_ | refine z_bf2 (by decide) ?_); conv => whnf)
    refine h0 fun c h => ?_
    obtain ⟨t', u', a, b, e, -⟩ := h
    exact absurd e (x t' a)
  repeat ((first | refine And.intro (by (conv => arg 2; whnf); (try simp only [z_lit, nI_add, pk_mul, z_pr1, z_pr2]); exact z_in (by omega) (by decide)) ?_ | refine z_bt1 (by decide) ?_ | refine z_bf1 (by decide) ?_ | refine z_bt2 (by decide) ?_ | refine z_bf2 (by decide) ?_); conv => whnf)
  refine hC _ _ _ _ _ _ _ _ _ _ (fun _ _ _ _ _ _ q => q) (sp_Mod_isIn (fun x1 x2 => ?_) (fun x => ?_))
  conv => whnf
  rotate_left
  · repeat ((first | refine And.intro (by (conv => arg 2; whnf); (try simp only [z_lit, nI_add, pk_mul, z_pr1, z_pr2]); exact z_in (by omega) (by decide)) ?_ | refine z_bt1 (by decide) ?_ | refine z_bf1 (by decide) ?_ | refine z_bt2 (by decide) ?_ | refine z_bf2 (by decide) ?_); conv => whnf)
    refine h0 fun c h => absurd ?_ x
    obtain ⟨t', u', a, b, -, e, -⟩ := h
    rw [e]; exact ⟨nI_le (a := 1) (by omega) (by omega), nI_le (b := 6) (by omega) (by decide)⟩
  obtain ⟨u', hu, eu⟩ := isIn_1 (b := 6) (by decide) x1 x2
  have hsm : smq t u (6 * t' + u') := ⟨t', u', ht, by omega, et, eu, rfl⟩
  repeat ((first | refine And.intro (by (conv => arg 2; whnf); (try simp only [z_lit, nI_add, pk_mul, z_pr1, z_pr2]); exact z_in (by omega) (by decide)) ?_ | refine z_bt1 (by decide) ?_ | refine z_bf1 (by decide) ?_ | refine z_bt2 (by decide) ?_ | refine z_bf2 (by decide) ?_); conv => whnf)
  refine hC _ _ _ _ _ _ _ _ _ _ (fun _ _ _ _ _ _ q => q) (sp_Mod_isIn (fun y1 y2 => ?_) (fun x => ?_))
  conv => whnf
  rotate_left
  · repeat ((first | refine And.intro (by (conv => arg 2; whnf); (try simp only [z_lit, nI_add, pk_mul, z_pr1, z_pr2]); exact z_in (by omega) (by decide)) ?_ | refine z_bt1 (by decide) ?_ | refine z_bf1 (by decide) ?_ | refine z_bt2 (by decide) ?_ | refine z_bf2 (by decide) ?_); conv => whnf)
    refine h0 fun c h => ⟨fun z => x ?_, fun z => x ?_⟩
    · rw [z]; exact ⟨Int32.le_refl _, nI_le (b := 1) (by omega) (by decide)⟩
    · rw [z]; exact ⟨nI_pos' (by omega), Int32.le_refl _⟩
  obtain ⟨q', hq, eq⟩ := isIn_nat (b := 1) (by decide) y1 y2
  have r1 := h1 _ hsm
  have r2 := h2 _ hsm
  have hk := hf (6 * t' + u') (by omega)
  subst et eu eq
  repeat ((first | refine And.intro (by (conv => arg 2; whnf); (try simp only [z_lit, nI_add, pk_mul, z_pr1, z_pr2]); exact z_in (by omega) (by decide)) ?_ | refine z_bt1 (by decide) ?_ | refine z_bf1 (by decide) ?_ | refine z_bt2 (by decide) ?_ | refine z_bf2 (by decide) ?_); conv => whnf)
  refine hC _ _ _ _ _ _ _ _ _ _ (fun _ _ _ _ _ _ q => q) (sp_at0 ?_)
  conv => whnf
  repeat ((first | refine And.intro (by (conv => arg 2; whnf); (try simp only [z_lit, nI_add, pk_mul, z_pr1, z_pr2]); exact z_in (by omega) (by decide)) ?_ | refine z_bt1 (by decide) ?_ | refine z_bf1 (by decide) ?_ | refine z_bt2 (by decide) ?_ | refine z_bf2 (by decide) ?_); conv => whnf)
  simp (disch := omega) only [z_lit, nI_add, pk_mul, z_pr1, z_pr2, nI_clamp, z_m3_40, z_m3_41, z_m3_44, z_m3_u40, z_m3_u41, z_m3_u44, z_m3_m3, pk_us, pk_un]
  obtain ⟨n1, n2⟩ := f_1000n hk
  unfold f_1000 at r2
  refine ⟨n2, ?_⟩
  conv => whnf
  refine ⟨n1, ?_⟩
  conv => whnf
  have hq' : q' = 0 ∨ q' = 1 := by omega
  rcases hq' with rfl | rfl
  · repeat ((first | refine And.intro (by (conv => arg 2; whnf); (try simp only [z_lit, nI_add, pk_mul, z_pr1, z_pr2]); exact z_in (by omega) (by decide)) ?_ | refine z_bt1 (by decide) ?_ | refine z_bf1 (by decide) ?_ | refine z_bt2 (by decide) ?_ | refine z_bf2 (by decide) ?_); conv => whnf)
    exact r1 rfl
  · repeat ((first | refine And.intro (by (conv => arg 2; whnf); (try simp only [z_lit, nI_add, pk_mul, z_pr1, z_pr2]); exact z_in (by omega) (by decide)) ?_ | refine z_bt1 (by decide) ?_ | refine z_bf1 (by decide) ?_ | refine z_bt2 (by decide) ?_ | refine z_bf2 (by decide) ?_); conv => whnf)
    exact r2 rfl
theorem cb_smooth {t u q : Int32} {w : Nat → Int32} (hu : uRel I F w) (hg : gW w) (h1 : ∀ c, smq t u c → q = nI 0 → Q (some (.int (w (1536 + c)))) I (z_R0 kp sp wd) J F cn) (h2 : ∀ c, smq t u c → q = nI 1 → Q (some (.int (f_1000 (w (1536 + c))))) I (z_R0 kp sp wd) J F cn) (h0 : (∀ c, smq t u c → q ≠ nI 0 ∧ q ≠ nI 1) → Q (some (.int 0)) I (z_R0 kp sp wd) J F cn) :
    z_M (z_X0 L xs) z_P0 (d + 2) m_Bus_smooth [.ref 0, .int t, .int u, .int q] I (z_R0 kp sp wd) J F cn Q := by
  refine z_WP_gos [38] 1000 fun K C hK hC => ?_
  conv => whnf
  refine ⟨fun g => ?_, fun g => ?_⟩
  · conv => whnf
    refine h0 fun c h => absurd g (Int32.not_lt.mpr ?_)
    obtain ⟨t', u', a, b, e, -⟩ := h
    rw [e]; exact nI_pos' (by omega)
  conv => whnf
  refine ⟨fun g2 => ?_, fun g2 => ?_⟩
  · conv => whnf
    refine h0 fun c h => absurd g2 ?_
    obtain ⟨t', u', a, b, e, -⟩ := h
    rw [e]; exact nI_ge (b := 8) a (by omega)
  obtain ⟨t', ht, et⟩ := isIn_nat (b := 8) (by decide) (Int32.not_lt.mp g) (Int32.le_of_lt (Int32.not_le.mp g2))
  have ht8 : t' < 8 := by
    rcases Nat.lt_or_eq_of_le ht with z | z
    · exact z
    · rw [et, z] at g2; exact absurd (Int32.le_refl _) g2
  conv => whnf
  refine hC _ _ _ _ _ _ _ _ _ _ (fun _ _ _ _ _ _ q => q) (cb_isSub (fun u' hu' eu => ?_) (fun x => ?_))
  conv => whnf
  rotate_left
  · repeat ((first | refine And.intro (by (conv => arg 2; whnf); (try simp only [z_lit, nI_add, pk_mul, z_pr1, z_pr2]); exact z_in (by omega) (by decide)) ?_ | refine z_bt1 (by decide) ?_ | refine z_bf1 (by decide) ?_ | refine z_bt2 (by decide) ?_ | refine z_bf2 (by decide) ?_); conv => whnf)
    refine h0 fun c h => ?_
    obtain ⟨t', u', a, b, -, e, -⟩ := h
    exact absurd e (x u' b)
  have hsm : smq t u (6 * t' + u') := ⟨t', u', ht8, hu', et, eu, rfl⟩
  have r1 := h1 _ hsm
  have r2 := h2 _ hsm
  have hk := hg.2 (6 * t' + u') (by omega)
  obtain ⟨n1, n2⟩ := f_1000n hk
  have e8 := (hu.2.2.1 (6 * t' + u') (by omega)).2.2.2
  have hnm := f_ok_nm hk
  unfold f_1000 at r2
  subst et eu
  repeat ((first | refine And.intro (by (conv => arg 2; whnf); (try simp only [z_lit, nI_add, pk_mul, z_pr1, z_pr2]); exact z_in (by omega) (by decide)) ?_ | refine z_bt1 (by decide) ?_ | refine z_bf1 (by decide) ?_ | refine z_bt2 (by decide) ?_ | refine z_bf2 (by decide) ?_); conv => whnf)
  refine hC _ _ _ _ _ _ _ _ _ _ (fun _ _ _ _ _ _ q => q) (cu_cell ?_)
  conv => whnf
  repeat ((first | refine And.intro (by (conv => arg 2; whnf); (try simp only [z_lit, nI_add, pk_mul, z_pr1, z_pr2]); exact z_in (by omega) (by decide)) ?_ | refine z_bt1 (by decide) ?_ | refine z_bf1 (by decide) ?_ | refine z_bt2 (by decide) ?_ | refine z_bf2 (by decide) ?_); conv => whnf)
  simp (disch := omega) only [z_lit, nI_add, pk_mul, z_pr1, z_pr2, nI_clamp, z_up_row, z_row_s, z_row_n, z_row_row, pk_us, pk_un]
  rw [e8]
  by_cases q0 : q = nI 0
  · subst q0
    refine hK _ _ _ _ _ _ _ _ _ _ (z_WP_ls 64 rfl (by decide) ?_)
    refine z_WP_gos [] 1000 fun K C hK hC => ?_
    conv => whnf
    refine hC _ _ _ _ _ _ _ _ _ _ (fun _ _ _ _ _ _ q => q) (cf_bitsOf hnm ?_)
    conv => whnf
    exact r1 rfl
  by_cases q1 : q = nI 1
  · subst q1
    refine hK _ _ _ _ _ _ _ _ _ _ (z_WP_ls 70 rfl (by decide) ?_)
    refine z_WP_gos [] 1000 fun K C hK hC => ?_
    conv => whnf
    refine ⟨n1, ?_⟩
    conv => whnf
    exact r2 rfl
  · refine hK _ _ _ _ _ _ _ _ _ _ (z_WP_ls 77 rfl (z_swt_no _ fun p hp => ?_) ?_)
    · simp only [List.mem_cons, List.not_mem_nil, or_false] at hp
      rcases hp with rfl | rfl
      · exact q0
      · exact q1
    · refine z_WP_gos [] 1000 fun K C hK hC => ?_
      conv => whnf
      exact h0 fun c h => ⟨q0, q1⟩
end
