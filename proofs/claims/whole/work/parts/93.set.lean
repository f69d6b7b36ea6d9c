/-! set, in both -/
def st0 (p v : Int32) : Prop := p = nI 0 ∧ nI 100 ≤ v ∧ v ≤ nI 9999
def st1 (p v : Int32) : Prop := p = nI 1 ∧ nI 0 ≤ v ∧ v ≤ nI 3
section
variable {L : Nat} {xs : Nat → Int32} {d : Nat} {kp sp wd : Value} {I : z_I} {s : z_sg} {R : z_R} {J : z_J} {F : z_F} {cn : Nat} {Q : z_Q} {n k : Nat}
theorem sp_set {p v : Int32} (ha : st0 p v → Q (some (.int 1)) (z_ms I (m_w s 0 v)) (z_R0 kp sp wd) J F cn) (hb : st1 p v → Q (some (.int 1)) (z_ms I (m_w s 1 v)) (z_R0 kp sp wd) J F cn) (h0 : ¬ st0 p v → ¬ st1 p v → Q (some (.int 0)) (z_ms I s) (z_R0 kp sp wd) J F cn) :
    z_M (z_X0 L xs) z_P0 (d + 1) m_Mod_set [.ref 40, .int p, .int v] (z_ms I s) (z_R0 kp sp wd) J F cn Q := by
  obtain ⟨ff, w, y⟩ := s
  unfold m_w at ha hb
  simp only at ha hb
  have tail : ¬ st0 p v → z_WP (z_X0 L xs) z_P0 (d + 1) m_Mod_set 25 [some (.ref 40), some (.int p), some (.int v)] [] (z_ms I (ff, w, y)) (z_R0 kp sp wd) J F cn 0 0 Q := by
    intro hn
    refine z_WP_gos [] 1000 fun K C hK hC => ?_
    conv => whnf
    refine ⟨fun g => ?_, fun g => ?_⟩
    · conv => whnf
      exact ⟨Or.inl rfl, h0 hn fun z => g z.1⟩
    · have g' : p = nI 1 := g
      conv => whnf
      refine hC _ _ _ _ _ _ _ _ _ _ (fun _ _ _ _ _ _ q => q) (sp_Mod_isIn (fun x1 x2 => ?_) (fun x => ?_))
      conv => whnf
      · have q := hb ⟨g', x1, x2⟩
        repeat ((first | refine And.intro (by (conv => arg 2; whnf); (try simp only [z_lit, nI_add, pk_mul, z_pr1, z_pr2]); exact z_in (by omega) (by decide)) ?_ | refine z_bt1 (by decide) ?_ | refine z_bf1 (by decide) ?_ | refine z_bt2 (by decide) ?_ | refine z_bf2 (by decide) ?_); conv => whnf)
        refine ⟨Or.inr rfl, ?_⟩
        simp (disch := omega) only [z_lit, nI_add, pk_mul, z_pr1, z_pr2, nI_clamp, z_m3_40, z_m3_41, z_m3_44, z_m3_u40, z_m3_u41, z_m3_u44, z_m3_m3, pk_us, pk_un]
        exact q
      · repeat ((first | refine And.intro (by (conv => arg 2; whnf); (try simp only [z_lit, nI_add, pk_mul, z_pr1, z_pr2]); exact z_in (by omega) (by decide)) ?_ | refine z_bt1 (by decide) ?_ | refine z_bf1 (by decide) ?_ | refine z_bt2 (by decide) ?_ | refine z_bf2 (by decide) ?_); conv => whnf)
        exact ⟨Or.inl rfl, h0 hn fun z => x ⟨z.2.1, z.2.2⟩⟩
  refine z_WP_gos [25] 1000 fun K C hK hC => ?_
  conv => whnf
  refine ⟨fun g => ?_, fun g => ?_⟩
  · conv => whnf
    refine hK _ _ _ _ _ _ _ _ _ _ (tail fun z => g z.1)
  · have g' : p = nI 0 := g
    conv => whnf
    refine hC _ _ _ _ _ _ _ _ _ _ (fun _ _ _ _ _ _ q => q) (sp_Mod_isIn (fun x1 x2 => ?_) (fun x => ?_))
    conv => whnf
    · have q := ha ⟨g', x1, x2⟩
      repeat ((first | refine And.intro (by (conv => arg 2; whnf); (try simp only [z_lit, nI_add, pk_mul, z_pr1, z_pr2]); exact z_in (by omega) (by decide)) ?_ | refine z_bt1 (by decide) ?_ | refine z_bf1 (by decide) ?_ | refine z_bt2 (by decide) ?_ | refine z_bf2 (by decide) ?_); conv => whnf)
      refine ⟨Or.inr rfl, ?_⟩
      simp (disch := omega) only [z_lit, nI_add, pk_mul, z_pr1, z_pr2, nI_clamp, z_m3_40, z_m3_41, z_m3_44, z_m3_u40, z_m3_u41, z_m3_u44, z_m3_m3, pk_us, pk_un]
      exact q
    · repeat ((first | refine And.intro (by (conv => arg 2; whnf); (try simp only [z_lit, nI_add, pk_mul, z_pr1, z_pr2]); exact z_in (by omega) (by decide)) ?_ | refine z_bt1 (by decide) ?_ | refine z_bf1 (by decide) ?_ | refine z_bt2 (by decide) ?_ | refine z_bf2 (by decide) ?_); conv => whnf)
      refine hK _ _ _ _ _ _ _ _ _ _ (tail fun z => x ⟨z.2.1, z.2.2⟩)
theorem cb_set {p v : Int32} (ha : st0 p v → Q (some (.int 1)) (z_row I 1 (upd (I 1) 5 v)) (z_R0 kp sp wd) J F cn) (hb : st1 p v → Q (some (.int 1)) (z_row I 1 (upd (I 1) 6 v)) (z_R0 kp sp wd) J F cn) (h0 : ¬ st0 p v → ¬ st1 p v → Q (some (.int 0)) I (z_R0 kp sp wd) J F cn) :
    z_M (z_X0 L xs) z_P0 (d + 1) m_Bus_set [.ref 0, .int p, .int v] I (z_R0 kp sp wd) J F cn Q := by
  have tail : ¬ st0 p v → z_WP (z_X0 L xs) z_P0 (d + 1) m_Bus_set 27 [some (.ref 0), some (.int p), some (.int v)] [] I (z_R0 kp sp wd) J F cn 0 0 Q := by
    intro hn
    refine z_WP_gos [] 1000 fun K C hK hC => ?_
    conv => whnf
    refine ⟨fun g => ?_, fun g => ?_⟩
    · conv => whnf
      exact ⟨Or.inl rfl, h0 hn fun z => g z.1⟩
    have g' : p = nI 1 := g
    conv => whnf
    refine ⟨fun g2 => ?_, fun g2 => ?_⟩
    · conv => whnf
      exact ⟨Or.inl rfl, h0 hn fun z => absurd g2 (Int32.not_lt.mpr z.2.1)⟩
    conv => whnf
    refine ⟨fun g3 => ?_, fun g3 => ?_⟩
    · conv => whnf
      exact ⟨Or.inl rfl, h0 hn fun z => absurd g3 (Int32.not_lt.mpr z.2.2)⟩
    · have q := hb ⟨g', Int32.not_lt.mp g2, Int32.not_lt.mp g3⟩
      conv => whnf
      exact ⟨Or.inr rfl, q⟩
  refine z_WP_gos [27] 1000 fun K C hK hC => ?_
  conv => whnf
  refine ⟨fun g => ?_, fun g => ?_⟩
  · conv => whnf
    refine hK _ _ _ _ _ _ _ _ _ _ (tail fun z => g z.1)
  have g' : p = nI 0 := g
  conv => whnf
  refine ⟨fun g2 => ?_, fun g2 => ?_⟩
  · conv => whnf
    refine hK _ _ _ _ _ _ _ _ _ _ (tail fun z => absurd g2 (Int32.not_lt.mpr z.2.1))
  conv => whnf
  refine ⟨fun g3 => ?_, fun g3 => ?_⟩
  · conv => whnf
    refine hK _ _ _ _ _ _ _ _ _ _ (tail fun z => absurd g3 (Int32.not_lt.mpr z.2.2))
  · have q := ha ⟨g', Int32.not_lt.mp g2, Int32.not_lt.mp g3⟩
    conv => whnf
    exact ⟨Or.inr rfl, q⟩
/-- home behind a change of minor time or retries -/
theorem hR_set {I' : z_I} {w w' : Nat → Int32} {ln : Nat} (h : hR I F w n k ln) (h1 : ∀ j, j ≠ 5 → j ≠ 6 → I' 1 j = I 1 j) (h5 : I' 1 5 = w' 0) (h6 : I' 1 6 = w' 1) (hr : ∃ r, r ≤ 3 ∧ w' 1 = nI r) (hI : ∀ b, b ≠ 1 → I' b = I b) (o : ∀ j, 2 ≤ j → w' j = w j) : hR I' F w' n k ln := by
  obtain ⟨⟨u, wr, kw, g⟩, ⟨c5, c6, c7, c10⟩, ⟨r9, r8, r11⟩, ⟨p, tb, rt⟩, hD, hJ, hsc, he, hg⟩ := h
  refine ⟨⟨uRel_of u (fun b x y => hI b (by omega)) (fun j hj => o j (by omega)), wR_of wr (fun b x y => hI b (by omega)) (fun j hj => o j (by omega)), kW_of kw (fun j hj => o j (by omega)), gW_k g (fun j x y => o j (by omega))⟩, ⟨h5, h6, ?_, ?_⟩, ⟨?_, ?_, ?_⟩, ⟨?_, ?_, hr⟩, ?_, ?_, ?_, ?_, ?_⟩
  · rw [h1 7 (by decide) (by decide), o 2 (by omega)]; exact c7
  · rw [h1 10 (by decide) (by decide), o 7 (by omega)]; exact c10
  · rw [h1 9 (by decide) (by decide), o 4 (by omega)]; exact r9
  · rw [h1 8 (by decide) (by decide), o 3 (by omega)]; exact r8
  · rw [h1 11 (by decide) (by decide), o 6 (by omega)]; exact r11
  · exact pS_c p (by rw [hI 18 (by decide)]) (hI 19 (by decide)) (o 8 (by omega)) tb.2.1 (fun i f x y => o _ (by omega))
  · exact tb_c tb (o 8 (by omega)) (fun i f x y => o _ (by omega))
  · exact pD_k hD tb.2.1 (hI 20 (by decide)) (hI 21 (by decide)) (hI 22 (by decide)) (fun j hj => o _ (by omega))
  · rw [hI 27 (by decide), hI 28 (by decide)]
    exact jR_k hJ (fun j hj => o _ (by omega))
  · exact scR_k hsc he.2.1 (hI 25 (by decide)) (hI 26 (by decide)) (fun j hj => o _ (by omega))
  · exact ev_k he (fun j hj => o _ (by omega))
  · exact ⟨fun c hc => by rw [o _ (by omega), o _ (by omega)]; exact hg.1 c hc, by rw [o 2 (by omega)]; exact hg.2⟩
end
