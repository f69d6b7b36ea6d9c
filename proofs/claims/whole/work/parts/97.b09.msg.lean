/-! what a text says: the model's lines -/
section
variable {L : Nat} {xs : Nat → Int32} {d : Nat} {kp sp wd : Value} {I : z_I} {s : z_sg} {R : z_R} {J : z_J} {F : z_F} {cn : Nat} {Q : z_Q} {n k m st : Nat} {t : Nat → Nat} {f f0 w y fr : Nat → Int32}
theorem sp_field {v : Int32} (hm : m < 24) (hk : k < 14) (h : lvM t n f f0 m st) (hv : fr (14 * m + k) = v) (hQ : Q (some (.int v)) (z_ms (z_row I 46 fr) (f, w, y)) (z_R0 kp sp wd) J F cn) :
    z_M (z_X0 L xs) z_P0 d m_Mod_field [.ref 40, .int (nI k)] (z_ms (z_row I 46 fr) (f, w, y)) (z_R0 kp sp wd) J F cn Q := by
  have h19 := h.2.2.2.2.2.2.1
  refine z_WP_gos [] 1000 fun K C hK hC => ?_
  conv => whnf
  simp (disch := omega) only [z_lit, nI_add, pk_mul, z_pr1, z_pr2, nI_clamp, z_m3_40, z_m3_41, z_m3_44, z_m3_u40, z_m3_u41, z_m3_u44, z_m3_m3, pk_us, pk_un]
  rw [h19]
  repeat ((first | refine And.intro (by (conv => arg 2; whnf); (try simp only [z_lit, nI_add, pk_mul, z_pr1, z_pr2]); exact z_in (by omega) (by decide)) ?_ | refine z_bt1 (by decide) ?_ | refine z_bf1 (by decide) ?_ | refine z_bt2 (by decide) ?_ | refine z_bf2 (by decide) ?_); conv => whnf)
  simp (disch := omega) only [z_lit, nI_add, pk_mul, z_pr1, z_pr2, nI_clamp, z_m3_40, z_m3_41, z_m3_44, z_m3_u40, z_m3_u41, z_m3_u44, z_m3_m3, pk_us, pk_un]
  rw [show z_ms (z_row I 46 fr) (f, w, y) 46 (14 * m + k) = v from (congrFun (z_row_s I 46 fr) _).trans hv]
  exact hQ
theorem sp_message (hT : mT I t n) (hn : n ≤ 500) (hm : m < 24) (hk : k ≤ 5) (hM : tkM t n st = 3 + k) (h : lvM t n f f0 m st) (hQ : okQ (pmsg t n m k (upd fr (14 * m + 0) (nI k)) (nx t n st)) (fun fr' st' => ∀ f', lvM t n f' f0 m st' → Q (some (.int 1)) (z_ms (z_row I 46 fr') (f', w, y)) (z_R0 kp sp wd) J F cn) (fun c p => ∀ f' fr', ddM f' f0 c p → Q (some (.int 0)) (z_ms (z_row I 46 fr') (f', w, y)) (z_R0 kp sp wd) J F cn)) :
    z_M (z_X0 L xs) z_P0 (d + 9) m_Mod_message [.ref 40] (z_ms (z_row I 46 fr) (f, w, y)) (z_R0 kp sp wd) J F cn Q := by
  have h16 := h.2.2.2.2.1
  have h19 := h.2.2.2.2.2.2.1
  rw [hM] at h16
  have e1 : nI (3 + k) - nI 3 = nI k := by rw [pk_sub (by omega)]; congr 1; omega
  refine z_WP_gos [27] 1000 fun K C hK hC => ?_
  conv => whnf
  simp (disch := omega) only [z_lit, nI_add, pk_mul, z_pr1, z_pr2, nI_clamp, z_m3_40, z_m3_41, z_m3_44, z_m3_u40, z_m3_u41, z_m3_u44, z_m3_m3, pk_us, pk_un]
  rw [h16, h19, e1]
  repeat ((first | refine And.intro (by (conv => arg 2; whnf); (try simp only [z_lit, nI_add, pk_mul, z_pr1, z_pr2]); exact z_in (by omega) (by decide)) ?_ | refine z_bt1 (by decide) ?_ | refine z_bf1 (by decide) ?_ | refine z_bt2 (by decide) ?_ | refine z_bf2 (by decide) ?_); conv => whnf)
  rw [z_ms_u46]
  simp (disch := omega) only [z_lit, nI_add, pk_mul, z_pr1, z_pr2, nI_clamp, z_m3_40, z_m3_41, z_m3_44, z_m3_u40, z_m3_u41, z_m3_u44, z_m3_m3, pk_us, pk_un]
  refine hC _ _ _ _ _ _ _ _ _ _ (fun _ _ _ _ _ _ q => q) (sp_next hT hn h (fun f1 h => ?_))
  conv => whnf
  clear h16 h19
  unfold pmsg at hQ
  generalize nx t n st = st1 at hQ h
  generalize upd fr (14 * m + 0) (nI k) = fr1 at hQ
  have hk' : k = 0 ∨ k = 1 ∨ k = 2 ∨ k = 3 ∨ k = 4 ∨ k = 5 := by omega
  rcases hk' with rfl | rfl | rfl | rfl | rfl | rfl
  · rw [if_pos (by decide)] at hQ
    refine hK _ _ _ _ _ _ _ _ _ _ (z_WP_ts 60 rfl (by decide) ?_)
    refine z_WP_gos [] 1000 fun K C hK hC => ?_
    conv => whnf
    refine hC _ _ _ _ _ _ _ _ _ _ (fun _ _ _ _ _ _ q => q) (sp_number (k := 1) (lo := 0) (hi := 7) hT hn hm (by omega) (by decide) (by decide) h (okQ_m (okQ_b hQ) (fun fr2 st2 hQ f2 h => ?_) (fun c p hQ f2 fr2 h => ?_)))
    conv => whnf
    rotate_left
    · repeat ((first | refine And.intro (by (conv => arg 2; whnf); (try simp only [z_lit, nI_add, pk_mul, z_pr1, z_pr2]); exact z_in (by omega) (by decide)) ?_ | refine z_bt1 (by decide) ?_ | refine z_bf1 (by decide) ?_ | refine z_bt2 (by decide) ?_ | refine z_bf2 (by decide) ?_); conv => whnf)
      exact ⟨Or.inl rfl, hQ f2 fr2 h⟩
    replace hQ := hQ
    repeat ((first | refine And.intro (by (conv => arg 2; whnf); (try simp only [z_lit, nI_add, pk_mul, z_pr1, z_pr2]); exact z_in (by omega) (by decide)) ?_ | refine z_bt1 (by decide) ?_ | refine z_bf1 (by decide) ?_ | refine z_bt2 (by decide) ?_ | refine z_bf2 (by decide) ?_); conv => whnf)
    refine hC _ _ _ _ _ _ _ _ _ _ (fun _ _ _ _ _ _ q => q) (sp_number (k := 2) (lo := 1) (hi := 6) hT hn hm (by omega) (by decide) (by decide) h (okQ_m (okQ_b hQ) (fun fr2 st2 hQ f2 h => ?_) (fun c p hQ f2 fr2 h => ?_)))
    conv => whnf
    rotate_left
    · repeat ((first | refine And.intro (by (conv => arg 2; whnf); (try simp only [z_lit, nI_add, pk_mul, z_pr1, z_pr2]); exact z_in (by omega) (by decide)) ?_ | refine z_bt1 (by decide) ?_ | refine z_bf1 (by decide) ?_ | refine z_bt2 (by decide) ?_ | refine z_bf2 (by decide) ?_); conv => whnf)
      exact ⟨Or.inl rfl, hQ f2 fr2 h⟩
    replace hQ := hQ
    repeat ((first | refine And.intro (by (conv => arg 2; whnf); (try simp only [z_lit, nI_add, pk_mul, z_pr1, z_pr2]); exact z_in (by omega) (by decide)) ?_ | refine z_bt1 (by decide) ?_ | refine z_bf1 (by decide) ?_ | refine z_bt2 (by decide) ?_ | refine z_bf2 (by decide) ?_); conv => whnf)
    refine hC _ _ _ _ _ _ _ _ _ _ (fun _ _ _ _ _ _ q => q) (sp_number (k := 3) (lo := 1) (hi := 8) hT hn hm (by omega) (by decide) (by decide) h (okQ_m hQ (fun fr2 st2 hQ f2 h => ?_) (fun c p hQ f2 fr2 h => ?_)))
    conv => whnf
    rotate_left
    · repeat ((first | refine And.intro (by (conv => arg 2; whnf); (try simp only [z_lit, nI_add, pk_mul, z_pr1, z_pr2]); exact z_in (by omega) (by decide)) ?_ | refine z_bt1 (by decide) ?_ | refine z_bf1 (by decide) ?_ | refine z_bt2 (by decide) ?_ | refine z_bf2 (by decide) ?_); conv => whnf)
      exact ⟨Or.inl rfl, hQ f2 fr2 h⟩
    repeat ((first | refine And.intro (by (conv => arg 2; whnf); (try simp only [z_lit, nI_add, pk_mul, z_pr1, z_pr2]); exact z_in (by omega) (by decide)) ?_ | refine z_bt1 (by decide) ?_ | refine z_bf1 (by decide) ?_ | refine z_bt2 (by decide) ?_ | refine z_bf2 (by decide) ?_); conv => whnf)
    exact ⟨Or.inr rfl, hQ f2 h⟩
  · rw [if_pos (by decide)] at hQ
    refine hK _ _ _ _ _ _ _ _ _ _ (z_WP_ts 60 rfl (by decide) ?_)
    refine z_WP_gos [] 1000 fun K C hK hC => ?_
    conv => whnf
    refine hC _ _ _ _ _ _ _ _ _ _ (fun _ _ _ _ _ _ q => q) (sp_number (k := 1) (lo := 0) (hi := 7) hT hn hm (by omega) (by decide) (by decide) h (okQ_m (okQ_b hQ) (fun fr2 st2 hQ f2 h => ?_) (fun c p hQ f2 fr2 h => ?_)))
    conv => whnf
    rotate_left
    · repeat ((first | refine And.intro (by (conv => arg 2; whnf); (try simp only [z_lit, nI_add, pk_mul, z_pr1, z_pr2]); exact z_in (by omega) (by decide)) ?_ | refine z_bt1 (by decide) ?_ | refine z_bf1 (by decide) ?_ | refine z_bt2 (by decide) ?_ | refine z_bf2 (by decide) ?_); conv => whnf)
      exact ⟨Or.inl rfl, hQ f2 fr2 h⟩
    replace hQ := hQ
    repeat ((first | refine And.intro (by (conv => arg 2; whnf); (try simp only [z_lit, nI_add, pk_mul, z_pr1, z_pr2]); exact z_in (by omega) (by decide)) ?_ | refine z_bt1 (by decide) ?_ | refine z_bf1 (by decide) ?_ | refine z_bt2 (by decide) ?_ | refine z_bf2 (by decide) ?_); conv => whnf)
    refine hC _ _ _ _ _ _ _ _ _ _ (fun _ _ _ _ _ _ q => q) (sp_number (k := 2) (lo := 1) (hi := 6) hT hn hm (by omega) (by decide) (by decide) h (okQ_m (okQ_b hQ) (fun fr2 st2 hQ f2 h => ?_) (fun c p hQ f2 fr2 h => ?_)))
    conv => whnf
    rotate_left
    · repeat ((first | refine And.intro (by (conv => arg 2; whnf); (try simp only [z_lit, nI_add, pk_mul, z_pr1, z_pr2]); exact z_in (by omega) (by decide)) ?_ | refine z_bt1 (by decide) ?_ | refine z_bf1 (by decide) ?_ | refine z_bt2 (by decide) ?_ | refine z_bf2 (by decide) ?_); conv => whnf)
      exact ⟨Or.inl rfl, hQ f2 fr2 h⟩
    replace hQ := hQ
    repeat ((first | refine And.intro (by (conv => arg 2; whnf); (try simp only [z_lit, nI_add, pk_mul, z_pr1, z_pr2]); exact z_in (by omega) (by decide)) ?_ | refine z_bt1 (by decide) ?_ | refine z_bf1 (by decide) ?_ | refine z_bt2 (by decide) ?_ | refine z_bf2 (by decide) ?_); conv => whnf)
    refine hC _ _ _ _ _ _ _ _ _ _ (fun _ _ _ _ _ _ q => q) (sp_number (k := 3) (lo := 1) (hi := 8) hT hn hm (by omega) (by decide) (by decide) h (okQ_m hQ (fun fr2 st2 hQ f2 h => ?_) (fun c p hQ f2 fr2 h => ?_)))
    conv => whnf
    rotate_left
    · repeat ((first | refine And.intro (by (conv => arg 2; whnf); (try simp only [z_lit, nI_add, pk_mul, z_pr1, z_pr2]); exact z_in (by omega) (by decide)) ?_ | refine z_bt1 (by decide) ?_ | refine z_bf1 (by decide) ?_ | refine z_bt2 (by decide) ?_ | refine z_bf2 (by decide) ?_); conv => whnf)
      exact ⟨Or.inl rfl, hQ f2 fr2 h⟩
    repeat ((first | refine And.intro (by (conv => arg 2; whnf); (try simp only [z_lit, nI_add, pk_mul, z_pr1, z_pr2]); exact z_in (by omega) (by decide)) ?_ | refine z_bt1 (by decide) ?_ | refine z_bf1 (by decide) ?_ | refine z_bt2 (by decide) ?_ | refine z_bf2 (by decide) ?_); conv => whnf)
    exact ⟨Or.inr rfl, hQ f2 h⟩
  · rw [if_neg (by decide), if_pos rfl] at hQ
    refine hK _ _ _ _ _ _ _ _ _ _ (z_WP_ts 99 rfl (by decide) ?_)
    refine z_WP_gos [149] 1000 fun K C hK hC => ?_
    conv => whnf
    refine hC _ _ _ _ _ _ _ _ _ _ (fun _ _ _ _ _ _ q => q) (sp_number (k := 1) (lo := 0) (hi := 7) hT hn hm (by omega) (by decide) (by decide) h (okQ_m (okQ_b hQ) (fun fr2 st2 hQ f2 h => ?_) (fun c p hQ f2 fr2 h => ?_)))
    conv => whnf
    rotate_left
    · repeat ((first | refine And.intro (by (conv => arg 2; whnf); (try simp only [z_lit, nI_add, pk_mul, z_pr1, z_pr2]); exact z_in (by omega) (by decide)) ?_ | refine z_bt1 (by decide) ?_ | refine z_bf1 (by decide) ?_ | refine z_bt2 (by decide) ?_ | refine z_bf2 (by decide) ?_); conv => whnf)
      exact ⟨Or.inl rfl, hQ f2 fr2 h⟩
    repeat ((first | refine And.intro (by (conv => arg 2; whnf); (try simp only [z_lit, nI_add, pk_mul, z_pr1, z_pr2]); exact z_in (by omega) (by decide)) ?_ | refine z_bt1 (by decide) ?_ | refine z_bf1 (by decide) ?_ | refine z_bt2 (by decide) ?_ | refine z_bf2 (by decide) ?_); conv => whnf)
    refine hC _ _ _ _ _ _ _ _ _ _ (fun _ _ _ _ _ _ q => q) (sp_number (k := 2) (lo := 1) (hi := 6) hT hn hm (by omega) (by decide) (by decide) h (okQ_m (okQ_b hQ) (fun fr2 st2 hQ f2 h => ?_) (fun c p hQ f2 fr2 h => ?_)))
    conv => whnf
    rotate_left
    · repeat ((first | refine And.intro (by (conv => arg 2; whnf); (try simp only [z_lit, nI_add, pk_mul, z_pr1, z_pr2]); exact z_in (by omega) (by decide)) ?_ | refine z_bt1 (by decide) ?_ | refine z_bf1 (by decide) ?_ | refine z_bt2 (by decide) ?_ | refine z_bf2 (by decide) ?_); conv => whnf)
      exact ⟨Or.inl rfl, hQ f2 fr2 h⟩
    repeat ((first | refine And.intro (by (conv => arg 2; whnf); (try simp only [z_lit, nI_add, pk_mul, z_pr1, z_pr2]); exact z_in (by omega) (by decide)) ?_ | refine z_bt1 (by decide) ?_ | refine z_bf1 (by decide) ?_ | refine z_bt2 (by decide) ?_ | refine z_bf2 (by decide) ?_); conv => whnf)
    have tail : okQ (pbind (pnum t n m 4 0 7 fr2 st2) fun fr st => pbind (pnum t n m 5 1 6 fr st) fun fr st => pnum t n m 3 1 8 fr st) (fun fr' st' => ∀ f', lvM t n f' f0 m st' → Q (some (.int 1)) (z_ms (z_row I 46 fr') (f', w, y)) (z_R0 kp sp wd) J F cn) (fun c p => ∀ f' fr', ddM f' f0 c p → Q (some (.int 0)) (z_ms (z_row I 46 fr') (f', w, y)) (z_R0 kp sp wd) J F cn) → z_WP (z_X0 L xs) z_P0 (d + 9) m_Mod_message 149 [some (.ref 40), some (.int (nI (3 + 2)))] [] (z_ms (z_row I 46 fr2) (f2, w, y)) (z_R0 kp sp wd) J F cn 0 0 Q := by
      intro hQ
      refine z_WP_gos [] 1000 fun K C hK hC => ?_
      conv => whnf
      refine hC _ _ _ _ _ _ _ _ _ _ (fun _ _ _ _ _ _ q => q) (sp_number (k := 4) (lo := 0) (hi := 7) hT hn hm (by omega) (by decide) (by decide) h (okQ_m (okQ_b hQ) (fun fr2 st2 hQ f2 h => ?_) (fun c p hQ f2 fr2 h => ?_)))
      conv => whnf
      rotate_left
      · repeat ((first | refine And.intro (by (conv => arg 2; whnf); (try simp only [z_lit, nI_add, pk_mul, z_pr1, z_pr2]); exact z_in (by omega) (by decide)) ?_ | refine z_bt1 (by decide) ?_ | refine z_bf1 (by decide) ?_ | refine z_bt2 (by decide) ?_ | refine z_bf2 (by decide) ?_); conv => whnf)
        exact ⟨Or.inl rfl, hQ f2 fr2 h⟩
      replace hQ := hQ
      repeat ((first | refine And.intro (by (conv => arg 2; whnf); (try simp only [z_lit, nI_add, pk_mul, z_pr1, z_pr2]); exact z_in (by omega) (by decide)) ?_ | refine z_bt1 (by decide) ?_ | refine z_bf1 (by decide) ?_ | refine z_bt2 (by decide) ?_ | refine z_bf2 (by decide) ?_); conv => whnf)
      refine hC _ _ _ _ _ _ _ _ _ _ (fun _ _ _ _ _ _ q => q) (sp_number (k := 5) (lo := 1) (hi := 6) hT hn hm (by omega) (by decide) (by decide) h (okQ_m (okQ_b hQ) (fun fr2 st2 hQ f2 h => ?_) (fun c p hQ f2 fr2 h => ?_)))
      conv => whnf
      rotate_left
      · repeat ((first | refine And.intro (by (conv => arg 2; whnf); (try simp only [z_lit, nI_add, pk_mul, z_pr1, z_pr2]); exact z_in (by omega) (by decide)) ?_ | refine z_bt1 (by decide) ?_ | refine z_bf1 (by decide) ?_ | refine z_bt2 (by decide) ?_ | refine z_bf2 (by decide) ?_); conv => whnf)
        exact ⟨Or.inl rfl, hQ f2 fr2 h⟩
      replace hQ := hQ
      repeat ((first | refine And.intro (by (conv => arg 2; whnf); (try simp only [z_lit, nI_add, pk_mul, z_pr1, z_pr2]); exact z_in (by omega) (by decide)) ?_ | refine z_bt1 (by decide) ?_ | refine z_bf1 (by decide) ?_ | refine z_bt2 (by decide) ?_ | refine z_bf2 (by decide) ?_); conv => whnf)
      refine hC _ _ _ _ _ _ _ _ _ _ (fun _ _ _ _ _ _ q => q) (sp_number (k := 3) (lo := 1) (hi := 8) hT hn hm (by omega) (by decide) (by decide) h (okQ_m hQ (fun fr2 st2 hQ f2 h => ?_) (fun c p hQ f2 fr2 h => ?_)))
      conv => whnf
      rotate_left
      · repeat ((first | refine And.intro (by (conv => arg 2; whnf); (try simp only [z_lit, nI_add, pk_mul, z_pr1, z_pr2]); exact z_in (by omega) (by decide)) ?_ | refine z_bt1 (by decide) ?_ | refine z_bf1 (by decide) ?_ | refine z_bt2 (by decide) ?_ | refine z_bf2 (by decide) ?_); conv => whnf)
        exact ⟨Or.inl rfl, hQ f2 fr2 h⟩
      repeat ((first | refine And.intro (by (conv => arg 2; whnf); (try simp only [z_lit, nI_add, pk_mul, z_pr1, z_pr2]); exact z_in (by omega) (by decide)) ?_ | refine z_bt1 (by decide) ?_ | refine z_bf1 (by decide) ?_ | refine z_bt2 (by decide) ?_ | refine z_bf2 (by decide) ?_); conv => whnf)
      exact ⟨Or.inr rfl, hQ f2 h⟩
    have h16 := h.2.2.2.2.1
    have hl := tkM_le (t := t) (n := n) (st := st2)
    have hv := tkV_lt hT h.1
    simp (disch := omega) only [z_lit, nI_add, pk_mul, z_pr1, z_pr2, nI_clamp, z_m3_40, z_m3_41, z_m3_44, z_m3_u40, z_m3_u41, z_m3_u44, z_m3_m3, pk_us, pk_un]
    rw [h16]
    refine ⟨fun g => ?_, fun g => ?_⟩
    · have g' : ¬ tkM t n st2 = 2 := fun z => g (by rw [z])
      rw [if_neg fun z => g' z.1] at hQ
      conv => whnf
      refine hK _ _ _ _ _ _ _ _ _ _ (tail hQ)
    · have g' : tkM t n st2 = 2 := nI_inj9 (b := 2) (by omega) (by omega) g
      have h18 := h.2.2.2.2.2.1 g'
      conv => whnf
      simp (disch := omega) only [z_lit, nI_add, pk_mul, z_pr1, z_pr2, nI_clamp, z_m3_40, z_m3_41, z_m3_44, z_m3_u40, z_m3_u41, z_m3_u44, z_m3_m3, pk_us, pk_un]
      rw [h18]
      refine hC _ _ _ _ _ _ _ _ _ _ (fun _ _ _ _ _ _ q => q) (sp_field (k := 1) (v := fr2 (14 * m + 1)) hm (by omega) h rfl ?_)
      conv => whnf
      refine ⟨fun g2 => ?_, fun g2 => ?_⟩
      · rw [if_neg fun z => g2 z.2] at hQ
        conv => whnf
        refine hK _ _ _ _ _ _ _ _ _ _ (tail hQ)
      · rw [if_pos ⟨g', g2⟩] at hQ
        conv => whnf
        refine hC _ _ _ _ _ _ _ _ _ _ (fun _ _ _ _ _ _ q => q) (sp_bad (c := 2) h (fun f3 d3 => ?_))
        conv => whnf
        exact ⟨Or.inl rfl, hQ f3 fr2 d3⟩
  · rw [if_neg (by decide), if_neg (by decide), if_pos rfl] at hQ
    refine hK _ _ _ _ _ _ _ _ _ _ (z_WP_ts 188 rfl (by decide) ?_)
    refine z_WP_gos [] 1000 fun K C hK hC => ?_
    conv => whnf
    refine hC _ _ _ _ _ _ _ _ _ _ (fun _ _ _ _ _ _ q => q) (sp_number (k := 2) (lo := 1) (hi := 6) hT hn hm (by omega) (by decide) (by decide) h (okQ_m (okQ_b hQ) (fun fr2 st2 hQ f2 h => ?_) (fun c p hQ f2 fr2 h => ?_)))
    conv => whnf
    rotate_left
    · repeat ((first | refine And.intro (by (conv => arg 2; whnf); (try simp only [z_lit, nI_add, pk_mul, z_pr1, z_pr2]); exact z_in (by omega) (by decide)) ?_ | refine z_bt1 (by decide) ?_ | refine z_bf1 (by decide) ?_ | refine z_bt2 (by decide) ?_ | refine z_bf2 (by decide) ?_); conv => whnf)
      exact ⟨Or.inl rfl, hQ f2 fr2 h⟩
    replace hQ := hQ
    repeat ((first | refine And.intro (by (conv => arg 2; whnf); (try simp only [z_lit, nI_add, pk_mul, z_pr1, z_pr2]); exact z_in (by omega) (by decide)) ?_ | refine z_bt1 (by decide) ?_ | refine z_bf1 (by decide) ?_ | refine z_bt2 (by decide) ?_ | refine z_bf2 (by decide) ?_); conv => whnf)
    refine hC _ _ _ _ _ _ _ _ _ _ (fun _ _ _ _ _ _ q => q) (sp_number (k := 3) (lo := 1) (hi := 8) hT hn hm (by omega) (by decide) (by decide) h (okQ_m hQ (fun fr2 st2 hQ f2 h => ?_) (fun c p hQ f2 fr2 h => ?_)))
    conv => whnf
    rotate_left
    · repeat ((first | refine And.intro (by (conv => arg 2; whnf); (try simp only [z_lit, nI_add, pk_mul, z_pr1, z_pr2]); exact z_in (by omega) (by decide)) ?_ | refine z_bt1 (by decide) ?_ | refine z_bf1 (by decide) ?_ | refine z_bt2 (by decide) ?_ | refine z_bf2 (by decide) ?_); conv => whnf)
      exact ⟨Or.inl rfl, hQ f2 fr2 h⟩
    repeat ((first | refine And.intro (by (conv => arg 2; whnf); (try simp only [z_lit, nI_add, pk_mul, z_pr1, z_pr2]); exact z_in (by omega) (by decide)) ?_ | refine z_bt1 (by decide) ?_ | refine z_bf1 (by decide) ?_ | refine z_bt2 (by decide) ?_ | refine z_bf2 (by decide) ?_); conv => whnf)
    exact ⟨Or.inr rfl, hQ f2 h⟩
  · rw [if_neg (by decide), if_neg (by decide), if_neg (by decide), if_pos rfl] at hQ
    refine hK _ _ _ _ _ _ _ _ _ _ (z_WP_ts 216 rfl (by decide) ?_)
    refine z_WP_gos [] 1000 fun K C hK hC => ?_
    conv => whnf
    refine hC _ _ _ _ _ _ _ _ _ _ (fun _ _ _ _ _ _ q => q) (sp_number (k := 1) (lo := 0) (hi := 7) hT hn hm (by omega) (by decide) (by decide) h (okQ_m (okQ_b hQ) (fun fr2 st2 hQ f2 h => ?_) (fun c p hQ f2 fr2 h => ?_)))
    conv => whnf
    rotate_left
    · repeat ((first | refine And.intro (by (conv => arg 2; whnf); (try simp only [z_lit, nI_add, pk_mul, z_pr1, z_pr2]); exact z_in (by omega) (by decide)) ?_ | refine z_bt1 (by decide) ?_ | refine z_bf1 (by decide) ?_ | refine z_bt2 (by decide) ?_ | refine z_bf2 (by decide) ?_); conv => whnf)
      exact ⟨Or.inl rfl, hQ f2 fr2 h⟩
    replace hQ := hQ
    repeat ((first | refine And.intro (by (conv => arg 2; whnf); (try simp only [z_lit, nI_add, pk_mul, z_pr1, z_pr2]); exact z_in (by omega) (by decide)) ?_ | refine z_bt1 (by decide) ?_ | refine z_bf1 (by decide) ?_ | refine z_bt2 (by decide) ?_ | refine z_bf2 (by decide) ?_); conv => whnf)
    refine hC _ _ _ _ _ _ _ _ _ _ (fun _ _ _ _ _ _ q => q) (sp_number (k := 10) (lo := 1) (hi := 31) hT hn hm (by omega) (by decide) (by decide) h (okQ_m hQ (fun fr2 st2 hQ f2 h => ?_) (fun c p hQ f2 fr2 h => ?_)))
    conv => whnf
    rotate_left
    · repeat ((first | refine And.intro (by (conv => arg 2; whnf); (try simp only [z_lit, nI_add, pk_mul, z_pr1, z_pr2]); exact z_in (by omega) (by decide)) ?_ | refine z_bt1 (by decide) ?_ | refine z_bf1 (by decide) ?_ | refine z_bt2 (by decide) ?_ | refine z_bf2 (by decide) ?_); conv => whnf)
      exact ⟨Or.inl rfl, hQ f2 fr2 h⟩
    repeat ((first | refine And.intro (by (conv => arg 2; whnf); (try simp only [z_lit, nI_add, pk_mul, z_pr1, z_pr2]); exact z_in (by omega) (by decide)) ?_ | refine z_bt1 (by decide) ?_ | refine z_bf1 (by decide) ?_ | refine z_bt2 (by decide) ?_ | refine z_bf2 (by decide) ?_); conv => whnf)
    exact ⟨Or.inr rfl, hQ f2 h⟩
  · rw [if_neg (by decide), if_neg (by decide), if_neg (by decide), if_neg (by decide)] at hQ
    refine hK _ _ _ _ _ _ _ _ _ _ (z_WP_ts 245 rfl (by decide) ?_)
    refine z_WP_gos [] 1000 fun K C hK hC => ?_
    conv => whnf
    refine hC _ _ _ _ _ _ _ _ _ _ (fun _ _ _ _ _ _ q => q) (sp_number (k := 1) (lo := 0) (hi := 8) hT hn hm (by omega) (by decide) (by decide) h (okQ_m hQ (fun fr2 st2 hQ f2 h => ?_) (fun c p hQ f2 fr2 h => ?_)))
    conv => whnf
    rotate_left
    · repeat ((first | refine And.intro (by (conv => arg 2; whnf); (try simp only [z_lit, nI_add, pk_mul, z_pr1, z_pr2]); exact z_in (by omega) (by decide)) ?_ | refine z_bt1 (by decide) ?_ | refine z_bf1 (by decide) ?_ | refine z_bt2 (by decide) ?_ | refine z_bf2 (by decide) ?_); conv => whnf)
      exact ⟨Or.inl rfl, hQ f2 fr2 h⟩
    exact ⟨Or.inr rfl, hQ f2 h⟩
theorem sp_whenever (hT : mT I t n) (hn : n ≤ 500) (hm : m < 24) (h : lvM t n f f0 m st) (hQ : okQ (pwhen t n m fr st) (fun fr' st' => ∀ f', lvM t n f' f0 m st' → Q (some (.int 1)) (z_ms (z_row I 46 fr') (f', w, y)) (z_R0 kp sp wd) J F cn) (fun c p => ∀ f' fr', ddM f' f0 c p → Q (some (.int 0)) (z_ms (z_row I 46 fr') (f', w, y)) (z_R0 kp sp wd) J F cn)) :
    z_M (z_X0 L xs) z_P0 (d + 9) m_Mod_whenever [.ref 40] (z_ms (z_row I 46 fr) (f, w, y)) (z_R0 kp sp wd) J F cn Q := by
  unfold pwhen at hQ
  refine z_WP_gos [58] 1000 fun K C hK hC => ?_
  conv => whnf
  refine hC _ _ _ _ _ _ _ _ _ _ (fun _ _ _ _ _ _ q => q) (sp_need (q := 9) hT hn (by decide) h (okQ_m (okQ_b hQ) (fun fr2 st2 hQ f2 h => ?_) (fun c p hQ f2 fr2 h => ?_)))
  conv => whnf
  rotate_left
  · repeat ((first | refine And.intro (by (conv => arg 2; whnf); (try simp only [z_lit, nI_add, pk_mul, z_pr1, z_pr2]); exact z_in (by omega) (by decide)) ?_ | refine z_bt1 (by decide) ?_ | refine z_bf1 (by decide) ?_ | refine z_bt2 (by decide) ?_ | refine z_bf2 (by decide) ?_); conv => whnf)
    exact ⟨Or.inl rfl, hQ f2 fr2 h⟩
  have h16 := h.2.2.2.2.1
  have hl := tkM_le (t := t) (n := n) (st := st2)
  have hv := tkV_lt hT h.1
  have tail : okQ (pbind (pnum t n m 6 1 8 fr2 st2) fun fr st => if tkM t n st = 11 then p_ok (upd fr (14 * m + 9) (nI 1)) (nx t n st) else pbind (pneed t n 10 fr st) fun fr st => pnum t n m 7 0 ((fr (14 * m + 6)).toNatClampNeg - 1) fr st) (fun fr' st' => ∀ f', lvM t n f' f0 m st' → Q (some (.int 1)) (z_ms (z_row I 46 fr') (f', w, y)) (z_R0 kp sp wd) J F cn) (fun c p => ∀ f' fr', ddM f' f0 c p → Q (some (.int 0)) (z_ms (z_row I 46 fr') (f', w, y)) (z_R0 kp sp wd) J F cn) → z_WP (z_X0 L xs) z_P0 (d + 9) m_Mod_whenever 58 [some (.ref 40)] [] (z_ms (z_row I 46 fr2) (f2, w, y)) (z_R0 kp sp wd) J F cn 0 0 Q := by
    intro hQ
    have hP : ∀ fr3 st3, pnum t n m 6 1 8 fr2 st2 = p_ok fr3 st3 → ∃ P, 1 ≤ P ∧ P ≤ 8 ∧ fr3 (14 * m + 6) = nI P := fun fr3 st3 e => by
      unfold pnum at e
      split at e
      · split at e
        · rename_i a b
          have e' := Sum.inr.inj e
          have e1 : upd fr2 (14 * m + 6) (nI (tkV t n st2)) = fr3 := congrArg Prod.fst e'
          exact ⟨tkV t n st2, b.1, b.2, by rw [← e1]; exact pk_us⟩
        · cases e
      · cases e
    have key : okQ (pnum t n m 6 1 8 fr2 st2) (fun fr3 st3 => (∃ P, 1 ≤ P ∧ P ≤ 8 ∧ fr3 (14 * m + 6) = nI P) ∧ okQ (if tkM t n st3 = 11 then p_ok (upd fr3 (14 * m + 9) (nI 1)) (nx t n st3) else pbind (pneed t n 10 fr3 st3) fun fr st => pnum t n m 7 0 ((fr (14 * m + 6)).toNatClampNeg - 1) fr st) (fun fr' st' => ∀ f', lvM t n f' f0 m st' → Q (some (.int 1)) (z_ms (z_row I 46 fr') (f', w, y)) (z_R0 kp sp wd) J F cn) (fun c p => ∀ f' fr', ddM f' f0 c p → Q (some (.int 0)) (z_ms (z_row I 46 fr') (f', w, y)) (z_R0 kp sp wd) J F cn)) (fun c p => ∀ f' fr', ddM f' f0 c p → Q (some (.int 0)) (z_ms (z_row I 46 fr') (f', w, y)) (z_R0 kp sp wd) J F cn) := by
      have z := okQ_b hQ
      generalize pnum t n m 6 1 8 fr2 st2 = P at z hP
      cases P with
      | inl x => exact z
      | inr x => exact ⟨hP x.1 x.2 rfl, z⟩
    refine z_WP_gos [] 1000 fun K C hK hC => ?_
    conv => whnf
    refine hC _ _ _ _ _ _ _ _ _ _ (fun _ _ _ _ _ _ q => q) (sp_number (k := 6) (lo := 1) (hi := 8) hT hn hm (by omega) (by decide) (by decide) h (okQ_m key (fun fr3 st3 hQ f3 h => ?_) (fun c p hQ f3 fr3 h => ?_)))
    conv => whnf
    rotate_left
    · repeat ((first | refine And.intro (by (conv => arg 2; whnf); (try simp only [z_lit, nI_add, pk_mul, z_pr1, z_pr2]); exact z_in (by omega) (by decide)) ?_ | refine z_bt1 (by decide) ?_ | refine z_bf1 (by decide) ?_ | refine z_bt2 (by decide) ?_ | refine z_bf2 (by decide) ?_); conv => whnf)
      exact ⟨Or.inl rfl, hQ f3 fr3 h⟩
    obtain ⟨⟨P, hP1, hP8, hPe⟩, hQ⟩ := hQ
    have h16 := h.2.2.2.2.1
    have h19 := h.2.2.2.2.2.2.1
    have hl := tkM_le (t := t) (n := n) (st := st3)
    refine ⟨fun _ => ?_, fun z => absurd z (by decide)⟩
    conv => whnf
    simp (disch := omega) only [z_lit, nI_add, pk_mul, z_pr1, z_pr2, nI_clamp, z_m3_40, z_m3_41, z_m3_44, z_m3_u40, z_m3_u41, z_m3_u44, z_m3_m3, pk_us, pk_un]
    rw [h16]
    refine ⟨fun g => ?_, fun g => ?_⟩
    · have g' : ¬ tkM t n st3 = 11 := fun z => g (by rw [z])
      rw [if_neg g'] at hQ
      conv => whnf
      have key2 : okQ (pneed t n 10 fr3 st3) (fun fr4 st4 => fr4 = fr3 ∧ okQ (pnum t n m 7 0 ((fr4 (14 * m + 6)).toNatClampNeg - 1) fr4 st4) (fun fr' st' => ∀ f', lvM t n f' f0 m st' → Q (some (.int 1)) (z_ms (z_row I 46 fr') (f', w, y)) (z_R0 kp sp wd) J F cn) (fun c p => ∀ f' fr', ddM f' f0 c p → Q (some (.int 0)) (z_ms (z_row I 46 fr') (f', w, y)) (z_R0 kp sp wd) J F cn)) (fun c p => ∀ f' fr', ddM f' f0 c p → Q (some (.int 0)) (z_ms (z_row I 46 fr') (f', w, y)) (z_R0 kp sp wd) J F cn) := by
        have z := okQ_b hQ
        unfold pneed at z ⊢
        split at z
        · rename_i a; rw [if_pos a]; exact ⟨rfl, z⟩
        · rename_i a; rw [if_neg a]; exact z
      refine hC _ _ _ _ _ _ _ _ _ _ (fun _ _ _ _ _ _ q => q) (sp_need (q := 10) hT hn (by decide) h (okQ_m key2 (fun fr4 st4 hQ f4 h => ?_) (fun c p hQ f4 fr4 h => ?_)))
      conv => whnf
      rotate_left
      · repeat ((first | refine And.intro (by (conv => arg 2; whnf); (try simp only [z_lit, nI_add, pk_mul, z_pr1, z_pr2]); exact z_in (by omega) (by decide)) ?_ | refine z_bt1 (by decide) ?_ | refine z_bf1 (by decide) ?_ | refine z_bt2 (by decide) ?_ | refine z_bf2 (by decide) ?_); conv => whnf)
        exact ⟨Or.inl rfl, hQ f4 fr4 h⟩
      obtain ⟨efr, hQ5⟩ := hQ
      subst efr
      rw [hPe, nI_clamp (by omega)] at hQ5
      refine ⟨fun z => absurd z (by decide), fun _ => ?_⟩
      conv => whnf
      refine hC _ _ _ _ _ _ _ _ _ _ (fun _ _ _ _ _ _ q => q) (sp_field (k := 6) (v := nI P) hm (by omega) h hPe ?_)
      conv => whnf
      rw [show (fun x y : Int32 => x - y) (nI P) 1 = nI (P - 1) from pk_sub hP1]
      refine hC _ _ _ _ _ _ _ _ _ _ (fun _ _ _ _ _ _ q => q) (sp_number (k := 7) (lo := 0) (hi := P - 1) hT hn hm (by omega) (by omega) (by decide) h (okQ_m hQ5 (fun fr5 st5 hQ f5 h => ?_) (fun c p hQ f5 fr5 h => ?_)))
      conv => whnf
      · repeat ((first | refine And.intro (by (conv => arg 2; whnf); (try simp only [z_lit, nI_add, pk_mul, z_pr1, z_pr2]); exact z_in (by omega) (by decide)) ?_ | refine z_bt1 (by decide) ?_ | refine z_bf1 (by decide) ?_ | refine z_bt2 (by decide) ?_ | refine z_bf2 (by decide) ?_); conv => whnf)
        exact ⟨Or.inr rfl, hQ f5 h⟩
      · repeat ((first | refine And.intro (by (conv => arg 2; whnf); (try simp only [z_lit, nI_add, pk_mul, z_pr1, z_pr2]); exact z_in (by omega) (by decide)) ?_ | refine z_bt1 (by decide) ?_ | refine z_bf1 (by decide) ?_ | refine z_bt2 (by decide) ?_ | refine z_bf2 (by decide) ?_); conv => whnf)
        exact ⟨Or.inl rfl, hQ f5 fr5 h⟩
    · have g' : tkM t n st3 = 11 := nI_inj9 (b := 11) (by omega) (by omega) g
      rw [if_pos g'] at hQ
      conv => whnf
      simp (disch := omega) only [z_lit, nI_add, pk_mul, z_pr1, z_pr2, nI_clamp, z_m3_40, z_m3_41, z_m3_44, z_m3_u40, z_m3_u41, z_m3_u44, z_m3_m3, pk_us, pk_un]
      rw [h19]
      repeat ((first | refine And.intro (by (conv => arg 2; whnf); (try simp only [z_lit, nI_add, pk_mul, z_pr1, z_pr2]); exact z_in (by omega) (by decide)) ?_ | refine z_bt1 (by decide) ?_ | refine z_bf1 (by decide) ?_ | refine z_bt2 (by decide) ?_ | refine z_bf2 (by decide) ?_); conv => whnf)
      rw [z_ms_u46]
      simp (disch := omega) only [z_lit, nI_add, pk_mul, z_pr1, z_pr2, nI_clamp, z_m3_40, z_m3_41, z_m3_44, z_m3_u40, z_m3_u41, z_m3_u44, z_m3_m3, pk_us, pk_un]
      refine hC _ _ _ _ _ _ _ _ _ _ (fun _ _ _ _ _ _ q => q) (sp_next hT hn h (fun f4 h => ?_))
      conv => whnf
      exact ⟨Or.inr rfl, hQ f4 h⟩
  refine ⟨fun _ => ?_, fun z => absurd z (by decide)⟩
  conv => whnf
  simp (disch := omega) only [z_lit, nI_add, pk_mul, z_pr1, z_pr2, nI_clamp, z_m3_40, z_m3_41, z_m3_44, z_m3_u40, z_m3_u41, z_m3_u44, z_m3_m3, pk_us, pk_un]
  rw [h16]
  refine ⟨fun g => ?_, fun g => ?_⟩
  · have g' : ¬ tkM t n st2 = 2 := fun z => g (by rw [z])
    rw [if_neg fun z => g' z.1] at hQ
    conv => whnf
    refine hK _ _ _ _ _ _ _ _ _ _ (tail hQ)
  have g' : tkM t n st2 = 2 := nI_inj9 (b := 2) (by omega) (by omega) g
  have h18 := h.2.2.2.2.2.1 g'
  have yes : pev (tkV t n st2) = true → z_WP (z_X0 L xs) z_P0 (d + 9) m_Mod_whenever 58 [some (.ref 40)] [] (z_ms (z_row I 46 fr2) (f2, w, y)) (z_R0 kp sp wd) J F cn 0 0 Q := by
    intro e
    rw [if_neg fun z => by rw [e] at z; exact absurd z.2 (by decide)] at hQ
    exact tail hQ
  unfold pev at yes hQ
  generalize tkV t n st2 = v at *
  conv => whnf
  simp (disch := omega) only [z_lit, nI_add, pk_mul, z_pr1, z_pr2, nI_clamp, z_m3_40, z_m3_41, z_m3_44, z_m3_u40, z_m3_u41, z_m3_u44, z_m3_m3, pk_us, pk_un]
  rw [h18]
  refine ⟨fun g1 => ?_, fun g1 => ?_⟩
  · conv => whnf
    refine hK _ _ _ _ _ _ _ _ _ _ (yes (by rw [decide_eq_true (nI_inj9 (b := 1) (by omega) (by omega) g1)]; rfl))
  conv => whnf
  simp (disch := omega) only [z_lit, nI_add, pk_mul, z_pr1, z_pr2, nI_clamp, z_m3_40, z_m3_41, z_m3_44, z_m3_u40, z_m3_u41, z_m3_u44, z_m3_m3, pk_us, pk_un]
  rw [h18]
  refine ⟨fun g2 => ?_, fun g2 => ?_⟩
  · conv => whnf
    refine hK _ _ _ _ _ _ _ _ _ _ (yes (by rw [decide_eq_true (nI_inj9 (b := 2) (by omega) (by omega) g2)]; simp))
  conv => whnf
  simp (disch := omega) only [z_lit, nI_add, pk_mul, z_pr1, z_pr2, nI_clamp, z_m3_40, z_m3_41, z_m3_44, z_m3_u40, z_m3_u41, z_m3_u44, z_m3_m3, pk_us, pk_un]
  rw [h18]
  refine ⟨fun g3 => ?_, fun g3 => ?_⟩
  · conv => whnf
    refine hK _ _ _ _ _ _ _ _ _ _ (yes (by rw [decide_eq_true (nI_inj9 (b := 4) (by omega) (by omega) g3)]; simp))
  conv => whnf
  simp (disch := omega) only [z_lit, nI_add, pk_mul, z_pr1, z_pr2, nI_clamp, z_m3_40, z_m3_41, z_m3_44, z_m3_u40, z_m3_u41, z_m3_u44, z_m3_m3, pk_us, pk_un]
  rw [h18]
  refine ⟨fun g4 => ?_, fun g4 => ?_⟩
  · conv => whnf
    refine hK _ _ _ _ _ _ _ _ _ _ (yes (by rw [decide_eq_true (nI_inj9 (b := 8) (by omega) (by omega) g4)]; simp))
  have f1 : ¬ v = 1 := fun z => g1 (by rw [z])
  have f2' : ¬ v = 2 := fun z => g2 (by rw [z])
  have f4 : ¬ v = 4 := fun z => g3 (by rw [z])
  have f8 : ¬ v = 8 := fun z => g4 (by rw [z])
  rw [if_pos ⟨g', by rw [decide_eq_false f1, decide_eq_false f2', decide_eq_false f4, decide_eq_false f8]; rfl⟩] at hQ
  conv => whnf
  refine hC _ _ _ _ _ _ _ _ _ _ (fun _ _ _ _ _ _ q => q) (sp_bad (c := 2) h (fun f3 d3 => ?_))
  conv => whnf
  exact ⟨Or.inl rfl, hQ f3 fr2 d3⟩
end
