/-! the model's words -/
section
variable {L : Nat} {xs : Nat → Int32} {d : Nat} {kp sp wd : Value} {I : z_I} {s : z_sg} {R : z_R} {J : z_J} {F : z_F} {cn : Nat} {Q : z_Q} {N k : Nat} {t : Nat → Nat}
theorem weq_s {st j k : Nat} {W : List Nat} : weq t st W (j + 1) k = (decide (t (st + k) = W.getD k 0) && weq t st W j (k + 1)) := rfl
theorem lp_is6 {st : Nat} {b : Bool} (hT : mT I t N) (hN : N ≤ 500) (h17 : s.1 17 = nI st) (hle : st + 4 ≤ N) (hlow : ∀ k, st ≤ k → k < st + 4 → t k < 128) (hQ : Q (some (.int (z_bi b))) (z_ms I s) (z_R0 kp sp wd) J F cn) :
    ∀ i k, k + i = 4 → b = weq t st S6 i k → z_WP (z_X0 L xs) z_P0 (d + 4) m_Mod_is 20 [some (.ref 40), some (.retAddr 6), some (.int (nI k))] [] (z_ms I s) (z_R0 kp sp wd) J F cn 0 0 Q := by
  have hs : ∀ k, k < 4 → S6.getD k 0 < 128 := by decide
  intro i
  induction i with
  | zero =>
    intro k hk e
    obtain rfl : k = 4 := by omega
    subst e
    refine z_WP_gos [20] 1000 fun K C hK hC => ?_
    conv => whnf
    refine hC _ _ _ _ _ _ _ _ _ _ (fun _ _ _ _ _ _ q => q) (st_len6 ?_)
    conv => whnf
    repeat ((first | refine And.intro (by (conv => arg 2; whnf); (try simp only [z_lit, nI_add, pk_mul, z_pr1, z_pr2]); exact z_in (by omega) (by decide)) ?_ | refine z_bt1 (by decide) ?_ | refine z_bf1 (by decide) ?_ | refine z_bt2 (by decide) ?_ | refine z_bf2 (by decide) ?_); conv => whnf)
    exact ⟨Or.inr rfl, hQ⟩
  | succ i ih =>
    intro k hk e
    have ih' := ih (k + 1) (by omega)
    rw [weq_s] at e
    obtain ⟨et, hc⟩ := hT (st + k) (by omega)
    have hl := hlow (st + k) (by omega) (by omega)
    have e' : z_ms I s 45 (st + k) = nI (t (st + k)) := et.trans (sgb_lo _ hl)
    have hsk := hs k (by omega)
    refine z_WP_gos [20] 1000 fun K C hK hC => ?_
    conv => whnf
    refine hC _ _ _ _ _ _ _ _ _ _ (fun _ _ _ _ _ _ q => q) (st_len6 ?_)
    conv => whnf
    refine ⟨fun h => absurd h (nI_ge (b := 4) (by omega) (by omega)), fun _ => ?_⟩
    conv => whnf
    simp (disch := omega) only [z_lit, nI_add, pk_mul, z_pr1, z_pr2, nI_clamp, z_m3_40, z_m3_41, z_m3_44, z_m3_u40, z_m3_u41, z_m3_u44, z_m3_m3, pk_us, pk_un]
    rw [h17]
    repeat ((first | refine And.intro (by (conv => arg 2; whnf); (try simp only [z_lit, nI_add, pk_mul, z_pr1, z_pr2]); exact z_in (by omega) (by decide)) ?_ | refine z_bt1 (by decide) ?_ | refine z_bf1 (by decide) ?_ | refine z_bt2 (by decide) ?_ | refine z_bf2 (by decide) ?_); conv => whnf)
    simp (disch := omega) only [z_lit, nI_add, pk_mul, z_pr1, z_pr2, nI_clamp, z_m3_40, z_m3_41, z_m3_44, z_m3_u40, z_m3_u41, z_m3_u44, z_m3_m3, pk_us, pk_un]
    rw [e']
    refine hC _ _ _ _ _ _ _ _ _ _ (fun _ _ _ _ _ _ q => q) (st_chr6 (k := k) (by omega) ?_)
    conv => whnf
    refine ⟨fun g => ?_, fun g => ?_⟩
    · have g' : t (st + k) = S6.getD k 0 := nI_inj9 (by omega) (by omega) g
      rw [decide_eq_true g', Bool.true_and] at e
      conv => whnf
      simp (disch := omega) only [z_lit, nI_add, pk_mul, z_pr1, z_pr2, nI_clamp, z_m3_40, z_m3_41, z_m3_44, z_m3_u40, z_m3_u41, z_m3_u44, z_m3_m3, pk_us, pk_un]
      refine hK _ _ _ _ _ _ _ _ _ _ (ih' e)
    · have g' : ¬ t (st + k) = S6.getD k 0 := fun z => g (by rw [z])
      rw [decide_eq_false g'] at e
      subst e
      conv => whnf
      exact ⟨Or.inl rfl, hQ⟩
theorem sp_is6 {st len : Nat} (hT : mT I t N) (hN : N ≤ 500) (h15 : s.1 15 = nI (st + len)) (h17 : s.1 17 = nI st) (hle : st + len ≤ N) (hlow : ∀ k, st ≤ k → k < st + len → t k < 128) (hQ : Q (some (.int (z_bi (wm t st len S6)))) (z_ms I s) (z_R0 kp sp wd) J F cn) :
    z_M (z_X0 L xs) z_P0 (d + 4) m_Mod_is [.ref 40, .retAddr 6] (z_ms I s) (z_R0 kp sp wd) J F cn Q := by
  unfold wm at hQ
  rw [show S6.length = 4 from rfl] at hQ
  have e1 : nI (st + len) - nI st = nI len := by rw [pk_sub (by omega), Nat.add_sub_cancel_left]
  refine z_WP_gos [20] 1000 fun K C hK hC => ?_
  conv => whnf
  simp (disch := omega) only [z_lit, nI_add, pk_mul, z_pr1, z_pr2, nI_clamp, z_m3_40, z_m3_41, z_m3_44, z_m3_u40, z_m3_u41, z_m3_u44, z_m3_m3, pk_us, pk_un]
  rw [h15, h17, e1]
  refine hC _ _ _ _ _ _ _ _ _ _ (fun _ _ _ _ _ _ q => q) (st_len6 ?_)
  conv => whnf
  refine ⟨fun g => ?_, fun g => ?_⟩
  · have g' : len = 4 := nI_inj9 (by omega) (by omega) g
    rw [decide_eq_true g', Bool.true_and] at hQ
    subst g'
    conv => whnf
    refine hK _ _ _ _ _ _ _ _ _ _ (lp_is6 hT hN h17 hle hlow hQ 4 0 rfl rfl)
  · have g' : ¬ len = 4 := fun z => g (by rw [z])
    rw [decide_eq_false g'] at hQ
    conv => whnf
    exact ⟨Or.inl rfl, hQ⟩
theorem lp_is8 {st : Nat} {b : Bool} (hT : mT I t N) (hN : N ≤ 500) (h17 : s.1 17 = nI st) (hle : st + 3 ≤ N) (hlow : ∀ k, st ≤ k → k < st + 3 → t k < 128) (hQ : Q (some (.int (z_bi b))) (z_ms I s) (z_R0 kp sp wd) J F cn) :
    ∀ i k, k + i = 3 → b = weq t st S8 i k → z_WP (z_X0 L xs) z_P0 (d + 4) m_Mod_is 20 [some (.ref 40), some (.retAddr 8), some (.int (nI k))] [] (z_ms I s) (z_R0 kp sp wd) J F cn 0 0 Q := by
  have hs : ∀ k, k < 3 → S8.getD k 0 < 128 := by decide
  intro i
  induction i with
  | zero =>
    intro k hk e
    obtain rfl : k = 3 := by omega
    subst e
    refine z_WP_gos [20] 1000 fun K C hK hC => ?_
    conv => whnf
    refine hC _ _ _ _ _ _ _ _ _ _ (fun _ _ _ _ _ _ q => q) (st_len8 ?_)
    conv => whnf
    repeat ((first | refine And.intro (by (conv => arg 2; whnf); (try simp only [z_lit, nI_add, pk_mul, z_pr1, z_pr2]); exact z_in (by omega) (by decide)) ?_ | refine z_bt1 (by decide) ?_ | refine z_bf1 (by decide) ?_ | refine z_bt2 (by decide) ?_ | refine z_bf2 (by decide) ?_); conv => whnf)
    exact ⟨Or.inr rfl, hQ⟩
  | succ i ih =>
    intro k hk e
    have ih' := ih (k + 1) (by omega)
    rw [weq_s] at e
    obtain ⟨et, hc⟩ := hT (st + k) (by omega)
    have hl := hlow (st + k) (by omega) (by omega)
    have e' : z_ms I s 45 (st + k) = nI (t (st + k)) := et.trans (sgb_lo _ hl)
    have hsk := hs k (by omega)
    refine z_WP_gos [20] 1000 fun K C hK hC => ?_
    conv => whnf
    refine hC _ _ _ _ _ _ _ _ _ _ (fun _ _ _ _ _ _ q => q) (st_len8 ?_)
    conv => whnf
    refine ⟨fun h => absurd h (nI_ge (b := 3) (by omega) (by omega)), fun _ => ?_⟩
    conv => whnf
    simp (disch := omega) only [z_lit, nI_add, pk_mul, z_pr1, z_pr2, nI_clamp, z_m3_40, z_m3_41, z_m3_44, z_m3_u40, z_m3_u41, z_m3_u44, z_m3_m3, pk_us, pk_un]
    rw [h17]
    repeat ((first | refine And.intro (by (conv => arg 2; whnf); (try simp only [z_lit, nI_add, pk_mul, z_pr1, z_pr2]); exact z_in (by omega) (by decide)) ?_ | refine z_bt1 (by decide) ?_ | refine z_bf1 (by decide) ?_ | refine z_bt2 (by decide) ?_ | refine z_bf2 (by decide) ?_); conv => whnf)
    simp (disch := omega) only [z_lit, nI_add, pk_mul, z_pr1, z_pr2, nI_clamp, z_m3_40, z_m3_41, z_m3_44, z_m3_u40, z_m3_u41, z_m3_u44, z_m3_m3, pk_us, pk_un]
    rw [e']
    refine hC _ _ _ _ _ _ _ _ _ _ (fun _ _ _ _ _ _ q => q) (st_chr8 (k := k) (by omega) ?_)
    conv => whnf
    refine ⟨fun g => ?_, fun g => ?_⟩
    · have g' : t (st + k) = S8.getD k 0 := nI_inj9 (by omega) (by omega) g
      rw [decide_eq_true g', Bool.true_and] at e
      conv => whnf
      simp (disch := omega) only [z_lit, nI_add, pk_mul, z_pr1, z_pr2, nI_clamp, z_m3_40, z_m3_41, z_m3_44, z_m3_u40, z_m3_u41, z_m3_u44, z_m3_m3, pk_us, pk_un]
      refine hK _ _ _ _ _ _ _ _ _ _ (ih' e)
    · have g' : ¬ t (st + k) = S8.getD k 0 := fun z => g (by rw [z])
      rw [decide_eq_false g'] at e
      subst e
      conv => whnf
      exact ⟨Or.inl rfl, hQ⟩
theorem sp_is8 {st len : Nat} (hT : mT I t N) (hN : N ≤ 500) (h15 : s.1 15 = nI (st + len)) (h17 : s.1 17 = nI st) (hle : st + len ≤ N) (hlow : ∀ k, st ≤ k → k < st + len → t k < 128) (hQ : Q (some (.int (z_bi (wm t st len S8)))) (z_ms I s) (z_R0 kp sp wd) J F cn) :
    z_M (z_X0 L xs) z_P0 (d + 4) m_Mod_is [.ref 40, .retAddr 8] (z_ms I s) (z_R0 kp sp wd) J F cn Q := by
  unfold wm at hQ
  rw [show S8.length = 3 from rfl] at hQ
  have e1 : nI (st + len) - nI st = nI len := by rw [pk_sub (by omega), Nat.add_sub_cancel_left]
  refine z_WP_gos [20] 1000 fun K C hK hC => ?_
  conv => whnf
  simp (disch := omega) only [z_lit, nI_add, pk_mul, z_pr1, z_pr2, nI_clamp, z_m3_40, z_m3_41, z_m3_44, z_m3_u40, z_m3_u41, z_m3_u44, z_m3_m3, pk_us, pk_un]
  rw [h15, h17, e1]
  refine hC _ _ _ _ _ _ _ _ _ _ (fun _ _ _ _ _ _ q => q) (st_len8 ?_)
  conv => whnf
  refine ⟨fun g => ?_, fun g => ?_⟩
  · have g' : len = 3 := nI_inj9 (by omega) (by omega) g
    rw [decide_eq_true g', Bool.true_and] at hQ
    subst g'
    conv => whnf
    refine hK _ _ _ _ _ _ _ _ _ _ (lp_is8 hT hN h17 hle hlow hQ 3 0 rfl rfl)
  · have g' : ¬ len = 3 := fun z => g (by rw [z])
    rw [decide_eq_false g'] at hQ
    conv => whnf
    exact ⟨Or.inl rfl, hQ⟩
theorem lp_is10 {st : Nat} {b : Bool} (hT : mT I t N) (hN : N ≤ 500) (h17 : s.1 17 = nI st) (hle : st + 4 ≤ N) (hlow : ∀ k, st ≤ k → k < st + 4 → t k < 128) (hQ : Q (some (.int (z_bi b))) (z_ms I s) (z_R0 kp sp wd) J F cn) :
    ∀ i k, k + i = 4 → b = weq t st S10 i k → z_WP (z_X0 L xs) z_P0 (d + 4) m_Mod_is 20 [some (.ref 40), some (.retAddr 10), some (.int (nI k))] [] (z_ms I s) (z_R0 kp sp wd) J F cn 0 0 Q := by
  have hs : ∀ k, k < 4 → S10.getD k 0 < 128 := by decide
  intro i
  induction i with
  | zero =>
    intro k hk e
    obtain rfl : k = 4 := by omega
    subst e
    refine z_WP_gos [20] 1000 fun K C hK hC => ?_
    conv => whnf
    refine hC _ _ _ _ _ _ _ _ _ _ (fun _ _ _ _ _ _ q => q) (st_len10 ?_)
    conv => whnf
    repeat ((first | refine And.intro (by (conv => arg 2; whnf); (try simp only [z_lit, nI_add, pk_mul, z_pr1, z_pr2]); exact z_in (by omega) (by decide)) ?_ | refine z_bt1 (by decide) ?_ | refine z_bf1 (by decide) ?_ | refine z_bt2 (by decide) ?_ | refine z_bf2 (by decide) ?_); conv => whnf)
    exact ⟨Or.inr rfl, hQ⟩
  | succ i ih =>
    intro k hk e
    have ih' := ih (k + 1) (by omega)
    rw [weq_s] at e
    obtain ⟨et, hc⟩ := hT (st + k) (by omega)
    have hl := hlow (st + k) (by omega) (by omega)
    have e' : z_ms I s 45 (st + k) = nI (t (st + k)) := et.trans (sgb_lo _ hl)
    have hsk := hs k (by omega)
    refine z_WP_gos [20] 1000 fun K C hK hC => ?_
    conv => whnf
    refine hC _ _ _ _ _ _ _ _ _ _ (fun _ _ _ _ _ _ q => q) (st_len10 ?_)
    conv => whnf
    refine ⟨fun h => absurd h (nI_ge (b := 4) (by omega) (by omega)), fun _ => ?_⟩
    conv => whnf
    simp (disch := omega) only [z_lit, nI_add, pk_mul, z_pr1, z_pr2, nI_clamp, z_m3_40, z_m3_41, z_m3_44, z_m3_u40, z_m3_u41, z_m3_u44, z_m3_m3, pk_us, pk_un]
    rw [h17]
    repeat ((first | refine And.intro (by (conv => arg 2; whnf); (try simp only [z_lit, nI_add, pk_mul, z_pr1, z_pr2]); exact z_in (by omega) (by decide)) ?_ | refine z_bt1 (by decide) ?_ | refine z_bf1 (by decide) ?_ | refine z_bt2 (by decide) ?_ | refine z_bf2 (by decide) ?_); conv => whnf)
    simp (disch := omega) only [z_lit, nI_add, pk_mul, z_pr1, z_pr2, nI_clamp, z_m3_40, z_m3_41, z_m3_44, z_m3_u40, z_m3_u41, z_m3_u44, z_m3_m3, pk_us, pk_un]
    rw [e']
    refine hC _ _ _ _ _ _ _ _ _ _ (fun _ _ _ _ _ _ q => q) (st_chr10 (k := k) (by omega) ?_)
    conv => whnf
    refine ⟨fun g => ?_, fun g => ?_⟩
    · have g' : t (st + k) = S10.getD k 0 := nI_inj9 (by omega) (by omega) g
      rw [decide_eq_true g', Bool.true_and] at e
      conv => whnf
      simp (disch := omega) only [z_lit, nI_add, pk_mul, z_pr1, z_pr2, nI_clamp, z_m3_40, z_m3_41, z_m3_44, z_m3_u40, z_m3_u41, z_m3_u44, z_m3_m3, pk_us, pk_un]
      refine hK _ _ _ _ _ _ _ _ _ _ (ih' e)
    · have g' : ¬ t (st + k) = S10.getD k 0 := fun z => g (by rw [z])
      rw [decide_eq_false g'] at e
      subst e
      conv => whnf
      exact ⟨Or.inl rfl, hQ⟩
theorem sp_is10 {st len : Nat} (hT : mT I t N) (hN : N ≤ 500) (h15 : s.1 15 = nI (st + len)) (h17 : s.1 17 = nI st) (hle : st + len ≤ N) (hlow : ∀ k, st ≤ k → k < st + len → t k < 128) (hQ : Q (some (.int (z_bi (wm t st len S10)))) (z_ms I s) (z_R0 kp sp wd) J F cn) :
    z_M (z_X0 L xs) z_P0 (d + 4) m_Mod_is [.ref 40, .retAddr 10] (z_ms I s) (z_R0 kp sp wd) J F cn Q := by
  unfold wm at hQ
  rw [show S10.length = 4 from rfl] at hQ
  have e1 : nI (st + len) - nI st = nI len := by rw [pk_sub (by omega), Nat.add_sub_cancel_left]
  refine z_WP_gos [20] 1000 fun K C hK hC => ?_
  conv => whnf
  simp (disch := omega) only [z_lit, nI_add, pk_mul, z_pr1, z_pr2, nI_clamp, z_m3_40, z_m3_41, z_m3_44, z_m3_u40, z_m3_u41, z_m3_u44, z_m3_m3, pk_us, pk_un]
  rw [h15, h17, e1]
  refine hC _ _ _ _ _ _ _ _ _ _ (fun _ _ _ _ _ _ q => q) (st_len10 ?_)
  conv => whnf
  refine ⟨fun g => ?_, fun g => ?_⟩
  · have g' : len = 4 := nI_inj9 (by omega) (by omega) g
    rw [decide_eq_true g', Bool.true_and] at hQ
    subst g'
    conv => whnf
    refine hK _ _ _ _ _ _ _ _ _ _ (lp_is10 hT hN h17 hle hlow hQ 4 0 rfl rfl)
  · have g' : ¬ len = 4 := fun z => g (by rw [z])
    rw [decide_eq_false g'] at hQ
    conv => whnf
    exact ⟨Or.inl rfl, hQ⟩
theorem lp_is12 {st : Nat} {b : Bool} (hT : mT I t N) (hN : N ≤ 500) (h17 : s.1 17 = nI st) (hle : st + 3 ≤ N) (hlow : ∀ k, st ≤ k → k < st + 3 → t k < 128) (hQ : Q (some (.int (z_bi b))) (z_ms I s) (z_R0 kp sp wd) J F cn) :
    ∀ i k, k + i = 3 → b = weq t st S12 i k → z_WP (z_X0 L xs) z_P0 (d + 4) m_Mod_is 20 [some (.ref 40), some (.retAddr 12), some (.int (nI k))] [] (z_ms I s) (z_R0 kp sp wd) J F cn 0 0 Q := by
  have hs : ∀ k, k < 3 → S12.getD k 0 < 128 := by decide
  intro i
  induction i with
  | zero =>
    intro k hk e
    obtain rfl : k = 3 := by omega
    subst e
    refine z_WP_gos [20] 1000 fun K C hK hC => ?_
    conv => whnf
    refine hC _ _ _ _ _ _ _ _ _ _ (fun _ _ _ _ _ _ q => q) (st_len12 ?_)
    conv => whnf
    repeat ((first | refine And.intro (by (conv => arg 2; whnf); (try simp only [z_lit, nI_add, pk_mul, z_pr1, z_pr2]); exact z_in (by omega) (by decide)) ?_ | refine z_bt1 (by decide) ?_ | refine z_bf1 (by decide) ?_ | refine z_bt2 (by decide) ?_ | refine z_bf2 (by decide) ?_); conv => whnf)
    exact ⟨Or.inr rfl, hQ⟩
  | succ i ih =>
    intro k hk e
    have ih' := ih (k + 1) (by omega)
    rw [weq_s] at e
    obtain ⟨et, hc⟩ := hT (st + k) (by omega)
    have hl := hlow (st + k) (by omega) (by omega)
    have e' : z_ms I s 45 (st + k) = nI (t (st + k)) := et.trans (sgb_lo _ hl)
    have hsk := hs k (by omega)
    refine z_WP_gos [20] 1000 fun K C hK hC => ?_
    conv => whnf
    refine hC _ _ _ _ _ _ _ _ _ _ (fun _ _ _ _ _ _ q => q) (st_len12 ?_)
    conv => whnf
    refine ⟨fun h => absurd h (nI_ge (b := 3) (by omega) (by omega)), fun _ => ?_⟩
    conv => whnf
    simp (disch := omega) only [z_lit, nI_add, pk_mul, z_pr1, z_pr2, nI_clamp, z_m3_40, z_m3_41, z_m3_44, z_m3_u40, z_m3_u41, z_m3_u44, z_m3_m3, pk_us, pk_un]
    rw [h17]
    repeat ((first | refine And.intro (by (conv => arg 2; whnf); (try simp only [z_lit, nI_add, pk_mul, z_pr1, z_pr2]); exact z_in (by omega) (by decide)) ?_ | refine z_bt1 (by decide) ?_ | refine z_bf1 (by decide) ?_ | refine z_bt2 (by decide) ?_ | refine z_bf2 (by decide) ?_); conv => whnf)
    simp (disch := omega) only [z_lit, nI_add, pk_mul, z_pr1, z_pr2, nI_clamp, z_m3_40, z_m3_41, z_m3_44, z_m3_u40, z_m3_u41, z_m3_u44, z_m3_m3, pk_us, pk_un]
    rw [e']
    refine hC _ _ _ _ _ _ _ _ _ _ (fun _ _ _ _ _ _ q => q) (st_chr12 (k := k) (by omega) ?_)
    conv => whnf
    refine ⟨fun g => ?_, fun g => ?_⟩
    · have g' : t (st + k) = S12.getD k 0 := nI_inj9 (by omega) (by omega) g
      rw [decide_eq_true g', Bool.true_and] at e
      conv => whnf
      simp (disch := omega) only [z_lit, nI_add, pk_mul, z_pr1, z_pr2, nI_clamp, z_m3_40, z_m3_41, z_m3_44, z_m3_u40, z_m3_u41, z_m3_u44, z_m3_m3, pk_us, pk_un]
      refine hK _ _ _ _ _ _ _ _ _ _ (ih' e)
    · have g' : ¬ t (st + k) = S12.getD k 0 := fun z => g (by rw [z])
      rw [decide_eq_false g'] at e
      subst e
      conv => whnf
      exact ⟨Or.inl rfl, hQ⟩
theorem sp_is12 {st len : Nat} (hT : mT I t N) (hN : N ≤ 500) (h15 : s.1 15 = nI (st + len)) (h17 : s.1 17 = nI st) (hle : st + len ≤ N) (hlow : ∀ k, st ≤ k → k < st + len → t k < 128) (hQ : Q (some (.int (z_bi (wm t st len S12)))) (z_ms I s) (z_R0 kp sp wd) J F cn) :
    z_M (z_X0 L xs) z_P0 (d + 4) m_Mod_is [.ref 40, .retAddr 12] (z_ms I s) (z_R0 kp sp wd) J F cn Q := by
  unfold wm at hQ
  rw [show S12.length = 3 from rfl] at hQ
  have e1 : nI (st + len) - nI st = nI len := by rw [pk_sub (by omega), Nat.add_sub_cancel_left]
  refine z_WP_gos [20] 1000 fun K C hK hC => ?_
  conv => whnf
  simp (disch := omega) only [z_lit, nI_add, pk_mul, z_pr1, z_pr2, nI_clamp, z_m3_40, z_m3_41, z_m3_44, z_m3_u40, z_m3_u41, z_m3_u44, z_m3_m3, pk_us, pk_un]
  rw [h15, h17, e1]
  refine hC _ _ _ _ _ _ _ _ _ _ (fun _ _ _ _ _ _ q => q) (st_len12 ?_)
  conv => whnf
  refine ⟨fun g => ?_, fun g => ?_⟩
  · have g' : len = 3 := nI_inj9 (by omega) (by omega) g
    rw [decide_eq_true g', Bool.true_and] at hQ
    subst g'
    conv => whnf
    refine hK _ _ _ _ _ _ _ _ _ _ (lp_is12 hT hN h17 hle hlow hQ 3 0 rfl rfl)
  · have g' : ¬ len = 3 := fun z => g (by rw [z])
    rw [decide_eq_false g'] at hQ
    conv => whnf
    exact ⟨Or.inl rfl, hQ⟩
theorem lp_is14 {st : Nat} {b : Bool} (hT : mT I t N) (hN : N ≤ 500) (h17 : s.1 17 = nI st) (hle : st + 4 ≤ N) (hlow : ∀ k, st ≤ k → k < st + 4 → t k < 128) (hQ : Q (some (.int (z_bi b))) (z_ms I s) (z_R0 kp sp wd) J F cn) :
    ∀ i k, k + i = 4 → b = weq t st S14 i k → z_WP (z_X0 L xs) z_P0 (d + 4) m_Mod_is 20 [some (.ref 40), some (.retAddr 14), some (.int (nI k))] [] (z_ms I s) (z_R0 kp sp wd) J F cn 0 0 Q := by
  have hs : ∀ k, k < 4 → S14.getD k 0 < 128 := by decide
  intro i
  induction i with
  | zero =>
    intro k hk e
    obtain rfl : k = 4 := by omega
    subst e
    refine z_WP_gos [20] 1000 fun K C hK hC => ?_
    conv => whnf
    refine hC _ _ _ _ _ _ _ _ _ _ (fun _ _ _ _ _ _ q => q) (st_len14 ?_)
    conv => whnf
    repeat ((first | refine And.intro (by (conv => arg 2; whnf); (try simp only [z_lit, nI_add, pk_mul, z_pr1, z_pr2]); exact z_in (by omega) (by decide)) ?_ | refine z_bt1 (by decide) ?_ | refine z_bf1 (by decide) ?_ | refine z_bt2 (by decide) ?_ | refine z_bf2 (by decide) ?_); conv => whnf)
    exact ⟨Or.inr rfl, hQ⟩
  | succ i ih =>
    intro k hk e
    have ih' := ih (k + 1) (by omega)
    rw [weq_s] at e
    obtain ⟨et, hc⟩ := hT (st + k) (by omega)
    have hl := hlow (st + k) (by omega) (by omega)
    have e' : z_ms I s 45 (st + k) = nI (t (st + k)) := et.trans (sgb_lo _ hl)
    have hsk := hs k (by omega)
    refine z_WP_gos [20] 1000 fun K C hK hC => ?_
    conv => whnf
    refine hC _ _ _ _ _ _ _ _ _ _ (fun _ _ _ _ _ _ q => q) (st_len14 ?_)
    conv => whnf
    refine ⟨fun h => absurd h (nI_ge (b := 4) (by omega) (by omega)), fun _ => ?_⟩
    conv => whnf
    simp (disch := omega) only [z_lit, nI_add, pk_mul, z_pr1, z_pr2, nI_clamp, z_m3_40, z_m3_41, z_m3_44, z_m3_u40, z_m3_u41, z_m3_u44, z_m3_m3, pk_us, pk_un]
    rw [h17]
    repeat ((first | refine And.intro (by (conv => arg 2; whnf); (try simp only [z_lit, nI_add, pk_mul, z_pr1, z_pr2]); exact z_in (by omega) (by decide)) ?_ | refine z_bt1 (by decide) ?_ | refine z_bf1 (by decide) ?_ | refine z_bt2 (by decide) ?_ | refine z_bf2 (by decide) ?_); conv => whnf)
    simp (disch := omega) only [z_lit, nI_add, pk_mul, z_pr1, z_pr2, nI_clamp, z_m3_40, z_m3_41, z_m3_44, z_m3_u40, z_m3_u41, z_m3_u44, z_m3_m3, pk_us, pk_un]
    rw [e']
    refine hC _ _ _ _ _ _ _ _ _ _ (fun _ _ _ _ _ _ q => q) (st_chr14 (k := k) (by omega) ?_)
    conv => whnf
    refine ⟨fun g => ?_, fun g => ?_⟩
    · have g' : t (st + k) = S14.getD k 0 := nI_inj9 (by omega) (by omega) g
      rw [decide_eq_true g', Bool.true_and] at e
      conv => whnf
      simp (disch := omega) only [z_lit, nI_add, pk_mul, z_pr1, z_pr2, nI_clamp, z_m3_40, z_m3_41, z_m3_44, z_m3_u40, z_m3_u41, z_m3_u44, z_m3_m3, pk_us, pk_un]
      refine hK _ _ _ _ _ _ _ _ _ _ (ih' e)
    · have g' : ¬ t (st + k) = S14.getD k 0 := fun z => g (by rw [z])
      rw [decide_eq_false g'] at e
      subst e
      conv => whnf
      exact ⟨Or.inl rfl, hQ⟩
theorem sp_is14 {st len : Nat} (hT : mT I t N) (hN : N ≤ 500) (h15 : s.1 15 = nI (st + len)) (h17 : s.1 17 = nI st) (hle : st + len ≤ N) (hlow : ∀ k, st ≤ k → k < st + len → t k < 128) (hQ : Q (some (.int (z_bi (wm t st len S14)))) (z_ms I s) (z_R0 kp sp wd) J F cn) :
    z_M (z_X0 L xs) z_P0 (d + 4) m_Mod_is [.ref 40, .retAddr 14] (z_ms I s) (z_R0 kp sp wd) J F cn Q := by
  unfold wm at hQ
  rw [show S14.length = 4 from rfl] at hQ
  have e1 : nI (st + len) - nI st = nI len := by rw [pk_sub (by omega), Nat.add_sub_cancel_left]
  refine z_WP_gos [20] 1000 fun K C hK hC => ?_
  conv => whnf
  simp (disch := omega) only [z_lit, nI_add, pk_mul, z_pr1, z_pr2, nI_clamp, z_m3_40, z_m3_41, z_m3_44, z_m3_u40, z_m3_u41, z_m3_u44, z_m3_m3, pk_us, pk_un]
  rw [h15, h17, e1]
  refine hC _ _ _ _ _ _ _ _ _ _ (fun _ _ _ _ _ _ q => q) (st_len14 ?_)
  conv => whnf
  refine ⟨fun g => ?_, fun g => ?_⟩
  · have g' : len = 4 := nI_inj9 (by omega) (by omega) g
    rw [decide_eq_true g', Bool.true_and] at hQ
    subst g'
    conv => whnf
    refine hK _ _ _ _ _ _ _ _ _ _ (lp_is14 hT hN h17 hle hlow hQ 4 0 rfl rfl)
  · have g' : ¬ len = 4 := fun z => g (by rw [z])
    rw [decide_eq_false g'] at hQ
    conv => whnf
    exact ⟨Or.inl rfl, hQ⟩
theorem lp_is16 {st : Nat} {b : Bool} (hT : mT I t N) (hN : N ≤ 500) (h17 : s.1 17 = nI st) (hle : st + 4 ≤ N) (hlow : ∀ k, st ≤ k → k < st + 4 → t k < 128) (hQ : Q (some (.int (z_bi b))) (z_ms I s) (z_R0 kp sp wd) J F cn) :
    ∀ i k, k + i = 4 → b = weq t st S16 i k → z_WP (z_X0 L xs) z_P0 (d + 4) m_Mod_is 20 [some (.ref 40), some (.retAddr 16), some (.int (nI k))] [] (z_ms I s) (z_R0 kp sp wd) J F cn 0 0 Q := by
  have hs : ∀ k, k < 4 → S16.getD k 0 < 128 := by decide
  intro i
  induction i with
  | zero =>
    intro k hk e
    obtain rfl : k = 4 := by omega
    subst e
    refine z_WP_gos [20] 1000 fun K C hK hC => ?_
    conv => whnf
    refine hC _ _ _ _ _ _ _ _ _ _ (fun _ _ _ _ _ _ q => q) (st_len16 ?_)
    conv => whnf
    repeat ((first | refine And.intro (by (conv => arg 2; whnf); (try simp only [z_lit, nI_add, pk_mul, z_pr1, z_pr2]); exact z_in (by omega) (by decide)) ?_ | refine z_bt1 (by decide) ?_ | refine z_bf1 (by decide) ?_ | refine z_bt2 (by decide) ?_ | refine z_bf2 (by decide) ?_); conv => whnf)
    exact ⟨Or.inr rfl, hQ⟩
  | succ i ih =>
    intro k hk e
    have ih' := ih (k + 1) (by omega)
    rw [weq_s] at e
    obtain ⟨et, hc⟩ := hT (st + k) (by omega)
    have hl := hlow (st + k) (by omega) (by omega)
    have e' : z_ms I s 45 (st + k) = nI (t (st + k)) := et.trans (sgb_lo _ hl)
    have hsk := hs k (by omega)
    refine z_WP_gos [20] 1000 fun K C hK hC => ?_
    conv => whnf
    refine hC _ _ _ _ _ _ _ _ _ _ (fun _ _ _ _ _ _ q => q) (st_len16 ?_)
    conv => whnf
    refine ⟨fun h => absurd h (nI_ge (b := 4) (by omega) (by omega)), fun _ => ?_⟩
    conv => whnf
    simp (disch := omega) only [z_lit, nI_add, pk_mul, z_pr1, z_pr2, nI_clamp, z_m3_40, z_m3_41, z_m3_44, z_m3_u40, z_m3_u41, z_m3_u44, z_m3_m3, pk_us, pk_un]
    rw [h17]
    repeat ((first | refine And.intro (by (conv => arg 2; whnf); (try simp only [z_lit, nI_add, pk_mul, z_pr1, z_pr2]); exact z_in (by omega) (by decide)) ?_ | refine z_bt1 (by decide) ?_ | refine z_bf1 (by decide) ?_ | refine z_bt2 (by decide) ?_ | refine z_bf2 (by decide) ?_); conv => whnf)
    simp (disch := omega) only [z_lit, nI_add, pk_mul, z_pr1, z_pr2, nI_clamp, z_m3_40, z_m3_41, z_m3_44, z_m3_u40, z_m3_u41, z_m3_u44, z_m3_m3, pk_us, pk_un]
    rw [e']
    refine hC _ _ _ _ _ _ _ _ _ _ (fun _ _ _ _ _ _ q => q) (st_chr16 (k := k) (by omega) ?_)
    conv => whnf
    refine ⟨fun g => ?_, fun g => ?_⟩
    · have g' : t (st + k) = S16.getD k 0 := nI_inj9 (by omega) (by omega) g
      rw [decide_eq_true g', Bool.true_and] at e
      conv => whnf
      simp (disch := omega) only [z_lit, nI_add, pk_mul, z_pr1, z_pr2, nI_clamp, z_m3_40, z_m3_41, z_m3_44, z_m3_u40, z_m3_u41, z_m3_u44, z_m3_m3, pk_us, pk_un]
      refine hK _ _ _ _ _ _ _ _ _ _ (ih' e)
    · have g' : ¬ t (st + k) = S16.getD k 0 := fun z => g (by rw [z])
      rw [decide_eq_false g'] at e
      subst e
      conv => whnf
      exact ⟨Or.inl rfl, hQ⟩
theorem sp_is16 {st len : Nat} (hT : mT I t N) (hN : N ≤ 500) (h15 : s.1 15 = nI (st + len)) (h17 : s.1 17 = nI st) (hle : st + len ≤ N) (hlow : ∀ k, st ≤ k → k < st + len → t k < 128) (hQ : Q (some (.int (z_bi (wm t st len S16)))) (z_ms I s) (z_R0 kp sp wd) J F cn) :
    z_M (z_X0 L xs) z_P0 (d + 4) m_Mod_is [.ref 40, .retAddr 16] (z_ms I s) (z_R0 kp sp wd) J F cn Q := by
  unfold wm at hQ
  rw [show S16.length = 4 from rfl] at hQ
  have e1 : nI (st + len) - nI st = nI len := by rw [pk_sub (by omega), Nat.add_sub_cancel_left]
  refine z_WP_gos [20] 1000 fun K C hK hC => ?_
  conv => whnf
  simp (disch := omega) only [z_lit, nI_add, pk_mul, z_pr1, z_pr2, nI_clamp, z_m3_40, z_m3_41, z_m3_44, z_m3_u40, z_m3_u41, z_m3_u44, z_m3_m3, pk_us, pk_un]
  rw [h15, h17, e1]
  refine hC _ _ _ _ _ _ _ _ _ _ (fun _ _ _ _ _ _ q => q) (st_len16 ?_)
  conv => whnf
  refine ⟨fun g => ?_, fun g => ?_⟩
  · have g' : len = 4 := nI_inj9 (by omega) (by omega) g
    rw [decide_eq_true g', Bool.true_and] at hQ
    subst g'
    conv => whnf
    refine hK _ _ _ _ _ _ _ _ _ _ (lp_is16 hT hN h17 hle hlow hQ 4 0 rfl rfl)
  · have g' : ¬ len = 4 := fun z => g (by rw [z])
    rw [decide_eq_false g'] at hQ
    conv => whnf
    exact ⟨Or.inl rfl, hQ⟩
theorem lp_is18 {st : Nat} {b : Bool} (hT : mT I t N) (hN : N ≤ 500) (h17 : s.1 17 = nI st) (hle : st + 5 ≤ N) (hlow : ∀ k, st ≤ k → k < st + 5 → t k < 128) (hQ : Q (some (.int (z_bi b))) (z_ms I s) (z_R0 kp sp wd) J F cn) :
    ∀ i k, k + i = 5 → b = weq t st S18 i k → z_WP (z_X0 L xs) z_P0 (d + 4) m_Mod_is 20 [some (.ref 40), some (.retAddr 18), some (.int (nI k))] [] (z_ms I s) (z_R0 kp sp wd) J F cn 0 0 Q := by
  have hs : ∀ k, k < 5 → S18.getD k 0 < 128 := by decide
  intro i
  induction i with
  | zero =>
    intro k hk e
    obtain rfl : k = 5 := by omega
    subst e
    refine z_WP_gos [20] 1000 fun K C hK hC => ?_
    conv => whnf
    refine hC _ _ _ _ _ _ _ _ _ _ (fun _ _ _ _ _ _ q => q) (st_len18 ?_)
    conv => whnf
    repeat ((first | refine And.intro (by (conv => arg 2; whnf); (try simp only [z_lit, nI_add, pk_mul, z_pr1, z_pr2]); exact z_in (by omega) (by decide)) ?_ | refine z_bt1 (by decide) ?_ | refine z_bf1 (by decide) ?_ | refine z_bt2 (by decide) ?_ | refine z_bf2 (by decide) ?_); conv => whnf)
    exact ⟨Or.inr rfl, hQ⟩
  | succ i ih =>
    intro k hk e
    have ih' := ih (k + 1) (by omega)
    rw [weq_s] at e
    obtain ⟨et, hc⟩ := hT (st + k) (by omega)
    have hl := hlow (st + k) (by omega) (by omega)
    have e' : z_ms I s 45 (st + k) = nI (t (st + k)) := et.trans (sgb_lo _ hl)
    have hsk := hs k (by omega)
    refine z_WP_gos [20] 1000 fun K C hK hC => ?_
    conv => whnf
    refine hC _ _ _ _ _ _ _ _ _ _ (fun _ _ _ _ _ _ q => q) (st_len18 ?_)
    conv => whnf
    refine ⟨fun h => absurd h (nI_ge (b := 5) (by omega) (by omega)), fun _ => ?_⟩
    conv => whnf
    simp (disch := omega) only [z_lit, nI_add, pk_mul, z_pr1, z_pr2, nI_clamp, z_m3_40, z_m3_41, z_m3_44, z_m3_u40, z_m3_u41, z_m3_u44, z_m3_m3, pk_us, pk_un]
    rw [h17]
    repeat ((first | refine And.intro (by (conv => arg 2; whnf); (try simp only [z_lit, nI_add, pk_mul, z_pr1, z_pr2]); exact z_in (by omega) (by decide)) ?_ | refine z_bt1 (by decide) ?_ | refine z_bf1 (by decide) ?_ | refine z_bt2 (by decide) ?_ | refine z_bf2 (by decide) ?_); conv => whnf)
    simp (disch := omega) only [z_lit, nI_add, pk_mul, z_pr1, z_pr2, nI_clamp, z_m3_40, z_m3_41, z_m3_44, z_m3_u40, z_m3_u41, z_m3_u44, z_m3_m3, pk_us, pk_un]
    rw [e']
    refine hC _ _ _ _ _ _ _ _ _ _ (fun _ _ _ _ _ _ q => q) (st_chr18 (k := k) (by omega) ?_)
    conv => whnf
    refine ⟨fun g => ?_, fun g => ?_⟩
    · have g' : t (st + k) = S18.getD k 0 := nI_inj9 (by omega) (by omega) g
      rw [decide_eq_true g', Bool.true_and] at e
      conv => whnf
      simp (disch := omega) only [z_lit, nI_add, pk_mul, z_pr1, z_pr2, nI_clamp, z_m3_40, z_m3_41, z_m3_44, z_m3_u40, z_m3_u41, z_m3_u44, z_m3_m3, pk_us, pk_un]
      refine hK _ _ _ _ _ _ _ _ _ _ (ih' e)
    · have g' : ¬ t (st + k) = S18.getD k 0 := fun z => g (by rw [z])
      rw [decide_eq_false g'] at e
      subst e
      conv => whnf
      exact ⟨Or.inl rfl, hQ⟩
theorem sp_is18 {st len : Nat} (hT : mT I t N) (hN : N ≤ 500) (h15 : s.1 15 = nI (st + len)) (h17 : s.1 17 = nI st) (hle : st + len ≤ N) (hlow : ∀ k, st ≤ k → k < st + len → t k < 128) (hQ : Q (some (.int (z_bi (wm t st len S18)))) (z_ms I s) (z_R0 kp sp wd) J F cn) :
    z_M (z_X0 L xs) z_P0 (d + 4) m_Mod_is [.ref 40, .retAddr 18] (z_ms I s) (z_R0 kp sp wd) J F cn Q := by
  unfold wm at hQ
  rw [show S18.length = 5 from rfl] at hQ
  have e1 : nI (st + len) - nI st = nI len := by rw [pk_sub (by omega), Nat.add_sub_cancel_left]
  refine z_WP_gos [20] 1000 fun K C hK hC => ?_
  conv => whnf
  simp (disch := omega) only [z_lit, nI_add, pk_mul, z_pr1, z_pr2, nI_clamp, z_m3_40, z_m3_41, z_m3_44, z_m3_u40, z_m3_u41, z_m3_u44, z_m3_m3, pk_us, pk_un]
  rw [h15, h17, e1]
  refine hC _ _ _ _ _ _ _ _ _ _ (fun _ _ _ _ _ _ q => q) (st_len18 ?_)
  conv => whnf
  refine ⟨fun g => ?_, fun g => ?_⟩
  · have g' : len = 5 := nI_inj9 (by omega) (by omega) g
    rw [decide_eq_true g', Bool.true_and] at hQ
    subst g'
    conv => whnf
    refine hK _ _ _ _ _ _ _ _ _ _ (lp_is18 hT hN h17 hle hlow hQ 5 0 rfl rfl)
  · have g' : ¬ len = 5 := fun z => g (by rw [z])
    rw [decide_eq_false g'] at hQ
    conv => whnf
    exact ⟨Or.inl rfl, hQ⟩
theorem lp_is20 {st : Nat} {b : Bool} (hT : mT I t N) (hN : N ≤ 500) (h17 : s.1 17 = nI st) (hle : st + 2 ≤ N) (hlow : ∀ k, st ≤ k → k < st + 2 → t k < 128) (hQ : Q (some (.int (z_bi b))) (z_ms I s) (z_R0 kp sp wd) J F cn) :
    ∀ i k, k + i = 2 → b = weq t st S20 i k → z_WP (z_X0 L xs) z_P0 (d + 4) m_Mod_is 20 [some (.ref 40), some (.retAddr 20), some (.int (nI k))] [] (z_ms I s) (z_R0 kp sp wd) J F cn 0 0 Q := by
  have hs : ∀ k, k < 2 → S20.getD k 0 < 128 := by decide
  intro i
  induction i with
  | zero =>
    intro k hk e
    obtain rfl : k = 2 := by omega
    subst e
    refine z_WP_gos [20] 1000 fun K C hK hC => ?_
    conv => whnf
    refine hC _ _ _ _ _ _ _ _ _ _ (fun _ _ _ _ _ _ q => q) (st_len20 ?_)
    conv => whnf
    repeat ((first | refine And.intro (by (conv => arg 2; whnf); (try simp only [z_lit, nI_add, pk_mul, z_pr1, z_pr2]); exact z_in (by omega) (by decide)) ?_ | refine z_bt1 (by decide) ?_ | refine z_bf1 (by decide) ?_ | refine z_bt2 (by decide) ?_ | refine z_bf2 (by decide) ?_); conv => whnf)
    exact ⟨Or.inr rfl, hQ⟩
  | succ i ih =>
    intro k hk e
    have ih' := ih (k + 1) (by omega)
    rw [weq_s] at e
    obtain ⟨et, hc⟩ := hT (st + k) (by omega)
    have hl := hlow (st + k) (by omega) (by omega)
    have e' : z_ms I s 45 (st + k) = nI (t (st + k)) := et.trans (sgb_lo _ hl)
    have hsk := hs k (by omega)
    refine z_WP_gos [20] 1000 fun K C hK hC => ?_
    conv => whnf
    refine hC _ _ _ _ _ _ _ _ _ _ (fun _ _ _ _ _ _ q => q) (st_len20 ?_)
    conv => whnf
    refine ⟨fun h => absurd h (nI_ge (b := 2) (by omega) (by omega)), fun _ => ?_⟩
    conv => whnf
    simp (disch := omega) only [z_lit, nI_add, pk_mul, z_pr1, z_pr2, nI_clamp, z_m3_40, z_m3_41, z_m3_44, z_m3_u40, z_m3_u41, z_m3_u44, z_m3_m3, pk_us, pk_un]
    rw [h17]
    repeat ((first | refine And.intro (by (conv => arg 2; whnf); (try simp only [z_lit, nI_add, pk_mul, z_pr1, z_pr2]); exact z_in (by omega) (by decide)) ?_ | refine z_bt1 (by decide) ?_ | refine z_bf1 (by decide) ?_ | refine z_bt2 (by decide) ?_ | refine z_bf2 (by decide) ?_); conv => whnf)
    simp (disch := omega) only [z_lit, nI_add, pk_mul, z_pr1, z_pr2, nI_clamp, z_m3_40, z_m3_41, z_m3_44, z_m3_u40, z_m3_u41, z_m3_u44, z_m3_m3, pk_us, pk_un]
    rw [e']
    refine hC _ _ _ _ _ _ _ _ _ _ (fun _ _ _ _ _ _ q => q) (st_chr20 (k := k) (by omega) ?_)
    conv => whnf
    refine ⟨fun g => ?_, fun g => ?_⟩
    · have g' : t (st + k) = S20.getD k 0 := nI_inj9 (by omega) (by omega) g
      rw [decide_eq_true g', Bool.true_and] at e
      conv => whnf
      simp (disch := omega) only [z_lit, nI_add, pk_mul, z_pr1, z_pr2, nI_clamp, z_m3_40, z_m3_41, z_m3_44, z_m3_u40, z_m3_u41, z_m3_u44, z_m3_m3, pk_us, pk_un]
      refine hK _ _ _ _ _ _ _ _ _ _ (ih' e)
    · have g' : ¬ t (st + k) = S20.getD k 0 := fun z => g (by rw [z])
      rw [decide_eq_false g'] at e
      subst e
      conv => whnf
      exact ⟨Or.inl rfl, hQ⟩
theorem sp_is20 {st len : Nat} (hT : mT I t N) (hN : N ≤ 500) (h15 : s.1 15 = nI (st + len)) (h17 : s.1 17 = nI st) (hle : st + len ≤ N) (hlow : ∀ k, st ≤ k → k < st + len → t k < 128) (hQ : Q (some (.int (z_bi (wm t st len S20)))) (z_ms I s) (z_R0 kp sp wd) J F cn) :
    z_M (z_X0 L xs) z_P0 (d + 4) m_Mod_is [.ref 40, .retAddr 20] (z_ms I s) (z_R0 kp sp wd) J F cn Q := by
  unfold wm at hQ
  rw [show S20.length = 2 from rfl] at hQ
  have e1 : nI (st + len) - nI st = nI len := by rw [pk_sub (by omega), Nat.add_sub_cancel_left]
  refine z_WP_gos [20] 1000 fun K C hK hC => ?_
  conv => whnf
  simp (disch := omega) only [z_lit, nI_add, pk_mul, z_pr1, z_pr2, nI_clamp, z_m3_40, z_m3_41, z_m3_44, z_m3_u40, z_m3_u41, z_m3_u44, z_m3_m3, pk_us, pk_un]
  rw [h15, h17, e1]
  refine hC _ _ _ _ _ _ _ _ _ _ (fun _ _ _ _ _ _ q => q) (st_len20 ?_)
  conv => whnf
  refine ⟨fun g => ?_, fun g => ?_⟩
  · have g' : len = 2 := nI_inj9 (by omega) (by omega) g
    rw [decide_eq_true g', Bool.true_and] at hQ
    subst g'
    conv => whnf
    refine hK _ _ _ _ _ _ _ _ _ _ (lp_is20 hT hN h17 hle hlow hQ 2 0 rfl rfl)
  · have g' : ¬ len = 2 := fun z => g (by rw [z])
    rw [decide_eq_false g'] at hQ
    conv => whnf
    exact ⟨Or.inl rfl, hQ⟩
theorem lp_is22 {st : Nat} {b : Bool} (hT : mT I t N) (hN : N ≤ 500) (h17 : s.1 17 = nI st) (hle : st + 3 ≤ N) (hlow : ∀ k, st ≤ k → k < st + 3 → t k < 128) (hQ : Q (some (.int (z_bi b))) (z_ms I s) (z_R0 kp sp wd) J F cn) :
    ∀ i k, k + i = 3 → b = weq t st S22 i k → z_WP (z_X0 L xs) z_P0 (d + 4) m_Mod_is 20 [some (.ref 40), some (.retAddr 22), some (.int (nI k))] [] (z_ms I s) (z_R0 kp sp wd) J F cn 0 0 Q := by
  have hs : ∀ k, k < 3 → S22.getD k 0 < 128 := by decide
  intro i
  induction i with
  | zero =>
    intro k hk e
    obtain rfl : k = 3 := by omega
    subst e
    refine z_WP_gos [20] 1000 fun K C hK hC => ?_
    conv => whnf
    refine hC _ _ _ _ _ _ _ _ _ _ (fun _ _ _ _ _ _ q => q) (st_len22 ?_)
    conv => whnf
    repeat ((first | refine And.intro (by (conv => arg 2; whnf); (try simp only [z_lit, nI_add, pk_mul, z_pr1, z_pr2]); exact z_in (by omega) (by decide)) ?_ | refine z_bt1 (by decide) ?_ | refine z_bf1 (by decide) ?_ | refine z_bt2 (by decide) ?_ | refine z_bf2 (by decide) ?_); conv => whnf)
    exact ⟨Or.inr rfl, hQ⟩
  | succ i ih =>
    intro k hk e
    have ih' := ih (k + 1) (by omega)
    rw [weq_s] at e
    obtain ⟨et, hc⟩ := hT (st + k) (by omega)
    have hl := hlow (st + k) (by omega) (by omega)
    have e' : z_ms I s 45 (st + k) = nI (t (st + k)) := et.trans (sgb_lo _ hl)
    have hsk := hs k (by omega)
    refine z_WP_gos [20] 1000 fun K C hK hC => ?_
    conv => whnf
    refine hC _ _ _ _ _ _ _ _ _ _ (fun _ _ _ _ _ _ q => q) (st_len22 ?_)
    conv => whnf
    refine ⟨fun h => absurd h (nI_ge (b := 3) (by omega) (by omega)), fun _ => ?_⟩
    conv => whnf
    simp (disch := omega) only [z_lit, nI_add, pk_mul, z_pr1, z_pr2, nI_clamp, z_m3_40, z_m3_41, z_m3_44, z_m3_u40, z_m3_u41, z_m3_u44, z_m3_m3, pk_us, pk_un]
    rw [h17]
    repeat ((first | refine And.intro (by (conv => arg 2; whnf); (try simp only [z_lit, nI_add, pk_mul, z_pr1, z_pr2]); exact z_in (by omega) (by decide)) ?_ | refine z_bt1 (by decide) ?_ | refine z_bf1 (by decide) ?_ | refine z_bt2 (by decide) ?_ | refine z_bf2 (by decide) ?_); conv => whnf)
    simp (disch := omega) only [z_lit, nI_add, pk_mul, z_pr1, z_pr2, nI_clamp, z_m3_40, z_m3_41, z_m3_44, z_m3_u40, z_m3_u41, z_m3_u44, z_m3_m3, pk_us, pk_un]
    rw [e']
    refine hC _ _ _ _ _ _ _ _ _ _ (fun _ _ _ _ _ _ q => q) (st_chr22 (k := k) (by omega) ?_)
    conv => whnf
    refine ⟨fun g => ?_, fun g => ?_⟩
    · have g' : t (st + k) = S22.getD k 0 := nI_inj9 (by omega) (by omega) g
      rw [decide_eq_true g', Bool.true_and] at e
      conv => whnf
      simp (disch := omega) only [z_lit, nI_add, pk_mul, z_pr1, z_pr2, nI_clamp, z_m3_40, z_m3_41, z_m3_44, z_m3_u40, z_m3_u41, z_m3_u44, z_m3_m3, pk_us, pk_un]
      refine hK _ _ _ _ _ _ _ _ _ _ (ih' e)
    · have g' : ¬ t (st + k) = S22.getD k 0 := fun z => g (by rw [z])
      rw [decide_eq_false g'] at e
      subst e
      conv => whnf
      exact ⟨Or.inl rfl, hQ⟩
theorem sp_is22 {st len : Nat} (hT : mT I t N) (hN : N ≤ 500) (h15 : s.1 15 = nI (st + len)) (h17 : s.1 17 = nI st) (hle : st + len ≤ N) (hlow : ∀ k, st ≤ k → k < st + len → t k < 128) (hQ : Q (some (.int (z_bi (wm t st len S22)))) (z_ms I s) (z_R0 kp sp wd) J F cn) :
    z_M (z_X0 L xs) z_P0 (d + 4) m_Mod_is [.ref 40, .retAddr 22] (z_ms I s) (z_R0 kp sp wd) J F cn Q := by
  unfold wm at hQ
  rw [show S22.length = 3 from rfl] at hQ
  have e1 : nI (st + len) - nI st = nI len := by rw [pk_sub (by omega), Nat.add_sub_cancel_left]
  refine z_WP_gos [20] 1000 fun K C hK hC => ?_
  conv => whnf
  simp (disch := omega) only [z_lit, nI_add, pk_mul, z_pr1, z_pr2, nI_clamp, z_m3_40, z_m3_41, z_m3_44, z_m3_u40, z_m3_u41, z_m3_u44, z_m3_m3, pk_us, pk_un]
  rw [h15, h17, e1]
  refine hC _ _ _ _ _ _ _ _ _ _ (fun _ _ _ _ _ _ q => q) (st_len22 ?_)
  conv => whnf
  refine ⟨fun g => ?_, fun g => ?_⟩
  · have g' : len = 3 := nI_inj9 (by omega) (by omega) g
    rw [decide_eq_true g', Bool.true_and] at hQ
    subst g'
    conv => whnf
    refine hK _ _ _ _ _ _ _ _ _ _ (lp_is22 hT hN h17 hle hlow hQ 3 0 rfl rfl)
  · have g' : ¬ len = 3 := fun z => g (by rw [z])
    rw [decide_eq_false g'] at hQ
    conv => whnf
    exact ⟨Or.inl rfl, hQ⟩
theorem lp_is24 {st : Nat} {b : Bool} (hT : mT I t N) (hN : N ≤ 500) (h17 : s.1 17 = nI st) (hle : st + 2 ≤ N) (hlow : ∀ k, st ≤ k → k < st + 2 → t k < 128) (hQ : Q (some (.int (z_bi b))) (z_ms I s) (z_R0 kp sp wd) J F cn) :
    ∀ i k, k + i = 2 → b = weq t st S24 i k → z_WP (z_X0 L xs) z_P0 (d + 4) m_Mod_is 20 [some (.ref 40), some (.retAddr 24), some (.int (nI k))] [] (z_ms I s) (z_R0 kp sp wd) J F cn 0 0 Q := by
  have hs : ∀ k, k < 2 → S24.getD k 0 < 128 := by decide
  intro i
  induction i with
  | zero =>
    intro k hk e
    obtain rfl : k = 2 := by omega
    subst e
    refine z_WP_gos [20] 1000 fun K C hK hC => ?_
    conv => whnf
    refine hC _ _ _ _ _ _ _ _ _ _ (fun _ _ _ _ _ _ q => q) (st_len24 ?_)
    conv => whnf
    repeat ((first | refine And.intro (by (conv => arg 2; whnf); (try simp only [z_lit, nI_add, pk_mul, z_pr1, z_pr2]); exact z_in (by omega) (by decide)) ?_ | refine z_bt1 (by decide) ?_ | refine z_bf1 (by decide) ?_ | refine z_bt2 (by decide) ?_ | refine z_bf2 (by decide) ?_); conv => whnf)
    exact ⟨Or.inr rfl, hQ⟩
  | succ i ih =>
    intro k hk e
    have ih' := ih (k + 1) (by omega)
    rw [weq_s] at e
    obtain ⟨et, hc⟩ := hT (st + k) (by omega)
    have hl := hlow (st + k) (by omega) (by omega)
    have e' : z_ms I s 45 (st + k) = nI (t (st + k)) := et.trans (sgb_lo _ hl)
    have hsk := hs k (by omega)
    refine z_WP_gos [20] 1000 fun K C hK hC => ?_
    conv => whnf
    refine hC _ _ _ _ _ _ _ _ _ _ (fun _ _ _ _ _ _ q => q) (st_len24 ?_)
    conv => whnf
    refine ⟨fun h => absurd h (nI_ge (b := 2) (by omega) (by omega)), fun _ => ?_⟩
    conv => whnf
    simp (disch := omega) only [z_lit, nI_add, pk_mul, z_pr1, z_pr2, nI_clamp, z_m3_40, z_m3_41, z_m3_44, z_m3_u40, z_m3_u41, z_m3_u44, z_m3_m3, pk_us, pk_un]
    rw [h17]
    repeat ((first | refine And.intro (by (conv => arg 2; whnf); (try simp only [z_lit, nI_add, pk_mul, z_pr1, z_pr2]); exact z_in (by omega) (by decide)) ?_ | refine z_bt1 (by decide) ?_ | refine z_bf1 (by decide) ?_ | refine z_bt2 (by decide) ?_ | refine z_bf2 (by decide) ?_); conv => whnf)
    simp (disch := omega) only [z_lit, nI_add, pk_mul, z_pr1, z_pr2, nI_clamp, z_m3_40, z_m3_41, z_m3_44, z_m3_u40, z_m3_u41, z_m3_u44, z_m3_m3, pk_us, pk_un]
    rw [e']
    refine hC _ _ _ _ _ _ _ _ _ _ (fun _ _ _ _ _ _ q => q) (st_chr24 (k := k) (by omega) ?_)
    conv => whnf
    refine ⟨fun g => ?_, fun g => ?_⟩
    · have g' : t (st + k) = S24.getD k 0 := nI_inj9 (by omega) (by omega) g
      rw [decide_eq_true g', Bool.true_and] at e
      conv => whnf
      simp (disch := omega) only [z_lit, nI_add, pk_mul, z_pr1, z_pr2, nI_clamp, z_m3_40, z_m3_41, z_m3_44, z_m3_u40, z_m3_u41, z_m3_u44, z_m3_m3, pk_us, pk_un]
      refine hK _ _ _ _ _ _ _ _ _ _ (ih' e)
    · have g' : ¬ t (st + k) = S24.getD k 0 := fun z => g (by rw [z])
      rw [decide_eq_false g'] at e
      subst e
      conv => whnf
      exact ⟨Or.inl rfl, hQ⟩
theorem sp_is24 {st len : Nat} (hT : mT I t N) (hN : N ≤ 500) (h15 : s.1 15 = nI (st + len)) (h17 : s.1 17 = nI st) (hle : st + len ≤ N) (hlow : ∀ k, st ≤ k → k < st + len → t k < 128) (hQ : Q (some (.int (z_bi (wm t st len S24)))) (z_ms I s) (z_R0 kp sp wd) J F cn) :
    z_M (z_X0 L xs) z_P0 (d + 4) m_Mod_is [.ref 40, .retAddr 24] (z_ms I s) (z_R0 kp sp wd) J F cn Q := by
  unfold wm at hQ
  rw [show S24.length = 2 from rfl] at hQ
  have e1 : nI (st + len) - nI st = nI len := by rw [pk_sub (by omega), Nat.add_sub_cancel_left]
  refine z_WP_gos [20] 1000 fun K C hK hC => ?_
  conv => whnf
  simp (disch := omega) only [z_lit, nI_add, pk_mul, z_pr1, z_pr2, nI_clamp, z_m3_40, z_m3_41, z_m3_44, z_m3_u40, z_m3_u41, z_m3_u44, z_m3_m3, pk_us, pk_un]
  rw [h15, h17, e1]
  refine hC _ _ _ _ _ _ _ _ _ _ (fun _ _ _ _ _ _ q => q) (st_len24 ?_)
  conv => whnf
  refine ⟨fun g => ?_, fun g => ?_⟩
  · have g' : len = 2 := nI_inj9 (by omega) (by omega) g
    rw [decide_eq_true g', Bool.true_and] at hQ
    subst g'
    conv => whnf
    refine hK _ _ _ _ _ _ _ _ _ _ (lp_is24 hT hN h17 hle hlow hQ 2 0 rfl rfl)
  · have g' : ¬ len = 2 := fun z => g (by rw [z])
    rw [decide_eq_false g'] at hQ
    conv => whnf
    exact ⟨Or.inl rfl, hQ⟩
theorem lp_is26 {st : Nat} {b : Bool} (hT : mT I t N) (hN : N ≤ 500) (h17 : s.1 17 = nI st) (hle : st + 5 ≤ N) (hlow : ∀ k, st ≤ k → k < st + 5 → t k < 128) (hQ : Q (some (.int (z_bi b))) (z_ms I s) (z_R0 kp sp wd) J F cn) :
    ∀ i k, k + i = 5 → b = weq t st S26 i k → z_WP (z_X0 L xs) z_P0 (d + 4) m_Mod_is 20 [some (.ref 40), some (.retAddr 26), some (.int (nI k))] [] (z_ms I s) (z_R0 kp sp wd) J F cn 0 0 Q := by
  have hs : ∀ k, k < 5 → S26.getD k 0 < 128 := by decide
  intro i
  induction i with
  | zero =>
    intro k hk e
    obtain rfl : k = 5 := by omega
    subst e
    refine z_WP_gos [20] 1000 fun K C hK hC => ?_
    conv => whnf
    refine hC _ _ _ _ _ _ _ _ _ _ (fun _ _ _ _ _ _ q => q) (st_len26 ?_)
    conv => whnf
    repeat ((first | refine And.intro (by (conv => arg 2; whnf); (try simp only [z_lit, nI_add, pk_mul, z_pr1, z_pr2]); exact z_in (by omega) (by decide)) ?_ | refine z_bt1 (by decide) ?_ | refine z_bf1 (by decide) ?_ | refine z_bt2 (by decide) ?_ | refine z_bf2 (by decide) ?_); conv => whnf)
    exact ⟨Or.inr rfl, hQ⟩
  | succ i ih =>
    intro k hk e
    have ih' := ih (k + 1) (by omega)
    rw [weq_s] at e
    obtain ⟨et, hc⟩ := hT (st + k) (by omega)
    have hl := hlow (st + k) (by omega) (by omega)
    have e' : z_ms I s 45 (st + k) = nI (t (st + k)) := et.trans (sgb_lo _ hl)
    have hsk := hs k (by omega)
    refine z_WP_gos [20] 1000 fun K C hK hC => ?_
    conv => whnf
    refine hC _ _ _ _ _ _ _ _ _ _ (fun _ _ _ _ _ _ q => q) (st_len26 ?_)
    conv => whnf
    refine ⟨fun h => absurd h (nI_ge (b := 5) (by omega) (by omega)), fun _ => ?_⟩
    conv => whnf
    simp (disch := omega) only [z_lit, nI_add, pk_mul, z_pr1, z_pr2, nI_clamp, z_m3_40, z_m3_41, z_m3_44, z_m3_u40, z_m3_u41, z_m3_u44, z_m3_m3, pk_us, pk_un]
    rw [h17]
    repeat ((first | refine And.intro (by (conv => arg 2; whnf); (try simp only [z_lit, nI_add, pk_mul, z_pr1, z_pr2]); exact z_in (by omega) (by decide)) ?_ | refine z_bt1 (by decide) ?_ | refine z_bf1 (by decide) ?_ | refine z_bt2 (by decide) ?_ | refine z_bf2 (by decide) ?_); conv => whnf)
    simp (disch := omega) only [z_lit, nI_add, pk_mul, z_pr1, z_pr2, nI_clamp, z_m3_40, z_m3_41, z_m3_44, z_m3_u40, z_m3_u41, z_m3_u44, z_m3_m3, pk_us, pk_un]
    rw [e']
    refine hC _ _ _ _ _ _ _ _ _ _ (fun _ _ _ _ _ _ q => q) (st_chr26 (k := k) (by omega) ?_)
    conv => whnf
    refine ⟨fun g => ?_, fun g => ?_⟩
    · have g' : t (st + k) = S26.getD k 0 := nI_inj9 (by omega) (by omega) g
      rw [decide_eq_true g', Bool.true_and] at e
      conv => whnf
      simp (disch := omega) only [z_lit, nI_add, pk_mul, z_pr1, z_pr2, nI_clamp, z_m3_40, z_m3_41, z_m3_44, z_m3_u40, z_m3_u41, z_m3_u44, z_m3_m3, pk_us, pk_un]
      refine hK _ _ _ _ _ _ _ _ _ _ (ih' e)
    · have g' : ¬ t (st + k) = S26.getD k 0 := fun z => g (by rw [z])
      rw [decide_eq_false g'] at e
      subst e
      conv => whnf
      exact ⟨Or.inl rfl, hQ⟩
theorem sp_is26 {st len : Nat} (hT : mT I t N) (hN : N ≤ 500) (h15 : s.1 15 = nI (st + len)) (h17 : s.1 17 = nI st) (hle : st + len ≤ N) (hlow : ∀ k, st ≤ k → k < st + len → t k < 128) (hQ : Q (some (.int (z_bi (wm t st len S26)))) (z_ms I s) (z_R0 kp sp wd) J F cn) :
    z_M (z_X0 L xs) z_P0 (d + 4) m_Mod_is [.ref 40, .retAddr 26] (z_ms I s) (z_R0 kp sp wd) J F cn Q := by
  unfold wm at hQ
  rw [show S26.length = 5 from rfl] at hQ
  have e1 : nI (st + len) - nI st = nI len := by rw [pk_sub (by omega), Nat.add_sub_cancel_left]
  refine z_WP_gos [20] 1000 fun K C hK hC => ?_
  conv => whnf
  simp (disch := omega) only [z_lit, nI_add, pk_mul, z_pr1, z_pr2, nI_clamp, z_m3_40, z_m3_41, z_m3_44, z_m3_u40, z_m3_u41, z_m3_u44, z_m3_m3, pk_us, pk_un]
  rw [h15, h17, e1]
  refine hC _ _ _ _ _ _ _ _ _ _ (fun _ _ _ _ _ _ q => q) (st_len26 ?_)
  conv => whnf
  refine ⟨fun g => ?_, fun g => ?_⟩
  · have g' : len = 5 := nI_inj9 (by omega) (by omega) g
    rw [decide_eq_true g', Bool.true_and] at hQ
    subst g'
    conv => whnf
    refine hK _ _ _ _ _ _ _ _ _ _ (lp_is26 hT hN h17 hle hlow hQ 5 0 rfl rfl)
  · have g' : ¬ len = 5 := fun z => g (by rw [z])
    rw [decide_eq_false g'] at hQ
    conv => whnf
    exact ⟨Or.inl rfl, hQ⟩
theorem lp_is28 {st : Nat} {b : Bool} (hT : mT I t N) (hN : N ≤ 500) (h17 : s.1 17 = nI st) (hle : st + 4 ≤ N) (hlow : ∀ k, st ≤ k → k < st + 4 → t k < 128) (hQ : Q (some (.int (z_bi b))) (z_ms I s) (z_R0 kp sp wd) J F cn) :
    ∀ i k, k + i = 4 → b = weq t st S28 i k → z_WP (z_X0 L xs) z_P0 (d + 4) m_Mod_is 20 [some (.ref 40), some (.retAddr 28), some (.int (nI k))] [] (z_ms I s) (z_R0 kp sp wd) J F cn 0 0 Q := by
  have hs : ∀ k, k < 4 → S28.getD k 0 < 128 := by decide
  intro i
  induction i with
  | zero =>
    intro k hk e
    obtain rfl : k = 4 := by omega
    subst e
    refine z_WP_gos [20] 1000 fun K C hK hC => ?_
    conv => whnf
    refine hC _ _ _ _ _ _ _ _ _ _ (fun _ _ _ _ _ _ q => q) (st_len28 ?_)
    conv => whnf
    repeat ((first | refine And.intro (by (conv => arg 2; whnf); (try simp only [z_lit, nI_add, pk_mul, z_pr1, z_pr2]); exact z_in (by omega) (by decide)) ?_ | refine z_bt1 (by decide) ?_ | refine z_bf1 (by decide) ?_ | refine z_bt2 (by decide) ?_ | refine z_bf2 (by decide) ?_); conv => whnf)
    exact ⟨Or.inr rfl, hQ⟩
  | succ i ih =>
    intro k hk e
    have ih' := ih (k + 1) (by omega)
    rw [weq_s] at e
    obtain ⟨et, hc⟩ := hT (st + k) (by omega)
    have hl := hlow (st + k) (by omega) (by omega)
    have e' : z_ms I s 45 (st + k) = nI (t (st + k)) := et.trans (sgb_lo _ hl)
    have hsk := hs k (by omega)
    refine z_WP_gos [20] 1000 fun K C hK hC => ?_
    conv => whnf
    refine hC _ _ _ _ _ _ _ _ _ _ (fun _ _ _ _ _ _ q => q) (st_len28 ?_)
    conv => whnf
    refine ⟨fun h => absurd h (nI_ge (b := 4) (by omega) (by omega)), fun _ => ?_⟩
    conv => whnf
    simp (disch := omega) only [z_lit, nI_add, pk_mul, z_pr1, z_pr2, nI_clamp, z_m3_40, z_m3_41, z_m3_44, z_m3_u40, z_m3_u41, z_m3_u44, z_m3_m3, pk_us, pk_un]
    rw [h17]
    repeat ((first | refine And.intro (by (conv => arg 2; whnf); (try simp only [z_lit, nI_add, pk_mul, z_pr1, z_pr2]); exact z_in (by omega) (by decide)) ?_ | refine z_bt1 (by decide) ?_ | refine z_bf1 (by decide) ?_ | refine z_bt2 (by decide) ?_ | refine z_bf2 (by decide) ?_); conv => whnf)
    simp (disch := omega) only [z_lit, nI_add, pk_mul, z_pr1, z_pr2, nI_clamp, z_m3_40, z_m3_41, z_m3_44, z_m3_u40, z_m3_u41, z_m3_u44, z_m3_m3, pk_us, pk_un]
    rw [e']
    refine hC _ _ _ _ _ _ _ _ _ _ (fun _ _ _ _ _ _ q => q) (st_chr28 (k := k) (by omega) ?_)
    conv => whnf
    refine ⟨fun g => ?_, fun g => ?_⟩
    · have g' : t (st + k) = S28.getD k 0 := nI_inj9 (by omega) (by omega) g
      rw [decide_eq_true g', Bool.true_and] at e
      conv => whnf
      simp (disch := omega) only [z_lit, nI_add, pk_mul, z_pr1, z_pr2, nI_clamp, z_m3_40, z_m3_41, z_m3_44, z_m3_u40, z_m3_u41, z_m3_u44, z_m3_m3, pk_us, pk_un]
      refine hK _ _ _ _ _ _ _ _ _ _ (ih' e)
    · have g' : ¬ t (st + k) = S28.getD k 0 := fun z => g (by rw [z])
      rw [decide_eq_false g'] at e
      subst e
      conv => whnf
      exact ⟨Or.inl rfl, hQ⟩
theorem sp_is28 {st len : Nat} (hT : mT I t N) (hN : N ≤ 500) (h15 : s.1 15 = nI (st + len)) (h17 : s.1 17 = nI st) (hle : st + len ≤ N) (hlow : ∀ k, st ≤ k → k < st + len → t k < 128) (hQ : Q (some (.int (z_bi (wm t st len S28)))) (z_ms I s) (z_R0 kp sp wd) J F cn) :
    z_M (z_X0 L xs) z_P0 (d + 4) m_Mod_is [.ref 40, .retAddr 28] (z_ms I s) (z_R0 kp sp wd) J F cn Q := by
  unfold wm at hQ
  rw [show S28.length = 4 from rfl] at hQ
  have e1 : nI (st + len) - nI st = nI len := by rw [pk_sub (by omega), Nat.add_sub_cancel_left]
  refine z_WP_gos [20] 1000 fun K C hK hC => ?_
  conv => whnf
  simp (disch := omega) only [z_lit, nI_add, pk_mul, z_pr1, z_pr2, nI_clamp, z_m3_40, z_m3_41, z_m3_44, z_m3_u40, z_m3_u41, z_m3_u44, z_m3_m3, pk_us, pk_un]
  rw [h15, h17, e1]
  refine hC _ _ _ _ _ _ _ _ _ _ (fun _ _ _ _ _ _ q => q) (st_len28 ?_)
  conv => whnf
  refine ⟨fun g => ?_, fun g => ?_⟩
  · have g' : len = 4 := nI_inj9 (by omega) (by omega) g
    rw [decide_eq_true g', Bool.true_and] at hQ
    subst g'
    conv => whnf
    refine hK _ _ _ _ _ _ _ _ _ _ (lp_is28 hT hN h17 hle hlow hQ 4 0 rfl rfl)
  · have g' : ¬ len = 4 := fun z => g (by rw [z])
    rw [decide_eq_false g'] at hQ
    conv => whnf
    exact ⟨Or.inl rfl, hQ⟩
theorem lp_is30 {st : Nat} {b : Bool} (hT : mT I t N) (hN : N ≤ 500) (h17 : s.1 17 = nI st) (hle : st + 7 ≤ N) (hlow : ∀ k, st ≤ k → k < st + 7 → t k < 128) (hQ : Q (some (.int (z_bi b))) (z_ms I s) (z_R0 kp sp wd) J F cn) :
    ∀ i k, k + i = 7 → b = weq t st S30 i k → z_WP (z_X0 L xs) z_P0 (d + 4) m_Mod_is 20 [some (.ref 40), some (.retAddr 30), some (.int (nI k))] [] (z_ms I s) (z_R0 kp sp wd) J F cn 0 0 Q := by
  have hs : ∀ k, k < 7 → S30.getD k 0 < 128 := by decide
  intro i
  induction i with
  | zero =>
    intro k hk e
    obtain rfl : k = 7 := by omega
    subst e
    refine z_WP_gos [20] 1000 fun K C hK hC => ?_
    conv => whnf
    refine hC _ _ _ _ _ _ _ _ _ _ (fun _ _ _ _ _ _ q => q) (st_len30 ?_)
    conv => whnf
    repeat ((first | refine And.intro (by (conv => arg 2; whnf); (try simp only [z_lit, nI_add, pk_mul, z_pr1, z_pr2]); exact z_in (by omega) (by decide)) ?_ | refine z_bt1 (by decide) ?_ | refine z_bf1 (by decide) ?_ | refine z_bt2 (by decide) ?_ | refine z_bf2 (by decide) ?_); conv => whnf)
    exact ⟨Or.inr rfl, hQ⟩
  | succ i ih =>
    intro k hk e
    have ih' := ih (k + 1) (by omega)
    rw [weq_s] at e
    obtain ⟨et, hc⟩ := hT (st + k) (by omega)
    have hl := hlow (st + k) (by omega) (by omega)
    have e' : z_ms I s 45 (st + k) = nI (t (st + k)) := et.trans (sgb_lo _ hl)
    have hsk := hs k (by omega)
    refine z_WP_gos [20] 1000 fun K C hK hC => ?_
    conv => whnf
    refine hC _ _ _ _ _ _ _ _ _ _ (fun _ _ _ _ _ _ q => q) (st_len30 ?_)
    conv => whnf
    refine ⟨fun h => absurd h (nI_ge (b := 7) (by omega) (by omega)), fun _ => ?_⟩
    conv => whnf
    simp (disch := omega) only [z_lit, nI_add, pk_mul, z_pr1, z_pr2, nI_clamp, z_m3_40, z_m3_41, z_m3_44, z_m3_u40, z_m3_u41, z_m3_u44, z_m3_m3, pk_us, pk_un]
    rw [h17]
    repeat ((first | refine And.intro (by (conv => arg 2; whnf); (try simp only [z_lit, nI_add, pk_mul, z_pr1, z_pr2]); exact z_in (by omega) (by decide)) ?_ | refine z_bt1 (by decide) ?_ | refine z_bf1 (by decide) ?_ | refine z_bt2 (by decide) ?_ | refine z_bf2 (by decide) ?_); conv => whnf)
    simp (disch := omega) only [z_lit, nI_add, pk_mul, z_pr1, z_pr2, nI_clamp, z_m3_40, z_m3_41, z_m3_44, z_m3_u40, z_m3_u41, z_m3_u44, z_m3_m3, pk_us, pk_un]
    rw [e']
    refine hC _ _ _ _ _ _ _ _ _ _ (fun _ _ _ _ _ _ q => q) (st_chr30 (k := k) (by omega) ?_)
    conv => whnf
    refine ⟨fun g => ?_, fun g => ?_⟩
    · have g' : t (st + k) = S30.getD k 0 := nI_inj9 (by omega) (by omega) g
      rw [decide_eq_true g', Bool.true_and] at e
      conv => whnf
      simp (disch := omega) only [z_lit, nI_add, pk_mul, z_pr1, z_pr2, nI_clamp, z_m3_40, z_m3_41, z_m3_44, z_m3_u40, z_m3_u41, z_m3_u44, z_m3_m3, pk_us, pk_un]
      refine hK _ _ _ _ _ _ _ _ _ _ (ih' e)
    · have g' : ¬ t (st + k) = S30.getD k 0 := fun z => g (by rw [z])
      rw [decide_eq_false g'] at e
      subst e
      conv => whnf
      exact ⟨Or.inl rfl, hQ⟩
theorem sp_is30 {st len : Nat} (hT : mT I t N) (hN : N ≤ 500) (h15 : s.1 15 = nI (st + len)) (h17 : s.1 17 = nI st) (hle : st + len ≤ N) (hlow : ∀ k, st ≤ k → k < st + len → t k < 128) (hQ : Q (some (.int (z_bi (wm t st len S30)))) (z_ms I s) (z_R0 kp sp wd) J F cn) :
    z_M (z_X0 L xs) z_P0 (d + 4) m_Mod_is [.ref 40, .retAddr 30] (z_ms I s) (z_R0 kp sp wd) J F cn Q := by
  unfold wm at hQ
  rw [show S30.length = 7 from rfl] at hQ
  have e1 : nI (st + len) - nI st = nI len := by rw [pk_sub (by omega), Nat.add_sub_cancel_left]
  refine z_WP_gos [20] 1000 fun K C hK hC => ?_
  conv => whnf
  simp (disch := omega) only [z_lit, nI_add, pk_mul, z_pr1, z_pr2, nI_clamp, z_m3_40, z_m3_41, z_m3_44, z_m3_u40, z_m3_u41, z_m3_u44, z_m3_m3, pk_us, pk_un]
  rw [h15, h17, e1]
  refine hC _ _ _ _ _ _ _ _ _ _ (fun _ _ _ _ _ _ q => q) (st_len30 ?_)
  conv => whnf
  refine ⟨fun g => ?_, fun g => ?_⟩
  · have g' : len = 7 := nI_inj9 (by omega) (by omega) g
    rw [decide_eq_true g', Bool.true_and] at hQ
    subst g'
    conv => whnf
    refine hK _ _ _ _ _ _ _ _ _ _ (lp_is30 hT hN h17 hle hlow hQ 7 0 rfl rfl)
  · have g' : ¬ len = 7 := fun z => g (by rw [z])
    rw [decide_eq_false g'] at hQ
    conv => whnf
    exact ⟨Or.inl rfl, hQ⟩
theorem lp_is32 {st : Nat} {b : Bool} (hT : mT I t N) (hN : N ≤ 500) (h17 : s.1 17 = nI st) (hle : st + 6 ≤ N) (hlow : ∀ k, st ≤ k → k < st + 6 → t k < 128) (hQ : Q (some (.int (z_bi b))) (z_ms I s) (z_R0 kp sp wd) J F cn) :
    ∀ i k, k + i = 6 → b = weq t st S32 i k → z_WP (z_X0 L xs) z_P0 (d + 4) m_Mod_is 20 [some (.ref 40), some (.retAddr 32), some (.int (nI k))] [] (z_ms I s) (z_R0 kp sp wd) J F cn 0 0 Q := by
  have hs : ∀ k, k < 6 → S32.getD k 0 < 128 := by decide
  intro i
  induction i with
  | zero =>
    intro k hk e
    obtain rfl : k = 6 := by omega
    subst e
    refine z_WP_gos [20] 1000 fun K C hK hC => ?_
    conv => whnf
    refine hC _ _ _ _ _ _ _ _ _ _ (fun _ _ _ _ _ _ q => q) (st_len32 ?_)
    conv => whnf
    repeat ((first | refine And.intro (by (conv => arg 2; whnf); (try simp only [z_lit, nI_add, pk_mul, z_pr1, z_pr2]); exact z_in (by omega) (by decide)) ?_ | refine z_bt1 (by decide) ?_ | refine z_bf1 (by decide) ?_ | refine z_bt2 (by decide) ?_ | refine z_bf2 (by decide) ?_); conv => whnf)
    exact ⟨Or.inr rfl, hQ⟩
  | succ i ih =>
    intro k hk e
    have ih' := ih (k + 1) (by omega)
    rw [weq_s] at e
    obtain ⟨et, hc⟩ := hT (st + k) (by omega)
    have hl := hlow (st + k) (by omega) (by omega)
    have e' : z_ms I s 45 (st + k) = nI (t (st + k)) := et.trans (sgb_lo _ hl)
    have hsk := hs k (by omega)
    refine z_WP_gos [20] 1000 fun K C hK hC => ?_
    conv => whnf
    refine hC _ _ _ _ _ _ _ _ _ _ (fun _ _ _ _ _ _ q => q) (st_len32 ?_)
    conv => whnf
    refine ⟨fun h => absurd h (nI_ge (b := 6) (by omega) (by omega)), fun _ => ?_⟩
    conv => whnf
    simp (disch := omega) only [z_lit, nI_add, pk_mul, z_pr1, z_pr2, nI_clamp, z_m3_40, z_m3_41, z_m3_44, z_m3_u40, z_m3_u41, z_m3_u44, z_m3_m3, pk_us, pk_un]
    rw [h17]
    repeat ((first | refine And.intro (by (conv => arg 2; whnf); (try simp only [z_lit, nI_add, pk_mul, z_pr1, z_pr2]); exact z_in (by omega) (by decide)) ?_ | refine z_bt1 (by decide) ?_ | refine z_bf1 (by decide) ?_ | refine z_bt2 (by decide) ?_ | refine z_bf2 (by decide) ?_); conv => whnf)
    simp (disch := omega) only [z_lit, nI_add, pk_mul, z_pr1, z_pr2, nI_clamp, z_m3_40, z_m3_41, z_m3_44, z_m3_u40, z_m3_u41, z_m3_u44, z_m3_m3, pk_us, pk_un]
    rw [e']
    refine hC _ _ _ _ _ _ _ _ _ _ (fun _ _ _ _ _ _ q => q) (st_chr32 (k := k) (by omega) ?_)
    conv => whnf
    refine ⟨fun g => ?_, fun g => ?_⟩
    · have g' : t (st + k) = S32.getD k 0 := nI_inj9 (by omega) (by omega) g
      rw [decide_eq_true g', Bool.true_and] at e
      conv => whnf
      simp (disch := omega) only [z_lit, nI_add, pk_mul, z_pr1, z_pr2, nI_clamp, z_m3_40, z_m3_41, z_m3_44, z_m3_u40, z_m3_u41, z_m3_u44, z_m3_m3, pk_us, pk_un]
      refine hK _ _ _ _ _ _ _ _ _ _ (ih' e)
    · have g' : ¬ t (st + k) = S32.getD k 0 := fun z => g (by rw [z])
      rw [decide_eq_false g'] at e
      subst e
      conv => whnf
      exact ⟨Or.inl rfl, hQ⟩
theorem sp_is32 {st len : Nat} (hT : mT I t N) (hN : N ≤ 500) (h15 : s.1 15 = nI (st + len)) (h17 : s.1 17 = nI st) (hle : st + len ≤ N) (hlow : ∀ k, st ≤ k → k < st + len → t k < 128) (hQ : Q (some (.int (z_bi (wm t st len S32)))) (z_ms I s) (z_R0 kp sp wd) J F cn) :
    z_M (z_X0 L xs) z_P0 (d + 4) m_Mod_is [.ref 40, .retAddr 32] (z_ms I s) (z_R0 kp sp wd) J F cn Q := by
  unfold wm at hQ
  rw [show S32.length = 6 from rfl] at hQ
  have e1 : nI (st + len) - nI st = nI len := by rw [pk_sub (by omega), Nat.add_sub_cancel_left]
  refine z_WP_gos [20] 1000 fun K C hK hC => ?_
  conv => whnf
  simp (disch := omega) only [z_lit, nI_add, pk_mul, z_pr1, z_pr2, nI_clamp, z_m3_40, z_m3_41, z_m3_44, z_m3_u40, z_m3_u41, z_m3_u44, z_m3_m3, pk_us, pk_un]
  rw [h15, h17, e1]
  refine hC _ _ _ _ _ _ _ _ _ _ (fun _ _ _ _ _ _ q => q) (st_len32 ?_)
  conv => whnf
  refine ⟨fun g => ?_, fun g => ?_⟩
  · have g' : len = 6 := nI_inj9 (by omega) (by omega) g
    rw [decide_eq_true g', Bool.true_and] at hQ
    subst g'
    conv => whnf
    refine hK _ _ _ _ _ _ _ _ _ _ (lp_is32 hT hN h17 hle hlow hQ 6 0 rfl rfl)
  · have g' : ¬ len = 6 := fun z => g (by rw [z])
    rw [decide_eq_false g'] at hQ
    conv => whnf
    exact ⟨Or.inl rfl, hQ⟩
theorem lp_is34 {st : Nat} {b : Bool} (hT : mT I t N) (hN : N ≤ 500) (h17 : s.1 17 = nI st) (hle : st + 4 ≤ N) (hlow : ∀ k, st ≤ k → k < st + 4 → t k < 128) (hQ : Q (some (.int (z_bi b))) (z_ms I s) (z_R0 kp sp wd) J F cn) :
    ∀ i k, k + i = 4 → b = weq t st S34 i k → z_WP (z_X0 L xs) z_P0 (d + 4) m_Mod_is 20 [some (.ref 40), some (.retAddr 34), some (.int (nI k))] [] (z_ms I s) (z_R0 kp sp wd) J F cn 0 0 Q := by
  have hs : ∀ k, k < 4 → S34.getD k 0 < 128 := by decide
  intro i
  induction i with
  | zero =>
    intro k hk e
    obtain rfl : k = 4 := by omega
    subst e
    refine z_WP_gos [20] 1000 fun K C hK hC => ?_
    conv => whnf
    refine hC _ _ _ _ _ _ _ _ _ _ (fun _ _ _ _ _ _ q => q) (st_len34 ?_)
    conv => whnf
    repeat ((first | refine And.intro (by (conv => arg 2; whnf); (try simp only [z_lit, nI_add, pk_mul, z_pr1, z_pr2]); exact z_in (by omega) (by decide)) ?_ | refine z_bt1 (by decide) ?_ | refine z_bf1 (by decide) ?_ | refine z_bt2 (by decide) ?_ | refine z_bf2 (by decide) ?_); conv => whnf)
    exact ⟨Or.inr rfl, hQ⟩
  | succ i ih =>
    intro k hk e
    have ih' := ih (k + 1) (by omega)
    rw [weq_s] at e
    obtain ⟨et, hc⟩ := hT (st + k) (by omega)
    have hl := hlow (st + k) (by omega) (by omega)
    have e' : z_ms I s 45 (st + k) = nI (t (st + k)) := et.trans (sgb_lo _ hl)
    have hsk := hs k (by omega)
    refine z_WP_gos [20] 1000 fun K C hK hC => ?_
    conv => whnf
    refine hC _ _ _ _ _ _ _ _ _ _ (fun _ _ _ _ _ _ q => q) (st_len34 ?_)
    conv => whnf
    refine ⟨fun h => absurd h (nI_ge (b := 4) (by omega) (by omega)), fun _ => ?_⟩
    conv => whnf
    simp (disch := omega) only [z_lit, nI_add, pk_mul, z_pr1, z_pr2, nI_clamp, z_m3_40, z_m3_41, z_m3_44, z_m3_u40, z_m3_u41, z_m3_u44, z_m3_m3, pk_us, pk_un]
    rw [h17]
    repeat ((first | refine And.intro (by (conv => arg 2; whnf); (try simp only [z_lit, nI_add, pk_mul, z_pr1, z_pr2]); exact z_in (by omega) (by decide)) ?_ | refine z_bt1 (by decide) ?_ | refine z_bf1 (by decide) ?_ | refine z_bt2 (by decide) ?_ | refine z_bf2 (by decide) ?_); conv => whnf)
    simp (disch := omega) only [z_lit, nI_add, pk_mul, z_pr1, z_pr2, nI_clamp, z_m3_40, z_m3_41, z_m3_44, z_m3_u40, z_m3_u41, z_m3_u44, z_m3_m3, pk_us, pk_un]
    rw [e']
    refine hC _ _ _ _ _ _ _ _ _ _ (fun _ _ _ _ _ _ q => q) (st_chr34 (k := k) (by omega) ?_)
    conv => whnf
    refine ⟨fun g => ?_, fun g => ?_⟩
    · have g' : t (st + k) = S34.getD k 0 := nI_inj9 (by omega) (by omega) g
      rw [decide_eq_true g', Bool.true_and] at e
      conv => whnf
      simp (disch := omega) only [z_lit, nI_add, pk_mul, z_pr1, z_pr2, nI_clamp, z_m3_40, z_m3_41, z_m3_44, z_m3_u40, z_m3_u41, z_m3_u44, z_m3_m3, pk_us, pk_un]
      refine hK _ _ _ _ _ _ _ _ _ _ (ih' e)
    · have g' : ¬ t (st + k) = S34.getD k 0 := fun z => g (by rw [z])
      rw [decide_eq_false g'] at e
      subst e
      conv => whnf
      exact ⟨Or.inl rfl, hQ⟩
theorem sp_is34 {st len : Nat} (hT : mT I t N) (hN : N ≤ 500) (h15 : s.1 15 = nI (st + len)) (h17 : s.1 17 = nI st) (hle : st + len ≤ N) (hlow : ∀ k, st ≤ k → k < st + len → t k < 128) (hQ : Q (some (.int (z_bi (wm t st len S34)))) (z_ms I s) (z_R0 kp sp wd) J F cn) :
    z_M (z_X0 L xs) z_P0 (d + 4) m_Mod_is [.ref 40, .retAddr 34] (z_ms I s) (z_R0 kp sp wd) J F cn Q := by
  unfold wm at hQ
  rw [show S34.length = 4 from rfl] at hQ
  have e1 : nI (st + len) - nI st = nI len := by rw [pk_sub (by omega), Nat.add_sub_cancel_left]
  refine z_WP_gos [20] 1000 fun K C hK hC => ?_
  conv => whnf
  simp (disch := omega) only [z_lit, nI_add, pk_mul, z_pr1, z_pr2, nI_clamp, z_m3_40, z_m3_41, z_m3_44, z_m3_u40, z_m3_u41, z_m3_u44, z_m3_m3, pk_us, pk_un]
  rw [h15, h17, e1]
  refine hC _ _ _ _ _ _ _ _ _ _ (fun _ _ _ _ _ _ q => q) (st_len34 ?_)
  conv => whnf
  refine ⟨fun g => ?_, fun g => ?_⟩
  · have g' : len = 4 := nI_inj9 (by omega) (by omega) g
    rw [decide_eq_true g', Bool.true_and] at hQ
    subst g'
    conv => whnf
    refine hK _ _ _ _ _ _ _ _ _ _ (lp_is34 hT hN h17 hle hlow hQ 4 0 rfl rfl)
  · have g' : ¬ len = 4 := fun z => g (by rw [z])
    rw [decide_eq_false g'] at hQ
    conv => whnf
    exact ⟨Or.inl rfl, hQ⟩
theorem lp_is36 {st : Nat} {b : Bool} (hT : mT I t N) (hN : N ≤ 500) (h17 : s.1 17 = nI st) (hle : st + 6 ≤ N) (hlow : ∀ k, st ≤ k → k < st + 6 → t k < 128) (hQ : Q (some (.int (z_bi b))) (z_ms I s) (z_R0 kp sp wd) J F cn) :
    ∀ i k, k + i = 6 → b = weq t st S36 i k → z_WP (z_X0 L xs) z_P0 (d + 4) m_Mod_is 20 [some (.ref 40), some (.retAddr 36), some (.int (nI k))] [] (z_ms I s) (z_R0 kp sp wd) J F cn 0 0 Q := by
  have hs : ∀ k, k < 6 → S36.getD k 0 < 128 := by decide
  intro i
  induction i with
  | zero =>
    intro k hk e
    obtain rfl : k = 6 := by omega
    subst e
    refine z_WP_gos [20] 1000 fun K C hK hC => ?_
    conv => whnf
    refine hC _ _ _ _ _ _ _ _ _ _ (fun _ _ _ _ _ _ q => q) (st_len36 ?_)
    conv => whnf
    repeat ((first | refine And.intro (by (conv => arg 2; whnf); (try simp only [z_lit, nI_add, pk_mul, z_pr1, z_pr2]); exact z_in (by omega) (by decide)) ?_ | refine z_bt1 (by decide) ?_ | refine z_bf1 (by decide) ?_ | refine z_bt2 (by decide) ?_ | refine z_bf2 (by decide) ?_); conv => whnf)
    exact ⟨Or.inr rfl, hQ⟩
  | succ i ih =>
    intro k hk e
    have ih' := ih (k + 1) (by omega)
    rw [weq_s] at e
    obtain ⟨et, hc⟩ := hT (st + k) (by omega)
    have hl := hlow (st + k) (by omega) (by omega)
    have e' : z_ms I s 45 (st + k) = nI (t (st + k)) := et.trans (sgb_lo _ hl)
    have hsk := hs k (by omega)
    refine z_WP_gos [20] 1000 fun K C hK hC => ?_
    conv => whnf
    refine hC _ _ _ _ _ _ _ _ _ _ (fun _ _ _ _ _ _ q => q) (st_len36 ?_)
    conv => whnf
    refine ⟨fun h => absurd h (nI_ge (b := 6) (by omega) (by omega)), fun _ => ?_⟩
    conv => whnf
    simp (disch := omega) only [z_lit, nI_add, pk_mul, z_pr1, z_pr2, nI_clamp, z_m3_40, z_m3_41, z_m3_44, z_m3_u40, z_m3_u41, z_m3_u44, z_m3_m3, pk_us, pk_un]
    rw [h17]
    repeat ((first | refine And.intro (by (conv => arg 2; whnf); (try simp only [z_lit, nI_add, pk_mul, z_pr1, z_pr2]); exact z_in (by omega) (by decide)) ?_ | refine z_bt1 (by decide) ?_ | refine z_bf1 (by decide) ?_ | refine z_bt2 (by decide) ?_ | refine z_bf2 (by decide) ?_); conv => whnf)
    simp (disch := omega) only [z_lit, nI_add, pk_mul, z_pr1, z_pr2, nI_clamp, z_m3_40, z_m3_41, z_m3_44, z_m3_u40, z_m3_u41, z_m3_u44, z_m3_m3, pk_us, pk_un]
    rw [e']
    refine hC _ _ _ _ _ _ _ _ _ _ (fun _ _ _ _ _ _ q => q) (st_chr36 (k := k) (by omega) ?_)
    conv => whnf
    refine ⟨fun g => ?_, fun g => ?_⟩
    · have g' : t (st + k) = S36.getD k 0 := nI_inj9 (by omega) (by omega) g
      rw [decide_eq_true g', Bool.true_and] at e
      conv => whnf
      simp (disch := omega) only [z_lit, nI_add, pk_mul, z_pr1, z_pr2, nI_clamp, z_m3_40, z_m3_41, z_m3_44, z_m3_u40, z_m3_u41, z_m3_u44, z_m3_m3, pk_us, pk_un]
      refine hK _ _ _ _ _ _ _ _ _ _ (ih' e)
    · have g' : ¬ t (st + k) = S36.getD k 0 := fun z => g (by rw [z])
      rw [decide_eq_false g'] at e
      subst e
      conv => whnf
      exact ⟨Or.inl rfl, hQ⟩
theorem sp_is36 {st len : Nat} (hT : mT I t N) (hN : N ≤ 500) (h15 : s.1 15 = nI (st + len)) (h17 : s.1 17 = nI st) (hle : st + len ≤ N) (hlow : ∀ k, st ≤ k → k < st + len → t k < 128) (hQ : Q (some (.int (z_bi (wm t st len S36)))) (z_ms I s) (z_R0 kp sp wd) J F cn) :
    z_M (z_X0 L xs) z_P0 (d + 4) m_Mod_is [.ref 40, .retAddr 36] (z_ms I s) (z_R0 kp sp wd) J F cn Q := by
  unfold wm at hQ
  rw [show S36.length = 6 from rfl] at hQ
  have e1 : nI (st + len) - nI st = nI len := by rw [pk_sub (by omega), Nat.add_sub_cancel_left]
  refine z_WP_gos [20] 1000 fun K C hK hC => ?_
  conv => whnf
  simp (disch := omega) only [z_lit, nI_add, pk_mul, z_pr1, z_pr2, nI_clamp, z_m3_40, z_m3_41, z_m3_44, z_m3_u40, z_m3_u41, z_m3_u44, z_m3_m3, pk_us, pk_un]
  rw [h15, h17, e1]
  refine hC _ _ _ _ _ _ _ _ _ _ (fun _ _ _ _ _ _ q => q) (st_len36 ?_)
  conv => whnf
  refine ⟨fun g => ?_, fun g => ?_⟩
  · have g' : len = 6 := nI_inj9 (by omega) (by omega) g
    rw [decide_eq_true g', Bool.true_and] at hQ
    subst g'
    conv => whnf
    refine hK _ _ _ _ _ _ _ _ _ _ (lp_is36 hT hN h17 hle hlow hQ 6 0 rfl rfl)
  · have g' : ¬ len = 6 := fun z => g (by rw [z])
    rw [decide_eq_false g'] at hQ
    conv => whnf
    exact ⟨Or.inl rfl, hQ⟩
theorem lp_is38 {st : Nat} {b : Bool} (hT : mT I t N) (hN : N ≤ 500) (h17 : s.1 17 = nI st) (hle : st + 4 ≤ N) (hlow : ∀ k, st ≤ k → k < st + 4 → t k < 128) (hQ : Q (some (.int (z_bi b))) (z_ms I s) (z_R0 kp sp wd) J F cn) :
    ∀ i k, k + i = 4 → b = weq t st S38 i k → z_WP (z_X0 L xs) z_P0 (d + 4) m_Mod_is 20 [some (.ref 40), some (.retAddr 38), some (.int (nI k))] [] (z_ms I s) (z_R0 kp sp wd) J F cn 0 0 Q := by
  have hs : ∀ k, k < 4 → S38.getD k 0 < 128 := by decide
  intro i
  induction i with
  | zero =>
    intro k hk e
    obtain rfl : k = 4 := by omega
    subst e
    refine z_WP_gos [20] 1000 fun K C hK hC => ?_
    conv => whnf
    refine hC _ _ _ _ _ _ _ _ _ _ (fun _ _ _ _ _ _ q => q) (st_len38 ?_)
    conv => whnf
    repeat ((first | refine And.intro (by (conv => arg 2; whnf); (try simp only [z_lit, nI_add, pk_mul, z_pr1, z_pr2]); exact z_in (by omega) (by decide)) ?_ | refine z_bt1 (by decide) ?_ | refine z_bf1 (by decide) ?_ | refine z_bt2 (by decide) ?_ | refine z_bf2 (by decide) ?_); conv => whnf)
    exact ⟨Or.inr rfl, hQ⟩
  | succ i ih =>
    intro k hk e
    have ih' := ih (k + 1) (by omega)
    rw [weq_s] at e
    obtain ⟨et, hc⟩ := hT (st + k) (by omega)
    have hl := hlow (st + k) (by omega) (by omega)
    have e' : z_ms I s 45 (st + k) = nI (t (st + k)) := et.trans (sgb_lo _ hl)
    have hsk := hs k (by omega)
    refine z_WP_gos [20] 1000 fun K C hK hC => ?_
    conv => whnf
    refine hC _ _ _ _ _ _ _ _ _ _ (fun _ _ _ _ _ _ q => q) (st_len38 ?_)
    conv => whnf
    refine ⟨fun h => absurd h (nI_ge (b := 4) (by omega) (by omega)), fun _ => ?_⟩
    conv => whnf
    simp (disch := omega) only [z_lit, nI_add, pk_mul, z_pr1, z_pr2, nI_clamp, z_m3_40, z_m3_41, z_m3_44, z_m3_u40, z_m3_u41, z_m3_u44, z_m3_m3, pk_us, pk_un]
    rw [h17]
    repeat ((first | refine And.intro (by (conv => arg 2; whnf); (try simp only [z_lit, nI_add, pk_mul, z_pr1, z_pr2]); exact z_in (by omega) (by decide)) ?_ | refine z_bt1 (by decide) ?_ | refine z_bf1 (by decide) ?_ | refine z_bt2 (by decide) ?_ | refine z_bf2 (by decide) ?_); conv => whnf)
    simp (disch := omega) only [z_lit, nI_add, pk_mul, z_pr1, z_pr2, nI_clamp, z_m3_40, z_m3_41, z_m3_44, z_m3_u40, z_m3_u41, z_m3_u44, z_m3_m3, pk_us, pk_un]
    rw [e']
    refine hC _ _ _ _ _ _ _ _ _ _ (fun _ _ _ _ _ _ q => q) (st_chr38 (k := k) (by omega) ?_)
    conv => whnf
    refine ⟨fun g => ?_, fun g => ?_⟩
    · have g' : t (st + k) = S38.getD k 0 := nI_inj9 (by omega) (by omega) g
      rw [decide_eq_true g', Bool.true_and] at e
      conv => whnf
      simp (disch := omega) only [z_lit, nI_add, pk_mul, z_pr1, z_pr2, nI_clamp, z_m3_40, z_m3_41, z_m3_44, z_m3_u40, z_m3_u41, z_m3_u44, z_m3_m3, pk_us, pk_un]
      refine hK _ _ _ _ _ _ _ _ _ _ (ih' e)
    · have g' : ¬ t (st + k) = S38.getD k 0 := fun z => g (by rw [z])
      rw [decide_eq_false g'] at e
      subst e
      conv => whnf
      exact ⟨Or.inl rfl, hQ⟩
theorem sp_is38 {st len : Nat} (hT : mT I t N) (hN : N ≤ 500) (h15 : s.1 15 = nI (st + len)) (h17 : s.1 17 = nI st) (hle : st + len ≤ N) (hlow : ∀ k, st ≤ k → k < st + len → t k < 128) (hQ : Q (some (.int (z_bi (wm t st len S38)))) (z_ms I s) (z_R0 kp sp wd) J F cn) :
    z_M (z_X0 L xs) z_P0 (d + 4) m_Mod_is [.ref 40, .retAddr 38] (z_ms I s) (z_R0 kp sp wd) J F cn Q := by
  unfold wm at hQ
  rw [show S38.length = 4 from rfl] at hQ
  have e1 : nI (st + len) - nI st = nI len := by rw [pk_sub (by omega), Nat.add_sub_cancel_left]
  refine z_WP_gos [20] 1000 fun K C hK hC => ?_
  conv => whnf
  simp (disch := omega) only [z_lit, nI_add, pk_mul, z_pr1, z_pr2, nI_clamp, z_m3_40, z_m3_41, z_m3_44, z_m3_u40, z_m3_u41, z_m3_u44, z_m3_m3, pk_us, pk_un]
  rw [h15, h17, e1]
  refine hC _ _ _ _ _ _ _ _ _ _ (fun _ _ _ _ _ _ q => q) (st_len38 ?_)
  conv => whnf
  refine ⟨fun g => ?_, fun g => ?_⟩
  · have g' : len = 4 := nI_inj9 (by omega) (by omega) g
    rw [decide_eq_true g', Bool.true_and] at hQ
    subst g'
    conv => whnf
    refine hK _ _ _ _ _ _ _ _ _ _ (lp_is38 hT hN h17 hle hlow hQ 4 0 rfl rfl)
  · have g' : ¬ len = 4 := fun z => g (by rw [z])
    rw [decide_eq_false g'] at hQ
    conv => whnf
    exact ⟨Or.inl rfl, hQ⟩
theorem lp_is40 {st : Nat} {b : Bool} (hT : mT I t N) (hN : N ≤ 500) (h17 : s.1 17 = nI st) (hle : st + 6 ≤ N) (hlow : ∀ k, st ≤ k → k < st + 6 → t k < 128) (hQ : Q (some (.int (z_bi b))) (z_ms I s) (z_R0 kp sp wd) J F cn) :
    ∀ i k, k + i = 6 → b = weq t st S40 i k → z_WP (z_X0 L xs) z_P0 (d + 4) m_Mod_is 20 [some (.ref 40), some (.retAddr 40), some (.int (nI k))] [] (z_ms I s) (z_R0 kp sp wd) J F cn 0 0 Q := by
  have hs : ∀ k, k < 6 → S40.getD k 0 < 128 := by decide
  intro i
  induction i with
  | zero =>
    intro k hk e
    obtain rfl : k = 6 := by omega
    subst e
    refine z_WP_gos [20] 1000 fun K C hK hC => ?_
    conv => whnf
    refine hC _ _ _ _ _ _ _ _ _ _ (fun _ _ _ _ _ _ q => q) (st_len40 ?_)
    conv => whnf
    repeat ((first | refine And.intro (by (conv => arg 2; whnf); (try simp only [z_lit, nI_add, pk_mul, z_pr1, z_pr2]); exact z_in (by omega) (by decide)) ?_ | refine z_bt1 (by decide) ?_ | refine z_bf1 (by decide) ?_ | refine z_bt2 (by decide) ?_ | refine z_bf2 (by decide) ?_); conv => whnf)
    exact ⟨Or.inr rfl, hQ⟩
  | succ i ih =>
    intro k hk e
    have ih' := ih (k + 1) (by omega)
    rw [weq_s] at e
    obtain ⟨et, hc⟩ := hT (st + k) (by omega)
    have hl := hlow (st + k) (by omega) (by omega)
    have e' : z_ms I s 45 (st + k) = nI (t (st + k)) := et.trans (sgb_lo _ hl)
    have hsk := hs k (by omega)
    refine z_WP_gos [20] 1000 fun K C hK hC => ?_
    conv => whnf
    refine hC _ _ _ _ _ _ _ _ _ _ (fun _ _ _ _ _ _ q => q) (st_len40 ?_)
    conv => whnf
    refine ⟨fun h => absurd h (nI_ge (b := 6) (by omega) (by omega)), fun _ => ?_⟩
    conv => whnf
    simp (disch := omega) only [z_lit, nI_add, pk_mul, z_pr1, z_pr2, nI_clamp, z_m3_40, z_m3_41, z_m3_44, z_m3_u40, z_m3_u41, z_m3_u44, z_m3_m3, pk_us, pk_un]
    rw [h17]
    repeat ((first | refine And.intro (by (conv => arg 2; whnf); (try simp only [z_lit, nI_add, pk_mul, z_pr1, z_pr2]); exact z_in (by omega) (by decide)) ?_ | refine z_bt1 (by decide) ?_ | refine z_bf1 (by decide) ?_ | refine z_bt2 (by decide) ?_ | refine z_bf2 (by decide) ?_); conv => whnf)
    simp (disch := omega) only [z_lit, nI_add, pk_mul, z_pr1, z_pr2, nI_clamp, z_m3_40, z_m3_41, z_m3_44, z_m3_u40, z_m3_u41, z_m3_u44, z_m3_m3, pk_us, pk_un]
    rw [e']
    refine hC _ _ _ _ _ _ _ _ _ _ (fun _ _ _ _ _ _ q => q) (st_chr40 (k := k) (by omega) ?_)
    conv => whnf
    refine ⟨fun g => ?_, fun g => ?_⟩
    · have g' : t (st + k) = S40.getD k 0 := nI_inj9 (by omega) (by omega) g
      rw [decide_eq_true g', Bool.true_and] at e
      conv => whnf
      simp (disch := omega) only [z_lit, nI_add, pk_mul, z_pr1, z_pr2, nI_clamp, z_m3_40, z_m3_41, z_m3_44, z_m3_u40, z_m3_u41, z_m3_u44, z_m3_m3, pk_us, pk_un]
      refine hK _ _ _ _ _ _ _ _ _ _ (ih' e)
    · have g' : ¬ t (st + k) = S40.getD k 0 := fun z => g (by rw [z])
      rw [decide_eq_false g'] at e
      subst e
      conv => whnf
      exact ⟨Or.inl rfl, hQ⟩
theorem sp_is40 {st len : Nat} (hT : mT I t N) (hN : N ≤ 500) (h15 : s.1 15 = nI (st + len)) (h17 : s.1 17 = nI st) (hle : st + len ≤ N) (hlow : ∀ k, st ≤ k → k < st + len → t k < 128) (hQ : Q (some (.int (z_bi (wm t st len S40)))) (z_ms I s) (z_R0 kp sp wd) J F cn) :
    z_M (z_X0 L xs) z_P0 (d + 4) m_Mod_is [.ref 40, .retAddr 40] (z_ms I s) (z_R0 kp sp wd) J F cn Q := by
  unfold wm at hQ
  rw [show S40.length = 6 from rfl] at hQ
  have e1 : nI (st + len) - nI st = nI len := by rw [pk_sub (by omega), Nat.add_sub_cancel_left]
  refine z_WP_gos [20] 1000 fun K C hK hC => ?_
  conv => whnf
  simp (disch := omega) only [z_lit, nI_add, pk_mul, z_pr1, z_pr2, nI_clamp, z_m3_40, z_m3_41, z_m3_44, z_m3_u40, z_m3_u41, z_m3_u44, z_m3_m3, pk_us, pk_un]
  rw [h15, h17, e1]
  refine hC _ _ _ _ _ _ _ _ _ _ (fun _ _ _ _ _ _ q => q) (st_len40 ?_)
  conv => whnf
  refine ⟨fun g => ?_, fun g => ?_⟩
  · have g' : len = 6 := nI_inj9 (by omega) (by omega) g
    rw [decide_eq_true g', Bool.true_and] at hQ
    subst g'
    conv => whnf
    refine hK _ _ _ _ _ _ _ _ _ _ (lp_is40 hT hN h17 hle hlow hQ 6 0 rfl rfl)
  · have g' : ¬ len = 6 := fun z => g (by rw [z])
    rw [decide_eq_false g'] at hQ
    conv => whnf
    exact ⟨Or.inl rfl, hQ⟩
theorem lp_is42 {st : Nat} {b : Bool} (hT : mT I t N) (hN : N ≤ 500) (h17 : s.1 17 = nI st) (hle : st + 5 ≤ N) (hlow : ∀ k, st ≤ k → k < st + 5 → t k < 128) (hQ : Q (some (.int (z_bi b))) (z_ms I s) (z_R0 kp sp wd) J F cn) :
    ∀ i k, k + i = 5 → b = weq t st S42 i k → z_WP (z_X0 L xs) z_P0 (d + 4) m_Mod_is 20 [some (.ref 40), some (.retAddr 42), some (.int (nI k))] [] (z_ms I s) (z_R0 kp sp wd) J F cn 0 0 Q := by
  have hs : ∀ k, k < 5 → S42.getD k 0 < 128 := by decide
  intro i
  induction i with
  | zero =>
    intro k hk e
    obtain rfl : k = 5 := by omega
    subst e
    refine z_WP_gos [20] 1000 fun K C hK hC => ?_
    conv => whnf
    refine hC _ _ _ _ _ _ _ _ _ _ (fun _ _ _ _ _ _ q => q) (st_len42 ?_)
    conv => whnf
    repeat ((first | refine And.intro (by (conv => arg 2; whnf); (try simp only [z_lit, nI_add, pk_mul, z_pr1, z_pr2]); exact z_in (by omega) (by decide)) ?_ | refine z_bt1 (by decide) ?_ | refine z_bf1 (by decide) ?_ | refine z_bt2 (by decide) ?_ | refine z_bf2 (by decide) ?_); conv => whnf)
    exact ⟨Or.inr rfl, hQ⟩
  | succ i ih =>
    intro k hk e
    have ih' := ih (k + 1) (by omega)
    rw [weq_s] at e
    obtain ⟨et, hc⟩ := hT (st + k) (by omega)
    have hl := hlow (st + k) (by omega) (by omega)
    have e' : z_ms I s 45 (st + k) = nI (t (st + k)) := et.trans (sgb_lo _ hl)
    have hsk := hs k (by omega)
    refine z_WP_gos [20] 1000 fun K C hK hC => ?_
    conv => whnf
    refine hC _ _ _ _ _ _ _ _ _ _ (fun _ _ _ _ _ _ q => q) (st_len42 ?_)
    conv => whnf
    refine ⟨fun h => absurd h (nI_ge (b := 5) (by omega) (by omega)), fun _ => ?_⟩
    conv => whnf
    simp (disch := omega) only [z_lit, nI_add, pk_mul, z_pr1, z_pr2, nI_clamp, z_m3_40, z_m3_41, z_m3_44, z_m3_u40, z_m3_u41, z_m3_u44, z_m3_m3, pk_us, pk_un]
    rw [h17]
    repeat ((first | refine And.intro (by (conv => arg 2; whnf); (try simp only [z_lit, nI_add, pk_mul, z_pr1, z_pr2]); exact z_in (by omega) (by decide)) ?_ | refine z_bt1 (by decide) ?_ | refine z_bf1 (by decide) ?_ | refine z_bt2 (by decide) ?_ | refine z_bf2 (by decide) ?_); conv => whnf)
    simp (disch := omega) only [z_lit, nI_add, pk_mul, z_pr1, z_pr2, nI_clamp, z_m3_40, z_m3_41, z_m3_44, z_m3_u40, z_m3_u41, z_m3_u44, z_m3_m3, pk_us, pk_un]
    rw [e']
    refine hC _ _ _ _ _ _ _ _ _ _ (fun _ _ _ _ _ _ q => q) (st_chr42 (k := k) (by omega) ?_)
    conv => whnf
    refine ⟨fun g => ?_, fun g => ?_⟩
    · have g' : t (st + k) = S42.getD k 0 := nI_inj9 (by omega) (by omega) g
      rw [decide_eq_true g', Bool.true_and] at e
      conv => whnf
      simp (disch := omega) only [z_lit, nI_add, pk_mul, z_pr1, z_pr2, nI_clamp, z_m3_40, z_m3_41, z_m3_44, z_m3_u40, z_m3_u41, z_m3_u44, z_m3_m3, pk_us, pk_un]
      refine hK _ _ _ _ _ _ _ _ _ _ (ih' e)
    · have g' : ¬ t (st + k) = S42.getD k 0 := fun z => g (by rw [z])
      rw [decide_eq_false g'] at e
      subst e
      conv => whnf
      exact ⟨Or.inl rfl, hQ⟩
theorem sp_is42 {st len : Nat} (hT : mT I t N) (hN : N ≤ 500) (h15 : s.1 15 = nI (st + len)) (h17 : s.1 17 = nI st) (hle : st + len ≤ N) (hlow : ∀ k, st ≤ k → k < st + len → t k < 128) (hQ : Q (some (.int (z_bi (wm t st len S42)))) (z_ms I s) (z_R0 kp sp wd) J F cn) :
    z_M (z_X0 L xs) z_P0 (d + 4) m_Mod_is [.ref 40, .retAddr 42] (z_ms I s) (z_R0 kp sp wd) J F cn Q := by
  unfold wm at hQ
  rw [show S42.length = 5 from rfl] at hQ
  have e1 : nI (st + len) - nI st = nI len := by rw [pk_sub (by omega), Nat.add_sub_cancel_left]
  refine z_WP_gos [20] 1000 fun K C hK hC => ?_
  conv => whnf
  simp (disch := omega) only [z_lit, nI_add, pk_mul, z_pr1, z_pr2, nI_clamp, z_m3_40, z_m3_41, z_m3_44, z_m3_u40, z_m3_u41, z_m3_u44, z_m3_m3, pk_us, pk_un]
  rw [h15, h17, e1]
  refine hC _ _ _ _ _ _ _ _ _ _ (fun _ _ _ _ _ _ q => q) (st_len42 ?_)
  conv => whnf
  refine ⟨fun g => ?_, fun g => ?_⟩
  · have g' : len = 5 := nI_inj9 (by omega) (by omega) g
    rw [decide_eq_true g', Bool.true_and] at hQ
    subst g'
    conv => whnf
    refine hK _ _ _ _ _ _ _ _ _ _ (lp_is42 hT hN h17 hle hlow hQ 5 0 rfl rfl)
  · have g' : ¬ len = 5 := fun z => g (by rw [z])
    rw [decide_eq_false g'] at hQ
    conv => whnf
    exact ⟨Or.inl rfl, hQ⟩
def wE (t : Nat → Nat) (st len : Nat) : Nat :=
  if wm t st len S26 = true then 14 else if wm t st len S28 = true then 15 else if wm t st len S30 = true then 16 else if wm t st len S32 = true then 17 else if wm t st len S34 = true then 18 else
  if wm t st len S36 = true then 19 else if wm t st len S38 = true then 20 else if wm t st len S40 = true then 21 else if wm t st len S42 = true then 22 else 1
theorem sp_eventWordOf {st len : Nat} (hT : mT I t N) (hN : N ≤ 500) (h15 : s.1 15 = nI (st + len)) (h17 : s.1 17 = nI st) (hle : st + len ≤ N) (hlow : ∀ k, st ≤ k → k < st + len → t k < 128) (hQ : Q (some (.int (nI (wE t st len)))) (z_ms I s) (z_R0 kp sp wd) J F cn) :
    z_M (z_X0 L xs) z_P0 (d + 5) m_Mod_eventWordOf [.ref 40] (z_ms I s) (z_R0 kp sp wd) J F cn Q := by
  unfold wE at hQ
  refine z_WP_gos [] 1000 fun K C hK hC => ?_
  conv => whnf
  refine hC _ _ _ _ _ _ _ _ _ _ (fun _ _ _ _ _ _ q => q) (sp_is26 hT hN h15 h17 hle hlow ?_)
  conv => whnf
  by_cases c26 : wm t st len S26 = true
  · rw [if_pos c26] at hQ
    rw [c26]
    repeat ((first | refine And.intro (by (conv => arg 2; whnf); (try simp only [z_lit, nI_add, pk_mul, z_pr1, z_pr2]); exact z_in (by omega) (by decide)) ?_ | refine z_bt1 (by decide) ?_ | refine z_bf1 (by decide) ?_ | refine z_bt2 (by decide) ?_ | refine z_bf2 (by decide) ?_); conv => whnf)
    exact hQ
  rw [if_neg c26] at hQ
  rw [Bool.eq_false_iff.mpr c26]
  refine ⟨fun _ => ?_, fun z => absurd rfl z⟩
  conv => whnf
  refine hC _ _ _ _ _ _ _ _ _ _ (fun _ _ _ _ _ _ q => q) (sp_is28 hT hN h15 h17 hle hlow ?_)
  conv => whnf
  by_cases c28 : wm t st len S28 = true
  · rw [if_pos c28] at hQ
    rw [c28]
    repeat ((first | refine And.intro (by (conv => arg 2; whnf); (try simp only [z_lit, nI_add, pk_mul, z_pr1, z_pr2]); exact z_in (by omega) (by decide)) ?_ | refine z_bt1 (by decide) ?_ | refine z_bf1 (by decide) ?_ | refine z_bt2 (by decide) ?_ | refine z_bf2 (by decide) ?_); conv => whnf)
    exact hQ
  rw [if_neg c28] at hQ
  rw [Bool.eq_false_iff.mpr c28]
  refine ⟨fun _ => ?_, fun z => absurd rfl z⟩
  conv => whnf
  refine hC _ _ _ _ _ _ _ _ _ _ (fun _ _ _ _ _ _ q => q) (sp_is30 hT hN h15 h17 hle hlow ?_)
  conv => whnf
  by_cases c30 : wm t st len S30 = true
  · rw [if_pos c30] at hQ
    rw [c30]
    repeat ((first | refine And.intro (by (conv => arg 2; whnf); (try simp only [z_lit, nI_add, pk_mul, z_pr1, z_pr2]); exact z_in (by omega) (by decide)) ?_ | refine z_bt1 (by decide) ?_ | refine z_bf1 (by decide) ?_ | refine z_bt2 (by decide) ?_ | refine z_bf2 (by decide) ?_); conv => whnf)
    exact hQ
  rw [if_neg c30] at hQ
  rw [Bool.eq_false_iff.mpr c30]
  refine ⟨fun _ => ?_, fun z => absurd rfl z⟩
  conv => whnf
  refine hC _ _ _ _ _ _ _ _ _ _ (fun _ _ _ _ _ _ q => q) (sp_is32 hT hN h15 h17 hle hlow ?_)
  conv => whnf
  by_cases c32 : wm t st len S32 = true
  · rw [if_pos c32] at hQ
    rw [c32]
    repeat ((first | refine And.intro (by (conv => arg 2; whnf); (try simp only [z_lit, nI_add, pk_mul, z_pr1, z_pr2]); exact z_in (by omega) (by decide)) ?_ | refine z_bt1 (by decide) ?_ | refine z_bf1 (by decide) ?_ | refine z_bt2 (by decide) ?_ | refine z_bf2 (by decide) ?_); conv => whnf)
    exact hQ
  rw [if_neg c32] at hQ
  rw [Bool.eq_false_iff.mpr c32]
  refine ⟨fun _ => ?_, fun z => absurd rfl z⟩
  conv => whnf
  refine hC _ _ _ _ _ _ _ _ _ _ (fun _ _ _ _ _ _ q => q) (sp_is34 hT hN h15 h17 hle hlow ?_)
  conv => whnf
  by_cases c34 : wm t st len S34 = true
  · rw [if_pos c34] at hQ
    rw [c34]
    repeat ((first | refine And.intro (by (conv => arg 2; whnf); (try simp only [z_lit, nI_add, pk_mul, z_pr1, z_pr2]); exact z_in (by omega) (by decide)) ?_ | refine z_bt1 (by decide) ?_ | refine z_bf1 (by decide) ?_ | refine z_bt2 (by decide) ?_ | refine z_bf2 (by decide) ?_); conv => whnf)
    exact hQ
  rw [if_neg c34] at hQ
  rw [Bool.eq_false_iff.mpr c34]
  refine ⟨fun _ => ?_, fun z => absurd rfl z⟩
  conv => whnf
  refine hC _ _ _ _ _ _ _ _ _ _ (fun _ _ _ _ _ _ q => q) (sp_is36 hT hN h15 h17 hle hlow ?_)
  conv => whnf
  by_cases c36 : wm t st len S36 = true
  · rw [if_pos c36] at hQ
    rw [c36]
    repeat ((first | refine And.intro (by (conv => arg 2; whnf); (try simp only [z_lit, nI_add, pk_mul, z_pr1, z_pr2]); exact z_in (by omega) (by decide)) ?_ | refine z_bt1 (by decide) ?_ | refine z_bf1 (by decide) ?_ | refine z_bt2 (by decide) ?_ | refine z_bf2 (by decide) ?_); conv => whnf)
    exact hQ
  rw [if_neg c36] at hQ
  rw [Bool.eq_false_iff.mpr c36]
  refine ⟨fun _ => ?_, fun z => absurd rfl z⟩
  conv => whnf
  refine hC _ _ _ _ _ _ _ _ _ _ (fun _ _ _ _ _ _ q => q) (sp_is38 hT hN h15 h17 hle hlow ?_)
  conv => whnf
  by_cases c38 : wm t st len S38 = true
  · rw [if_pos c38] at hQ
    rw [c38]
    repeat ((first | refine And.intro (by (conv => arg 2; whnf); (try simp only [z_lit, nI_add, pk_mul, z_pr1, z_pr2]); exact z_in (by omega) (by decide)) ?_ | refine z_bt1 (by decide) ?_ | refine z_bf1 (by decide) ?_ | refine z_bt2 (by decide) ?_ | refine z_bf2 (by decide) ?_); conv => whnf)
    exact hQ
  rw [if_neg c38] at hQ
  rw [Bool.eq_false_iff.mpr c38]
  refine ⟨fun _ => ?_, fun z => absurd rfl z⟩
  conv => whnf
  refine hC _ _ _ _ _ _ _ _ _ _ (fun _ _ _ _ _ _ q => q) (sp_is40 hT hN h15 h17 hle hlow ?_)
  conv => whnf
  by_cases c40 : wm t st len S40 = true
  · rw [if_pos c40] at hQ
    rw [c40]
    repeat ((first | refine And.intro (by (conv => arg 2; whnf); (try simp only [z_lit, nI_add, pk_mul, z_pr1, z_pr2]); exact z_in (by omega) (by decide)) ?_ | refine z_bt1 (by decide) ?_ | refine z_bf1 (by decide) ?_ | refine z_bt2 (by decide) ?_ | refine z_bf2 (by decide) ?_); conv => whnf)
    exact hQ
  rw [if_neg c40] at hQ
  rw [Bool.eq_false_iff.mpr c40]
  refine ⟨fun _ => ?_, fun z => absurd rfl z⟩
  conv => whnf
  refine hC _ _ _ _ _ _ _ _ _ _ (fun _ _ _ _ _ _ q => q) (sp_is42 hT hN h15 h17 hle hlow ?_)
  conv => whnf
  by_cases c42 : wm t st len S42 = true
  · rw [if_pos c42] at hQ
    rw [c42]
    repeat ((first | refine And.intro (by (conv => arg 2; whnf); (try simp only [z_lit, nI_add, pk_mul, z_pr1, z_pr2]); exact z_in (by omega) (by decide)) ?_ | refine z_bt1 (by decide) ?_ | refine z_bf1 (by decide) ?_ | refine z_bt2 (by decide) ?_ | refine z_bf2 (by decide) ?_); conv => whnf)
    exact hQ
  rw [if_neg c42] at hQ
  rw [Bool.eq_false_iff.mpr c42]
  refine ⟨fun _ => ?_, fun z => absurd rfl z⟩
  conv => whnf
  exact hQ
theorem sp_wordOf {st len : Nat} (hT : mT I t N) (hN : N ≤ 500) (h15 : s.1 15 = nI (st + len)) (h17 : s.1 17 = nI st) (hle : st + len ≤ N) (hlow : ∀ k, st ≤ k → k < st + len → t k < 128) (hQ : Q (some (.int (nI (wM t st len)))) (z_ms I s) (z_R0 kp sp wd) J F cn) :
    z_M (z_X0 L xs) z_P0 (d + 6) m_Mod_wordOf [.ref 40] (z_ms I s) (z_R0 kp sp wd) J F cn Q := by
  unfold wM at hQ
  refine z_WP_gos [] 1000 fun K C hK hC => ?_
  conv => whnf
  refine hC _ _ _ _ _ _ _ _ _ _ (fun _ _ _ _ _ _ q => q) (sp_is6 hT hN h15 h17 hle hlow ?_)
  conv => whnf
  by_cases c6 : wm t st len S6 = true
  · rw [if_pos c6] at hQ
    rw [c6]
    repeat ((first | refine And.intro (by (conv => arg 2; whnf); (try simp only [z_lit, nI_add, pk_mul, z_pr1, z_pr2]); exact z_in (by omega) (by decide)) ?_ | refine z_bt1 (by decide) ?_ | refine z_bf1 (by decide) ?_ | refine z_bt2 (by decide) ?_ | refine z_bf2 (by decide) ?_); conv => whnf)
    exact hQ
  rw [if_neg c6] at hQ
  rw [Bool.eq_false_iff.mpr c6]
  refine ⟨fun _ => ?_, fun z => absurd rfl z⟩
  conv => whnf
  refine hC _ _ _ _ _ _ _ _ _ _ (fun _ _ _ _ _ _ q => q) (sp_is8 hT hN h15 h17 hle hlow ?_)
  conv => whnf
  by_cases c8 : wm t st len S8 = true
  · rw [if_pos c8] at hQ
    rw [c8]
    repeat ((first | refine And.intro (by (conv => arg 2; whnf); (try simp only [z_lit, nI_add, pk_mul, z_pr1, z_pr2]); exact z_in (by omega) (by decide)) ?_ | refine z_bt1 (by decide) ?_ | refine z_bf1 (by decide) ?_ | refine z_bt2 (by decide) ?_ | refine z_bf2 (by decide) ?_); conv => whnf)
    exact hQ
  rw [if_neg c8] at hQ
  rw [Bool.eq_false_iff.mpr c8]
  refine ⟨fun _ => ?_, fun z => absurd rfl z⟩
  conv => whnf
  refine hC _ _ _ _ _ _ _ _ _ _ (fun _ _ _ _ _ _ q => q) (sp_is10 hT hN h15 h17 hle hlow ?_)
  conv => whnf
  by_cases c10 : wm t st len S10 = true
  · rw [if_pos c10] at hQ
    rw [c10]
    repeat ((first | refine And.intro (by (conv => arg 2; whnf); (try simp only [z_lit, nI_add, pk_mul, z_pr1, z_pr2]); exact z_in (by omega) (by decide)) ?_ | refine z_bt1 (by decide) ?_ | refine z_bf1 (by decide) ?_ | refine z_bt2 (by decide) ?_ | refine z_bf2 (by decide) ?_); conv => whnf)
    exact hQ
  rw [if_neg c10] at hQ
  rw [Bool.eq_false_iff.mpr c10]
  refine ⟨fun _ => ?_, fun z => absurd rfl z⟩
  conv => whnf
  refine hC _ _ _ _ _ _ _ _ _ _ (fun _ _ _ _ _ _ q => q) (sp_is12 hT hN h15 h17 hle hlow ?_)
  conv => whnf
  by_cases c12 : wm t st len S12 = true
  · rw [if_pos c12] at hQ
    rw [c12]
    repeat ((first | refine And.intro (by (conv => arg 2; whnf); (try simp only [z_lit, nI_add, pk_mul, z_pr1, z_pr2]); exact z_in (by omega) (by decide)) ?_ | refine z_bt1 (by decide) ?_ | refine z_bf1 (by decide) ?_ | refine z_bt2 (by decide) ?_ | refine z_bf2 (by decide) ?_); conv => whnf)
    exact hQ
  rw [if_neg c12] at hQ
  rw [Bool.eq_false_iff.mpr c12]
  refine ⟨fun _ => ?_, fun z => absurd rfl z⟩
  conv => whnf
  refine hC _ _ _ _ _ _ _ _ _ _ (fun _ _ _ _ _ _ q => q) (sp_is14 hT hN h15 h17 hle hlow ?_)
  conv => whnf
  by_cases c14 : wm t st len S14 = true
  · rw [if_pos c14] at hQ
    rw [c14]
    repeat ((first | refine And.intro (by (conv => arg 2; whnf); (try simp only [z_lit, nI_add, pk_mul, z_pr1, z_pr2]); exact z_in (by omega) (by decide)) ?_ | refine z_bt1 (by decide) ?_ | refine z_bf1 (by decide) ?_ | refine z_bt2 (by decide) ?_ | refine z_bf2 (by decide) ?_); conv => whnf)
    exact hQ
  rw [if_neg c14] at hQ
  rw [Bool.eq_false_iff.mpr c14]
  refine ⟨fun _ => ?_, fun z => absurd rfl z⟩
  conv => whnf
  refine hC _ _ _ _ _ _ _ _ _ _ (fun _ _ _ _ _ _ q => q) (sp_is16 hT hN h15 h17 hle hlow ?_)
  conv => whnf
  by_cases c16 : wm t st len S16 = true
  · rw [if_pos c16] at hQ
    rw [c16]
    repeat ((first | refine And.intro (by (conv => arg 2; whnf); (try simp only [z_lit, nI_add, pk_mul, z_pr1, z_pr2]); exact z_in (by omega) (by decide)) ?_ | refine z_bt1 (by decide) ?_ | refine z_bf1 (by decide) ?_ | refine z_bt2 (by decide) ?_ | refine z_bf2 (by decide) ?_); conv => whnf)
    exact hQ
  rw [if_neg c16] at hQ
  rw [Bool.eq_false_iff.mpr c16]
  refine ⟨fun _ => ?_, fun z => absurd rfl z⟩
  conv => whnf
  refine hC _ _ _ _ _ _ _ _ _ _ (fun _ _ _ _ _ _ q => q) (sp_is18 hT hN h15 h17 hle hlow ?_)
  conv => whnf
  by_cases c18 : wm t st len S18 = true
  · rw [if_pos c18] at hQ
    rw [c18]
    repeat ((first | refine And.intro (by (conv => arg 2; whnf); (try simp only [z_lit, nI_add, pk_mul, z_pr1, z_pr2]); exact z_in (by omega) (by decide)) ?_ | refine z_bt1 (by decide) ?_ | refine z_bf1 (by decide) ?_ | refine z_bt2 (by decide) ?_ | refine z_bf2 (by decide) ?_); conv => whnf)
    exact hQ
  rw [if_neg c18] at hQ
  rw [Bool.eq_false_iff.mpr c18]
  refine ⟨fun _ => ?_, fun z => absurd rfl z⟩
  conv => whnf
  refine hC _ _ _ _ _ _ _ _ _ _ (fun _ _ _ _ _ _ q => q) (sp_is20 hT hN h15 h17 hle hlow ?_)
  conv => whnf
  by_cases c20 : wm t st len S20 = true
  · rw [if_pos c20] at hQ
    rw [c20]
    repeat ((first | refine And.intro (by (conv => arg 2; whnf); (try simp only [z_lit, nI_add, pk_mul, z_pr1, z_pr2]); exact z_in (by omega) (by decide)) ?_ | refine z_bt1 (by decide) ?_ | refine z_bf1 (by decide) ?_ | refine z_bt2 (by decide) ?_ | refine z_bf2 (by decide) ?_); conv => whnf)
    exact hQ
  rw [if_neg c20] at hQ
  rw [Bool.eq_false_iff.mpr c20]
  refine ⟨fun _ => ?_, fun z => absurd rfl z⟩
  conv => whnf
  refine hC _ _ _ _ _ _ _ _ _ _ (fun _ _ _ _ _ _ q => q) (sp_is22 hT hN h15 h17 hle hlow ?_)
  conv => whnf
  by_cases c22 : wm t st len S22 = true
  · rw [if_pos c22] at hQ
    rw [c22]
    repeat ((first | refine And.intro (by (conv => arg 2; whnf); (try simp only [z_lit, nI_add, pk_mul, z_pr1, z_pr2]); exact z_in (by omega) (by decide)) ?_ | refine z_bt1 (by decide) ?_ | refine z_bf1 (by decide) ?_ | refine z_bt2 (by decide) ?_ | refine z_bf2 (by decide) ?_); conv => whnf)
    exact hQ
  rw [if_neg c22] at hQ
  rw [Bool.eq_false_iff.mpr c22]
  refine ⟨fun _ => ?_, fun z => absurd rfl z⟩
  conv => whnf
  refine hC _ _ _ _ _ _ _ _ _ _ (fun _ _ _ _ _ _ q => q) (sp_is24 hT hN h15 h17 hle hlow ?_)
  conv => whnf
  by_cases c24 : wm t st len S24 = true
  · rw [if_pos c24] at hQ
    rw [c24]
    repeat ((first | refine And.intro (by (conv => arg 2; whnf); (try simp only [z_lit, nI_add, pk_mul, z_pr1, z_pr2]); exact z_in (by omega) (by decide)) ?_ | refine z_bt1 (by decide) ?_ | refine z_bf1 (by decide) ?_ | refine z_bt2 (by decide) ?_ | refine z_bf2 (by decide) ?_); conv => whnf)
    exact hQ
  rw [if_neg c24] at hQ
  rw [Bool.eq_false_iff.mpr c24]
  refine ⟨fun _ => ?_, fun z => absurd rfl z⟩
  conv => whnf
  refine hC _ _ _ _ _ _ _ _ _ _ (fun _ _ _ _ _ _ q => q) (sp_eventWordOf hT hN h15 h17 hle hlow ?_)
  conv => whnf
  exact hQ
end
