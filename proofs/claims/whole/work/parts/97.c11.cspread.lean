/-! the class: spread -/
theorem cntP_add {P : Nat → Prop} (a : Nat) : ∀ k, cntP P (a + k) = cntP P a + cntP (fun b => P (a + b)) k
  | 0 => rfl
  | k + 1 => by
    have ih := cntP_add (P := P) a k
    by_cases h : P (a + k)
    · rw [← Nat.add_assoc, cntP_t h, ih, cntP_t (P := fun b => P (a + b)) h, Nat.add_assoc]
    · rw [← Nat.add_assoc, cntP_f h, ih, cntP_f (P := fun b => P (a + b)) h]
theorem cntP_none {P : Nat → Prop} : ∀ {k}, (∀ t, t < k → ¬ P t) → cntP P k = 0
  | 0, _ => rfl
  | k + 1, h => by rw [cntP_f (h k (by omega)), cntP_none fun t ht => h t (by omega)]
theorem cntP_cut {P P' : Nat → Prop} {N K : Nat} (hN : N ≤ K) (h : ∀ t, t < K → (P' t ↔ P t ∧ t < N)) : cntP P' K = cntP P N := by
  obtain ⟨k, rfl⟩ : ∃ k, K = N + k := ⟨K - N, by omega⟩
  rw [cntP_add, cntP_none (k := k) fun t ht z => by have := ((h _ (by omega)).mp z).2; omega, Nat.add_zero]
  exact cntP_c fun t ht => ⟨fun z => ((h t (by omega)).mp z).1, fun z => (h t (by omega)).mpr ⟨z, ht⟩⟩
theorem cnf_cnt {x : Nat} : ∀ k, cnf k x = cntP (fun b => x.testBit b = true) k
  | 0 => rfl
  | k + 1 => by
    rw [cnf_s, cnf_cnt k]
    have e : x.testBit k = decide (x / 2 ^ k % 2 = 1) := Nat.testBit_eq_decide_div_mod_eq
    by_cases h : x.testBit k = true
    · rw [cntP_t (P := fun b => x.testBit b = true) h]
      rw [e, decide_eq_true_eq] at h
      rw [h]
    · rw [cntP_f (P := fun b => x.testBit b = true) h]
      rw [e, decide_eq_true_eq] at h
      omega
theorem cnf_long {P : Nat → Prop} {v : Int64} {a : Nat} (h : ∀ b, b < 64 → (wbt v b = true ↔ P (a + b))) : ∃ x, x < 2 ^ 64 ∧ v = lN x ∧ cntP P (a + 64) = cntP P a + cnf 64 x := by
  obtain ⟨x, hx, e⟩ := wb_of v
  refine ⟨x, hx, e, ?_⟩
  rw [cntP_add, cnf_cnt]
  congr 1
  refine cntP_c fun t ht => ?_
  rw [← h t ht, e, wbt_lN hx]
section
variable {L : Nat} {xs : Nat → Int32} {d : Nat} {kp sp wd : Value} {I : z_I} {s : z_sg} {R : z_R} {J : z_J} {F : z_F} {cn : Nat} {Q : z_Q}
theorem lp_howMany {lim : Int32} {n : Nat} {P : Nat → Prop} (hsp : I 35 4 = nI n) (hn : n ≤ 157) (h1 : -10000 ≤ lim.toInt) (h2 : lim.toInt ≤ 10000) (hA : hasS (J 36) n P)
    (hQ : Q (some (.int (nI (cntP (fun t => P t ∧ (t : Int) ≤ lim.toInt) (64 * n))))) I (z_R0 kp sp wd) J F cn) :
    ∀ j i, i + j = n → z_WP (z_X0 L xs) z_P0 (d + 1) m_Times_howMany 4 [some (.ref 35), some (.int lim), some (.int (nI (cntP (fun t => P t ∧ (t : Int) ≤ lim.toInt) (64 * i)))), some (.int (nI i))] [] I (z_R0 kp sp wd) J F cn 0 0 Q := by
  intro j
  induction j with
  | zero =>
    intro i hi
    obtain rfl : i = n := by omega
    refine z_WP_gos [4] 1000 fun K C hK hC => ?_
    conv => whnf
    rw [hsp]
    refine ⟨fun _ => ?_, fun g => absurd (Int32.le_refl _) g⟩
    conv => whnf
    exact hQ
  | succ j ih =>
    intro i hi
    have ih' := ih (i + 1) (by omega)
    refine z_WP_gos [4] 1000 fun K C hK hC => ?_
    conv => whnf
    rw [hsp]
    refine ⟨fun g => absurd g (nI_ge (by omega) (by omega)), fun _ => ?_⟩
    conv => whnf
    repeat ((first | refine And.intro (by (conv => arg 2; whnf); (try simp only [z_lit, nI_add, pk_mul, z_pr1, z_pr2]); exact z_in (by omega) (by decide)) ?_ | refine z_bt1 (by decide) ?_ | refine z_bf1 (by decide) ?_ | refine z_bt2 (by decide) ?_ | refine z_bf2 (by decide) ?_); conv => whnf)
    simp (disch := omega) only [z_lit, nI_add, pk_mul, z_pr1, z_pr2, nI_clamp, z_up_row, z_row_s, z_row_n, z_row_row, pk_us, pk_un]
    refine hC _ _ _ _ _ _ _ _ _ _ (fun _ _ _ _ _ _ q => q) (ct_upTo (by rw [lim_sub h1 h2 (by omega)]; omega) (by rw [lim_sub h1 h2 (by omega)]; omega) (fun v hv => ?_))
    conv => whnf
    rw [lim_sub h1 h2 (by omega)] at hv
    obtain ⟨x, hx, e, hc⟩ := cnf_long (P := fun t => P t ∧ (t : Int) ≤ lim.toInt) (v := J 36 i &&& v) (a := 64 * i) (fun b hb => by
      rw [wbt_and, Bool.and_eq_true, hv b hb, decide_eq_true_eq]
      have k := hA (64 * i + b) (by omega)
      rw [lb_w (show (64 * i + b) / 64 = i by omega), show (64 * i + b) % 64 = b by omega] at k
      rw [k]
      constructor
      · rintro ⟨a, b⟩; exact ⟨a, by omega⟩
      · rintro ⟨a, b⟩; exact ⟨a, by omega⟩)
    simp (disch := omega) only [z_lit, nI_add, pk_mul, z_pr1, z_pr2, nI_clamp, z_up_row, z_row_s, z_row_n, z_row_row, pk_us, pk_un]
    rw [e]
    refine hC _ _ _ _ _ _ _ _ _ _ (fun _ _ _ _ _ _ q => q) (cl_bitCount hx ?_)
    conv => whnf
    rw [show 64 * (i + 1) = 64 * i + 64 by omega, hc] at ih'
    simp (disch := omega) only [z_lit, nI_add, pk_mul, z_pr1, z_pr2, nI_clamp, z_up_row, z_row_s, z_row_n, z_row_row, pk_us, pk_un]
    refine hK _ _ _ _ _ _ _ _ _ _ (ih')
theorem ct_howMany {lim : Int32} {n : Nat} {P : Nat → Prop} (hsp : I 35 4 = nI n) (hn : n ≤ 157) (h1 : -10000 ≤ lim.toInt) (h2 : lim.toInt ≤ 10000) (hA : hasS (J 36) n P)
    (hQ : Q (some (.int (nI (cntP (fun t => P t ∧ (t : Int) ≤ lim.toInt) (64 * n))))) I (z_R0 kp sp wd) J F cn) : z_M (z_X0 L xs) z_P0 (d + 1) m_Times_howMany [.ref 35, .int lim] I (z_R0 kp sp wd) J F cn Q := by
  refine z_WP_gos [4] 1000 fun K C hK hC => ?_
  conv => whnf
  refine hK _ _ _ _ _ _ _ _ _ _ (lp_howMany hsp hn h1 h2 hA hQ n 0 (by omega))
theorem ct_has {t : Nat} (ht : t < 10048) (hQ : Q (some (.int (z_bi (lb (J 36) t)))) I (z_R0 kp sp wd) J F cn) : z_M (z_X0 L xs) z_P0 d m_Times_has [.ref 35, .int (nI t)] I (z_R0 kp sp wd) J F cn Q := by
  unfold lb at hQ
  refine z_WP_gos [] 1000 fun K C hK hC => ?_
  conv => whnf
  simp (disch := omega) only [z_lit, nI_add, pk_mul, z_pr1, z_pr2, nI_clamp, z_up_row, z_row_s, z_row_n, z_row_row, pk_us, pk_un]
  rw [nI_shr6 (by omega)]
  repeat ((first | refine And.intro (by (conv => arg 2; whnf); (try simp only [z_lit, nI_add, pk_mul, z_pr1, z_pr2]); exact z_in (by omega) (by decide)) ?_ | refine z_bt1 (by decide) ?_ | refine z_bf1 (by decide) ?_ | refine z_bt2 (by decide) ?_ | refine z_bf2 (by decide) ?_); conv => whnf)
  simp (disch := omega) only [z_lit, nI_add, pk_mul, z_pr1, z_pr2, nI_clamp, z_up_row, z_row_s, z_row_n, z_row_row, pk_us, pk_un]
  rw [nI_and63 (by omega)]
  have e : (((J 36 (t / 64)).toUInt64 >>> ((nI (t % 64)).toInt64.toUInt64 &&& Int64.toUInt64 63)).toInt64 &&& 1 = 0) ↔ wbt (J 36 (t / 64)) (t % 64) = false := by
    rw [wbt_eq0]
    constructor
    · intro h
      have := h 0 (by decide)
      rw [wbt_and, wbt_shr (by omega), wbt_one, decide_eq_true rfl, Bool.and_true, Nat.add_zero] at this
      exact this
    · intro h b hb
      rw [wbt_and, wbt_shr (by omega), wbt_one]
      by_cases z : b = 0
      · rw [z, Nat.add_zero, h]; rfl
      · rw [decide_eq_false z, Bool.and_false]
  refine ⟨fun g => ?_, fun g => ?_⟩
  · have := e.mp (lcmp0.mp g)
    rw [this] at hQ
    conv => whnf
    exact ⟨Or.inl rfl, hQ⟩
  · have : wbt (J 36 (t / 64)) (t % 64) = true := by
      cases h : wbt (J 36 (t / 64)) (t % 64)
      · exact (g (lcmp0.mpr (e.mpr h))).elim
      · rfl
    rw [this] at hQ
    conv => whnf
    exact ⟨Or.inr rfl, hQ⟩
theorem lp_least {M n : Nat} {P : Nat → Prop} (hM9 : M ≤ 9999) (hM : M < 64 * n) (hA : hasS (J 36) n P) (hx : ∃ x, x ≤ M ∧ P x)
    (hQ : ∀ t, t ≤ M → P t → (∀ u, u < t → ¬ P u) → Q (some (.int (nI t))) I (z_R0 kp sp wd) J F cn) :
    ∀ j k, k + j = M → (∀ u, u < k → ¬ P u) → z_WP (z_X0 L xs) z_P0 (d + 1) m_Times_least 2 [some (.ref 35), some (.int (nI M)), some (.int (nI k))] [] I (z_R0 kp sp wd) J F cn 0 0 Q := by
  obtain ⟨x, hx1, hx2⟩ := hx
  intro j
  induction j with
  | zero =>
    intro k hk hu
    obtain rfl : k = M := by omega
    refine z_WP_gos [2] 1000 fun K C hK hC => ?_
    conv => whnf
    refine ⟨fun _ => ?_, fun g => absurd (Int32.le_refl _) g⟩
    conv => whnf
    refine hQ k (Nat.le_refl _) ?_ hu
    rcases Nat.lt_or_eq_of_le hx1 with z | z
    · exact (hu x z hx2).elim
    · rw [← z]; exact hx2
  | succ j ih =>
    intro k hk hu
    refine z_WP_gos [2] 1000 fun K C hK hC => ?_
    conv => whnf
    refine ⟨fun g => absurd g (nI_ge (by omega) (by omega)), fun _ => ?_⟩
    conv => whnf
    refine hC _ _ _ _ _ _ _ _ _ _ (fun _ _ _ _ _ _ q => q) (ct_has (by omega) ?_)
    conv => whnf
    cases hb : lb (J 36) k
    · have hk2 : ¬ P k := fun z => by rw [(hA k (by omega)).mpr z] at hb; exact absurd hb (by decide)
      repeat ((first | refine And.intro (by (conv => arg 2; whnf); (try simp only [z_lit, nI_add, pk_mul, z_pr1, z_pr2]); exact z_in (by omega) (by decide)) ?_ | refine z_bt1 (by decide) ?_ | refine z_bf1 (by decide) ?_ | refine z_bt2 (by decide) ?_ | refine z_bf2 (by decide) ?_); conv => whnf)
      simp (disch := omega) only [z_lit, nI_add, pk_mul, z_pr1, z_pr2, nI_clamp, z_up_row, z_row_s, z_row_n, z_row_row, pk_us, pk_un]
      refine hK _ _ _ _ _ _ _ _ _ _ (ih (k + 1) (by omega) (fun u hu2 => ?_))
      rcases Nat.lt_or_eq_of_le (Nat.le_of_lt_succ hu2) with z | z
      · exact hu u z
      · rw [z]; exact hk2
    · repeat ((first | refine And.intro (by (conv => arg 2; whnf); (try simp only [z_lit, nI_add, pk_mul, z_pr1, z_pr2]); exact z_in (by omega) (by decide)) ?_ | refine z_bt1 (by decide) ?_ | refine z_bf1 (by decide) ?_ | refine z_bt2 (by decide) ?_ | refine z_bf2 (by decide) ?_); conv => whnf)
      exact hQ k (by omega) ((hA k (by omega)).mp hb) hu
theorem lp_grst {M n : Nat} {P : Nat → Prop} (hM9 : M ≤ 9999) (hM : M < 64 * n) (hA : hasS (J 36) n P) (hx : ∃ x, x ≤ M ∧ P x)
    (hQ : ∀ t, t ≤ M → P t → (∀ u, t < u → u ≤ M → ¬ P u) → Q (some (.int (nI t))) I (z_R0 kp sp wd) J F cn) :
    ∀ k, k ≤ M → (∀ u, k < u → u ≤ M → ¬ P u) → z_WP (z_X0 L xs) z_P0 (d + 1) m_Times_greatest 2 [some (.ref 35), some (.int (nI M)), some (.int (nI k))] [] I (z_R0 kp sp wd) J F cn 0 0 Q := by
  obtain ⟨x, hx1, hx2⟩ := hx
  intro k
  induction k with
  | zero =>
    intro hk hu
    refine z_WP_gos [2] 1000 fun K C hK hC => ?_
    conv => whnf
    repeat ((first | refine And.intro (by (conv => arg 2; whnf); (try simp only [z_lit, nI_add, pk_mul, z_pr1, z_pr2]); exact z_in (by omega) (by decide)) ?_ | refine z_bt1 (by decide) ?_ | refine z_bf1 (by decide) ?_ | refine z_bt2 (by decide) ?_ | refine z_bf2 (by decide) ?_); conv => whnf)
    refine hQ 0 hk ?_ hu
    rcases Nat.eq_zero_or_pos x with z | z
    · rw [← z]; exact hx2
    · exact (hu x z hx1 hx2).elim
  | succ k ih =>
    intro hk hu
    refine z_WP_gos [2] 1000 fun K C hK hC => ?_
    conv => whnf
    refine ⟨fun g => absurd g (nI_ge (a := 0) (by omega) (by omega)), fun _ => ?_⟩
    conv => whnf
    refine hC _ _ _ _ _ _ _ _ _ _ (fun _ _ _ _ _ _ q => q) (ct_has (by omega) ?_)
    conv => whnf
    cases hb : lb (J 36) (k + 1)
    · have hk2 : ¬ P (k + 1) := fun z => by rw [(hA (k + 1) (by omega)).mpr z] at hb; exact absurd hb (by decide)
      repeat ((first | refine And.intro (by (conv => arg 2; whnf); (try simp only [z_lit, nI_add, pk_mul, z_pr1, z_pr2]); exact z_in (by omega) (by decide)) ?_ | refine z_bt1 (by decide) ?_ | refine z_bf1 (by decide) ?_ | refine z_bt2 (by decide) ?_ | refine z_bf2 (by decide) ?_); conv => whnf)
      simp (disch := omega) only [z_lit, nI_add, pk_mul, z_pr1, z_pr2, nI_clamp, z_up_row, z_row_s, z_row_n, z_row_row, pk_us, pk_un]
      rw [nI_back (a := k) (T := 1)]
      refine hK _ _ _ _ _ _ _ _ _ _ (ih (by omega) (fun u hu2 hu3 => ?_))
      rcases Nat.lt_or_eq_of_le (Nat.succ_le_of_lt hu2) with z | z
      · exact hu u z hu3
      · rw [← z]; exact hk2
    · repeat ((first | refine And.intro (by (conv => arg 2; whnf); (try simp only [z_lit, nI_add, pk_mul, z_pr1, z_pr2]); exact z_in (by omega) (by decide)) ?_ | refine z_bt1 (by decide) ?_ | refine z_bf1 (by decide) ?_ | refine z_bt2 (by decide) ?_ | refine z_bf2 (by decide) ?_); conv => whnf)
      exact hQ (k + 1) hk ((hA (k + 1) (by omega)).mp hb) hu
theorem ct_least {M n : Nat} {P : Nat → Prop} (hM9 : M ≤ 9999) (hM : M < 64 * n) (hA : hasS (J 36) n P) (hx : ∃ x, x ≤ M ∧ P x)
    (hQ : ∀ t, t ≤ M → P t → (∀ u, u < t → ¬ P u) → Q (some (.int (nI t))) I (z_R0 kp sp wd) J F cn) : z_M (z_X0 L xs) z_P0 (d + 1) m_Times_least [.ref 35, .int (nI M)] I (z_R0 kp sp wd) J F cn Q := by
  refine z_WP_gos [2] 1000 fun K C hK hC => ?_
  conv => whnf
  refine hK _ _ _ _ _ _ _ _ _ _ (lp_least hM9 hM hA hx hQ M 0 (by omega) (fun u h => absurd h (Nat.not_lt_zero _)))
theorem ct_grst {M n : Nat} {P : Nat → Prop} (hM9 : M ≤ 9999) (hM : M < 64 * n) (hA : hasS (J 36) n P) (hx : ∃ x, x ≤ M ∧ P x)
    (hQ : ∀ t, t ≤ M → P t → (∀ u, t < u → u ≤ M → ¬ P u) → Q (some (.int (nI t))) I (z_R0 kp sp wd) J F cn) : z_M (z_X0 L xs) z_P0 (d + 1) m_Times_greatest [.ref 35, .int (nI M)] I (z_R0 kp sp wd) J F cn Q := by
  refine z_WP_gos [2] 1000 fun K C hK hC => ?_
  conv => whnf
  refine hK _ _ _ _ _ _ _ _ _ _ (lp_grst hM9 hM hA hx hQ M (Nat.le_refl _) (fun u h1 h2 => by omega))
theorem lp_gather {w : Nat → Int32} {f M rt n : Nat} (hp : pS I w) (ht : tb_ok w) (hf : f < 8) (h5 : I 1 5 = nI M) (h6 : I 1 6 = nI rt) (h8 : I 1 8 = w 3) (eM : s_M w = M) (er : s_rt w = rt) (hr : rt ≤ 3) (hM9 : M ≤ 9999) (hn : n ≤ 157) (hM : M < 64 * n)
    (hQ : ∀ g J', g 4 = nI n → fcr w f (w 8).toNatClampNeg (g 5) → g 6 = nI (ldu w f (w 8).toNatClampNeg) → hasS (J' 36) n (sr w f (w 8).toNatClampNeg) → Q none (z_row I 35 g) (z_R0 kp sp wd) J' F cn) :
    ∀ j i (g : Nat → Int32) (J : z_J), i + j = (w 8).toNatClampNeg → g 4 = nI n → fcr w f i (g 5) → g 6 = nI (ldu w f i) → hasS (J 36) n (sr w f i) →
    z_WP (z_X0 L xs) z_P0 (d + 3) m_Times_gather 52 [some (.ref 35), some (.ref 1), some (.int (nI f)), some (.ref 18), some (.int (nI i))] [] (z_row I 35 g) (z_R0 kp sp wd) J F cn 0 0 Q := by
  have h24 := ht.2.1
  have p5 := hp.1
  rw [ht.1] at p5
  intro j
  induction j with
  | zero =>
    intro i g J hi g4 g5 g6 hJ
    obtain rfl : i = (w 8).toNatClampNeg := by omega
    refine z_WP_gos [52] 1000 fun K C hK hC => ?_
    conv => whnf
    rw [z_row_n _ _ (show (18 : Nat) ≠ 35 by decide), p5]
    refine ⟨fun _ => ?_, fun g => absurd (Int32.le_refl _) g⟩
    conv => whnf
    exact hQ g J g4 g5 g6 hJ
  | succ j ih =>
    intro i g J hi g4 g5 g6 hJ
    have ho := ht.2.2 i (by omega)
    have hp' : pS (z_row I 35 g) w := pS_c hp (by rw [z_row_n _ _ (by decide)]) (z_row_n _ _ (by decide)) rfl h24 (fun _ _ _ _ => rfl)
    obtain ⟨-, -, -, -, -, -, -, -, -, -, b10⟩ := hp'.2 i (by omega)
    have t1 := s_time_le ho
    have t2 := ldu_le (f := f) (k := i) fun i hi => ht.2.2 i (by omega)
    refine z_WP_gos [52] 1000 fun K C hK hC => ?_
    conv => whnf
    rw [z_row_n _ _ (show (18 : Nat) ≠ 35 by decide), p5]
    refine ⟨fun g => absurd g (nI_ge (by omega) (by omega)), fun _ => ?_⟩
    conv => whnf
    refine hC _ _ _ _ _ _ _ _ _ _ (fun _ _ _ _ _ _ q => q) (cp_isDue hp' (by omega) h24 ho (by omega) ?_)
    conv => whnf
    cases hd : s_due w i f
    · repeat ((first | refine And.intro (by (conv => arg 2; whnf); (try simp only [z_lit, nI_add, pk_mul, z_pr1, z_pr2]); exact z_in (by omega) (by decide)) ?_ | refine z_bt1 (by decide) ?_ | refine z_bf1 (by decide) ?_ | refine z_bt2 (by decide) ?_ | refine z_bf2 (by decide) ?_); conv => whnf)
      simp (disch := omega) only [z_lit, nI_add, pk_mul, z_pr1, z_pr2, nI_clamp, z_up_row, z_row_s, z_row_n, z_row_row, pk_us, pk_un]
      refine hK _ _ _ _ _ _ _ _ _ _ (ih (i + 1) g J (by omega) g4 (fcr_no g5 fun z => ?_) ?_ (hasS_c hJ fun t _ => ?_))
      · have := z.1; rw [s_act_n hd] at this; exact absurd this (by decide)
      · rw [ldu_s, hd, cond_false, Nat.max_eq_left (Nat.zero_le _)]; exact g6
      · show _ ↔ ∃ x, sr w f i x ∧ edg w f i x t
        rw [show (∃ x, sr w f i x ∧ edg w f i x t) ↔ ∃ x, sr w f i x ∧ t = x from ⟨fun ⟨x, a, b⟩ => ⟨x, a, by rw [edg_off (s_act_n hd)] at b; exact b⟩, fun ⟨x, a, b⟩ => ⟨x, a, by rw [edg_off (s_act_n hd)]; exact b⟩⟩]
        exact ⟨fun z => ⟨t, z, rfl⟩, fun ⟨x, a, b⟩ => by rw [b]; exact a⟩
    · repeat ((first | refine And.intro (by (conv => arg 2; whnf); (try simp only [z_lit, nI_add, pk_mul, z_pr1, z_pr2]); exact z_in (by omega) (by decide)) ?_ | refine z_bt1 (by decide) ?_ | refine z_bf1 (by decide) ?_ | refine z_bt2 (by decide) ?_ | refine z_bf2 (by decide) ?_); conv => whnf)
      refine hC _ _ _ _ _ _ _ _ _ _ (fun _ _ _ _ _ _ q => q) (cp_told (f := 10) (by omega) (by decide) b10 ?_)
      conv => whnf
      refine hC _ _ _ _ _ _ _ _ _ _ (fun _ _ _ _ _ _ q => q) (cm_max ?_)
      conv => whnf
      simp (disch := omega) only [z_lit, nI_add, pk_mul, z_pr1, z_pr2, nI_clamp, z_up_row, z_row_s, z_row_n, z_row_row, pk_us, pk_un]
      rw [g6]
      have e6 : (if nI (s_time w i) ≤ nI (ldu w f i) then nI (ldu w f i) else nI (s_time w i)) = nI (ldu w f (i + 1)) := by
        rw [ldu_s, hd, cond_true]
        by_cases z : s_time w i ≤ ldu w f i
        · rw [if_pos (nI_le z (by omega)), Nat.max_eq_left z]
        · rw [if_neg (nI_ge (by omega) (by omega)), Nat.max_eq_right (by omega)]
      rw [e6, h8]
      have hp2 : pS (z_row I 35 (upd g 6 (nI (ldu w f (i + 1))))) w := pS_c hp (by rw [z_row_n _ _ (by decide)]) (z_row_n _ _ (by decide)) rfl h24 (fun _ _ _ _ => rfl)
      refine hC _ _ _ _ _ _ _ _ _ _ (fun _ _ _ _ _ _ q => q) (cp_touches hp2 (by omega) h24 ho ?_)
      conv => whnf
      cases hc : s_toC w i
      · repeat ((first | refine And.intro (by (conv => arg 2; whnf); (try simp only [z_lit, nI_add, pk_mul, z_pr1, z_pr2]); exact z_in (by omega) (by decide)) ?_ | refine z_bt1 (by decide) ?_ | refine z_bf1 (by decide) ?_ | refine z_bt2 (by decide) ?_ | refine z_bf2 (by decide) ?_); conv => whnf)
        refine hC _ _ _ _ _ _ _ _ _ _ (fun _ _ _ _ _ _ q => q) (ct_goThrough (f := f) (M := M) (rt := rt) (n := n) hp2 ht (by omega) ?_ ?_ eM er hr hM9 ?_ hn hM (s_act_y hd hc) hJ ?_ (fun J' c hJ' hc' => ?_))
        conv => whnf
        · rw [z_row_n _ _ (by decide)]; exact h5
        · rw [z_row_n _ _ (by decide)]; exact h6
        · rw [z_row_s, pk_un (by decide)]; exact g4
        · rw [z_row_s, pk_un (by decide)]; exact g5
        · conv => whnf
          simp (disch := omega) only [z_lit, nI_add, pk_mul, z_pr1, z_pr2, nI_clamp, z_up_row, z_row_s, z_row_n, z_row_row, pk_us, pk_un]
          refine hK _ _ _ _ _ _ _ _ _ _ (ih (i + 1) _ J' (by omega) ?_ ?_ ?_ hJ')
          · rw [pk_un (by decide), pk_un (by decide)]; exact g4
          · rw [pk_us]; exact hc'
          · rw [pk_un (by decide), pk_us]
      · repeat ((first | refine And.intro (by (conv => arg 2; whnf); (try simp only [z_lit, nI_add, pk_mul, z_pr1, z_pr2]); exact z_in (by omega) (by decide)) ?_ | refine z_bt1 (by decide) ?_ | refine z_bf1 (by decide) ?_ | refine z_bt2 (by decide) ?_ | refine z_bf2 (by decide) ?_); conv => whnf)
        simp (disch := omega) only [z_lit, nI_add, pk_mul, z_pr1, z_pr2, nI_clamp, z_up_row, z_row_s, z_row_n, z_row_row, pk_us, pk_un]
        refine hK _ _ _ _ _ _ _ _ _ _ (ih (i + 1) _ J (by omega) ?_ (fcr_no (v := upd g 6 (nI (ldu w f (i + 1))) 5) ?_ fun z => ?_) ?_ (hasS_c hJ fun t _ => ?_))
        · rw [pk_un (by decide)]; exact g4
        · rw [pk_un (by decide)]; exact g5
        · have := z.1; rw [s_act_t hc] at this; exact absurd this (by decide)
        · rw [pk_us]
        · show _ ↔ ∃ x, sr w f i x ∧ edg w f i x t
          rw [show (∃ x, sr w f i x ∧ edg w f i x t) ↔ ∃ x, sr w f i x ∧ t = x from ⟨fun ⟨x, a, b⟩ => ⟨x, a, by rw [edg_off (s_act_t hc)] at b; exact b⟩, fun ⟨x, a, b⟩ => ⟨x, a, by rw [edg_off (s_act_t hc)]; exact b⟩⟩]
          exact ⟨fun z => ⟨t, z, rfl⟩, fun ⟨x, a, b⟩ => by rw [b]; exact a⟩
end
