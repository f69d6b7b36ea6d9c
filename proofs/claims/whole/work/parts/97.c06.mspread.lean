/-! the model: spread -/
section
variable {L : Nat} {xs : Nat → Int32} {d : Nat} {kp sp wd : Value} {I : z_I} {s : z_sg} {R : z_R} {J : z_J} {F : z_F} {cn : Nat} {Q : z_Q} {cm : Nat → Int32}
theorem sub_nI {M dm : Nat} (hM : M ≤ 9999) (hd : dm ≤ 260) : (nI M - nI dm).toInt = (M : Int) - (dm : Int) := by
  rw [Int32.toInt_sub, nI_toInt (by omega), nI_toInt (by omega)]
  exact Int.bmod_eq_of_le (by omega) (by omega)
theorem sub_lt_nI {M dm k : Nat} (hM : M ≤ 9999) (hd : dm ≤ 260) (hk : k ≤ 10000) : nI M - nI dm < nI k ↔ M < k + dm := by
  rw [Int32.lt_iff_toInt_lt, sub_nI hM hd, nI_toInt (by omega)]
  omega
theorem ldu_s {w : Nat → Int32} {f k : Nat} : ldu w f (k + 1) = max (ldu w f k) (bif s_due w k f then s_time w k else 0) := rfl
theorem ldu_le {w : Nat → Int32} {f k : Nat} (h : ∀ i, i < k → ln_ok w i) : ldu w f k ≤ 260 := by
  refine mxf_le fun i hi => ?_
  have := s_time_le (h i hi)
  cases s_due w i f
  · exact Nat.zero_le _
  · exact this
theorem lp_longestDue {f : Nat} (ht : tb_ok s.2.1) (hf : f < 8) (hQ : Q (some (.int (nI (ldu s.2.1 f (s.2.1 8).toNatClampNeg)))) (z_ms I s) (z_R0 kp sp wd) J F cn) :
    ∀ j k, k + j = (s.2.1 8).toNatClampNeg → z_WP (z_X0 L xs) z_P0 (d + 2) m_Mod_longestDue 4 [some (.ref 40), some (.int (nI f)), some (.int (nI (ldu s.2.1 f k))), some (.int (nI k))] [] (z_ms I s) (z_R0 kp sp wd) J F cn 0 0 Q := by
  obtain ⟨e1, e2, e3⟩ := ht
  intro j
  induction j with
  | zero =>
    intro k hk
    have hk' : k = (s.2.1 8).toNatClampNeg := by omega
    rw [← hk'] at hQ
    refine z_WP_gos [4] 1000 fun K C hK hC => ?_
    conv => whnf
    repeat ((first | refine And.intro (by (conv => arg 2; whnf); (try simp only [z_lit, nI_add, pk_mul, z_pr1, z_pr2]); exact z_in (by omega) (by decide)) ?_ | refine z_bt1 (by decide) ?_ | refine z_bf1 (by decide) ?_ | refine z_bt2 (by decide) ?_ | refine z_bf2 (by decide) ?_); conv => whnf)
    simp (disch := omega) only [z_lit, nI_add, pk_mul, z_pr1, z_pr2, nI_clamp, z_m3_40, z_m3_41, z_m3_44, z_m3_u40, z_m3_u41, z_m3_u44, z_m3_m3, pk_us, pk_un]
    rw [e1, ← hk']
    refine ⟨fun _ => ?_, fun h => absurd (Int32.le_refl _) h⟩
    conv => whnf
    exact hQ
  | succ j ih =>
    intro k hk
    have ih' := ih (k + 1) (by omega)
    have ho := e3 k (by omega)
    have t1 := s_time_le ho
    have t2 := ldu_le (f := f) (k := k) fun i hi => e3 i (by omega)
    rw [ldu_s] at ih'
    generalize ldu s.2.1 f k = mx at *
    refine z_WP_gos [4] 1000 fun K C hK hC => ?_
    conv => whnf
    repeat ((first | refine And.intro (by (conv => arg 2; whnf); (try simp only [z_lit, nI_add, pk_mul, z_pr1, z_pr2]); exact z_in (by omega) (by decide)) ?_ | refine z_bt1 (by decide) ?_ | refine z_bf1 (by decide) ?_ | refine z_bt2 (by decide) ?_ | refine z_bf2 (by decide) ?_); conv => whnf)
    simp (disch := omega) only [z_lit, nI_add, pk_mul, z_pr1, z_pr2, nI_clamp, z_m3_40, z_m3_41, z_m3_44, z_m3_u40, z_m3_u41, z_m3_u44, z_m3_m3, pk_us, pk_un]
    rw [e1]
    refine ⟨fun h => absurd h (nI_ge (by omega) (by omega)), fun _ => ?_⟩
    conv => whnf
    refine hC _ _ _ _ _ _ _ _ _ _ (fun _ _ _ _ _ _ q => q) (sp_isDue (by omega) ho (by omega) ?_)
    conv => whnf
    cases hd : s_due s.2.1 k f
    · rw [hd, cond_false, Nat.max_eq_left (Nat.zero_le _)] at ih'
      repeat ((first | refine And.intro (by (conv => arg 2; whnf); (try simp only [z_lit, nI_add, pk_mul, z_pr1, z_pr2]); exact z_in (by omega) (by decide)) ?_ | refine z_bt1 (by decide) ?_ | refine z_bf1 (by decide) ?_ | refine z_bt2 (by decide) ?_ | refine z_bf2 (by decide) ?_); conv => whnf)
      simp (disch := omega) only [z_lit, nI_add, pk_mul, z_pr1, z_pr2, nI_clamp, z_m3_40, z_m3_41, z_m3_44, z_m3_u40, z_m3_u41, z_m3_u44, z_m3_m3, pk_us, pk_un]
      refine hK _ _ _ _ _ _ _ _ _ _ (ih')
    · rw [hd, cond_true] at ih'
      repeat ((first | refine And.intro (by (conv => arg 2; whnf); (try simp only [z_lit, nI_add, pk_mul, z_pr1, z_pr2]); exact z_in (by omega) (by decide)) ?_ | refine z_bt1 (by decide) ?_ | refine z_bf1 (by decide) ?_ | refine z_bt2 (by decide) ?_ | refine z_bf2 (by decide) ?_); conv => whnf)
      refine hC _ _ _ _ _ _ _ _ _ _ (fun _ _ _ _ _ _ q => q) (sp_timeOf (by omega) ho ?_)
      conv => whnf
      refine ⟨fun g => ?_, fun g => ?_⟩
      · rw [Nat.max_eq_left ((nI_leI (by omega) (by omega)).mp g)] at ih'
        conv => whnf
        simp (disch := omega) only [z_lit, nI_add, pk_mul, z_pr1, z_pr2, nI_clamp, z_m3_40, z_m3_41, z_m3_44, z_m3_u40, z_m3_u41, z_m3_u44, z_m3_m3, pk_us, pk_un]
        refine hK _ _ _ _ _ _ _ _ _ _ (ih')
      · rw [Nat.max_eq_right (Nat.le_of_not_le fun z => g (nI_le z (by omega)))] at ih'
        conv => whnf
        refine hC _ _ _ _ _ _ _ _ _ _ (fun _ _ _ _ _ _ q => q) (sp_timeOf (by omega) ho ?_)
        conv => whnf
        simp (disch := omega) only [z_lit, nI_add, pk_mul, z_pr1, z_pr2, nI_clamp, z_m3_40, z_m3_41, z_m3_44, z_m3_u40, z_m3_u41, z_m3_u44, z_m3_m3, pk_us, pk_un]
        refine hK _ _ _ _ _ _ _ _ _ _ (ih')
theorem sp_longestDue {f : Nat} (ht : tb_ok s.2.1) (hf : f < 8) (hQ : Q (some (.int (nI (ldu s.2.1 f (s.2.1 8).toNatClampNeg)))) (z_ms I s) (z_R0 kp sp wd) J F cn) :
    z_M (z_X0 L xs) z_P0 (d + 2) m_Mod_longestDue [.ref 40, .int (nI f)] (z_ms I s) (z_R0 kp sp wd) J F cn Q := by
  refine z_WP_gos [4] 1000 fun K C hK hC => ?_
  conv => whnf
  refine hK _ _ _ _ _ _ _ _ _ _ (lp_longestDue ht hf hQ (s.2.1 8).toNatClampNeg 0 (by omega))
theorem lp_manyTo {P : Nat → Prop} {M N n : Nat} (h8 : s.2.1 8 = nI n) (hn : n ≤ 24) (hM9 : M ≤ 9999) (hc : ∀ t, t ≤ M → (ib (cm t) n = true ↔ P t)) {lim : Int32} (hl : ∀ k, k ≤ 10000 → (lim < nI k ↔ N ≤ k)) (hN : N ≤ M + 1)
    (hQ : Q (some (.int (nI (cntP P N)))) (z_ms (z_row I 49 cm) s) (z_R0 kp sp wd) J F cn) :
    ∀ j k, k + j = N → z_WP (z_X0 L xs) z_P0 d m_Mod_manyTo 4 [some (.ref 40), some (.int lim), some (.int (nI (cntP P k))), some (.int (nI k))] [] (z_ms (z_row I 49 cm) s) (z_R0 kp sp wd) J F cn 0 0 Q := by
  intro j
  induction j with
  | zero =>
    intro k hk
    obtain rfl : k = N := by omega
    refine z_WP_gos [4] 1000 fun K C hK hC => ?_
    conv => whnf
    refine ⟨fun _ => ?_, fun g => absurd ((hl k (by omega)).mpr (Nat.le_refl _)) g⟩
    conv => whnf
    exact hQ
  | succ j ih =>
    intro k hk
    have ih' := ih (k + 1) (by omega)
    have hx := hc k (by omega)
    refine z_WP_gos [4] 1000 fun K C hK hC => ?_
    conv => whnf
    refine ⟨fun g => absurd ((hl k (by omega)).mp g) (by omega), fun _ => ?_⟩
    conv => whnf
    repeat ((first | refine And.intro (by (conv => arg 2; whnf); (try simp only [z_lit, nI_add, pk_mul, z_pr1, z_pr2]); exact z_in (by omega) (by decide)) ?_ | refine z_bt1 (by decide) ?_ | refine z_bf1 (by decide) ?_ | refine z_bt2 (by decide) ?_ | refine z_bf2 (by decide) ?_); conv => whnf)
    simp (disch := omega) only [z_lit, nI_add, pk_mul, z_pr1, z_pr2, nI_clamp, z_m3_40, z_m3_41, z_m3_44, z_m3_u40, z_m3_u41, z_m3_u44, z_m3_m3, pk_us, pk_un]
    rw [z_ms_49, h8, ib_shrn (by omega)]
    cases hb : ib (cm k) n
    · rw [cntP_f (fun z => by rw [hx.mpr z] at hb; exact absurd hb (by decide))] at ih'
      rw [if_neg (by decide)]
      simp (disch := omega) only [z_lit, nI_add, pk_mul, z_pr1, z_pr2, nI_clamp, z_m3_40, z_m3_41, z_m3_44, z_m3_u40, z_m3_u41, z_m3_u44, z_m3_m3, pk_us, pk_un]
      refine hK _ _ _ _ _ _ _ _ _ _ (ih')
    · rw [cntP_t (hx.mp hb)] at ih'
      rw [if_pos rfl]
      simp (disch := omega) only [z_lit, nI_add, pk_mul, z_pr1, z_pr2, nI_clamp, z_m3_40, z_m3_41, z_m3_44, z_m3_u40, z_m3_u41, z_m3_u44, z_m3_m3, pk_us, pk_un]
      refine hK _ _ _ _ _ _ _ _ _ _ (ih')
theorem sp_manyTo {P : Nat → Prop} {M N n : Nat} (h8 : s.2.1 8 = nI n) (hn : n ≤ 24) (hM9 : M ≤ 9999) (hc : ∀ t, t ≤ M → (ib (cm t) n = true ↔ P t)) {lim : Int32} (hl : ∀ k, k ≤ 10000 → (lim < nI k ↔ N ≤ k)) (hN : N ≤ M + 1)
    (hQ : Q (some (.int (nI (cntP P N)))) (z_ms (z_row I 49 cm) s) (z_R0 kp sp wd) J F cn) :
    z_M (z_X0 L xs) z_P0 d m_Mod_manyTo [.ref 40, .int lim] (z_ms (z_row I 49 cm) s) (z_R0 kp sp wd) J F cn Q := by
  refine z_WP_gos [4] 1000 fun K C hK hC => ?_
  conv => whnf
  refine hK _ _ _ _ _ _ _ _ _ _ (lp_manyTo h8 hn hM9 hc hl hN hQ N 0 (by omega))
theorem lp_sprUp {P : Nat → Prop} {M n : Nat} {fv lv : Int32} (h8 : s.2.1 8 = nI n) (hn : n ≤ 24) (hM9 : M ≤ 9999) (hc : ∀ t, t ≤ M → (ib (cm t) n = true ↔ P t)) (hx : ∃ x, x ≤ M ∧ P x)
    (hQ : ∀ t, t ≤ M → P t → (∀ u, u < t → ¬ P u) → Q (some (.int (nI t))) (z_ms (z_row I 49 cm) s) (z_R0 kp sp wd) J F cn) :
    ∀ j k, k + j = M + 1 → (∀ u, u < k → ¬ P u) → z_WP (z_X0 L xs) z_P0 d m_Mod_spread 88 [some (.ref 40), some (.int fv), some (.int (nI 1)), some (.int lv), some (.int (nI k))] [] (z_ms (z_row I 49 cm) s) (z_R0 kp sp wd) J F cn 0 0 Q := by
  obtain ⟨x, hx1, hx2⟩ := hx
  intro j
  induction j with
  | zero =>
    intro k hk hu
    exact (hu x (by omega) hx2).elim
  | succ j ih =>
    intro k hk hu
    have hb' := hc k (by omega)
    refine z_WP_gos [88] 1000 fun K C hK hC => ?_
    conv => whnf
    repeat ((first | refine And.intro (by (conv => arg 2; whnf); (try simp only [z_lit, nI_add, pk_mul, z_pr1, z_pr2]); exact z_in (by omega) (by decide)) ?_ | refine z_bt1 (by decide) ?_ | refine z_bf1 (by decide) ?_ | refine z_bt2 (by decide) ?_ | refine z_bf2 (by decide) ?_); conv => whnf)
    simp (disch := omega) only [z_lit, nI_add, pk_mul, z_pr1, z_pr2, nI_clamp, z_m3_40, z_m3_41, z_m3_44, z_m3_u40, z_m3_u41, z_m3_u44, z_m3_m3, pk_us, pk_un]
    rw [z_ms_49, h8, ib_shrn (by omega)]
    cases hb : ib (cm k) n
    · have hk2 : ¬ P k := fun z => by rw [hb'.mpr z] at hb; exact absurd hb (by decide)
      rw [if_neg (by decide)]
      repeat ((first | refine And.intro (by (conv => arg 2; whnf); (try simp only [z_lit, nI_add, pk_mul, z_pr1, z_pr2]); exact z_in (by omega) (by decide)) ?_ | refine z_bt1 (by decide) ?_ | refine z_bf1 (by decide) ?_ | refine z_bt2 (by decide) ?_ | refine z_bf2 (by decide) ?_); conv => whnf)
      simp (disch := omega) only [z_lit, nI_add, pk_mul, z_pr1, z_pr2, nI_clamp, z_m3_40, z_m3_41, z_m3_44, z_m3_u40, z_m3_u41, z_m3_u44, z_m3_m3, pk_us, pk_un]
      refine hK _ _ _ _ _ _ _ _ _ _ (ih (k + 1) (by omega) (fun u hu2 => ?_))
      rcases Nat.lt_or_eq_of_le (Nat.le_of_lt_succ hu2) with z | z
      · exact hu u z
      · rw [z]; exact hk2
    · rw [if_pos rfl]
      repeat ((first | refine And.intro (by (conv => arg 2; whnf); (try simp only [z_lit, nI_add, pk_mul, z_pr1, z_pr2]); exact z_in (by omega) (by decide)) ?_ | refine z_bt1 (by decide) ?_ | refine z_bf1 (by decide) ?_ | refine z_bt2 (by decide) ?_ | refine z_bf2 (by decide) ?_); conv => whnf)
      exact hQ k (by omega) (hb'.mp hb) hu
theorem lp_sprDn {P : Nat → Prop} {M n : Nat} {fv lv : Int32} {q : Int32} (hq : ¬ q = 1) (h8 : s.2.1 8 = nI n) (hn : n ≤ 24) (hM9 : M ≤ 9999) (hc : ∀ t, t ≤ M → (ib (cm t) n = true ↔ P t)) (hx : ∃ x, x ≤ M ∧ P x)
    (hQ : ∀ t, t ≤ M → P t → (∀ u, t < u → u ≤ M → ¬ P u) → Q (some (.int (nI t))) (z_ms (z_row I 49 cm) s) (z_R0 kp sp wd) J F cn) :
    ∀ k, k ≤ M → (∀ u, k < u → u ≤ M → ¬ P u) → z_WP (z_X0 L xs) z_P0 d m_Mod_spread 88 [some (.ref 40), some (.int fv), some (.int q), some (.int lv), some (.int (nI k))] [] (z_ms (z_row I 49 cm) s) (z_R0 kp sp wd) J F cn 0 0 Q := by
  obtain ⟨x, hx1, hx2⟩ := hx
  intro k
  induction k with
  | zero =>
    intro hk hu
    have hb' := hc 0 (by omega)
    have : P 0 := by
      rcases Nat.eq_zero_or_pos x with z | z
      · rw [← z]; exact hx2
      · exact (hu x z hx1 hx2).elim
    refine z_WP_gos [88] 1000 fun K C hK hC => ?_
    conv => whnf
    repeat ((first | refine And.intro (by (conv => arg 2; whnf); (try simp only [z_lit, nI_add, pk_mul, z_pr1, z_pr2]); exact z_in (by omega) (by decide)) ?_ | refine z_bt1 (by decide) ?_ | refine z_bf1 (by decide) ?_ | refine z_bt2 (by decide) ?_ | refine z_bf2 (by decide) ?_); conv => whnf)
    simp (disch := omega) only [z_lit, nI_add, pk_mul, z_pr1, z_pr2, nI_clamp, z_m3_40, z_m3_41, z_m3_44, z_m3_u40, z_m3_u41, z_m3_u44, z_m3_m3, pk_us, pk_un]
    rw [z_ms_49, h8, ib_shrn (by omega), if_pos (hb'.mpr this)]
    repeat ((first | refine And.intro (by (conv => arg 2; whnf); (try simp only [z_lit, nI_add, pk_mul, z_pr1, z_pr2]); exact z_in (by omega) (by decide)) ?_ | refine z_bt1 (by decide) ?_ | refine z_bf1 (by decide) ?_ | refine z_bt2 (by decide) ?_ | refine z_bf2 (by decide) ?_); conv => whnf)
    exact hQ 0 (by omega) this hu
  | succ k ih =>
    intro hk hu
    have hb' := hc (k + 1) (by omega)
    refine z_WP_gos [88] 1000 fun K C hK hC => ?_
    conv => whnf
    repeat ((first | refine And.intro (by (conv => arg 2; whnf); (try simp only [z_lit, nI_add, pk_mul, z_pr1, z_pr2]); exact z_in (by omega) (by decide)) ?_ | refine z_bt1 (by decide) ?_ | refine z_bf1 (by decide) ?_ | refine z_bt2 (by decide) ?_ | refine z_bf2 (by decide) ?_); conv => whnf)
    simp (disch := omega) only [z_lit, nI_add, pk_mul, z_pr1, z_pr2, nI_clamp, z_m3_40, z_m3_41, z_m3_44, z_m3_u40, z_m3_u41, z_m3_u44, z_m3_m3, pk_us, pk_un]
    rw [z_ms_49, h8, ib_shrn (by omega)]
    cases hb : ib (cm (k + 1)) n
    · have hk2 : ¬ P (k + 1) := fun z => by rw [hb'.mpr z] at hb; exact absurd hb (by decide)
      rw [if_neg (by decide)]
      repeat ((first | refine And.intro (by (conv => arg 2; whnf); (try simp only [z_lit, nI_add, pk_mul, z_pr1, z_pr2]); exact z_in (by omega) (by decide)) ?_ | refine z_bt1 (by decide) ?_ | refine z_bf1 (by decide) ?_ | refine z_bt2 (by decide) ?_ | refine z_bf2 (by decide) ?_); conv => whnf)
      refine ⟨fun _ => ?_, fun z => (hq z).elim⟩
      conv => whnf
      simp (disch := omega) only [z_lit, nI_add, pk_mul, z_pr1, z_pr2, nI_clamp, z_m3_40, z_m3_41, z_m3_44, z_m3_u40, z_m3_u41, z_m3_u44, z_m3_m3, pk_us, pk_un]
      rw [nI_back (a := k) (T := 1)]
      refine hK _ _ _ _ _ _ _ _ _ _ (ih (by omega) (fun u hu2 hu3 => ?_))
      rcases Nat.lt_or_eq_of_le (Nat.succ_le_of_lt hu2) with z | z
      · exact hu u z hu3
      · rw [← z]; exact hk2
    · rw [if_pos rfl]
      repeat ((first | refine And.intro (by (conv => arg 2; whnf); (try simp only [z_lit, nI_add, pk_mul, z_pr1, z_pr2]); exact z_in (by omega) (by decide)) ?_ | refine z_bt1 (by decide) ?_ | refine z_bf1 (by decide) ?_ | refine z_bt2 (by decide) ?_ | refine z_bf2 (by decide) ?_); conv => whnf)
      exact hQ (k + 1) (by omega) (hb'.mp hb) hu
theorem sp_spread {f q : Int32} {M rt : Nat} (hM : s.2.1 0 = nI M) (hM9 : M ≤ 9999) (ht : tb_ok s.2.1) (hr : s.2.1 1 = nI rt) (hr3 : rt ≤ 3)
    (h1 : ∀ f' q' cm v, f' < 8 → q' ≤ 4 → f = nI f' → q = nI q' → spA s.2.1 f' q' v → Q (some (.int v)) (z_ms (z_row I 49 cm) s) (z_R0 kp sp wd) J F cn)
    (h0 : (∀ f' q', f' < 8 → q' ≤ 4 → f = nI f' → ¬ q = nI q') → Q (some (.int (-1))) (z_ms (z_row I 49 cm) s) (z_R0 kp sp wd) J F cn) :
    z_M (z_X0 L xs) z_P0 (d + 4) m_Mod_spread [.ref 40, .int f, .int q] (z_ms (z_row I 49 cm) s) (z_R0 kp sp wd) J F cn Q := by
  have eM : s_M s.2.1 = M := by unfold s_M; rw [hM, nI_clamp (by omega)]
  have h24 := ht.2.1
  have h8 := ht.1
  refine z_WP_gos [88] 1000 fun K C hK hC => ?_
  conv => whnf
  refine hC _ _ _ _ _ _ _ _ _ _ (fun _ _ _ _ _ _ q => q) (sp_Mod_isIn (fun x1 x2 => ?_) (fun x => ?_))
  conv => whnf
  rotate_left
  · repeat ((first | refine And.intro (by (conv => arg 2; whnf); (try simp only [z_lit, nI_add, pk_mul, z_pr1, z_pr2]); exact z_in (by omega) (by decide)) ?_ | refine z_bt1 (by decide) ?_ | refine z_bf1 (by decide) ?_ | refine z_bt2 (by decide) ?_ | refine z_bf2 (by decide) ?_); conv => whnf)
    refine h0 fun a b c e1 e2 e3 => x ?_
    rw [e2]; exact ⟨nI_pos' (by omega), nI_le (b := 7) (by omega) (by decide)⟩
  obtain ⟨f', hf, ef⟩ := isIn_nat (b := 7) (by decide) x1 x2
  subst ef
  repeat ((first | refine And.intro (by (conv => arg 2; whnf); (try simp only [z_lit, nI_add, pk_mul, z_pr1, z_pr2]); exact z_in (by omega) (by decide)) ?_ | refine z_bt1 (by decide) ?_ | refine z_bf1 (by decide) ?_ | refine z_bt2 (by decide) ?_ | refine z_bf2 (by decide) ?_); conv => whnf)
  refine hC _ _ _ _ _ _ _ _ _ _ (fun _ _ _ _ _ _ q => q) (sp_Mod_isIn (fun x3 x4 => ?_) (fun x => ?_))
  conv => whnf
  rotate_left
  · repeat ((first | refine And.intro (by (conv => arg 2; whnf); (try simp only [z_lit, nI_add, pk_mul, z_pr1, z_pr2]); exact z_in (by omega) (by decide)) ?_ | refine z_bt1 (by decide) ?_ | refine z_bf1 (by decide) ?_ | refine z_bt2 (by decide) ?_ | refine z_bf2 (by decide) ?_); conv => whnf)
    refine h0 fun a b c e1 e2 e3 => x ?_
    rw [e3]; exact ⟨nI_pos' (by omega), nI_le (b := 4) (by omega) (by decide)⟩
  obtain ⟨q', hq, eq⟩ := isIn_nat (b := 4) (by decide) x3 x4
  subst eq
  have r := fun cm v => h1 f' q' cm v (by omega) hq rfl rfl
  repeat ((first | refine And.intro (by (conv => arg 2; whnf); (try simp only [z_lit, nI_add, pk_mul, z_pr1, z_pr2]); exact z_in (by omega) (by decide)) ?_ | refine z_bt1 (by decide) ?_ | refine z_bf1 (by decide) ?_ | refine z_bt2 (by decide) ?_ | refine z_bf2 (by decide) ?_); conv => whnf)
  refine hC _ _ _ _ _ _ _ _ _ _ (fun _ _ _ _ _ _ q => q) (sp_spreads hM hM9 ht hr hr3 (by omega) (fun cm' v hcm hv => ?_))
  conv => whnf
  have hex : ∃ x, x ≤ M ∧ sr s.2.1 f' (s.2.1 8).toNatClampNeg x := by
    obtain ⟨x, hx⟩ := sr_ex (w := s.2.1) (f := f') (s.2.1 8).toNatClampNeg
    exact ⟨x, by rw [← eM]; exact sr_le ht.2.2 hx, hx⟩
  have r' := r cm'
  have c5 : q' = 0 ∨ q' = 1 ∨ q' = 2 ∨ q' = 3 ∨ q' = 4 := by omega
  rcases c5 with e | e | e | e | e <;> subst e
  · repeat ((first | refine And.intro (by (conv => arg 2; whnf); (try simp only [z_lit, nI_add, pk_mul, z_pr1, z_pr2]); exact z_in (by omega) (by decide)) ?_ | refine z_bt1 (by decide) ?_ | refine z_bf1 (by decide) ?_ | refine z_bt2 (by decide) ?_ | refine z_bf2 (by decide) ?_); conv => whnf)
    simp (disch := omega) only [z_lit, nI_add, pk_mul, z_pr1, z_pr2, nI_clamp, z_m3_40, z_m3_41, z_m3_44, z_m3_u40, z_m3_u41, z_m3_u44, z_m3_m3, pk_us, pk_un]
    rw [hM]
    refine hC _ _ _ _ _ _ _ _ _ _ (fun _ _ _ _ _ _ q => q) (sp_manyTo h8 h24 hM9 hcm (N := M + 1) (fun k hk => ⟨fun z => Nat.succ_le_of_lt (Nat.not_le.mp fun y => absurd z (nI_nlt y (by omega))), fun z => nI_lt (by omega) (by omega)⟩) (Nat.le_refl _) ?_)
    conv => whnf
    refine r' _ ?_
    unfold spA
    simp only []
    rw [eM]
  · repeat ((first | refine And.intro (by (conv => arg 2; whnf); (try simp only [z_lit, nI_add, pk_mul, z_pr1, z_pr2]); exact z_in (by omega) (by decide)) ?_ | refine z_bt1 (by decide) ?_ | refine z_bf1 (by decide) ?_ | refine z_bt2 (by decide) ?_ | refine z_bf2 (by decide) ?_); conv => whnf)
    refine hK _ _ _ _ _ _ _ _ _ _ (lp_sprUp h8 h24 hM9 hcm hex (fun t a b c => r' _ ⟨t, rfl, by rw [eM]; exact a, b, c⟩) (M + 1) 0 (by omega) (fun u h => absurd h (Nat.not_lt_zero _)))
  · repeat ((first | refine And.intro (by (conv => arg 2; whnf); (try simp only [z_lit, nI_add, pk_mul, z_pr1, z_pr2]); exact z_in (by omega) (by decide)) ?_ | refine z_bt1 (by decide) ?_ | refine z_bf1 (by decide) ?_ | refine z_bt2 (by decide) ?_ | refine z_bf2 (by decide) ?_); conv => whnf)
    simp (disch := omega) only [z_lit, nI_add, pk_mul, z_pr1, z_pr2, nI_clamp, z_m3_40, z_m3_41, z_m3_44, z_m3_u40, z_m3_u41, z_m3_u44, z_m3_m3, pk_us, pk_un]
    rw [hM]
    refine hK _ _ _ _ _ _ _ _ _ _ (lp_sprDn (by decide) h8 h24 hM9 hcm hex (fun t a b c => r' _ ⟨t, rfl, by rw [eM]; exact a, b, by rw [eM]; exact c⟩) M (Nat.le_refl _) (fun u h1 h2 => by omega))
  · repeat ((first | refine And.intro (by (conv => arg 2; whnf); (try simp only [z_lit, nI_add, pk_mul, z_pr1, z_pr2]); exact z_in (by omega) (by decide)) ?_ | refine z_bt1 (by decide) ?_ | refine z_bf1 (by decide) ?_ | refine z_bt2 (by decide) ?_ | refine z_bf2 (by decide) ?_); conv => whnf)
    exact r' _ hv
  · repeat ((first | refine And.intro (by (conv => arg 2; whnf); (try simp only [z_lit, nI_add, pk_mul, z_pr1, z_pr2]); exact z_in (by omega) (by decide)) ?_ | refine z_bt1 (by decide) ?_ | refine z_bf1 (by decide) ?_ | refine z_bt2 (by decide) ?_ | refine z_bf2 (by decide) ?_); conv => whnf)
    simp (disch := omega) only [z_lit, nI_add, pk_mul, z_pr1, z_pr2, nI_clamp, z_m3_40, z_m3_41, z_m3_44, z_m3_u40, z_m3_u41, z_m3_u44, z_m3_m3, pk_us, pk_un]
    rw [hM]
    refine hC _ _ _ _ _ _ _ _ _ _ (fun _ _ _ _ _ _ q => q) (sp_longestDue ht (by omega) ?_)
    conv => whnf
    have hl := ldu_le (f := f') ht.2.2
    have r4 := r' (nI (cntP (sr s.2.1 f' (s.2.1 8).toNatClampNeg) (M + 1 - ldu s.2.1 f' (s.2.1 8).toNatClampNeg))) (by unfold spA; simp only []; rw [eM])
    generalize ldu s.2.1 f' (s.2.1 8).toNatClampNeg = dm at *
    refine hC _ _ _ _ _ _ _ _ _ _ (fun _ _ _ _ _ _ q => q) (sp_manyTo h8 h24 hM9 hcm (N := M + 1 - dm) (fun k hk => ?_) (by omega) ?_)
    conv => whnf
    · rw [sub_lt_nI hM9 hl hk]; omega
    · exact r4
end
