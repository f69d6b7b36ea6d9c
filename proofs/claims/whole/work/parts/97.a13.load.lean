/-! the loads of frames -/
def ldc (w : Nat → Int32) (f M i : Nat) : Bool := (decide (lnn w i 9 = 0) || decide (i < M)) && s_due w i f
def ldn (w : Nat → Int32) (f M : Nat) : Nat → Nat
  | 0 => 0
  | k + 1 => ldn w f M k + (bif ldc w f M k then s_time w k else 0)
def dun (w : Nat → Int32) (f : Nat) : Nat → Nat
  | 0 => 0
  | k + 1 => dun w f k + (bif s_due w k f then 1 else 0)
/-- the class's rows -/
def lds (r : Nat → Int32) (f : Nat) : Nat → Nat
  | 0 => 0
  | k + 1 => lds r f k + (bif decide (f % (r (k * 11 + 6)).toNatClampNeg = (r (k * 11 + 7)).toNatClampNeg) then (r (k * 11 + 10)).toNatClampNeg else 0)
def hL (I : z_I) : Prop := ∀ f, f < 8 → I 23 f = nI (lds (I 19) f (I 18 5).toNatClampNeg)
theorem s_time_le {w : Nat → Int32} {i : Nat} (h : ln_ok w i) : s_time w i ≤ 260 := by
  have hn := h.2.2.2.2.2.2.1
  unfold s_time
  split <;> first | omega | (split <;> omega)
theorem ldn_le {w : Nat → Int32} {f M : Nat} : ∀ {k}, (∀ i, i < k → ln_ok w i) → ldn w f M k ≤ 260 * k
  | 0, _ => Nat.le_refl _
  | k + 1, h => by
    have a := ldn_le (w := w) (f := f) (M := M) (k := k) fun i hi => h i (by omega)
    have b := s_time_le (h k (by omega))
    unfold ldn
    cases ldc w f M k
    · simp only [cond_false]; omega
    · simp only [cond_true]; omega
theorem dun_le {w : Nat → Int32} {f : Nat} : ∀ k, dun w f k ≤ k
  | 0 => Nat.le_refl _
  | k + 1 => by
    have a := dun_le (w := w) (f := f) k
    unfold dun
    cases s_due w k f
    · simp only [cond_false]; omega
    · simp only [cond_true]; omega
theorem lds_ldn {w : Nat → Int32} {I : z_I} {f M : Nat} (hp : pS I w) (ht : tb_ok w) (hM : (w 8).toNatClampNeg ≤ M) : ∀ k, k ≤ (w 8).toNatClampNeg → lds (I 19) f k = ldn w f M k
  | 0, _ => rfl
  | k + 1, h => by
    obtain ⟨b0, b1, b2, b3, b4, b5, b6, b7, b8, b9, b10⟩ := hp.2 k (by omega)
    have ho := ht.2.2 k (by omega)
    have t := s_time_le ho
    have p := ho.2.2.2.2.2.2.2.2.2.2.2.1
    have q := ho.2.2.2.2.2.2.2.2.2.2.2.2.1
    unfold lds ldn ldc s_due
    rw [lds_ldn hp ht hM k (by omega), b6, b7, b10, nI_clamp (by omega), nI_clamp (by omega), nI_clamp (by omega), decide_eq_true (show k < M by omega), Bool.or_true, Bool.true_and]
theorem hL_m {w : Nat → Int32} {I : z_I} (h : hL I) (hp : pS I w) (ht : tb_ok w) {f M : Nat} (hM : (w 8).toNatClampNeg ≤ M) (hf : f < 8) : I 23 f = nI (ldn w f M (w 8).toNatClampNeg) := by
  rw [h f hf, hp.1, lds_ldn hp ht hM _ (Nat.le_refl _)]
theorem hL_of {I I' : z_I} (h : hL I) (h18 : I' 18 = I 18) (h19 : I' 19 = I 19) (h23 : I' 23 = I 23) : hL I' := by
  unfold hL; rw [h18, h19, h23]; exact h
section
variable {L : Nat} {xs : Nat → Int32} {d : Nat} {kp sp wd : Value} {I : z_I} {s : z_sg} {R : z_R} {J : z_J} {F : z_F} {cn : Nat} {Q : z_Q} {n k : Nat}
theorem lp_loadOf {f M : Nat} (ht : tb_ok s.2.1) (hf : f < 8) (hM : M < 2 ^ 20) (hQ : Q (some (.int (nI (ldn s.2.1 f (M + 1) (s.2.1 8).toNatClampNeg)))) (z_ms I s) (z_R0 kp sp wd) J F cn) :
    ∀ j k, k + j = (s.2.1 8).toNatClampNeg → z_WP (z_X0 L xs) z_P0 (d + 2) m_Mod_loadOf 5 [some (.ref 40), some (.int (nI f)), some (.int (nI M)), some (.int (nI (ldn s.2.1 f (M + 1) k))), some (.int (nI k))] [] (z_ms I s) (z_R0 kp sp wd) J F cn 0 0 Q := by
  obtain ⟨e1, e2, e3⟩ := ht
  generalize hne : (s.2.1 8).toNatClampNeg = ne at *
  intro j
  induction j with
  | zero =>
    intro k hk
    obtain rfl : k = ne := by omega
    refine z_WP_gos [5] 1000 fun K C hK hC => ?_
    conv => whnf
    repeat ((first | refine And.intro (by (conv => arg 2; whnf); (try simp only [z_lit, nI_add, pk_mul, z_pr1, z_pr2]); exact z_in (by omega) (by decide)) ?_ | refine z_bt1 (by decide) ?_ | refine z_bf1 (by decide) ?_ | refine z_bt2 (by decide) ?_ | refine z_bf2 (by decide) ?_); conv => whnf)
    simp (disch := omega) only [z_lit, nI_add, pk_mul, z_pr1, z_pr2, nI_clamp, z_m3_40, z_m3_41, z_m3_44, z_m3_u40, z_m3_u41, z_m3_u44, z_m3_m3, pk_us, pk_un]
    rw [e1]
    refine ⟨fun _ => ?_, fun h => absurd (Int32.le_refl _) h⟩
    conv => whnf
    exact hQ
  | succ j ih =>
    intro k hk
    have ih' := ih (k + 1) (by omega)
    have ho := e3 k (by omega)
    have h9 := ho.2.2.2.2.2.2.2.2.2.2.2.2.2.2.1
    unfold ldn ldc at ih'
    refine z_WP_gos [5, 35] 1000 fun K C hK hC => ?_
    conv => whnf
    repeat ((first | refine And.intro (by (conv => arg 2; whnf); (try simp only [z_lit, nI_add, pk_mul, z_pr1, z_pr2]); exact z_in (by omega) (by decide)) ?_ | refine z_bt1 (by decide) ?_ | refine z_bf1 (by decide) ?_ | refine z_bt2 (by decide) ?_ | refine z_bf2 (by decide) ?_); conv => whnf)
    simp (disch := omega) only [z_lit, nI_add, pk_mul, z_pr1, z_pr2, nI_clamp, z_m3_40, z_m3_41, z_m3_44, z_m3_u40, z_m3_u41, z_m3_u44, z_m3_m3, pk_us, pk_un]
    rw [e1]
    refine ⟨fun h => absurd h (nI_ge (by omega) (by omega)), fun _ => ?_⟩
    conv => whnf
    refine hC _ _ _ _ _ _ _ _ _ _ (fun _ _ _ _ _ _ q => q) (sp_toldn (f := 9) (by omega) (by omega) ho ?_)
    conv => whnf
    have main : (lnn s.2.1 k 9 = 0 ∨ k < M + 1) → z_WP (z_X0 L xs) z_P0 (d + 2) m_Mod_loadOf 35 [some (.ref 40), some (.int (nI f)), some (.int (nI M)), some (.int (nI (ldn s.2.1 f (M + 1) k))), some (.int (nI k))] [.int (nI (ldn s.2.1 f (M + 1) k))] (z_ms I s) (z_R0 kp sp wd) J F cn 0 0 Q := by
      intro hc
      have hc' : (decide (lnn s.2.1 k 9 = 0) || decide (k < M + 1)) = true := by
        rcases hc with z | z
        · rw [decide_eq_true z]; rfl
        · rw [decide_eq_true z, Bool.or_true]
      rw [hc', Bool.true_and] at ih'
      refine z_WP_gos [5] 1000 fun K C hK hC => ?_
      conv => whnf
      refine hC _ _ _ _ _ _ _ _ _ _ (fun _ _ _ _ _ _ q => q) (sp_isDue (by omega) ho (by omega) ?_)
      conv => whnf
      cases hd : s_due s.2.1 k f
      · rw [hd, cond_false, Nat.add_zero] at ih'
        repeat ((first | refine And.intro (by (conv => arg 2; whnf); (try simp only [z_lit, nI_add, pk_mul, z_pr1, z_pr2]); exact z_in (by omega) (by decide)) ?_ | refine z_bt1 (by decide) ?_ | refine z_bf1 (by decide) ?_ | refine z_bt2 (by decide) ?_ | refine z_bf2 (by decide) ?_); conv => whnf)
        simp (disch := omega) only [z_lit, nI_add, pk_mul, z_pr1, z_pr2, nI_clamp, z_m3_40, z_m3_41, z_m3_44, z_m3_u40, z_m3_u41, z_m3_u44, z_m3_m3, pk_us, pk_un]
        refine hK _ _ _ _ _ _ _ _ _ _ (ih')
      · rw [hd, cond_true] at ih'
        repeat ((first | refine And.intro (by (conv => arg 2; whnf); (try simp only [z_lit, nI_add, pk_mul, z_pr1, z_pr2]); exact z_in (by omega) (by decide)) ?_ | refine z_bt1 (by decide) ?_ | refine z_bf1 (by decide) ?_ | refine z_bt2 (by decide) ?_ | refine z_bf2 (by decide) ?_); conv => whnf)
        refine hC _ _ _ _ _ _ _ _ _ _ (fun _ _ _ _ _ _ q => q) (sp_timeOf (by omega) ho ?_)
        conv => whnf
        simp (disch := omega) only [z_lit, nI_add, pk_mul, z_pr1, z_pr2, nI_clamp, z_m3_40, z_m3_41, z_m3_44, z_m3_u40, z_m3_u41, z_m3_u44, z_m3_m3, pk_us, pk_un]
        refine hK _ _ _ _ _ _ _ _ _ _ (ih')
    refine ⟨fun g => ?_, fun g => ?_⟩
    · conv => whnf
      refine hK _ _ _ _ _ _ _ _ _ _ (main (Or.inl (nI_inj9 (by omega) (by omega) g)))
    · have g9 : ¬ lnn s.2.1 k 9 = 0 := fun z => g (by rw [z]; rfl)
      conv => whnf
      refine ⟨fun g2 => ?_, fun g2 => ?_⟩
      · have hk2 : ¬ k < M + 1 := fun z => absurd g2 (nI_nlt (by omega) (by omega))
        rw [decide_eq_false g9, decide_eq_false hk2, Bool.or_false, Bool.false_and, cond_false, Nat.add_zero] at ih'
        conv => whnf
        simp (disch := omega) only [z_lit, nI_add, pk_mul, z_pr1, z_pr2, nI_clamp, z_m3_40, z_m3_41, z_m3_44, z_m3_u40, z_m3_u41, z_m3_u44, z_m3_m3, pk_us, pk_un]
        refine hK _ _ _ _ _ _ _ _ _ _ (ih')
      · have hk2 : k < M + 1 := by
          rcases Nat.lt_or_ge k (M + 1) with z | z
          · exact z
          · exact absurd (nI_lt (a := M) (b := k) (by omega) (by omega)) g2
        conv => whnf
        refine hK _ _ _ _ _ _ _ _ _ _ (main (Or.inr hk2))
theorem sp_loadOf {f M : Nat} (ht : tb_ok s.2.1) (hf : f < 8) (hM : M < 2 ^ 20) (hQ : Q (some (.int (nI (ldn s.2.1 f (M + 1) (s.2.1 8).toNatClampNeg)))) (z_ms I s) (z_R0 kp sp wd) J F cn) :
    z_M (z_X0 L xs) z_P0 (d + 2) m_Mod_loadOf [.ref 40, .int (nI f), .int (nI M)] (z_ms I s) (z_R0 kp sp wd) J F cn Q := by
  refine z_WP_gos [5] 1000 fun K C hK hC => ?_
  conv => whnf
  refine hK _ _ _ _ _ _ _ _ _ _ (lp_loadOf ht hf hM hQ (s.2.1 8).toNatClampNeg 0 (by omega))
def q_load (w : Nat → Int32) (f : Nat) (q : Int32) : Int32 := if q = 0 then nI (ldn w f 25 (w 8).toNatClampNeg) else if q = 1 then (if nI (ldn w f 25 (w 8).toNatClampNeg) ≤ w 0 then 0 else 1) else if q = 2 then nI (dun w f (w 8).toNatClampNeg) else -1
theorem lp_load {f : Nat} {q : Int32} (ht : tb_ok s.2.1) (hf : f < 8) (hQ : Q (some (.int (q_load s.2.1 f q))) (z_ms I s) (z_R0 kp sp wd) J F cn) :
    ∀ j k, k + j = (s.2.1 8).toNatClampNeg → z_WP (z_X0 L xs) z_P0 (d + 3) m_Mod_load 17 [some (.ref 40), some (.int (nI f)), some (.int q), some (.int (nI (dun s.2.1 f k))), some (.int (nI k))] [] (z_ms I s) (z_R0 kp sp wd) J F cn 0 0 Q := by
  have ht' := ht
  obtain ⟨e1, e2, e3⟩ := ht
  unfold q_load at hQ
  generalize hne : (s.2.1 8).toNatClampNeg = ne at *
  intro j
  induction j with
  | zero =>
    intro k hk
    obtain rfl : k = ne := by omega
    refine z_WP_gos [17] 1000 fun K C hK hC => ?_
    conv => whnf
    repeat ((first | refine And.intro (by (conv => arg 2; whnf); (try simp only [z_lit, nI_add, pk_mul, z_pr1, z_pr2]); exact z_in (by omega) (by decide)) ?_ | refine z_bt1 (by decide) ?_ | refine z_bf1 (by decide) ?_ | refine z_bt2 (by decide) ?_ | refine z_bf2 (by decide) ?_); conv => whnf)
    simp (disch := omega) only [z_lit, nI_add, pk_mul, z_pr1, z_pr2, nI_clamp, z_m3_40, z_m3_41, z_m3_44, z_m3_u40, z_m3_u41, z_m3_u44, z_m3_m3, pk_us, pk_un]
    rw [e1]
    refine ⟨fun _ => ?_, fun h => absurd (Int32.le_refl _) h⟩
    conv => whnf
    refine hC _ _ _ _ _ _ _ _ _ _ (fun _ _ _ _ _ _ q => q) (sp_loadOf (M := 24) ht' hf (by decide) ?_)
    conv => whnf
    rw [hne]
    generalize ldn s.2.1 f (24 + 1) k = ld at *
    refine ⟨fun g => ?_, fun g => ?_⟩
    · rw [if_neg g] at hQ
      conv => whnf
      refine ⟨fun g2 => ?_, fun g2 => ?_⟩
      · rw [if_neg g2] at hQ
        conv => whnf
        refine ⟨fun g3 => ?_, fun g3 => ?_⟩
        · rw [if_neg g3] at hQ
          conv => whnf
          exact hQ
        · rw [if_pos g3] at hQ
          conv => whnf
          exact hQ
      · rw [if_pos g2] at hQ
        conv => whnf
        repeat ((first | refine And.intro (by (conv => arg 2; whnf); (try simp only [z_lit, nI_add, pk_mul, z_pr1, z_pr2]); exact z_in (by omega) (by decide)) ?_ | refine z_bt1 (by decide) ?_ | refine z_bf1 (by decide) ?_ | refine z_bt2 (by decide) ?_ | refine z_bf2 (by decide) ?_); conv => whnf)
        simp (disch := omega) only [z_lit, nI_add, pk_mul, z_pr1, z_pr2, nI_clamp, z_m3_40, z_m3_41, z_m3_44, z_m3_u40, z_m3_u41, z_m3_u44, z_m3_m3, pk_us, pk_un]
        refine ⟨fun g3 => ?_, fun g3 => ?_⟩
        · rw [if_pos g3] at hQ
          conv => whnf
          exact hQ
        · rw [if_neg g3] at hQ
          conv => whnf
          exact hQ
    · rw [if_pos g] at hQ
      conv => whnf
      exact hQ
  | succ j ih =>
    intro k hk
    have ih' := ih (k + 1) (by omega)
    have ho := e3 k (by omega)
    unfold dun at ih'
    refine z_WP_gos [17] 1000 fun K C hK hC => ?_
    conv => whnf
    repeat ((first | refine And.intro (by (conv => arg 2; whnf); (try simp only [z_lit, nI_add, pk_mul, z_pr1, z_pr2]); exact z_in (by omega) (by decide)) ?_ | refine z_bt1 (by decide) ?_ | refine z_bf1 (by decide) ?_ | refine z_bt2 (by decide) ?_ | refine z_bf2 (by decide) ?_); conv => whnf)
    simp (disch := omega) only [z_lit, nI_add, pk_mul, z_pr1, z_pr2, nI_clamp, z_m3_40, z_m3_41, z_m3_44, z_m3_u40, z_m3_u41, z_m3_u44, z_m3_m3, pk_us, pk_un]
    rw [e1]
    refine ⟨fun h => absurd h (nI_ge (by omega) (by omega)), fun _ => ?_⟩
    conv => whnf
    refine hC _ _ _ _ _ _ _ _ _ _ (fun _ _ _ _ _ _ q => q) (sp_isDue (by omega) ho (by omega) ?_)
    conv => whnf
    cases hd : s_due s.2.1 k f
    · rw [hd, cond_false, Nat.add_zero] at ih'
      repeat ((first | refine And.intro (by (conv => arg 2; whnf); (try simp only [z_lit, nI_add, pk_mul, z_pr1, z_pr2]); exact z_in (by omega) (by decide)) ?_ | refine z_bt1 (by decide) ?_ | refine z_bf1 (by decide) ?_ | refine z_bt2 (by decide) ?_ | refine z_bf2 (by decide) ?_); conv => whnf)
      simp (disch := omega) only [z_lit, nI_add, pk_mul, z_pr1, z_pr2, nI_clamp, z_m3_40, z_m3_41, z_m3_44, z_m3_u40, z_m3_u41, z_m3_u44, z_m3_m3, pk_us, pk_un]
      refine hK _ _ _ _ _ _ _ _ _ _ (ih')
    · rw [hd, cond_true] at ih'
      repeat ((first | refine And.intro (by (conv => arg 2; whnf); (try simp only [z_lit, nI_add, pk_mul, z_pr1, z_pr2]); exact z_in (by omega) (by decide)) ?_ | refine z_bt1 (by decide) ?_ | refine z_bf1 (by decide) ?_ | refine z_bt2 (by decide) ?_ | refine z_bf2 (by decide) ?_); conv => whnf)
      simp (disch := omega) only [z_lit, nI_add, pk_mul, z_pr1, z_pr2, nI_clamp, z_m3_40, z_m3_41, z_m3_44, z_m3_u40, z_m3_u41, z_m3_u44, z_m3_m3, pk_us, pk_un]
      refine hK _ _ _ _ _ _ _ _ _ _ (ih')
theorem sp_load {f q : Int32} (ht : tb_ok s.2.1) (h1 : ∀ f', f' < 8 → f = nI f' → Q (some (.int (q_load s.2.1 f' q))) (z_ms I s) (z_R0 kp sp wd) J F cn) (h0 : (∀ f', f' < 8 → ¬ f = nI f') → Q (some (.int (-1))) (z_ms I s) (z_R0 kp sp wd) J F cn) :
    z_M (z_X0 L xs) z_P0 (d + 3) m_Mod_load [.ref 40, .int f, .int q] (z_ms I s) (z_R0 kp sp wd) J F cn Q := by
  refine z_WP_gos [17] 1000 fun K C hK hC => ?_
  conv => whnf
  refine hC _ _ _ _ _ _ _ _ _ _ (fun _ _ _ _ _ _ q => q) (sp_Mod_isIn (fun x1 x2 => ?_) (fun x => ?_))
  conv => whnf
  · obtain ⟨f', hf, ef⟩ := isIn_nat (b := 7) (by decide) x1 x2
    subst ef
    repeat ((first | refine And.intro (by (conv => arg 2; whnf); (try simp only [z_lit, nI_add, pk_mul, z_pr1, z_pr2]); exact z_in (by omega) (by decide)) ?_ | refine z_bt1 (by decide) ?_ | refine z_bf1 (by decide) ?_ | refine z_bt2 (by decide) ?_ | refine z_bf2 (by decide) ?_); conv => whnf)
    refine hK _ _ _ _ _ _ _ _ _ _ (lp_load ht (by omega) (h1 f' (by omega) rfl) (s.2.1 8).toNatClampNeg 0 (by omega))
  · repeat ((first | refine And.intro (by (conv => arg 2; whnf); (try simp only [z_lit, nI_add, pk_mul, z_pr1, z_pr2]); exact z_in (by omega) (by decide)) ?_ | refine z_bt1 (by decide) ?_ | refine z_bf1 (by decide) ?_ | refine z_bt2 (by decide) ?_ | refine z_bf2 (by decide) ?_); conv => whnf)
    refine h0 fun a b c => x ?_
    rw [c]; exact ⟨nI_pos' (by omega), nI_le (b := 7) (by omega) (by decide)⟩
theorem lp_linesDue {w : Nat → Int32} {f : Nat} (hp : pS I w) (ht : tb_ok w) (hf : f < 8) (hQ : Q (some (.int (nI (dun w f (w 8).toNatClampNeg)))) I (z_R0 kp sp wd) J F cn) :
    ∀ j k, k + j = (w 8).toNatClampNeg → z_WP (z_X0 L xs) z_P0 (d + 2) m_Plan_linesDue 4 [some (.ref 18), some (.int (nI f)), some (.int (nI (dun w f k))), some (.int (nI k))] [] I (z_R0 kp sp wd) J F cn 0 0 Q := by
  have p5 := hp.1
  obtain ⟨e1, e2, e3⟩ := ht
  rw [e1] at p5
  intro j
  induction j with
  | zero =>
    intro k hk
    have hk' : k = (w 8).toNatClampNeg := by omega
    rw [← hk'] at hQ p5
    refine z_WP_gos [4] 1000 fun K C hK hC => ?_
    conv => whnf
    simp (disch := omega) only [z_lit, nI_add, pk_mul, z_pr1, z_pr2, nI_clamp, z_up_row, z_row_s, z_row_n, z_row_row, pk_us, pk_un]
    rw [p5]
    refine ⟨fun _ => ?_, fun h => absurd (Int32.le_refl _) h⟩
    conv => whnf
    exact hQ
  | succ j ih =>
    intro k hk
    have ih' := ih (k + 1) (by omega)
    have ho := e3 k (by omega)
    unfold dun at ih'
    refine z_WP_gos [4] 1000 fun K C hK hC => ?_
    conv => whnf
    simp (disch := omega) only [z_lit, nI_add, pk_mul, z_pr1, z_pr2, nI_clamp, z_up_row, z_row_s, z_row_n, z_row_row, pk_us, pk_un]
    rw [p5]
    refine ⟨fun h => absurd h (nI_ge (by omega) (by omega)), fun _ => ?_⟩
    conv => whnf
    refine hC _ _ _ _ _ _ _ _ _ _ (fun _ _ _ _ _ _ q => q) (cp_isDue hp (by omega) e2 ho (by omega) ?_)
    conv => whnf
    cases hd : s_due w k f
    · rw [hd, cond_false, Nat.add_zero] at ih'
      repeat ((first | refine And.intro (by (conv => arg 2; whnf); (try simp only [z_lit, nI_add, pk_mul, z_pr1, z_pr2]); exact z_in (by omega) (by decide)) ?_ | refine z_bt1 (by decide) ?_ | refine z_bf1 (by decide) ?_ | refine z_bt2 (by decide) ?_ | refine z_bf2 (by decide) ?_); conv => whnf)
      simp (disch := omega) only [z_lit, nI_add, pk_mul, z_pr1, z_pr2, nI_clamp, z_up_row, z_row_s, z_row_n, z_row_row, pk_us, pk_un]
      refine hK _ _ _ _ _ _ _ _ _ _ (ih')
    · rw [hd, cond_true] at ih'
      repeat ((first | refine And.intro (by (conv => arg 2; whnf); (try simp only [z_lit, nI_add, pk_mul, z_pr1, z_pr2]); exact z_in (by omega) (by decide)) ?_ | refine z_bt1 (by decide) ?_ | refine z_bf1 (by decide) ?_ | refine z_bt2 (by decide) ?_ | refine z_bf2 (by decide) ?_); conv => whnf)
      simp (disch := omega) only [z_lit, nI_add, pk_mul, z_pr1, z_pr2, nI_clamp, z_up_row, z_row_s, z_row_n, z_row_row, pk_us, pk_un]
      refine hK _ _ _ _ _ _ _ _ _ _ (ih')
theorem cb_load {f q : Int32} {w : Nat → Int32} (hp : pS I w) (ht : tb_ok w) (hl : hL I) (h5 : I 1 5 = w 0) (h1 : ∀ f', f' < 8 → f = nI f' → Q (some (.int (q_load w f' q))) I (z_R0 kp sp wd) J F cn) (h0 : (∀ f', f' < 8 → ¬ f = nI f') → Q (some (.int (-1))) I (z_R0 kp sp wd) J F cn) :
    z_M (z_X0 L xs) z_P0 (d + 3) m_Bus_load [.ref 0, .int f, .int q] I (z_R0 kp sp wd) J F cn Q := by
  have h24 := ht.2.1
  refine z_WP_gos [26] 1000 fun K C hK hC => ?_
  conv => whnf
  refine ⟨fun g => ?_, fun g => ?_⟩
  · conv => whnf
    refine h0 fun a b c => absurd g (Int32.not_lt.mpr ?_)
    rw [c]; exact nI_pos' (by omega)
  conv => whnf
  refine ⟨fun g2 => ?_, fun g2 => ?_⟩
  rotate_left
  · conv => whnf
    refine h0 fun a b c => g2 ?_
    rw [c]; exact nI_lt (b := 8) b (by decide)
  obtain ⟨f', hf, ef⟩ := isIn_nat (b := 8) (by decide) (Int32.not_lt.mp g) (Int32.le_of_lt g2)
  subst ef
  have hf8 : f' < 8 := by
    rcases Nat.lt_or_eq_of_le hf with z | z
    · exact z
    · rw [z] at g2; exact (Int32.lt_irrefl g2).elim
  have r := h1 f' hf8 rfl
  unfold q_load at r
  have e := hL_m hl hp ht (M := 25) (by omega) hf8
  conv => whnf
  repeat ((first | refine And.intro (by (conv => arg 2; whnf); (try simp only [z_lit, nI_add, pk_mul, z_pr1, z_pr2]); exact z_in (by omega) (by decide)) ?_ | refine z_bt1 (by decide) ?_ | refine z_bf1 (by decide) ?_ | refine z_bt2 (by decide) ?_ | refine z_bf2 (by decide) ?_); conv => whnf)
  simp (disch := omega) only [z_lit, nI_add, pk_mul, z_pr1, z_pr2, nI_clamp, z_up_row, z_row_s, z_row_n, z_row_row, pk_us, pk_un]
  rw [e]
  generalize ldn w f' 25 (w 8).toNatClampNeg = ld at *
  by_cases q0 : q = 0
  · subst q0
    rw [if_pos rfl] at r
    refine hK _ _ _ _ _ _ _ _ _ _ (z_WP_ts 52 rfl (by decide) ?_)
    refine z_WP_gos [] 1000 fun K C hK hC => ?_
    conv => whnf
    exact r
  rw [if_neg q0] at r
  by_cases q1 : q = 1
  · subst q1
    rw [if_pos rfl] at r
    refine hK _ _ _ _ _ _ _ _ _ _ (z_WP_ts 54 rfl (by decide) ?_)
    refine z_WP_gos [] 1000 fun K C hK hC => ?_
    conv => whnf
    simp (disch := omega) only [z_lit, nI_add, pk_mul, z_pr1, z_pr2, nI_clamp, z_up_row, z_row_s, z_row_n, z_row_row, pk_us, pk_un]
    rw [h5]
    refine ⟨fun g3 => ?_, fun g3 => ?_⟩
    · rw [if_pos g3] at r
      conv => whnf
      exact r
    · rw [if_neg g3] at r
      conv => whnf
      exact r
  rw [if_neg q1] at r
  by_cases q2 : q = 2
  · subst q2
    rw [if_pos rfl] at r
    refine hK _ _ _ _ _ _ _ _ _ _ (z_WP_ts 71 rfl (by decide) ?_)
    refine z_WP_gos [4] 1000 fun K C hK hC => ?_
    conv => whnf
    refine hC _ _ _ _ _ _ _ _ _ _ (fun _ _ _ _ _ _ q => q) (?_ : z_M (z_X0 L xs) z_P0 (d + 2) m_Plan_linesDue [.ref 18, .int (nI f')] I (z_R0 kp sp wd) J F cn _)
    refine z_WP_gos [4] 1000 fun K C hK hC => ?_
    conv => whnf
    refine hK _ _ _ _ _ _ _ _ _ _ (lp_linesDue hp ht hf8 ?_ (w 8).toNatClampNeg 0 (by omega))
    exact r
  rw [if_neg q2] at r
  refine hK _ _ _ _ _ _ _ _ _ _ (z_WP_ts 83 rfl (z_swt_no _ fun p hp => ?_) ?_)
  · simp only [List.mem_cons, List.not_mem_nil, or_false] at hp
    rcases hp with rfl | rfl | rfl
    · exact q0
    · exact q1
    · exact q2
  · refine z_WP_gos [] 1000 fun K C hK hC => ?_
    conv => whnf
    exact r
end
