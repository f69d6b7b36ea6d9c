/-! the greatest load -/
def mxf (g : Nat → Nat) : Nat → Nat
  | 0 => 0
  | k + 1 => max (mxf g k) (g k)
theorem mxf_le {g : Nat → Nat} {B : Nat} : ∀ {k}, (∀ f, f < k → g f ≤ B) → mxf g k ≤ B
  | 0, _ => Nat.zero_le _
  | k + 1, h => Nat.max_le.mpr ⟨mxf_le fun f hf => h f (by omega), h k (by omega)⟩
theorem mxf_ge {g : Nat → Nat} : ∀ {k f}, f < k → g f ≤ mxf g k
  | 0, f, h => by omega
  | k + 1, f, h => by
    unfold mxf
    rcases Nat.lt_or_eq_of_le (Nat.le_of_lt_succ h) with z | z
    · exact Nat.le_trans (mxf_ge z) (Nat.le_max_left _ _)
    · rw [z]; exact Nat.le_max_right _ _
theorem mxf_c {g g' : Nat → Nat} : ∀ {k}, (∀ f, f < k → g' f = g f) → mxf g' k = mxf g k
  | 0, _ => rfl
  | k + 1, h => by
    unfold mxf
    rw [mxf_c (k := k) fun f hf => h f (by omega), h k (by omega)]
theorem mxf_mono {g g' : Nat → Nat} : ∀ {k}, (∀ f, f < k → g' f ≤ g f) → mxf g' k ≤ mxf g k := fun {k} h => mxf_le fun f hf => Nat.le_trans (h f hf) (mxf_ge hf)
/-- of a table -/
def grt (w : Nat → Int32) : Nat := mxf (fun f => ldn w f 25 (w 8).toNatClampNeg) 8
def fov (w : Nat → Int32) : Nat → Nat → Int32
  | 0, _ => -1
  | j + 1, f => if nI (ldn w f 25 (w 8).toNatClampNeg) ≤ w 0 then fov w j (f + 1) else nI f
theorem fov_s {w : Nat → Int32} {j f : Nat} : fov w (j + 1) f = if nI (ldn w f 25 (w 8).toNatClampNeg) ≤ w 0 then fov w j (f + 1) else nI f := rfl
section
variable {L : Nat} {xs : Nat → Int32} {d : Nat} {kp sp wd : Value} {I : z_I} {s : z_sg} {R : z_R} {J : z_J} {F : z_F} {cn : Nat} {Q : z_Q} {n k : Nat}
theorem lp_greatest (ht : tb_ok s.2.1) (hQ : Q (some (.int (nI (grt s.2.1)))) (z_ms I s) (z_R0 kp sp wd) J F cn) :
    ∀ j k lc, k + j = 8 → z_WP (z_X0 L xs) z_P0 (d + 3) m_Mod_greatest 4 [some (.ref 40), some (.int (nI (mxf (fun f => ldn s.2.1 f 25 (s.2.1 8).toNatClampNeg) k))), some (.int (nI k)), lc] [] (z_ms I s) (z_R0 kp sp wd) J F cn 0 0 Q := by
  have hb : ∀ f, ldn s.2.1 f 25 (s.2.1 8).toNatClampNeg ≤ 6240 := fun f => by
    have a := ldn_le (f := f) (M := 25) ht.2.2
    have b := ht.2.1
    omega
  unfold grt at hQ
  intro j
  induction j with
  | zero =>
    intro k lc hk
    obtain rfl : k = 8 := by omega
    refine z_WP_gos [4] 1000 fun K C hK hC => ?_
    conv => whnf
    repeat ((first | refine And.intro (by (conv => arg 2; whnf); (try simp only [z_lit, nI_add, pk_mul, z_pr1, z_pr2]); exact z_in (by omega) (by decide)) ?_ | refine z_bt1 (by decide) ?_ | refine z_bf1 (by decide) ?_ | refine z_bt2 (by decide) ?_ | refine z_bf2 (by decide) ?_); conv => whnf)
    exact hQ
  | succ j ih =>
    intro k lc hk
    have ih' := fun lc => ih (k + 1) lc (by omega)
    unfold mxf at ih'
    have hm : mxf (fun f => ldn s.2.1 f 25 (s.2.1 8).toNatClampNeg) k ≤ 6240 := mxf_le fun f _ => hb f
    have hl := hb k
    refine z_WP_gos [4] 1000 fun K C hK hC => ?_
    conv => whnf
    refine ⟨fun h => absurd h (nI_ge (b := 8) (by omega) (by omega)), fun _ => ?_⟩
    conv => whnf
    refine hC _ _ _ _ _ _ _ _ _ _ (fun _ _ _ _ _ _ q => q) (sp_loadOf (M := 24) ht (by omega) (by decide) ?_)
    conv => whnf
    rw [show 24 + 1 = 25 from rfl]
    generalize ldn s.2.1 k 25 (s.2.1 8).toNatClampNeg = ld at *
    generalize mxf (fun f => ldn s.2.1 f 25 (s.2.1 8).toNatClampNeg) k = mx at *
    refine ⟨fun g => ?_, fun g => ?_⟩
    · have z : ld ≤ mx := (nI_leI (by omega) (by omega)).mp g
      rw [Nat.max_eq_left z] at ih'
      conv => whnf
      simp (disch := omega) only [z_lit, nI_add, pk_mul, z_pr1, z_pr2, nI_clamp, z_m3_40, z_m3_41, z_m3_44, z_m3_u40, z_m3_u41, z_m3_u44, z_m3_m3, pk_us, pk_un]
      refine hK _ _ _ _ _ _ _ _ _ _ (ih' _)
    · have z : mx ≤ ld := by
        rcases Nat.le_total mx ld with y | y
        · exact y
        · exact absurd (nI_le y (by omega)) g
      rw [Nat.max_eq_right z] at ih'
      conv => whnf
      simp (disch := omega) only [z_lit, nI_add, pk_mul, z_pr1, z_pr2, nI_clamp, z_m3_40, z_m3_41, z_m3_44, z_m3_u40, z_m3_u41, z_m3_u44, z_m3_m3, pk_us, pk_un]
      refine hK _ _ _ _ _ _ _ _ _ _ (ih' _)
theorem sp_greatest (ht : tb_ok s.2.1) (hQ : Q (some (.int (nI (grt s.2.1)))) (z_ms I s) (z_R0 kp sp wd) J F cn) :
    z_M (z_X0 L xs) z_P0 (d + 3) m_Mod_greatest [.ref 40] (z_ms I s) (z_R0 kp sp wd) J F cn Q := by
  refine z_WP_gos [4] 1000 fun K C hK hC => ?_
  conv => whnf
  refine hK _ _ _ _ _ _ _ _ _ _ (lp_greatest ht hQ 8 0 _ rfl)
theorem lp_firstOver (ht : tb_ok s.2.1) (hQ : Q (some (.int (fov s.2.1 8 0))) (z_ms I s) (z_R0 kp sp wd) J F cn) :
    ∀ j k, k + j = 8 → fov s.2.1 8 0 = fov s.2.1 j k → z_WP (z_X0 L xs) z_P0 (d + 3) m_Mod_firstOver 2 [some (.ref 40), some (.int (nI k))] [] (z_ms I s) (z_R0 kp sp wd) J F cn 0 0 Q := by
  intro j
  induction j with
  | zero =>
    intro k hk e
    obtain rfl : k = 8 := by omega
    rw [e] at hQ
    refine z_WP_gos [2] 1000 fun K C hK hC => ?_
    conv => whnf
    repeat ((first | refine And.intro (by (conv => arg 2; whnf); (try simp only [z_lit, nI_add, pk_mul, z_pr1, z_pr2]); exact z_in (by omega) (by decide)) ?_ | refine z_bt1 (by decide) ?_ | refine z_bf1 (by decide) ?_ | refine z_bt2 (by decide) ?_ | refine z_bf2 (by decide) ?_); conv => whnf)
    exact hQ
  | succ j ih =>
    intro k hk e
    have ih' := ih (k + 1) (by omega)
    rw [e] at ih' hQ
    rw [fov_s] at ih' hQ
    refine z_WP_gos [2] 1000 fun K C hK hC => ?_
    conv => whnf
    refine ⟨fun h => absurd h (nI_ge (b := 8) (by omega) (by omega)), fun _ => ?_⟩
    conv => whnf
    refine hC _ _ _ _ _ _ _ _ _ _ (fun _ _ _ _ _ _ q => q) (sp_loadOf (M := 24) ht (by omega) (by decide) ?_)
    conv => whnf
    rw [show 24 + 1 = 25 from rfl]
    generalize ldn s.2.1 k 25 (s.2.1 8).toNatClampNeg = ld at *
    repeat ((first | refine And.intro (by (conv => arg 2; whnf); (try simp only [z_lit, nI_add, pk_mul, z_pr1, z_pr2]); exact z_in (by omega) (by decide)) ?_ | refine z_bt1 (by decide) ?_ | refine z_bf1 (by decide) ?_ | refine z_bt2 (by decide) ?_ | refine z_bf2 (by decide) ?_); conv => whnf)
    simp (disch := omega) only [z_lit, nI_add, pk_mul, z_pr1, z_pr2, nI_clamp, z_m3_40, z_m3_41, z_m3_44, z_m3_u40, z_m3_u41, z_m3_u44, z_m3_m3, pk_us, pk_un]
    refine ⟨fun g => ?_, fun g => ?_⟩
    · rw [if_pos g] at ih'
      have ih2 := ih' rfl
      conv => whnf
      simp (disch := omega) only [z_lit, nI_add, pk_mul, z_pr1, z_pr2, nI_clamp, z_m3_40, z_m3_41, z_m3_44, z_m3_u40, z_m3_u41, z_m3_u44, z_m3_m3, pk_us, pk_un]
      refine hK _ _ _ _ _ _ _ _ _ _ (ih2)
    · rw [if_neg g] at hQ
      conv => whnf
      exact hQ
theorem sp_firstOver (ht : tb_ok s.2.1) (hQ : Q (some (.int (fov s.2.1 8 0))) (z_ms I s) (z_R0 kp sp wd) J F cn) :
    z_M (z_X0 L xs) z_P0 (d + 3) m_Mod_firstOver [.ref 40] (z_ms I s) (z_R0 kp sp wd) J F cn Q := by
  refine z_WP_gos [2] 1000 fun K C hK hC => ?_
  conv => whnf
  refine hK _ _ _ _ _ _ _ _ _ _ (lp_firstOver ht hQ 8 0 rfl rfl)
theorem lp_great23 {g : Nat → Nat} (hg : ∀ f, f < 8 → I 23 f = nI (g f) ∧ g f < 2 ^ 30) (hQ : Q (some (.int (nI (mxf g 8)))) I (z_R0 kp sp wd) J F cn) :
    ∀ j k, k + j = 8 → z_WP (z_X0 L xs) z_P0 (d + 1) m_Plan_greatestOf 4 [some (.ref 18), some (.ref 23), some (.int (nI (mxf g k))), some (.int (nI k))] [] I (z_R0 kp sp wd) J F cn 0 0 Q := by
  intro j
  induction j with
  | zero =>
    intro k hk
    obtain rfl : k = 8 := by omega
    refine z_WP_gos [4] 1000 fun K C hK hC => ?_
    conv => whnf
    repeat ((first | refine And.intro (by (conv => arg 2; whnf); (try simp only [z_lit, nI_add, pk_mul, z_pr1, z_pr2]); exact z_in (by omega) (by decide)) ?_ | refine z_bt1 (by decide) ?_ | refine z_bf1 (by decide) ?_ | refine z_bt2 (by decide) ?_ | refine z_bf2 (by decide) ?_); conv => whnf)
    exact hQ
  | succ j ih =>
    intro k hk
    have ih' := ih (k + 1) (by omega)
    unfold mxf at ih'
    have hm : mxf g k ≤ 2 ^ 30 := mxf_le fun f hf => by have := (hg f (by omega)).2; omega
    obtain ⟨e, hl⟩ := hg k (by omega)
    generalize mxf g k = mx at *
    generalize g k = ld at *
    refine z_WP_gos [4] 1000 fun K C hK hC => ?_
    conv => whnf
    refine ⟨fun h => absurd h (nI_ge (b := 8) (by omega) (by omega)), fun _ => ?_⟩
    conv => whnf
    repeat ((first | refine And.intro (by (conv => arg 2; whnf); (try simp only [z_lit, nI_add, pk_mul, z_pr1, z_pr2]); exact z_in (by omega) (by decide)) ?_ | refine z_bt1 (by decide) ?_ | refine z_bf1 (by decide) ?_ | refine z_bt2 (by decide) ?_ | refine z_bf2 (by decide) ?_); conv => whnf)
    simp (disch := omega) only [z_lit, nI_add, pk_mul, z_pr1, z_pr2, nI_clamp, z_up_row, z_row_s, z_row_n, z_row_row, pk_us, pk_un]
    rw [e]
    refine hC _ _ _ _ _ _ _ _ _ _ (fun _ _ _ _ _ _ q => q) (cm_max ?_)
    conv => whnf
    rcases Nat.le_total ld mx with y | y
    · rw [Nat.max_eq_left y] at ih'
      rw [if_pos (nI_le y (by omega))]
      simp (disch := omega) only [z_lit, nI_add, pk_mul, z_pr1, z_pr2, nI_clamp, z_up_row, z_row_s, z_row_n, z_row_row, pk_us, pk_un]
      refine hK _ _ _ _ _ _ _ _ _ _ (ih')
    · rw [Nat.max_eq_right y] at ih'
      rcases Nat.lt_or_eq_of_le y with z | z
      · rw [if_neg (nI_ge z (by omega))]
        simp (disch := omega) only [z_lit, nI_add, pk_mul, z_pr1, z_pr2, nI_clamp, z_up_row, z_row_s, z_row_n, z_row_row, pk_us, pk_un]
        refine hK _ _ _ _ _ _ _ _ _ _ (ih')
      · rw [← z] at ih' ⊢
        rw [if_pos (Int32.le_refl _)]
        simp (disch := omega) only [z_lit, nI_add, pk_mul, z_pr1, z_pr2, nI_clamp, z_up_row, z_row_s, z_row_n, z_row_row, pk_us, pk_un]
        refine hK _ _ _ _ _ _ _ _ _ _ (ih')
theorem cp_great23 {g : Nat → Nat} (hg : ∀ f, f < 8 → I 23 f = nI (g f) ∧ g f < 2 ^ 30) (hQ : Q (some (.int (nI (mxf g 8)))) I (z_R0 kp sp wd) J F cn) :
    z_M (z_X0 L xs) z_P0 (d + 1) m_Plan_greatestOf [.ref 18, .ref 23] I (z_R0 kp sp wd) J F cn Q := by
  refine z_WP_gos [4] 1000 fun K C hK hC => ?_
  conv => whnf
  refine hK _ _ _ _ _ _ _ _ _ _ (lp_great23 hg hQ 8 0 rfl)
theorem lp_great24 {g : Nat → Nat} (hg : ∀ f, f < 8 → I 24 f = nI (g f) ∧ g f < 2 ^ 30) (hQ : Q (some (.int (nI (mxf g 8)))) I (z_R0 kp sp wd) J F cn) :
    ∀ j k, k + j = 8 → z_WP (z_X0 L xs) z_P0 (d + 1) m_Plan_greatestOf 4 [some (.ref 18), some (.ref 24), some (.int (nI (mxf g k))), some (.int (nI k))] [] I (z_R0 kp sp wd) J F cn 0 0 Q := by
  intro j
  induction j with
  | zero =>
    intro k hk
    obtain rfl : k = 8 := by omega
    refine z_WP_gos [4] 1000 fun K C hK hC => ?_
    conv => whnf
    repeat ((first | refine And.intro (by (conv => arg 2; whnf); (try simp only [z_lit, nI_add, pk_mul, z_pr1, z_pr2]); exact z_in (by omega) (by decide)) ?_ | refine z_bt1 (by decide) ?_ | refine z_bf1 (by decide) ?_ | refine z_bt2 (by decide) ?_ | refine z_bf2 (by decide) ?_); conv => whnf)
    exact hQ
  | succ j ih =>
    intro k hk
    have ih' := ih (k + 1) (by omega)
    unfold mxf at ih'
    have hm : mxf g k ≤ 2 ^ 30 := mxf_le fun f hf => by have := (hg f (by omega)).2; omega
    obtain ⟨e, hl⟩ := hg k (by omega)
    generalize mxf g k = mx at *
    generalize g k = ld at *
    refine z_WP_gos [4] 1000 fun K C hK hC => ?_
    conv => whnf
    refine ⟨fun h => absurd h (nI_ge (b := 8) (by omega) (by omega)), fun _ => ?_⟩
    conv => whnf
    repeat ((first | refine And.intro (by (conv => arg 2; whnf); (try simp only [z_lit, nI_add, pk_mul, z_pr1, z_pr2]); exact z_in (by omega) (by decide)) ?_ | refine z_bt1 (by decide) ?_ | refine z_bf1 (by decide) ?_ | refine z_bt2 (by decide) ?_ | refine z_bf2 (by decide) ?_); conv => whnf)
    simp (disch := omega) only [z_lit, nI_add, pk_mul, z_pr1, z_pr2, nI_clamp, z_up_row, z_row_s, z_row_n, z_row_row, pk_us, pk_un]
    rw [e]
    refine hC _ _ _ _ _ _ _ _ _ _ (fun _ _ _ _ _ _ q => q) (cm_max ?_)
    conv => whnf
    rcases Nat.le_total ld mx with y | y
    · rw [Nat.max_eq_left y] at ih'
      rw [if_pos (nI_le y (by omega))]
      simp (disch := omega) only [z_lit, nI_add, pk_mul, z_pr1, z_pr2, nI_clamp, z_up_row, z_row_s, z_row_n, z_row_row, pk_us, pk_un]
      refine hK _ _ _ _ _ _ _ _ _ _ (ih')
    · rw [Nat.max_eq_right y] at ih'
      rcases Nat.lt_or_eq_of_le y with z | z
      · rw [if_neg (nI_ge z (by omega))]
        simp (disch := omega) only [z_lit, nI_add, pk_mul, z_pr1, z_pr2, nI_clamp, z_up_row, z_row_s, z_row_n, z_row_row, pk_us, pk_un]
        refine hK _ _ _ _ _ _ _ _ _ _ (ih')
      · rw [← z] at ih' ⊢
        rw [if_pos (Int32.le_refl _)]
        simp (disch := omega) only [z_lit, nI_add, pk_mul, z_pr1, z_pr2, nI_clamp, z_up_row, z_row_s, z_row_n, z_row_row, pk_us, pk_un]
        refine hK _ _ _ _ _ _ _ _ _ _ (ih')
theorem cp_great24 {g : Nat → Nat} (hg : ∀ f, f < 8 → I 24 f = nI (g f) ∧ g f < 2 ^ 30) (hQ : Q (some (.int (nI (mxf g 8)))) I (z_R0 kp sp wd) J F cn) :
    z_M (z_X0 L xs) z_P0 (d + 1) m_Plan_greatestOf [.ref 18, .ref 24] I (z_R0 kp sp wd) J F cn Q := by
  refine z_WP_gos [4] 1000 fun K C hK hC => ?_
  conv => whnf
  refine hK _ _ _ _ _ _ _ _ _ _ (lp_great24 hg hQ 8 0 rfl)
theorem hL_g {w : Nat → Int32} (hl : hL I) (hp : pS I w) (ht : tb_ok w) : ∀ f, f < 8 → I 23 f = nI (ldn w f 25 (w 8).toNatClampNeg) ∧ ldn w f 25 (w 8).toNatClampNeg < 2 ^ 30 := fun f hf => by
  have h24 := ht.2.1
  refine ⟨hL_m hl hp ht (by omega) hf, ?_⟩
  have a := ldn_le (f := f) (M := 25) ht.2.2
  omega
theorem cp_greatestLoad {w : Nat → Int32} (hl : hL I) (hp : pS I w) (ht : tb_ok w) (hQ : Q (some (.int (nI (grt w)))) I (z_R0 kp sp wd) J F cn) : z_M (z_X0 L xs) z_P0 (d + 2) m_Plan_greatestLoad [.ref 18] I (z_R0 kp sp wd) J F cn Q := by
  refine z_WP_gos [] 1000 fun K C hK hC => ?_
  conv => whnf
  refine hC _ _ _ _ _ _ _ _ _ _ (fun _ _ _ _ _ _ q => q) (cp_great23 (hL_g hl hp ht) ?_)
  conv => whnf
  exact hQ
theorem lp_firstAbove {w : Nat → Int32} (hl : hL I) (hp : pS I w) (ht : tb_ok w) (hQ : Q (some (.int (fov w 8 0))) I (z_R0 kp sp wd) J F cn) :
    ∀ j k, k + j = 8 → fov w 8 0 = fov w j k → z_WP (z_X0 L xs) z_P0 d m_Plan_firstAbove 2 [some (.ref 18), some (.int (w 0)), some (.int (nI k))] [] I (z_R0 kp sp wd) J F cn 0 0 Q := by
  intro j
  induction j with
  | zero =>
    intro k hk e
    obtain rfl : k = 8 := by omega
    rw [e] at hQ
    refine z_WP_gos [2] 1000 fun K C hK hC => ?_
    conv => whnf
    repeat ((first | refine And.intro (by (conv => arg 2; whnf); (try simp only [z_lit, nI_add, pk_mul, z_pr1, z_pr2]); exact z_in (by omega) (by decide)) ?_ | refine z_bt1 (by decide) ?_ | refine z_bf1 (by decide) ?_ | refine z_bt2 (by decide) ?_ | refine z_bf2 (by decide) ?_); conv => whnf)
    exact hQ
  | succ j ih =>
    intro k hk e
    have ih' := ih (k + 1) (by omega)
    have e1 := (hL_g hl hp ht k (by omega)).1
    rw [e] at ih' hQ
    rw [fov_s] at ih' hQ
    generalize ldn w k 25 (w 8).toNatClampNeg = ld at *
    refine z_WP_gos [2] 1000 fun K C hK hC => ?_
    conv => whnf
    refine ⟨fun h => absurd h (nI_ge (b := 8) (by omega) (by omega)), fun _ => ?_⟩
    conv => whnf
    repeat ((first | refine And.intro (by (conv => arg 2; whnf); (try simp only [z_lit, nI_add, pk_mul, z_pr1, z_pr2]); exact z_in (by omega) (by decide)) ?_ | refine z_bt1 (by decide) ?_ | refine z_bf1 (by decide) ?_ | refine z_bt2 (by decide) ?_ | refine z_bf2 (by decide) ?_); conv => whnf)
    simp (disch := omega) only [z_lit, nI_add, pk_mul, z_pr1, z_pr2, nI_clamp, z_up_row, z_row_s, z_row_n, z_row_row, pk_us, pk_un]
    rw [e1]
    refine ⟨fun g => ?_, fun g => ?_⟩
    · rw [if_pos g] at ih'
      have ih2 := ih' rfl
      conv => whnf
      simp (disch := omega) only [z_lit, nI_add, pk_mul, z_pr1, z_pr2, nI_clamp, z_up_row, z_row_s, z_row_n, z_row_row, pk_us, pk_un]
      refine hK _ _ _ _ _ _ _ _ _ _ (ih2)
    · rw [if_neg g] at hQ
      conv => whnf
      exact hQ
theorem cp_firstAbove {w : Nat → Int32} (hl : hL I) (hp : pS I w) (ht : tb_ok w) (hQ : Q (some (.int (fov w 8 0))) I (z_R0 kp sp wd) J F cn) : z_M (z_X0 L xs) z_P0 d m_Plan_firstAbove [.ref 18, .int (w 0)] I (z_R0 kp sp wd) J F cn Q := by
  refine z_WP_gos [2] 1000 fun K C hK hC => ?_
  conv => whnf
  refine hK _ _ _ _ _ _ _ _ _ _ (lp_firstAbove hl hp ht hQ 8 0 rfl rfl)
end
