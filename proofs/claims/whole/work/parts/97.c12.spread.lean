/-! the class: spread, whole -/
section
variable {L : Nat} {xs : Nat → Int32} {d : Nat} {kp sp wd : Value} {I : z_I} {s : z_sg} {R : z_R} {J : z_J} {F : z_F} {cn : Nat} {Q : z_Q}
theorem ct_gather {w : Nat → Int32} {f M rt : Nat} (hp : pS I w) (ht : tb_ok w) (hf : f < 8) (h5 : I 1 5 = nI M) (h6 : I 1 6 = nI rt) (h8 : I 1 8 = w 3) (eM : s_M w = M) (er : s_rt w = rt) (hr : rt ≤ 3) (hM9 : M ≤ 9999)
    (hQ : ∀ g J', g 4 = nI (M / 64 + 1) → fcr w f (w 8).toNatClampNeg (g 5) → g 6 = nI (ldu w f (w 8).toNatClampNeg) → hasS (J' 36) (M / 64 + 1) (sr w f (w 8).toNatClampNeg) → Q none (z_row I 35 g) (z_R0 kp sp wd) J' F cn) :
    z_M (z_X0 L xs) z_P0 (d + 3) m_Times_gather [.ref 35, .ref 1, .int (nI f)] I (z_R0 kp sp wd) J F cn Q := by
  refine z_WP_gos [52] 1000 fun K C hK hC => ?_
  conv => whnf
  rw [h5]
  simp (disch := omega) only [z_lit, nI_add, pk_mul, z_pr1, z_pr2, nI_clamp, z_up_row, z_row_s, z_row_n, z_row_row, pk_us, pk_un]
  rw [nI_shr6 (by omega)]
  refine hC _ _ _ _ _ _ _ _ _ _ (fun _ _ _ _ _ _ q => q) (cm_min ?_)
  conv => whnf
  simp (disch := omega) only [z_lit, nI_add, pk_mul, z_pr1, z_pr2, nI_clamp, z_up_row, z_row_s, z_row_n, z_row_row, pk_us, pk_un]
  have e : (if nI 157 ≤ nI (M / 64 + 1) then nI 157 else nI (M / 64 + 1)) = nI (M / 64 + 1) := by
    by_cases z : 157 ≤ M / 64 + 1
    · rw [if_pos (nI_le z (by omega)), show M / 64 + 1 = 157 by omega]
    · rw [if_neg (nI_ge (by omega) (by omega))]
  rw [e]
  refine hC _ _ _ _ _ _ _ _ _ _ (fun _ _ _ _ _ _ q => q) (ct_fill36 (fun r hr0 => ?_))
  conv => whnf
  repeat ((first | refine And.intro (by (conv => arg 2; whnf); (try simp only [z_lit, nI_add, pk_mul, z_pr1, z_pr2]); exact z_in (by omega) (by decide)) ?_ | refine z_bt1 (by decide) ?_ | refine z_bf1 (by decide) ?_ | refine z_bt2 (by decide) ?_ | refine z_bf2 (by decide) ?_); conv => whnf)
  simp (disch := omega) only [z_lit, nI_add, pk_mul, z_pr1, z_pr2, nI_clamp, z_up_row, z_row_s, z_row_n, z_row_row, pk_us, pk_un]
  rw [z_upJ, z_row_s, z_row_row]
  refine hK _ _ _ _ _ _ _ _ _ _ (lp_gather hp ht hf h5 h6 h8 eM er hr hM9 (n := M / 64 + 1) (by omega) (by omega) hQ (w 8).toNatClampNeg 0 _ _ (by omega) ?_ ?_ ?_ (fun t h => ?_))
  · rw [pk_un (by decide), pk_un (by decide), pk_us]
  · rw [pk_un (by decide), pk_us]
    exact Or.inl ⟨rfl, fun i h => absurd h (Nat.not_lt_zero _)⟩
  · rw [pk_us]; rfl
  · show lb _ t = true ↔ t = 0
    rw [z_row_s, lb_upl]
    by_cases z : t / 64 = 0
    · rw [if_pos z]
      show wbt 1 (t % 64) = true ↔ _
      rw [wbt_one, decide_eq_true_eq]
      omega
    · rw [if_neg z]
      have hz : lb r t = false := by unfold lb; rw [hr0 _ (by omega), wbt_zero]
      rw [hz]
      exact ⟨fun y => absurd y (by decide), fun y => absurd (by rw [y]) z⟩
theorem cb_spread {f q : Int32} {w : Nat → Int32} {M rt : Nat} (hp : pS I w) (ht : tb_ok w) (hM : w 0 = nI M) (hM9 : M ≤ 9999) (hrt : w 1 = nI rt) (hr : rt ≤ 3) (h5 : I 1 5 = w 0) (h6 : I 1 6 = w 1) (h8 : I 1 8 = w 3)
    (h1 : ∀ f' q' I' J' v, f' < 8 → q' ≤ 4 → f = nI f' → q = nI q' → spA w f' q' v → fr [35] I I' → Q (some (.int v)) I' (z_R0 kp sp wd) J' F cn)
    (h0 : (∀ f' q', f' < 8 → q' ≤ 4 → f = nI f' → ¬ q = nI q') → Q (some (.int (-1))) I (z_R0 kp sp wd) J F cn) :
    z_M (z_X0 L xs) z_P0 (d + 4) m_Bus_spread [.ref 0, .int f, .int q] I (z_R0 kp sp wd) J F cn Q := by
  have eM : s_M w = M := by unfold s_M; rw [hM, nI_clamp (by omega)]
  have er : s_rt w = rt := by unfold s_rt; rw [hrt, nI_clamp (by omega)]
  rw [hM] at h5
  rw [hrt] at h6
  refine z_WP_gos [34] 1000 fun K C hK hC => ?_
  conv => whnf
  refine ⟨fun g => ?_, fun g => ?_⟩
  · conv => whnf
    refine h0 fun a b c c2 e e2 => absurd g (Int32.not_lt.mpr ?_)
    rw [e]; exact nI_pos' (by omega)
  conv => whnf
  refine ⟨fun g2 => ?_, fun g2 => ?_⟩
  · conv => whnf
    refine h0 fun a b c c2 e e2 => absurd g2 (Int32.not_le.mpr ?_)
    rw [e]; exact nI_lt (b := 8) c (by decide)
  obtain ⟨f', hf, ef⟩ := isIn_nat (b := 7) (by decide) (Int32.not_lt.mp g) (by
    have h7 := Int32.not_le.mp g2
    rw [Int32.lt_iff_toInt_lt] at h7
    rw [Int32.le_iff_toInt_le]
    have e8 : (8 : Int32).toInt = 8 := rfl
    have e7 : (nI 7).toInt = 7 := rfl
    omega)
  subst ef
  conv => whnf
  refine ⟨fun g3 => ?_, fun g3 => ?_⟩
  · conv => whnf
    refine h0 fun a b c c2 e e2 => absurd g3 (Int32.not_lt.mpr ?_)
    rw [e2]; exact nI_pos' (by omega)
  conv => whnf
  refine ⟨fun g4 => ?_, fun g4 => ?_⟩
  rotate_left
  · conv => whnf
    refine h0 fun a b c c2 e e2 => g4 ?_
    rw [e2]; exact nI_le (b := 4) c2 (by decide)
  obtain ⟨q', hq, eq⟩ := isIn_nat (b := 4) (by decide) (Int32.not_lt.mp g3) g4
  subst eq
  have r := fun I' J' v => h1 f' q' I' J' v (by omega) hq rfl rfl
  conv => whnf
  refine hC _ _ _ _ _ _ _ _ _ _ (fun _ _ _ _ _ _ q => q) (ct_gather hp ht (by omega) h5 h6 h8 eM er hr hM9 (fun g J' k4 k5 k6 kJ => ?_))
  conv => whnf
  have hex : ∃ x, x ≤ M ∧ sr w f' (w 8).toNatClampNeg x := by
    obtain ⟨x, hx⟩ := sr_ex (w := w) (f := f') (w 8).toNatClampNeg
    exact ⟨x, by rw [← eM]; exact sr_le ht.2.2 hx, hx⟩
  have hfr : fr [35] I (z_row I 35 g) := fun b hb => z_row_n _ _ (by simp only [List.mem_cons, List.not_mem_nil, or_false] at hb; exact hb)
  have r' := fun v (h : spA w f' q' v) => r (z_row I 35 g) J' v h hfr
  have h5' : z_row I 35 g 1 5 = nI M := by rw [z_row_n _ _ (by decide)]; exact h5
  have k4' : z_row I 35 g 35 4 = nI (M / 64 + 1) := by rw [z_row_s]; exact k4
  have mm := nI_toInt (n := M) (by omega)
  have c5 : q' = 0 ∨ q' = 1 ∨ q' = 2 ∨ q' = 3 ∨ q' = 4 := by omega
  rcases c5 with e | e | e | e | e <;> subst e
  · refine hK _ _ _ _ _ _ _ _ _ _ (z_WP_ts 64 rfl (by decide) ?_)
    refine z_WP_gos [] 1000 fun K C hK hC => ?_
    conv => whnf
    rw [h5']
    refine hC _ _ _ _ _ _ _ _ _ _ (fun _ _ _ _ _ _ q => q) (ct_howMany k4' (by omega) (by omega) (by omega) kJ ?_)
    conv => whnf
    refine r' _ ?_
    unfold spA
    simp only []
    rw [eM, mm, cntP_cut (N := M + 1) (by omega) fun t ht => ?_]
    constructor
    · rintro ⟨a, b⟩; exact ⟨a, by omega⟩
    · rintro ⟨a, b⟩; exact ⟨a, by omega⟩
  · refine hK _ _ _ _ _ _ _ _ _ _ (z_WP_ts 79 rfl (by decide) ?_)
    refine z_WP_gos [] 1000 fun K C hK hC => ?_
    conv => whnf
    rw [h5']
    refine hC _ _ _ _ _ _ _ _ _ _ (fun _ _ _ _ _ _ q => q) (ct_least hM9 (by omega) kJ hex (fun t a b c => ?_))
    conv => whnf
    exact r' _ ⟨t, rfl, by rw [eM]; exact a, b, c⟩
  · refine hK _ _ _ _ _ _ _ _ _ _ (z_WP_ts 94 rfl (by decide) ?_)
    refine z_WP_gos [] 1000 fun K C hK hC => ?_
    conv => whnf
    rw [h5']
    refine hC _ _ _ _ _ _ _ _ _ _ (fun _ _ _ _ _ _ q => q) (ct_grst hM9 (by omega) kJ hex (fun t a b c => ?_))
    conv => whnf
    exact r' _ ⟨t, rfl, by rw [eM]; exact a, b, by rw [eM]; exact c⟩
  · refine hK _ _ _ _ _ _ _ _ _ _ (z_WP_ts 109 rfl (by decide) ?_)
    refine z_WP_gos [] 1000 fun K C hK hC => ?_
    conv => whnf
    rw [z_row_s]
    exact r' _ k5
  · refine hK _ _ _ _ _ _ _ _ _ _ (z_WP_ts 117 rfl (by decide) ?_)
    refine z_WP_gos [] 1000 fun K C hK hC => ?_
    conv => whnf
    rw [h5', z_row_s, k6]
    have hl := ldu_le (f := f') ht.2.2
    have hs := sub_nI (dm := ldu w f' (w 8).toNatClampNeg) hM9 hl
    have r4 := r' (nI (cntP (sr w f' (w 8).toNatClampNeg) (M + 1 - ldu w f' (w 8).toNatClampNeg))) (by unfold spA; simp only []; rw [eM])
    generalize ldu w f' (w 8).toNatClampNeg = dm at *
    refine hC _ _ _ _ _ _ _ _ _ _ (fun _ _ _ _ _ _ q => q) (ct_howMany k4' (by omega) (by rw [hs]; omega) (by rw [hs]; omega) kJ ?_)
    conv => whnf
    rw [hs, cntP_cut (N := M + 1 - dm) (by omega) fun t ht => ?_]
    · exact r4
    · constructor
      · rintro ⟨a, b⟩; exact ⟨a, by omega⟩
      · rintro ⟨a, b⟩; exact ⟨a, by omega⟩
end
