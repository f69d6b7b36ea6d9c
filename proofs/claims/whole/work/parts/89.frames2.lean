/-! frames, in both: the calls -/
section
variable {L : Nat} {xs : Nat → Int32} {d : Nat} {kp sp wd : Value} {I : z_I} {s : z_sg} {R : z_R} {J : z_J} {F : z_F} {cn : Nat} {Q : z_Q} {n k : Nat}
theorem fms_oF {B ln f c : Nat} (h : oF s B ln f c) (hB : B + 200000 < 2 ^ 29) (hf : f ≤ 9999) : ∀ j, j ≤ 60 → ∃ ln' c', ln' ≤ ln + 24 * j ∧ oF (m_fms j s) (B + 2300 * j) ln' (f + j) c'
  | 0, _ => ⟨ln, c, by omega, by rw [Nat.mul_zero, Nat.add_zero, Nat.add_zero]; exact h⟩
  | j + 1, hj => by
    obtain ⟨ln', c', a, b⟩ := fms_oF h hB hf j (by omega)
    obtain ⟨ln'', c'', x, y⟩ := once_oF b (by omega) (by omega)
    exact ⟨ln'', c'', by omega, by rw [show B + 2300 * (j + 1) = B + 2300 * j + 2300 by omega]; exact y⟩
theorem lp_fms {B ln f c N : Nat} (h : oF s B ln f c) (hB : B + 200000 < 2 ^ 29) (hln : ln + 2000 < 2 ^ 30) (hf : f ≤ 9999) (hN : N ≤ 60) (hQ : Q none (z_ms I (m_fms N s)) (z_R0 kp sp wd) J F cn) :
    ∀ j i, i + j = N → z_WP (z_X0 L xs) z_P0 (d + 11) m_Mod_framesOf 17 [some (.ref 40), some (.int (nI N)), some (.int (nI i))] [] (z_ms I (m_fms i s)) (z_R0 kp sp wd) J F cn 0 0 Q := by
  intro j
  induction j with
  | zero =>
    intro i hi
    obtain rfl : i = N := by omega
    generalize m_fms i s = z at *
    refine z_WP_gos [17] 1000 fun K C hK hC => ?_
    conv => whnf
    refine ⟨fun _ => ?_, fun h => absurd (Int32.le_refl _) h⟩
    conv => whnf
    exact hQ
  | succ j ih =>
    intro i hi
    have ih' := ih (i + 1) (by omega)
    have e1 : m_fms (i + 1) s = m_once (m_fms i s) := rfl
    rw [e1] at ih'
    obtain ⟨ln', c', a, b⟩ := fms_oF h hB hf i (by omega)
    generalize m_fms i s = z at *
    refine z_WP_gos [17] 1000 fun K C hK hC => ?_
    conv => whnf
    refine ⟨fun h => absurd h (nI_ge (by omega) (by omega)), fun _ => ?_⟩
    conv => whnf
    refine hC _ _ _ _ _ _ _ _ _ _ (fun _ _ _ _ _ _ q => q) (sp_goesOnce (s := z) b (by omega) (by omega) ?_)
    conv => whnf
    rw [show nI i + 1 = nI (i + 1) from nI_1 _]
    refine hK _ _ _ _ _ _ _ _ _ _ (ih')
theorem zero_oF {B ln f c : Nat} (h : oF s B ln f c) : oF (m_zero s) B ln f c := h
theorem sp_framesOf {B ln f c N : Nat} (h : oF s B ln f c) (hB : B + 200000 < 2 ^ 29) (hln : ln + 2000 < 2 ^ 30) (hf : f ≤ 9999) (hN : N ≤ 60) (hQ : Q none (z_ms I (m_fms N (m_zero s))) (z_R0 kp sp wd) J F cn) : z_M (z_X0 L xs) z_P0 (d + 11) m_Mod_framesOf [.ref 40, .int (nI N)] (z_ms I s) (z_R0 kp sp wd) J F cn Q := by
  have lp := lp_fms (d := d) (L := L) (xs := xs) (s := m_zero s) (zero_oF h) hB hln hf hN hQ N 0 (by omega)
  have e0 : m_fms 0 (m_zero s) = m_zero s := rfl
  rw [e0] at lp
  obtain ⟨ff, w, y⟩ := s
  unfold m_zero m_f at lp
  simp only at lp
  refine z_WP_gos [17] 1000 fun K C hK hC => ?_
  conv => whnf
  simp (disch := omega) only [z_lit, nI_add, pk_mul, z_pr1, z_pr2, nI_clamp, z_m3_40, z_m3_41, z_m3_44, z_m3_u40, z_m3_u41, z_m3_u44, z_m3_m3, pk_us, pk_un]
  refine hK _ _ _ _ _ _ _ _ _ _ (lp)
theorem sp_frame {B ln f c : Nat} {v : Int32} (h : oF s B ln f c) (hB : B + 200000 < 2 ^ 29) (hln : ln + 2000 < 2 ^ 30) (hf : f ≤ 9999)
    (h1 : ∀ N, v = nI N → 1 ≤ N → N ≤ 60 → f + N ≤ 9999 → Q (some (.int ((m_fms N (m_zero s)).1 30))) (z_ms I (m_fms N (m_zero s))) (z_R0 kp sp wd) J F cn) (h0 : (∀ N, v = nI N → 1 ≤ N → N ≤ 60 → ¬ f + N ≤ 9999) → Q (some (.int (-1))) (z_ms I s) (z_R0 kp sp wd) J F cn) :
    z_M (z_X0 L xs) z_P0 (d + 12) m_Mod_frame [.ref 40, .int v] (z_ms I s) (z_R0 kp sp wd) J F cn Q := by
  have h2 := h.2.2.2.1
  refine z_WP_gos [] 1000 fun K C hK hC => ?_
  conv => whnf
  refine hC _ _ _ _ _ _ _ _ _ _ (fun _ _ _ _ _ _ q => q) (sp_Mod_isIn (fun a c => ?_) (fun a => ?_))
  conv => whnf
  · obtain ⟨N, hN, eN⟩ := isIn_nat (b := 60) (by decide) (Int32.le_trans (by decide) a) c
    subst eN
    have hN1 : 1 ≤ N := by
      apply Nat.le_of_not_lt; intro z
      exact nI_ge (a := N) (b := 1) z (by decide) a
    repeat ((first | refine And.intro (by (conv => arg 2; whnf); (try simp only [z_lit, nI_add, pk_mul, z_pr1, z_pr2]); exact z_in (by omega) (by decide)) ?_ | refine z_bt1 (by decide) ?_ | refine z_bf1 (by decide) ?_ | refine z_bt2 (by decide) ?_ | refine z_bf2 (by decide) ?_); conv => whnf)
    simp (disch := omega) only [z_lit, nI_add, pk_mul, z_pr1, z_pr2, nI_clamp, z_m3_40, z_m3_41, z_m3_44, z_m3_u40, z_m3_u41, z_m3_u44, z_m3_m3, pk_us, pk_un]
    rw [h2, nI_add]
    refine ⟨fun g => ?_, fun g => ?_⟩
    · have hle : f + N ≤ 9999 := by
        apply Nat.le_of_not_lt; intro z
        exact nI_ge (a := 9999) (b := f + N) z (by omega) g
      conv => whnf
      refine hC _ _ _ _ _ _ _ _ _ _ (fun _ _ _ _ _ _ q => q) (sp_framesOf (s := s) h hB hln hf hN ?_)
      conv => whnf
      have q := h1 N rfl hN1 hN hle
      generalize m_fms N (m_zero s) = z at *
      simp (disch := omega) only [z_lit, nI_add, pk_mul, z_pr1, z_pr2, nI_clamp, z_m3_40, z_m3_41, z_m3_44, z_m3_u40, z_m3_u41, z_m3_u44, z_m3_m3, pk_us, pk_un]
      exact q
    · conv => whnf
      refine h0 (fun x y z1 z2 z3 => g ?_)
      have : N = x := nI_inj9 (by omega) (by omega) y
      subst this
      exact nI_le (b := 9999) z3 (by decide)
  · repeat ((first | refine And.intro (by (conv => arg 2; whnf); (try simp only [z_lit, nI_add, pk_mul, z_pr1, z_pr2]); exact z_in (by omega) (by decide)) ?_ | refine z_bt1 (by decide) ?_ | refine z_bf1 (by decide) ?_ | refine z_bt2 (by decide) ?_ | refine z_bf2 (by decide) ?_); conv => whnf)
    refine h0 (fun x y z1 z2 z3 => absurd ?_ a)
    rw [y]
    exact ⟨nI_le (a := 1) z1 (by omega), nI_le (b := 60) z2 (by decide)⟩
end
