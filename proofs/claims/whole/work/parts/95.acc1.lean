/-! what may be asked: events -/
def evq (w : Nat → Int32) (i q : Int32) (i' q' : Nat) : Prop := i = nI i' ∧ i' < (w 2764).toNatClampNeg ∧ q = nI q' ∧ q' < 4
section
variable {L : Nat} {xs : Nat → Int32} {d : Nat} {kp sp wd : Value} {I : z_I} {s : z_sg} {R : z_R} {J : z_J} {F : z_F} {cn : Nat} {Q : z_Q} {n k : Nat}
theorem sp_event {i q : Int32} (he : ev_ok s.2.1) (h1 : ∀ i' q', evq s.2.1 i q i' q' → Q (some (.int (s.2.1 (2765 + 4 * i' + q')))) (z_ms I s) (z_R0 kp sp wd) J F cn) (h0 : (∀ i' q', ¬ evq s.2.1 i q i' q') → Q (some (.int (-1))) (z_ms I s) (z_R0 kp sp wd) J F cn) :
    z_M (z_X0 L xs) z_P0 (d + 1) m_Mod_event [.ref 40, .int i, .int q] (z_ms I s) (z_R0 kp sp wd) J F cn Q := by
  obtain ⟨e1, e2, -⟩ := he
  obtain ⟨ff, w, y⟩ := s
  unfold evq at h1 h0
  simp only at e1 e2 h1 h0
  generalize (w 2764).toNatClampNeg = ne at e1 e2 h1 h0
  have t9 : ∀ ne, ne ≤ 24 → ∀ i', i' ≤ 24 → (nI i' ≤ nI ne - 1 ↔ i' < ne) := by decide
  have t8 : ∀ ne, ne ≤ 24 → nI ne - 1 ≤ nI 24 := by decide
  refine z_WP_gos [] 1000 fun K C hK hC => ?_
  conv => whnf
  repeat ((first | refine And.intro (by (conv => arg 2; whnf); (try simp only [z_lit, nI_add, pk_mul, z_pr1, z_pr2]); exact z_in (by omega) (by decide)) ?_ | refine z_bt1 (by decide) ?_ | refine z_bf1 (by decide) ?_ | refine z_bt2 (by decide) ?_ | refine z_bf2 (by decide) ?_); conv => whnf)
  simp (disch := omega) only [z_lit, nI_add, pk_mul, z_pr1, z_pr2, nI_clamp, z_m3_40, z_m3_41, z_m3_44, z_m3_u40, z_m3_u41, z_m3_u44, z_m3_m3, pk_us, pk_un]
  rw [e1]
  refine hC _ _ _ _ _ _ _ _ _ _ (fun _ _ _ _ _ _ q => q) (sp_Mod_isIn (fun x1 x2 => ?_) (fun x => ?_))
  conv => whnf
  · obtain ⟨i', hi, ei⟩ := isIn_nat (b := 24) (by decide) x1 (Int32.le_trans x2 (t8 ne e2))
    subst ei
    have hlt := (t9 ne e2 i' hi).mp x2
    repeat ((first | refine And.intro (by (conv => arg 2; whnf); (try simp only [z_lit, nI_add, pk_mul, z_pr1, z_pr2]); exact z_in (by omega) (by decide)) ?_ | refine z_bt1 (by decide) ?_ | refine z_bf1 (by decide) ?_ | refine z_bt2 (by decide) ?_ | refine z_bf2 (by decide) ?_); conv => whnf)
    refine hC _ _ _ _ _ _ _ _ _ _ (fun _ _ _ _ _ _ q => q) (sp_Mod_isIn (fun y1 y2 => ?_) (fun z => ?_))
    conv => whnf
    · obtain ⟨q', hq, eq⟩ := isIn_nat (b := 3) (by decide) y1 y2
      subst eq
      have r := h1 i' q' ⟨rfl, hlt, rfl, by omega⟩
      repeat ((first | refine And.intro (by (conv => arg 2; whnf); (try simp only [z_lit, nI_add, pk_mul, z_pr1, z_pr2]); exact z_in (by omega) (by decide)) ?_ | refine z_bt1 (by decide) ?_ | refine z_bf1 (by decide) ?_ | refine z_bt2 (by decide) ?_ | refine z_bf2 (by decide) ?_); conv => whnf)
      simp (disch := omega) only [z_lit, nI_add, pk_mul, z_pr1, z_pr2, nI_clamp, z_m3_40, z_m3_41, z_m3_44, z_m3_u40, z_m3_u41, z_m3_u44, z_m3_m3, pk_us, pk_un]
      exact r
    · repeat ((first | refine And.intro (by (conv => arg 2; whnf); (try simp only [z_lit, nI_add, pk_mul, z_pr1, z_pr2]); exact z_in (by omega) (by decide)) ?_ | refine z_bt1 (by decide) ?_ | refine z_bf1 (by decide) ?_ | refine z_bt2 (by decide) ?_ | refine z_bf2 (by decide) ?_); conv => whnf)
      refine h0 fun a b h => z ?_
      rw [h.2.2.1]; have := h.2.2.2
      exact ⟨nI_pos' (by omega), nI_le (b := 3) (by omega) (by decide)⟩
  · repeat ((first | refine And.intro (by (conv => arg 2; whnf); (try simp only [z_lit, nI_add, pk_mul, z_pr1, z_pr2]); exact z_in (by omega) (by decide)) ?_ | refine z_bt1 (by decide) ?_ | refine z_bf1 (by decide) ?_ | refine z_bt2 (by decide) ?_ | refine z_bf2 (by decide) ?_); conv => whnf)
    refine h0 fun a b h => x ?_
    rw [h.1]; have := h.2.1
    exact ⟨nI_pos' (by omega), (t9 ne e2 a (by omega)).mpr this⟩
theorem cb_event {i q : Int32} {w : Nat → Int32} (he : ev_ok w) (hs : scR I w) (h1 : ∀ i' q', evq w i q i' q' → Q (some (.int (w (2765 + 4 * i' + q')))) I (z_R0 kp sp wd) J F cn) (h0 : (∀ i' q', ¬ evq w i q i' q') → Q (some (.int (-1))) I (z_R0 kp sp wd) J F cn) :
    z_M (z_X0 L xs) z_P0 (d + 1) m_Bus_event [.ref 0, .int i, .int q] I (z_R0 kp sp wd) J F cn Q := by
  obtain ⟨e1, e2, -⟩ := he
  obtain ⟨s1, s2⟩ := hs
  rw [e1] at s1
  unfold evq at h1 h0
  generalize (w 2764).toNatClampNeg = ne at *
  refine z_WP_gos [] 1000 fun K C hK hC => ?_
  conv => whnf
  refine ⟨fun g => ?_, fun g => ?_⟩
  · conv => whnf
    refine h0 fun a b h => absurd g (Int32.not_lt.mpr ?_)
    rw [h.1]; have := h.2.1; exact nI_pos' (by omega)
  conv => whnf
  rw [s1]
  refine ⟨fun g2 => ?_, fun g2 => ?_⟩
  · conv => whnf
    refine h0 fun a b h => ?_
    rw [h.1] at g2; exact nI_ge h.2.1 (by omega) g2
  have hle := Int32.le_of_lt (Int32.not_le.mp g2)
  obtain ⟨i', hi, ei⟩ := isIn_nat (b := ne) (by omega) (Int32.not_lt.mp g) hle
  subst ei
  have hlt : i' < ne := by
    rcases Nat.lt_or_eq_of_le hi with z | z
    · exact z
    · rw [z] at g2; exact absurd (Int32.le_refl _) g2
  conv => whnf
  refine ⟨fun g3 => ?_, fun g3 => ?_⟩
  · conv => whnf
    refine h0 fun a b h => absurd g3 (Int32.not_lt.mpr ?_)
    rw [h.2.2.1]; have := h.2.2.2; exact nI_pos' (by omega)
  conv => whnf
  refine ⟨fun g4 => ?_, fun g4 => ?_⟩
  · obtain ⟨q', hq, eq⟩ := isIn_nat (b := 4) (by decide) (Int32.not_lt.mp g3) (Int32.le_of_lt g4)
    subst eq
    have hq4 : q' < 4 := by
      rcases Nat.lt_or_eq_of_le hq with z | z
      · exact z
      · rw [z] at g4; exact absurd g4 (by decide)
    have r := h1 i' q' ⟨rfl, hlt, rfl, hq4⟩
    have e := s2 (i' * 4 + q') (by omega)
    rw [show 2765 + (i' * 4 + q') = 2765 + 4 * i' + q' by omega] at e
    conv => whnf
    repeat ((first | refine And.intro (by (conv => arg 2; whnf); (try simp only [z_lit, nI_add, pk_mul, z_pr1, z_pr2]); exact z_in (by omega) (by decide)) ?_ | refine z_bt1 (by decide) ?_ | refine z_bf1 (by decide) ?_ | refine z_bt2 (by decide) ?_ | refine z_bf2 (by decide) ?_); conv => whnf)
    simp (disch := omega) only [z_lit, nI_add, pk_mul, z_pr1, z_pr2, nI_clamp, z_up_row, z_row_s, z_row_n, z_row_row, pk_us, pk_un]
    rw [e]
    exact r
  · conv => whnf
    refine h0 fun a b h => g4 ?_
    rw [h.2.2.1]; exact nI_lt (b := 4) h.2.2.2 (by decide)
end
