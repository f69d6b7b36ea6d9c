/-! the table is taken over, whole -/
def r0R (r w : Nat → Int32) : Prop := ∀ i, i < (w 8).toNatClampNeg → r (i * 11 + 0) = nI (lnn w i 0) ∧ r (i * 11 + 1) = nI (lnn w i 1) ∧ r (i * 11 + 2) = nI (lnn w i 2) ∧ r (i * 11 + 3) = nI (lnn w i 4) ∧ r (i * 11 + 4) = nI (lnn w i 5) ∧ r (i * 11 + 5) = nI (l_n w i) ∧ r (i * 11 + 6) = nI (lnn w i 6) ∧ r (i * 11 + 7) = nI (lnn w i 7) ∧ r (i * 11 + 8) = nI (lnn w i 9) ∧ r (i * 11 + 9) = nI (lnn w i 8)
theorem r0R_c {r r' w : Nat → Int32} (h : r0R r w) (e : ∀ i, i < (w 8).toNatClampNeg → ∀ f, f < 10 → r' (i * 11 + f) = r (i * 11 + f)) : r0R r' w := fun i hi => by
  rw [e i hi 0 (by omega), e i hi 1 (by omega), e i hi 2 (by omega), e i hi 3 (by omega), e i hi 4 (by omega), e i hi 5 (by omega), e i hi 6 (by omega), e i hi 7 (by omega), e i hi 8 (by omega), e i hi 9 (by omega)]
  exact h i hi
section
variable {L : Nat} {xs : Nat → Int32} {d : Nat} {kp sp wd : Value} {I : z_I} {s : z_sg} {R : z_R} {J : z_J} {F : z_F} {cn : Nat} {Q : z_Q} {n k : Nat}
theorem cp_timeOf {w : Nat → Int32} {i : Nat} (hi : i < 24) (ho : ln_ok w i) (e0 : I 19 (i * 11 + 0) = nI (lnn w i 0)) (e5 : I 19 (i * 11 + 5) = nI (l_n w i)) (hQ : Q (some (.int (nI (s_time w i)))) I (z_R0 kp sp wd) J F cn) : z_M (z_X0 L xs) z_P0 (d + 1) m_Plan_timeOf [.ref 18, .int (nI i)] I (z_R0 kp sp wd) J F cn Q := by
  have hk := ho.2.1
  have h3 := ho.2.2.2.2.2.2.1
  have h10 := ho.2.2.2.2.2.2.2.2.2.2.2.2.2.2.2.1
  unfold s_time at hQ
  unfold l_n at e5
  refine z_WP_gos [13] 1000 fun K C hK hC => ?_
  conv => whnf
  refine hC _ _ _ _ _ _ _ _ _ _ (fun _ _ _ _ _ _ q => q) (cp_told (f := 5) hi (by omega) e5 ?_)
  conv => whnf
  refine hC _ _ _ _ _ _ _ _ _ _ (fun _ _ _ _ _ _ q => q) (cp_told (f := 0) hi (by omega) e0 ?_)
  conv => whnf
  have hk' : lnn w i 0 = 0 ∨ lnn w i 0 = 1 ∨ lnn w i 0 = 2 ∨ lnn w i 0 = 3 ∨ lnn w i 0 = 4 ∨ lnn w i 0 = 5 := by omega
  rcases hk' with z | z | z | z | z | z <;> rw [z] at hQ ⊢ <;> simp only at hQ
  · refine hK _ _ _ _ _ _ _ _ _ _ (z_WP_ts 44 rfl (by decide) ?_)
    refine z_WP_gos [] 1000 fun K C hK hC => ?_
    conv => whnf
    simp (disch := omega) only [z_lit, nI_add, pk_mul, z_pr1, z_pr2, nI_clamp, z_up_row, z_row_s, z_row_n, z_row_row, pk_us, pk_un]
    exact hQ
  · refine hK _ _ _ _ _ _ _ _ _ _ (z_WP_ts 52 rfl (by decide) ?_)
    refine z_WP_gos [] 1000 fun K C hK hC => ?_
    conv => whnf
    simp (disch := omega) only [z_lit, nI_add, pk_mul, z_pr1, z_pr2, nI_clamp, z_up_row, z_row_s, z_row_n, z_row_row, pk_us, pk_un]
    exact hQ
  · refine hK _ _ _ _ _ _ _ _ _ _ (z_WP_ts 60 rfl (by decide) ?_)
    refine z_WP_gos [] 1000 fun K C hK hC => ?_
    conv => whnf
    simp (disch := omega) only [z_lit, nI_add, pk_mul, z_pr1, z_pr2, nI_clamp, z_up_row, z_row_s, z_row_n, z_row_row, pk_us, pk_un]
    exact hQ
  · refine hK _ _ _ _ _ _ _ _ _ _ (z_WP_ts 68 rfl (by decide) ?_)
    refine z_WP_gos [] 1000 fun K C hK hC => ?_
    conv => whnf
    simp (disch := omega) only [z_lit, nI_add, pk_mul, z_pr1, z_pr2, nI_clamp, z_up_row, z_row_s, z_row_n, z_row_row, pk_us, pk_un]
    exact hQ
  · refine hK _ _ _ _ _ _ _ _ _ _ (z_WP_ts 76 rfl (by decide) ?_)
    refine z_WP_gos [] 1000 fun K C hK hC => ?_
    conv => whnf
    rw [if_pos rfl]
    refine ⟨fun g => ?_, fun g => ?_⟩
    · have g' : lnn w i 10 < 16 := (nI_ltI (b := 16) (by omega) (by omega)).mp g
      rw [if_neg (by omega)] at hQ
      conv => whnf
      exact hQ
    · have g' : 16 ≤ lnn w i 10 := by
        rcases Nat.lt_or_ge (lnn w i 10) 16 with y | y
        · exact absurd (nI_lt (b := 16) y (by omega)) g
        · exact y
      conv => whnf
      refine ⟨fun g2 => ?_, fun g2 => ?_⟩
      · have g2' : 19 < lnn w i 10 := (nI_ltI (a := 19) (by omega) (by omega)).mp g2
        rw [if_neg (by omega)] at hQ
        conv => whnf
        exact hQ
      · have g2' : lnn w i 10 ≤ 19 := by
          rcases Nat.lt_or_ge 19 (lnn w i 10) with y | y
          · exact absurd (nI_lt (a := 19) y (by omega)) g2
          · exact y
        rw [if_pos ⟨g', g2'⟩] at hQ
        conv => whnf
        exact hQ
  · refine hK _ _ _ _ _ _ _ _ _ _ (z_WP_ts 76 rfl (by decide) ?_)
    refine z_WP_gos [] 1000 fun K C hK hC => ?_
    conv => whnf
    rw [if_neg (by decide), if_pos rfl]
    repeat ((first | refine And.intro (by (conv => arg 2; whnf); (try simp only [z_lit, nI_add, pk_mul, z_pr1, z_pr2]); exact z_in (by omega) (by decide)) ?_ | refine z_bt1 (by decide) ?_ | refine z_bf1 (by decide) ?_ | refine z_bt2 (by decide) ?_ | refine z_bf2 (by decide) ?_); conv => whnf)
    exact hQ
theorem lp_adopt1 {w : Nat → Int32} {from' : Value} (ht : tb_ok w) (h5 : I 18 5 = w 8) (hQ : ∀ I', fr [19] I I' → pS I' w → z_WP (z_X0 L xs) z_P0 (d + 3) m_Plan_adopt 73 [some (.ref 18), some from', some (.int (nI (w 8).toNatClampNeg)), some (.int (nI (w 8).toNatClampNeg))] [] I' (z_R0 kp sp wd) J F cn 0 0 Q) :
    ∀ j k I', k + j = (w 8).toNatClampNeg → fr [19] I I' → r0R (I' 19) w → (∀ i, i < k → I' 19 (i * 11 + 10) = nI (s_time w i)) → z_WP (z_X0 L xs) z_P0 (d + 3) m_Plan_adopt 45 [some (.ref 18), some from', some (.int (nI (w 8).toNatClampNeg)), some (.int (nI k))] [] I' (z_R0 kp sp wd) J F cn 0 0 Q := by
  have h24 := ht.2.1
  intro j
  induction j with
  | zero =>
    intro k I' hk f r t
    have hk' : k = (w 8).toNatClampNeg := by omega
    rw [hk'] at t ⊢
    have p : pS I' w := by
      refine ⟨by rw [f 18 (by decide)]; exact h5, fun i hi => ?_⟩
      obtain ⟨b0, b1, b2, b3, b4, b5, b6, b7, b8, b9⟩ := r i hi
      exact ⟨b0, b1, b2, b3, b4, b5, b6, b7, b8, b9, t i hi⟩
    refine z_WP_gos [45, 73] 1000 fun K C hK hC => ?_
    conv => whnf
    refine ⟨fun _ => ?_, fun h => absurd (Int32.le_refl _) h⟩
    conv => whnf
    refine hK _ _ _ _ _ _ _ _ _ _ (hQ I' f p)
  | succ j ih =>
    intro k I' hk f r t
    have ho := ht.2.2 k (by omega)
    obtain ⟨b0, b1, b2, b3, b4, b5, b6, b7, b8, b9⟩ := r k (by omega)
    have ih' := fun I' => ih (k + 1) I' (by omega)
    refine z_WP_gos [45, 73] 1000 fun K C hK hC => ?_
    conv => whnf
    refine ⟨fun h => absurd h (nI_ge (by omega) (by omega)), fun _ => ?_⟩
    conv => whnf
    refine hC _ _ _ _ _ _ _ _ _ _ (fun _ _ _ _ _ _ q => q) (cp_timeOf (w := w) (by omega) ho b0 b5 ?_)
    conv => whnf
    repeat ((first | refine And.intro (by (conv => arg 2; whnf); (try simp only [z_lit, nI_add, pk_mul, z_pr1, z_pr2]); exact z_in (by omega) (by decide)) ?_ | refine z_bt1 (by decide) ?_ | refine z_bf1 (by decide) ?_ | refine z_bt2 (by decide) ?_ | refine z_bf2 (by decide) ?_); conv => whnf)
    simp (disch := omega) only [z_lit, nI_add, pk_mul, z_pr1, z_pr2, nI_clamp, z_up_row, z_row_s, z_row_n, z_row_row, pk_us, pk_un]
    refine hK _ _ _ _ _ _ _ _ _ _ (ih' _ (fr_w f (by decide)) (r0R_c r (fun i hi f hf => ?_)) (fun i hi => ?_))
    · rw [z_row_s, pk_un (by omega)]
    · rw [z_row_s]
      by_cases z : i = k
      · subst z; exact pk_us
      · rw [pk_un (by omega)]; exact t i (by omega)
theorem cp_adopt {w : Nat → Int32} (ht : tb_ok w) (hr : r0R (I 34) w)
    (hQ : ∀ I', fr [18, 19, 20, 21, 22, 23] I I' → (∀ j, j ≠ 5 → I' 18 j = I 18 j) → pS I' (phl (w 8).toNatClampNeg w) → hL I' → (∀ j, j < 192 → I' 20 j = nI 0) → (∀ j, j < 24 → I' 21 j = nI 0 ∧ I' 22 j = -1) → Q none I' (z_R0 kp sp wd) J F cn) :
    z_M (z_X0 L xs) z_P0 (d + 3) m_Plan_adopt [.ref 18, .ref 34, .int (nI (w 8).toNatClampNeg)] I (z_R0 kp sp wd) J F cn Q := by
  have h24 := ht.2.1
  have e1 := ht.1
  refine z_WP_gos [45] 1000 fun K C hK hC => ?_
  conv => whnf
  simp (disch := omega) only [z_lit, nI_add, pk_mul, z_pr1, z_pr2, nI_clamp, z_up_row, z_row_s, z_row_n, z_row_row, pk_us, pk_un]
  refine And.intro ⟨(by (try simp only [z_lit, nI_add, pk_mul]); exact nI_pos (by omega)), (by (try simp only [z_lit, nI_add, pk_mul]); exact nI_pos (by omega)), (by (try simp only [z_lit, nI_add, pk_mul]); exact nI_pos (by omega)), (by (try simp (disch := omega) only [z_lit, nI_clamp, nI_add, pk_mul]); exact (show _ ≤ (264 : Nat) by omega)), (by (try simp (disch := omega) only [z_lit, nI_clamp, nI_add, pk_mul]); exact (show _ ≤ (264 : Nat) by omega))⟩ ?_
  conv => whnf
  simp (disch := omega) only [z_lit, nI_add, pk_mul, z_pr1, z_pr2, nI_clamp, z_up_row, z_row_s, z_row_n, z_row_row, pk_us, pk_un]
  refine hC _ _ _ _ _ _ _ _ _ _ (fun _ _ _ _ _ _ q => q) (ca_fill20 ?_)
  conv => whnf
  refine hC _ _ _ _ _ _ _ _ _ _ (fun _ _ _ _ _ _ q => q) (ca_fill21 ?_)
  conv => whnf
  refine hC _ _ _ _ _ _ _ _ _ _ (fun _ _ _ _ _ _ q => q) (ca_fill22 ?_)
  conv => whnf
  have lp : ∀ I0 : z_I, fr [18, 19, 20, 21, 22] I I0 → I0 18 = upd (I 18) 5 (nI (w 8).toNatClampNeg) → (∀ j, j < (w 8).toNatClampNeg * 11 → I0 19 j = I 34 j) → (∀ j, j < 192 → I0 20 j = nI 0) → (∀ j, j < 24 → I0 21 j = nI 0 ∧ I0 22 j = -1) → z_WP (z_X0 L xs) z_P0 (d + 3) m_Plan_adopt 45 [some (.ref 18), some (.ref 34), some (.int (nI (w 8).toNatClampNeg)), some (.int (nI 0))] [] I0 (z_R0 kp sp wd) J F cn 0 0 Q := by
    intro I0 f0 h18 h19 h20 h21
    have h5 : I0 18 5 = w 8 := by rw [h18, pk_us]; exact e1.symm
    refine lp_adopt1 (I := I0) ht h5 (fun I1 f1 p1 => ?_) (w 8).toNatClampNeg 0 I0 (by omega) fr_r (r0R_c hr fun i hi f hf => h19 _ (by omega)) (fun i hi => by omega)
    refine z_WP_gos [83] 1000 fun K C hK hC => ?_
    conv => whnf
    refine hC _ _ _ _ _ _ _ _ _ _ (fun _ _ _ _ _ _ q => q) (cp_fixed23 p1 ht (fun r hr' => ?_))
    conv => whnf
    refine hK _ _ _ _ _ _ _ _ _ _ (lp_adopt3 (I := z_row I1 23 r) ht (fun I2 f2 p2 l2 => ?_) (w 8).toNatClampNeg 0 _ (by omega) fr_r (pS_c p1 (by rw [z_row_n _ _ (by decide)]) (z_row_n _ _ (by decide)) rfl h24 (fun _ _ _ _ => rfl)) (fun f hf => ?_))
    · have g : ∀ b, b ≠ 18 → b ≠ 19 → b ≠ 23 → I2 b = I0 b := fun b x y z => by
        rw [f2 b (by simp only [List.mem_cons, List.not_mem_nil, or_false, not_or]; omega), z_row_n _ _ z]
        exact f1 b (by simp only [List.mem_cons, List.not_mem_nil, or_false]; omega)
      have g18 : I2 18 = I0 18 := by rw [f2 18 (by decide), z_row_n _ _ (by decide)]; exact f1 18 (by decide)
      refine hQ I2 (fun b hb => ?_) (fun j hj => ?_) p2 l2 (fun j hj => ?_) (fun j hj => ?_)
      · simp only [List.mem_cons, List.not_mem_nil, or_false, not_or] at hb
        rw [g b (by omega) (by omega) (by omega)]
        exact f0 b (by simp only [List.mem_cons, List.not_mem_nil, or_false, not_or]; omega)
      · rw [g18, h18, pk_un hj]
      · rw [g 20 (by decide) (by decide) (by decide)]; exact h20 j hj
      · rw [g 21 (by decide) (by decide) (by decide), g 22 (by decide) (by decide) (by decide)]; exact h21 j hj
    · rw [z_row_s]; exact hr' f hf
  refine hK _ _ _ _ _ _ _ _ _ _ (lp _ (fun b hb => ?_) ?_ (fun j hj => ?_) (fun j hj => ?_) (fun j hj => ?_))
  · simp only [List.mem_cons, List.not_mem_nil, or_false, not_or] at hb
    rw [z_row_n _ _ (by omega), z_row_n _ _ (by omega), z_row_n _ _ (by omega), z_row_n _ _ (by omega)]
    exact z_row_n _ _ (by omega)
  · rw [z_row_n _ _ (by decide), z_row_n _ _ (by decide), z_row_n _ _ (by decide), z_row_s]
    rfl
  · rw [z_row_n _ _ (by decide), z_row_n _ _ (by decide), z_row_n _ _ (by decide), z_row_n _ _ (by decide)]
    show va_cpy (I 34) (I 19) 0 0 ((w 8).toNatClampNeg * 11) j = _
    rw [pk_cpy_in (by omega) (by omega), Nat.zero_add, Nat.sub_zero]
  · rw [z_row_n _ _ (by decide), z_row_n _ _ (by decide), z_row_s]
    exact fil_i hj
  · refine ⟨?_, ?_⟩
    · rw [z_row_n _ _ (by decide), z_row_s]
      exact fil_i hj
    · rw [z_row_s]
      exact fil_i hj
end
