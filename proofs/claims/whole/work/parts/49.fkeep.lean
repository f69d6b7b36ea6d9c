/-! the class's fractions -/
theorem i_neg (b : Int32) : b < nI 0 ↔ 2147483648 ≤ b.toUInt32.toNat := by
  rw [Int32.lt_iff_toInt_lt]
  show b.toBitVec.toInt < 0 ↔ _
  rw [BitVec.toInt_neg_iff]
  show 2 ^ 32 ≤ 2 * b.toUInt32.toNat ↔ _
  omega
theorem nI_or23 {a : Nat} (h : a < 8388608) : nI a ||| nI 8388608 = nI (8388608 + a) := by
  have e : (8388608 : Nat) + a = a ||| 8388608 := by
    have := Nat.two_pow_add_eq_or_of_lt (i := 23) (b := a) h 1
    rw [Nat.or_comm] at this
    simpa using this
  rw [e]
  apply Int32.toBitVec_inj.mp
  rw [Int32.toBitVec_or]
  apply BitVec.eq_of_toNat_eq
  rw [BitVec.toNat_or, pk_tn (by omega), pk_tn (by omega), pk_tn (by omega)]
/-- a tame one's parts -/
theorem f_parts {b : Int32} (h : s_tame b = true) (h0 : ¬ b = nI 0) : 64 ≤ b.toUInt32.toNat / 8388608 % 256 ∧ b.toUInt32.toNat / 8388608 % 256 ≤ 149 ∧ fv b.toUInt32 = .fin (decide (2147483648 ≤ b.toUInt32.toNat)) (8388608 + b.toUInt32.toNat % 8388608) ((b.toUInt32.toNat / 8388608 % 256 : Nat) - 150 : Int) := by
  unfold s_tame at h
  rw [f_expn, decide_eq_false h0, Bool.false_or] at h
  have hlt : b.toUInt32.toNat / 8388608 % 256 < 256 := Nat.mod_lt _ (by decide)
  have hx : b.toUInt32.toNat < 2 ^ 32 := b.toUInt32.toNat_lt
  simp only [Bool.and_eq_true, decide_eq_true_eq] at h
  obtain ⟨h1, h2⟩ := h
  rw [nI_leI (by omega) (by omega)] at h1 h2
  refine ⟨h1, h2, ?_⟩
  unfold fv
  rw [f_dec, if_neg (by omega), if_neg (by omega)]
  congr 1
  · by_cases z : 2147483648 ≤ b.toUInt32.toNat
    · rw [decide_eq_true z, show b.toUInt32.toNat / 8388608 / 256 % 2 = 1 by omega]; rfl
    · rw [decide_eq_false z, show b.toUInt32.toNat / 8388608 / 256 % 2 = 0 by omega]; rfl
  · omega
section
variable {L : Nat} {xs : Nat → Int32} {d : Nat} {kp sp wd : Value} {I : z_I} {s : z_sg} {R : z_R} {J : z_J} {F : z_F} {cn : Nat} {Q : z_Q} {n k bus : Nat} {f0 : Int32}
theorem cf_isTame {b : Int32} (hQ : Q (some (.int (z_bi (s_tame b)))) I R J F cn) : z_M (z_X0 L xs) z_P0 d m_Fraction_isTame [.int b] I R J F cn Q := by
  unfold s_tame at hQ
  refine z_WP_gos [] 1000 fun K C hK hC => ?_
  conv => whnf
  refine ⟨fun h => ?_, fun h => ?_⟩ <;> (try simp (disch := omega) only [z_lit, nI_add, pk_mul, z_pr1, z_pr2, nI_clamp, z_up_row, z_row_s, z_row_n, z_row_row, pk_us, pk_un] at h) <;> (conv => whnf)
  · exact z_Q1 hQ (by rw [h]; rfl)
  · rw [decide_eq_false h, Bool.false_or] at hQ
    refine ⟨fun g => ?_, fun g => ?_⟩
    · conv => whnf
      exact z_Q0 hQ (by rw [show decide (nI 64 ≤ s_exp b) = false from decide_eq_false (Int32.not_le.mpr g)]; rfl)
    · conv => whnf
      have g' : nI 64 ≤ s_exp b := Int32.not_lt.mp g
      rw [decide_eq_true g', Bool.true_and] at hQ
      refine ⟨fun e => ?_, fun e => ?_⟩
      · conv => whnf
        exact z_Q0 hQ (decide_eq_false (Int32.not_le.mpr e))
      · conv => whnf
        exact z_Q1 hQ (decide_eq_true (Int32.not_lt.mp e))
theorem lp_ofTame {b : Int32} {c E : Nat} (hc : 8388608 ≤ c) (hE : 64 ≤ E) (hE2 : E ≤ 149) (hQ : ∀ v, fv v = .fin false c ((E : Int) - 150) → z_WP (z_X0 L xs) z_P0 d m_Fraction_ofTame 42 [some (.int b), some (.float v), some (.int (nI 150))] [] I R J F cn 0 0 Q) :
    ∀ j k v, k + j = 150 → E ≤ k → fv v = .fin false c ((E : Int) - k) → z_WP (z_X0 L xs) z_P0 d m_Fraction_ofTame 24 [some (.int b), some (.float v), some (.int (nI k))] [] I R J F cn 0 0 Q := by
  intro j
  induction j with
  | zero =>
    intro k v hk h1 hv
    obtain rfl : k = 150 := by omega
    refine z_WP_gos [24, 42] 1000 fun K C hK hC => ?_
    conv => whnf
    refine ⟨fun _ => ?_, fun h => absurd (by decide) h⟩
    conv => whnf
    refine hK _ _ _ _ _ _ _ _ _ _ (hQ v hv)
  | succ j ih =>
    intro k v hk h1 hv
    have h := f_half hv hc (by omega)
    refine z_WP_gos [24, 42] 1000 fun K C hK hC => ?_
    conv => whnf
    refine ⟨fun h => absurd h (nI_ge (a := k) (b := 150) (by omega) (by decide)), fun _ => ?_⟩
    conv => whnf
    refine ⟨f_nn h, ?_⟩
    conv => whnf
    rw [show nI k + 1 = nI (k + 1) from nI_1 k]
    refine hK _ _ _ _ _ _ _ _ _ _ (ih (k + 1) _ (by omega) (by omega) (by rw [h]; congr 1; omega))
theorem cf_ofTame {b : Int32} (ht : s_tame b = true) (hQ : Q (some (.float b.toUInt32)) I R J F cn) : z_M (z_X0 L xs) z_P0 d m_Fraction_ofTame [.int b] I R J F cn Q := by
  by_cases h0 : b = nI 0
  · subst h0
    refine z_WP_gos [] 1000 fun K C hK hC => ?_
    conv => whnf
    repeat ((first | refine And.intro (by (conv => arg 2; whnf); (try simp only [z_lit, nI_add, pk_mul, z_pr1, z_pr2]); exact z_in (by omega) (by decide)) ?_ | refine z_bt1 (by decide) ?_ | refine z_bf1 (by decide) ?_ | refine z_bt2 (by decide) ?_ | refine z_bf2 (by decide) ?_); conv => whnf)
    exact hQ
  · obtain ⟨p1, p2, p3⟩ := f_parts ht h0
    have hT : b.toUInt32.toNat % 8388608 < 8388608 := Nat.mod_lt _ (by decide)
    have e1 : b &&& nI 8388607 = nI (b.toUInt32.toNat % 8388608) := pk_and b 23 (by decide)
    have e2 := f_expn b
    unfold s_exp at e2
    have hv := f_i2f (c := 8388608 + b.toUInt32.toNat % 8388608) (by omega) (by omega)
    refine z_WP_gos [24, 42] 1000 fun K C hK hC => ?_
    conv => whnf
    refine ⟨fun _ => ?_, fun h => absurd h h0⟩
    conv => whnf
    simp only [z_lit]
    rw [e1, nI_or23 hT, e2]
    refine hK _ _ _ _ _ _ _ _ _ _ ?_
    refine lp_ofTame (c := 8388608 + b.toUInt32.toNat % 8388608) (by omega) p1 p2 (fun v hv2 => ?_) (150 - b.toUInt32.toNat / 8388608 % 256) _ _ (by omega) (Nat.le_refl _) (by rw [hv]; congr 1; omega)
    refine z_WP_gos [] 1000 fun K C hK hC => ?_
    conv => whnf
    refine ⟨fun h => ?_, fun h => ?_⟩
    · have h' : ¬ 2147483648 ≤ b.toUInt32.toNat := fun z => absurd ((i_neg b).mpr z) (Int32.not_lt.mpr h)
      conv => whnf
      rw [decide_eq_false h'] at p3
      rw [f_eq hv2 p3]
      exact hQ
    · have h' : 2147483648 ≤ b.toUInt32.toNat := (i_neg b).mp (Int32.not_le.mp h)
      conv => whnf
      rw [decide_eq_true h'] at p3
      rw [f_eq (f_neg hv2) p3]
      exact hQ
theorem cf_smoothed {b v : Int32} (ht : s_tame b = true) (hs : s_safe b v) (hQ : Q (some (.float (s_cut (s_sum b.toUInt32 v.toUInt32)))) I R J F cn) : z_M (z_X0 L xs) z_P0 (d + 1) m_Fraction_smoothed [.float v.toUInt32, .int b] I R J F cn Q := by
  obtain ⟨-, -, s1, s2, s3, -⟩ := hs
  unfold s_sum at s3 hQ
  refine z_WP_gos [] 1000 fun K C hK hC => ?_
  conv => whnf
  refine hC _ _ _ _ _ _ _ _ _ _ (fun _ _ _ _ _ _ q => q) (cf_ofTame ht ?_)
  conv => whnf
  refine ⟨s1, ?_⟩
  conv => whnf
  refine ⟨s2, ?_⟩
  conv => whnf
  refine ⟨s3, ?_⟩
  conv => whnf
  unfold s_cut at hQ
  refine ⟨fun h => ?_, fun h => ?_⟩
  · conv => whnf
    simp only [z_lit] at h
    rw [if_pos (Or.inl h)] at hQ
    exact hQ
  · conv => whnf
    refine ⟨fun g => ?_, fun g => ?_⟩
    · conv => whnf
      simp only [z_lit] at g
      rw [if_pos (Or.inr g)] at hQ
      exact hQ
    · conv => whnf
      simp only [z_lit] at h g
      rw [if_neg (fun z => z.elim h g)] at hQ
      exact hQ
/-- what was told of the signals, and the smoothed ones -/
def gW (w : Nat → Int32) : Prop := (∀ c, c < 48 → v01 (w (1392 + c))) ∧ (∀ c, c < 48 → f_ok (w (1536 + c)))
theorem xR_copy {a b m : Nat} (h : xR I F s n k bus f0) (ha : a + m ≤ 1200) (hb : b + m ≤ 1200) : xR (z_row I 4 (va_cpy (I 4) (I 4) a b m)) F (m_copy s (192 + a) (192 + b) m) n k bus f0 := by
  obtain ⟨⟨u1, u2, u3, u4⟩, b', ⟨c1, c2⟩, ⟨d1, d2, d3, d4⟩, ⟨k1, k2, k3, k4, k5⟩, f⟩ := h
  have o : ∀ j, j < 192 ∨ 1392 ≤ j → (m_copy s (192 + a) (192 + b) m).2.1 j = s.2.1 j := fun j hj => m_copy_o (by omega)
  refine ⟨⟨uT_of u1 rfl (fun j h1 h2 => o j (by omega)), fun j hj => cpy_rel u2 (fun _ _ => rfl) hj ha hb, fun j hj => ?_, fun j hj => ?_⟩, wR_of b' (fun b h1 h2 => z_row_n _ _ (by omega)) (fun j hj => o j (by omega)), ⟨?_, ?_⟩, ⟨d1, ?_, d3, d4⟩, ⟨⟨fun t ht => ?_, fun j a b => ?_, fun j a b => ?_⟩, fun j a b => ?_, fun j hj => ?_, ?_, ?_⟩, f⟩
  · rw [o _ (by omega), o _ (by omega), o _ (by omega), o _ (by omega)]; exact u3 j hj
  · rw [o _ (by omega)]; exact u4 j hj
  · rw [o _ (by omega)]; exact c1
  · rw [o _ (by omega)]; exact c2
  · rw [s_held_c (o 3 (by omega)) (fun j hj => o j (by omega))]; exact d2
  · rw [o _ (by omega)]; exact k1.1 t ht
  · rw [o _ (by omega)]; exact k1.2.1 j a b
  · rw [o _ (by omega)]; exact k1.2.2 j a b
  · rw [o _ (by omega)]; exact k2 j a b
  · by_cases z : 192 ≤ j
    · exact cpy_b16 (fun j h1 h2 => k3 j (by omega)) (by omega) (by omega) z (by omega)
    · rw [o _ (by omega)]; exact k3 j hj
  · rw [o _ (by omega)]; exact k4
  · rw [o _ (by omega)]; exact k5
theorem xR_mean {c : Nat} {x : UInt32} {s' : z_sg} (h : xR I F s n k bus f0) (hc : c < 48) (h1 : s'.1 = s.1) (h2 : s'.2.1 = upd s.2.1 (1536 + c) x.toInt32) : xR I (z_up F 8 c x) s' n k bus f0 := by
  have h0 := h
  obtain ⟨⟨u1, u2, u3, u4⟩, b', ⟨c1, c2⟩, ⟨d1, d2, d3, d4⟩, kk, f⟩ := h
  have o : ∀ j, j < 1536 ∨ 1584 ≤ j → s'.2.1 j = s.2.1 j := fun j hj => by rw [h2]; exact pk_un (by omega)
  refine ⟨⟨uT_of u1 rfl (fun j h1 h2 => o j (by omega)), fun j hj => ?_, fun j hj => ⟨?_, ?_, ?_, ?_⟩, fun j hj => ?_⟩, wR_of b' (fun b h1 h2 => rfl) (fun j hj => o j (by omega)), ⟨?_, ?_⟩, ⟨d1, ?_, by rw [h1]; exact d3, by rw [h1]; exact d4⟩, kW_of kk (fun j hj => o j (by omega)), by rw [h1]; exact f⟩
  · rw [o _ (by omega)]; exact u2 j hj
  · rw [o _ (by omega)]; exact (u3 j hj).1
  · rw [o _ (by omega)]; exact (u3 j hj).2.1
  · rw [o _ (by omega)]; exact (u3 j hj).2.2.1
  · show (if (8 : Nat) = 8 then (fun j => if j = c then x else F 8 j) else F 8) j = _
    rw [if_pos rfl]
    by_cases e : j = c
    · subst e
      simp only [if_true]
      rw [h2, pk_us]; rfl
    · simp only [if_neg e]
      rw [h2, pk_un (by omega)]
      exact (u3 j hj).2.2.2
  · rw [o _ (by omega)]; exact u4 j hj
  · rw [o _ (by omega)]; exact c1
  · rw [o _ (by omega)]; exact c2
  · rw [s_held_c (o 3 (by omega)) (fun j hj => o j (by omega))]; exact d2
theorem cu_keep {t u m : Nat} (h : xR I F s n k bus f0) (hg : gW s.2.1) (ht : t < 8) (hu : u < 6) (h1 : 1 ≤ m) (hm : m ≤ 8)
    (hQ : ∀ I' F', xR I' F' (m_keep s (6 * t + u) m) n k bus f0 → fr cT I I' → (∀ b, b ≠ 8 → F' b = F b) → Q none I' (z_R0 kp sp wd) J F' cn) :
    z_M (z_X0 L xs) z_P0 (d + 2) m_Units_keep [.ref 2, .int (nI t), .int (nI (u + 1)), .int (nI m)] I (z_R0 kp sp wd) J F cn Q := by
  have x1 := xR_copy (a := 0 + 8 * (6 * t + u)) (b := 768 + 8 * (6 * t + u)) (m := m) h (by omega) (by omega)
  rw [show 192 + (0 + 8 * (6 * t + u)) = 192 + 8 * (6 * t + u) by omega, show 192 + (768 + 8 * (6 * t + u)) = 960 + 8 * (6 * t + u) by omega] at x1
  have hsg : I 7 (6 * t + u) = s.2.1 (1392 + (6 * t + u)) := (h.1.2.2.1 (6 * t + u) (by omega)).2.2.1
  have hv := hg.1 (6 * t + u) (by omega)
  unfold m_keep at hQ
  simp only at hQ
  have o : ∀ j, j < 192 ∨ 1392 ≤ j → (m_copy s (192 + 8 * (6 * t + u)) (960 + 8 * (6 * t + u)) m).2.1 j = s.2.1 j := fun j hj => m_copy_o (by omega)
  rw [o (1392 + (6 * t + u)) (by omega)] at hQ
  have fF : ∀ b, b ≠ 8 → F b = F b := fun _ _ => rfl
  refine z_WP_gos [] 1000 fun K C hK hC => ?_
  conv => whnf
  refine hC _ _ _ _ _ _ _ _ _ _ (fun _ _ _ _ _ _ q => q) (cu_spot (k := 0) ?_)
  conv => whnf
  refine hC _ _ _ _ _ _ _ _ _ _ (fun _ _ _ _ _ _ q => q) (cu_spot (k := 2) ?_)
  conv => whnf
  refine And.intro ⟨(by (try simp only [z_lit, nI_add, pk_mul]); exact nI_pos (by omega)), (by (try simp only [z_lit, nI_add, pk_mul]); exact nI_pos (by omega)), (by (try simp only [z_lit, nI_add, pk_mul]); exact nI_pos (by omega)), (by (try simp (disch := omega) only [z_lit, nI_clamp, nI_add, pk_mul]); exact (show _ ≤ (1200 : Nat) by omega)), (by (try simp (disch := omega) only [z_lit, nI_clamp, nI_add, pk_mul]); exact (show _ ≤ (1200 : Nat) by omega))⟩ ?_
  conv => whnf
  simp (disch := omega) only [z_lit, nI_clamp, z_cpy]
  refine hC _ _ _ _ _ _ _ _ _ _ (fun _ _ _ _ _ _ q => q) (cu_cell ?_)
  conv => whnf
  have fI : fr cT I (z_row I 4 (va_cpy (I 4) (I 4) (0 + 8 * (6 * t + u)) (768 + 8 * (6 * t + u)) m)) := fr_w fr_r (by decide)
  refine ⟨fun g => ?_, fun g => ?_⟩ <;> (try simp (disch := omega) only [z_lit, nI_add, pk_mul, z_pr1, z_pr2, nI_clamp, z_up_row, z_row_s, z_row_n, z_row_row, pk_us, pk_un] at g) <;> (conv => whnf)
  · rw [if_neg (fun z => nI_nlt (a := m) (b := 2) (by omega) (by omega) g)] at hQ
    exact hQ _ F x1 fI fF
  · have g' : 2 ≤ m := by
      apply Nat.le_of_not_lt; intro z
      exact g (nI_lt z (by decide))
    have b1 : (m_copy s (192 + 8 * (6 * t + u)) (960 + 8 * (6 * t + u)) m).2.1 (960 + 8 * (6 * t + u)) = I 4 (0 + 8 * (6 * t + u)) := by
      rw [h.1.2.1 _ (by omega)]
      unfold m_copy; simp only
      rw [pk_cpy_in (by omega) (by omega)]
      exact congrArg s.2.1 (by omega)
    have b2 : (m_copy s (192 + 8 * (6 * t + u)) (960 + 8 * (6 * t + u)) m).2.1 (960 + 8 * (6 * t + u) + 1) = I 4 (0 + 8 * (6 * t + u) + 1) := by
      rw [h.1.2.1 _ (by omega)]
      unfold m_copy; simp only
      rw [pk_cpy_in (by omega) (by omega)]
      exact congrArg s.2.1 (by omega)
    have hF : F 8 (6 * t + u) = (s.2.1 (1536 + (6 * t + u))).toUInt32 := (h.1.2.2.1 (6 * t + u) (by omega)).2.2.2
    have hsf := fun b hb => (f_step (b := b) hb (hg.2 (6 * t + u) (by omega))).1
    repeat ((first | refine And.intro (by (conv => arg 2; whnf); (try simp only [z_lit, nI_add, pk_mul, z_pr1, z_pr2]); exact z_in (by omega) (by decide)) ?_ | refine z_bt1 (by decide) ?_ | refine z_bf1 (by decide) ?_ | refine z_bt2 (by decide) ?_ | refine z_bf2 (by decide) ?_); conv => whnf)
    refine ⟨fun e => ?_, fun e => ?_⟩
    · simp (disch := omega) only [z_lit, nI_clamp, z_row_n] at e
      rw [hsg, v01_n hv] at e
      rw [if_pos ⟨by omega, e⟩] at hQ
      unfold m_smooths s_bits at hQ
      rw [b1, b2] at hQ
      conv => whnf
      repeat ((first | refine And.intro (by (conv => arg 2; whnf); (try simp only [z_lit, nI_add, pk_mul, z_pr1, z_pr2]); exact z_in (by omega) (by decide)) ?_ | refine z_bt1 (by decide) ?_ | refine z_bf1 (by decide) ?_ | refine z_bt2 (by decide) ?_ | refine z_bf2 (by decide) ?_); conv => whnf)
      simp (disch := omega) only [z_lit, nI_clamp, nI_add, z_row_s, pk_cpy_out]
      generalize I 4 (0 + 8 * (6 * t + u)) <<< (nI 16 &&& nI 31) ||| I 4 (0 + 8 * (6 * t + u) + 1) = b at *
      rw [o (1536 + (6 * t + u)) (by omega)] at hQ
      refine hC _ _ _ _ _ _ _ _ _ _ (fun _ _ _ _ _ _ q => q) (cf_isTame ?_)
      conv => whnf
      cases hb : s_tame b
      · rw [hb] at hQ
        repeat ((first | refine And.intro (by (conv => arg 2; whnf); (try simp only [z_lit, nI_add, pk_mul, z_pr1, z_pr2]); exact z_in (by omega) (by decide)) ?_ | refine z_bt1 (by decide) ?_ | refine z_bf1 (by decide) ?_ | refine z_bt2 (by decide) ?_ | refine z_bf2 (by decide) ?_); conv => whnf)
        exact hQ _ F x1 fI fF
      · rw [hb] at hQ
        repeat ((first | refine And.intro (by (conv => arg 2; whnf); (try simp only [z_lit, nI_add, pk_mul, z_pr1, z_pr2]); exact z_in (by omega) (by decide)) ?_ | refine z_bt1 (by decide) ?_ | refine z_bf1 (by decide) ?_ | refine z_bt2 (by decide) ?_ | refine z_bf2 (by decide) ?_); conv => whnf)
        simp (disch := omega) only [z_lit, nI_clamp]
        rw [hF]
        refine hC _ _ _ _ _ _ _ _ _ _ (fun _ _ _ _ _ _ q => q) (cf_smoothed hb (hsf b hb) ?_)
        conv => whnf
        repeat ((first | refine And.intro (by (conv => arg 2; whnf); (try simp only [z_lit, nI_add, pk_mul, z_pr1, z_pr2]); exact z_in (by omega) (by decide)) ?_ | refine z_bt1 (by decide) ?_ | refine z_bf1 (by decide) ?_ | refine z_bt2 (by decide) ?_ | refine z_bf2 (by decide) ?_); conv => whnf)
        simp (disch := omega) only [z_lit, nI_clamp]
        refine hQ _ _ (xR_mean x1 (by omega) rfl rfl) fI (fun b hb => ?_)
        unfold z_up; rw [if_neg hb]
    · simp (disch := omega) only [z_lit, nI_clamp, z_row_n] at e
      rw [hsg] at e
      rw [if_neg (fun z => absurd (e.symm.trans z.2) (by decide))] at hQ
      conv => whnf
      exact hQ _ F x1 fI fF
end
