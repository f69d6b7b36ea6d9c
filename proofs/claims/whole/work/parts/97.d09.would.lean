/-! the class: would -/
section
variable {L : Nat} {xs : Nat → Int32} {d : Nat} {kp sp wd : Value} {I : z_I} {s : z_sg} {R : z_R} {J : z_J} {F : z_F} {cn : Nat} {Q : z_Q} {n k uc us : Nat}
theorem lp_wfr {ln f N : Nat} {q : Int32} (h : hR I F s.2.1 n k ln) (h2 : s.2.1 2 = nI f) (hf : f + N ≤ 9999) (hN : N ≤ 60) (hn : n + k + 300000 < 2 ^ 29) (hln : ln + 2000 < 2 ^ 30)
    (hQ : ∀ I' F' n' k' ln', hR I' F' (m_fms N s).2.1 n' k' ln' → aR I' (m_fms N s) → fr cP I I' → (∀ b, b ≠ 8 → F' b = F b) → z_WP (z_X0 L xs) z_P0 (d + 8) m_Bus_would 93 [some (.ref 0), some (.int (nI N)), some (.int q), some (.int (nI N))] [] I' (z_R0 kp sp wd) J F' cn uc us Q) :
    ∀ j i I' F' n' k' ln', i + j = N → hR I' F' (m_fms i s).2.1 n' k' ln' → aR I' (m_fms i s) → n' ≤ n + 3200 * i → k' ≤ k + 600 * i → ln' ≤ ln + 24 * i → fr cP I I' → (∀ b, b ≠ 8 → F' b = F b) → z_WP (z_X0 L xs) z_P0 (d + 8) m_Bus_would 75 [some (.ref 0), some (.int (nI N)), some (.int q), some (.int (nI i))] [] I' (z_R0 kp sp wd) J F' cn uc us Q := by
  obtain ⟨c, ho⟩ := hR_oF h h2 (by omega)
  intro j
  induction j with
  | zero =>
    intro i I' F' n' k' ln' hi x a hn' hk' hl' pf ff
    obtain rfl : i = N := by omega
    have q := hQ I' F' n' k' ln' x a pf ff
    generalize m_fms i s = z at *
    refine z_WP_gos [75, 93] 1000 fun K C hK hC => ?_
    conv => whnf
    refine ⟨fun _ => ?_, fun h => absurd (Int32.le_refl _) h⟩
    conv => whnf
    refine hK _ _ _ _ _ _ _ _ _ _ (q)
  | succ j ih =>
    intro i I' F' n' k' ln' hi x a hn' hk' hl' pf ff
    have ih' := ih (i + 1)
    have e1 : m_fms (i + 1) s = m_once (m_fms i s) := rfl
    rw [e1] at ih'
    obtain ⟨l0, c0, -, b⟩ := fms_oF ho (by omega) (by omega) i (by omega)
    have b2 := b.2.2.2.1
    generalize m_fms i s = z at *
    refine z_WP_gos [75, 93] 1000 fun K C hK hC => ?_
    conv => whnf
    refine ⟨fun h => absurd h (nI_ge (by omega) (by omega)), fun _ => ?_⟩
    conv => whnf
    refine hC _ _ _ _ _ _ _ _ _ _ (fun _ _ _ _ _ _ q => q) (cf_play (s := z) x a b2 (by omega) (by omega) (by omega) (fun I'' F'' n'' k'' ln'' x'' a'' y1 y2 y3 y4 y5 => ?_))
    conv => whnf
    rw [show nI i + 1 = nI (i + 1) from nI_1 _]
    have ihq := ih' I'' F'' n'' k'' ln'' (by omega) x'' a''
    have m1 : 3200 * (i + 1) = 3200 * i + 3200 := Nat.mul_succ _ _
    have m2 : 600 * (i + 1) = 600 * i + 600 := Nat.mul_succ _ _
    have m3 : 24 * (i + 1) = 24 * i + 24 := Nat.mul_succ _ _
    rw [m1, m2, m3] at ihq
    have z1 : n'' ≤ n + (3200 * i + 3200) := le_st hn' y1
    have z2 : k'' ≤ k + (600 * i + 600) := le_st hk' y2
    have z3 : ln'' ≤ ln + (24 * i + 24) := by omega
    refine hK _ _ _ _ _ _ _ _ _ _ (ihq z1 z2 z3 (fr_t pf y4) (fun b hb => (y5 b hb).trans (ff b hb)))
theorem en_would_50 {T : z_sg} {N q' n' k' ln' : Nat} {I0 : z_I} {F0 : z_F} (hq : q' ≤ 3) (hk : kpt 49 I0 F0 I F) (h : hR I F T.2.1 n' k' ln') (ha : aR I T)
    (hQ : ∀ (I' : z_I) (F' : z_F), sameW I' I0 F' F0 → (∀ c, c < 1 ∨ 28 < c → I' c = I c) → (∀ j, j < 2 → I' 14 j = I 14 j ∧ I' 16 j = I 16 j ∧ I' 27 j = I 27 j) → (∀ c, c ≠ 8 → F' c = F c) → Q (some (.int (q_would T q'))) I' (z_R0 kp (.ref 50) wd) J F' cn) :
    z_WP (z_X0 L xs) z_P0 (d + 8) m_Bus_would 93 [some (.ref 0), some (.int (nI N)), some (.int (nI q')), some (.int (nI N))] [] I (z_R0 kp (.ref 50) wd) J F cn uc us Q := by
  obtain ⟨a3, a4, a5, -⟩ := ha
  have h8 : I 1 8 = T.2.1 3 := h.2.2.1.2.1
  have a4' : I 31 4 = T.1 29 - T.1 30 := by rw [← a4, Int32.add_sub_cancel]
  unfold q_would at hQ
  refine z_WP_gos [113] 1000 fun K C hK hC => ?_
  conv => whnf
  refine hC _ _ _ _ _ _ _ _ _ _ (fun _ _ _ _ _ _ q => q) (cy_world_1_50 (fun I2 F2 b1 b2 b3 b4 b5 => ?_))
  conv => whnf
  have e31 : I2 31 = I 31 := b2 31 (by omega)
  have q := hQ I2 F2 ⟨fun q j hq => ?_, fun j hj => ?_⟩ b2 b5 b4
  · have c4 : q' = 0 ∨ q' = 1 ∨ q' = 2 ∨ q' = 3 := by omega
    rcases c4 with e | e | e | e <;> subst e
    · refine hK _ _ _ _ _ _ _ _ _ _ (z_WP_ts 140 rfl (by decide) ?_)
      refine z_WP_gos [] 1000 fun K C hK hC => ?_
      conv => whnf
      rw [e31, a3]
      exact q
    · refine hK _ _ _ _ _ _ _ _ _ _ (z_WP_ts 148 rfl (by decide) ?_)
      refine z_WP_gos [] 1000 fun K C hK hC => ?_
      conv => whnf
      rw [e31, a4']
      exact q
    · refine hK _ _ _ _ _ _ _ _ _ _ (z_WP_ts 156 rfl (by decide) ?_)
      refine z_WP_gos [] 1000 fun K C hK hC => ?_
      conv => whnf
      rw [h8]
      exact q
    · refine hK _ _ _ _ _ _ _ _ _ _ (z_WP_ts 158 rfl (by decide) ?_)
      refine z_WP_gos [] 1000 fun K C hK hC => ?_
      conv => whnf
      rw [e31, a5]
      exact q
  · have := b1 q j hq
    rw [Nat.zero_add] at this
    rw [this]; exact hk.1 q j hq
  · rw [b3 j hj]; exact hk.2 j hj
theorem en_spare_50 {ln f N q' : Nat} {I0 : z_I} {F0 : z_F} (hk : kpt 49 I0 F0 I F) (h : hR I F s.2.1 n k ln) (h6 : v01 (s.1 6)) (h2 : s.2.1 2 = nI f) (hf : f + N ≤ 9999) (hN : N ≤ 20) (hq : q' ≤ 3) (hn : n + k + 300000 < 2 ^ 29) (hln : ln + 2000 < 2 ^ 30)
    (hQ : ∀ (I' : z_I) (F' : z_F), v01 ((m_fms N (m_zero s)).1 6) → sameW I' I0 F' F0 → (∀ c, c < 1 ∨ 31 < c → I' c = I c) → (∀ j, j < 2 → I' 14 j = I 14 j ∧ I' 16 j = I 16 j ∧ I' 27 j = I 27 j) → (∀ c, c ≠ 8 → F' c = F c) → Q (some (.int (q_would (m_fms N (m_zero s)) q'))) I' (z_R0 kp (.ref 50) wd) J F' cn) :
    z_WP (z_X0 L xs) z_P0 (d + 8) m_Bus_would 66 [some (.ref 0), some (.int (nI N)), some (.int (nI q')), none] [] I (z_R0 kp (.ref 50) wd) J F cn uc us Q := by
  have hI0 : hR (z_row I 31 (upd (upd (upd (I 31) 3 (nI 0)) 4 (nI 0)) 5 (nI 0))) F (m_zero s).2.1 n k ln := hR_of h (fun b hb => z_row_n _ _ (by omega))
  have hA0 : aR (z_row I 31 (upd (upd (upd (I 31) 3 (nI 0)) 4 (nI 0)) 5 (nI 0))) (m_zero s) := by
    have ef : (m_zero s).1 = upd (upd (upd s.1 29 (nI 0)) 30 (nI 0)) 25 (nI 0) := rfl
    refine ⟨?_, ?_, ?_, ?_⟩
    · rw [z_row_s, ef]; simp (disch := omega) only [pk_us, pk_un]
    · rw [z_row_s, ef]; simp (disch := omega) only [pk_us, pk_un]; decide
    · rw [z_row_s, ef]; simp (disch := omega) only [pk_us, pk_un]
    · rw [ef]; simp (disch := omega) only [pk_us, pk_un]; exact h6
  have cPo : ∀ c, 31 < c → c ∉ cP := fun c hc z => by
    simp only [List.mem_cons, List.not_mem_nil, or_false] at z; omega
  have rm0 := hR_rm h
  have lp := lp_wfr (d := d) (L := L) (xs := xs) (kp := kp) (sp := .ref 50) (wd := wd) (J := J) (cn := cn) (uc := uc) (us := us) (Q := Q) (q := nI q') (s := m_zero s) hI0 h2 hf (by omega) hn hln (fun I' F' n' k' ln' x y z4 z5 => ?_) N 0 _ F n k ln (by omega) hI0 hA0 (Nat.le_add_right _ _) (Nat.le_add_right _ _) (Nat.le_add_right _ _) fr_r (fun _ _ => rfl)
  · refine z_WP_gos [75] 1000 fun K C hK hC => ?_
    conv => whnf
    refine hC _ _ _ _ _ _ _ _ _ _ (fun _ _ _ _ _ _ q => q) (cf_restart ?_)
    conv => whnf
    refine hK _ _ _ _ _ _ _ _ _ _ (lp)
  · have oo : ∀ c, 31 < c → I' c = I c := fun c hc => by rw [z4 c (cPo c hc), z_row_n _ _ (by omega)]
    have o0 : I' 0 = I 0 := by rw [z4 0 (by decide), z_row_n _ _ (by decide)]
    have rm1 := hR_rm x
    refine en_would_50 (I0 := I0) (F0 := F0) hq ⟨fun q j hq => ?_, fun j hj => ?_⟩ x y (fun I2 F2 c1 c2 c3 c4 => ?_)
    · have q0 : 1 ≤ q := by
        rcases Nat.eq_zero_or_pos q with z | z
        · subst z; unfold cel at hq; omega
        · exact z
      rw [oo _ (by omega)]; exact hk.1 q j hq
    · rw [z5 _ (by decide)]; exact hk.2 j hj
    · refine hQ I2 F2 y.2.2.2 c1 (fun c hc => ?_) (fun j hj => ?_) (fun c hc => ?_)
      · rw [c2 c (by omega)]
        rcases hc with z | z
        · rw [show c = 0 by omega]; exact o0
        · exact oo c z
      · have : j = 0 ∨ j = 1 := by omega
        obtain ⟨x1, x2, x3⟩ := c3 j hj
        rw [x1, x2, x3]
        rcases this with e | e <;> subst e
        · exact ⟨rm1.1.1.trans rm0.1.1.symm, rm1.2.1.1.trans rm0.2.1.1.symm, rm1.2.2.1.trans rm0.2.2.1.symm⟩
        · exact ⟨rm1.1.2.trans rm0.1.2.symm, rm1.2.1.2.trans rm0.2.1.2.symm, rm1.2.2.2.trans rm0.2.2.2.symm⟩
      · rw [c4 c hc, z5 c hc]
theorem en_would_78 {T : z_sg} {N q' n' k' ln' : Nat} {I0 : z_I} {F0 : z_F} (hq : q' ≤ 3) (hk : kpt 77 I0 F0 I F) (h : hR I F T.2.1 n' k' ln') (ha : aR I T)
    (hQ : ∀ (I' : z_I) (F' : z_F), sameW I' I0 F' F0 → (∀ c, c < 1 ∨ 28 < c → I' c = I c) → (∀ j, j < 2 → I' 14 j = I 14 j ∧ I' 16 j = I 16 j ∧ I' 27 j = I 27 j) → (∀ c, c ≠ 8 → F' c = F c) → Q (some (.int (q_would T q'))) I' (z_R0 kp (.ref 78) wd) J F' cn) :
    z_WP (z_X0 L xs) z_P0 (d + 8) m_Bus_would 93 [some (.ref 0), some (.int (nI N)), some (.int (nI q')), some (.int (nI N))] [] I (z_R0 kp (.ref 78) wd) J F cn uc us Q := by
  obtain ⟨a3, a4, a5, -⟩ := ha
  have h8 : I 1 8 = T.2.1 3 := h.2.2.1.2.1
  have a4' : I 31 4 = T.1 29 - T.1 30 := by rw [← a4, Int32.add_sub_cancel]
  unfold q_would at hQ
  refine z_WP_gos [113] 1000 fun K C hK hC => ?_
  conv => whnf
  refine hC _ _ _ _ _ _ _ _ _ _ (fun _ _ _ _ _ _ q => q) (cy_world_1_78 (fun I2 F2 b1 b2 b3 b4 b5 => ?_))
  conv => whnf
  have e31 : I2 31 = I 31 := b2 31 (by omega)
  have q := hQ I2 F2 ⟨fun q j hq => ?_, fun j hj => ?_⟩ b2 b5 b4
  · have c4 : q' = 0 ∨ q' = 1 ∨ q' = 2 ∨ q' = 3 := by omega
    rcases c4 with e | e | e | e <;> subst e
    · refine hK _ _ _ _ _ _ _ _ _ _ (z_WP_ts 140 rfl (by decide) ?_)
      refine z_WP_gos [] 1000 fun K C hK hC => ?_
      conv => whnf
      rw [e31, a3]
      exact q
    · refine hK _ _ _ _ _ _ _ _ _ _ (z_WP_ts 148 rfl (by decide) ?_)
      refine z_WP_gos [] 1000 fun K C hK hC => ?_
      conv => whnf
      rw [e31, a4']
      exact q
    · refine hK _ _ _ _ _ _ _ _ _ _ (z_WP_ts 156 rfl (by decide) ?_)
      refine z_WP_gos [] 1000 fun K C hK hC => ?_
      conv => whnf
      rw [h8]
      exact q
    · refine hK _ _ _ _ _ _ _ _ _ _ (z_WP_ts 158 rfl (by decide) ?_)
      refine z_WP_gos [] 1000 fun K C hK hC => ?_
      conv => whnf
      rw [e31, a5]
      exact q
  · have := b1 q j hq
    rw [Nat.zero_add] at this
    rw [this]; exact hk.1 q j hq
  · rw [b3 j hj]; exact hk.2 j hj
theorem en_spare_78 {ln f N q' : Nat} {I0 : z_I} {F0 : z_F} (hk : kpt 77 I0 F0 I F) (h : hR I F s.2.1 n k ln) (h6 : v01 (s.1 6)) (h2 : s.2.1 2 = nI f) (hf : f + N ≤ 9999) (hN : N ≤ 20) (hq : q' ≤ 3) (hn : n + k + 300000 < 2 ^ 29) (hln : ln + 2000 < 2 ^ 30)
    (hQ : ∀ (I' : z_I) (F' : z_F), v01 ((m_fms N (m_zero s)).1 6) → sameW I' I0 F' F0 → (∀ c, c < 1 ∨ 31 < c → I' c = I c) → (∀ j, j < 2 → I' 14 j = I 14 j ∧ I' 16 j = I 16 j ∧ I' 27 j = I 27 j) → (∀ c, c ≠ 8 → F' c = F c) → Q (some (.int (q_would (m_fms N (m_zero s)) q'))) I' (z_R0 kp (.ref 78) wd) J F' cn) :
    z_WP (z_X0 L xs) z_P0 (d + 8) m_Bus_would 66 [some (.ref 0), some (.int (nI N)), some (.int (nI q')), none] [] I (z_R0 kp (.ref 78) wd) J F cn uc us Q := by
  have hI0 : hR (z_row I 31 (upd (upd (upd (I 31) 3 (nI 0)) 4 (nI 0)) 5 (nI 0))) F (m_zero s).2.1 n k ln := hR_of h (fun b hb => z_row_n _ _ (by omega))
  have hA0 : aR (z_row I 31 (upd (upd (upd (I 31) 3 (nI 0)) 4 (nI 0)) 5 (nI 0))) (m_zero s) := by
    have ef : (m_zero s).1 = upd (upd (upd s.1 29 (nI 0)) 30 (nI 0)) 25 (nI 0) := rfl
    refine ⟨?_, ?_, ?_, ?_⟩
    · rw [z_row_s, ef]; simp (disch := omega) only [pk_us, pk_un]
    · rw [z_row_s, ef]; simp (disch := omega) only [pk_us, pk_un]; decide
    · rw [z_row_s, ef]; simp (disch := omega) only [pk_us, pk_un]
    · rw [ef]; simp (disch := omega) only [pk_us, pk_un]; exact h6
  have cPo : ∀ c, 31 < c → c ∉ cP := fun c hc z => by
    simp only [List.mem_cons, List.not_mem_nil, or_false] at z; omega
  have rm0 := hR_rm h
  have lp := lp_wfr (d := d) (L := L) (xs := xs) (kp := kp) (sp := .ref 78) (wd := wd) (J := J) (cn := cn) (uc := uc) (us := us) (Q := Q) (q := nI q') (s := m_zero s) hI0 h2 hf (by omega) hn hln (fun I' F' n' k' ln' x y z4 z5 => ?_) N 0 _ F n k ln (by omega) hI0 hA0 (Nat.le_add_right _ _) (Nat.le_add_right _ _) (Nat.le_add_right _ _) fr_r (fun _ _ => rfl)
  · refine z_WP_gos [75] 1000 fun K C hK hC => ?_
    conv => whnf
    refine hC _ _ _ _ _ _ _ _ _ _ (fun _ _ _ _ _ _ q => q) (cf_restart ?_)
    conv => whnf
    refine hK _ _ _ _ _ _ _ _ _ _ (lp)
  · have oo : ∀ c, 31 < c → I' c = I c := fun c hc => by rw [z4 c (cPo c hc), z_row_n _ _ (by omega)]
    have o0 : I' 0 = I 0 := by rw [z4 0 (by decide), z_row_n _ _ (by decide)]
    have rm1 := hR_rm x
    refine en_would_78 (I0 := I0) (F0 := F0) hq ⟨fun q j hq => ?_, fun j hj => ?_⟩ x y (fun I2 F2 c1 c2 c3 c4 => ?_)
    · have q0 : 1 ≤ q := by
        rcases Nat.eq_zero_or_pos q with z | z
        · subst z; unfold cel at hq; omega
        · exact z
      rw [oo _ (by omega)]; exact hk.1 q j hq
    · rw [z5 _ (by decide)]; exact hk.2 j hj
    · refine hQ I2 F2 y.2.2.2 c1 (fun c hc => ?_) (fun j hj => ?_) (fun c hc => ?_)
      · rw [c2 c (by omega)]
        rcases hc with z | z
        · rw [show c = 0 by omega]; exact o0
        · exact oo c z
      · have : j = 0 ∨ j = 1 := by omega
        obtain ⟨x1, x2, x3⟩ := c3 j hj
        rw [x1, x2, x3]
        rcases this with e | e <;> subst e
        · exact ⟨rm1.1.1.trans rm0.1.1.symm, rm1.2.1.1.trans rm0.2.1.1.symm, rm1.2.2.1.trans rm0.2.2.1.symm⟩
        · exact ⟨rm1.1.2.trans rm0.1.2.symm, rm1.2.1.2.trans rm0.2.1.2.symm, rm1.2.2.2.trans rm0.2.2.2.symm⟩
      · rw [c4 c hc, z5 c hc]
theorem cb_wouldO_50 {ln f : Nat} {v q : Int32} (h : hR I F s.2.1 n k ln) (h6 : v01 (s.1 6)) (h2 : s.2.1 2 = nI f) (hf : f ≤ 9999) (hn : n + k + 300000 < 2 ^ 29) (hln : ln + 2000 < 2 ^ 30)
    (h1 : ∀ N q' I' F', wq f v q N q' → v01 ((m_fms N (m_zero s)).1 6) → sameW I' I F' F → (∀ c, c < 1 ∨ (31 < c ∧ (c < 50 ∨ 77 < c)) → I' c = I c) → (∀ j, j < 2 → I' 14 j = I 14 j ∧ I' 16 j = I 16 j ∧ I' 27 j = I 27 j) → (∀ c, c ≠ 8 → c ≠ 57 → F' c = F c) → Q (some (.int (q_would (m_fms N (m_zero s)) q'))) I' (z_R0 kp (.ref 50) wd) J F' cn)
    (h0 : (∀ N q', ¬ wq f v q N q') → Q (some (.int (-1))) I (z_R0 kp (.ref 50) wd) J F cn) : z_M (z_X0 L xs) z_P0 (d + 8) m_Bus_would [.ref 0, .int v, .int q] I (z_R0 kp (.ref 50) wd) J F cn Q := by
  have c7 : I 1 7 = nI f := h.2.1.2.2.1.trans h2
  refine z_WP_gos [66] 1000 fun K C hK hC => ?_
  conv => whnf
  refine ⟨fun g => ?_, fun g => ?_⟩
  · conv => whnf
    refine h0 fun N q' z => absurd g (Int32.not_lt.mpr ?_)
    rw [z.1]; exact nI_le (a := 1) z.2.1 (by have := z.2.2.1; omega)
  conv => whnf
  refine ⟨fun g2 => ?_, fun g2 => ?_⟩
  · conv => whnf
    refine h0 fun N q' z => absurd g2 (Int32.not_lt.mpr ?_)
    rw [z.1]; exact nI_le (b := 20) z.2.2.1 (by decide)
  have a : nI 1 ≤ v := Int32.not_lt.mp g
  obtain ⟨N, hN, eN⟩ := isIn_nat (b := 20) (by decide) (Int32.le_trans (by decide) a) (Int32.not_lt.mp g2)
  subst eN
  have hN1 : 1 ≤ N := by
    apply Nat.le_of_not_lt; intro z
    exact nI_ge (a := N) (b := 1) z (by decide) a
  conv => whnf
  refine ⟨fun g3 => ?_, fun g3 => ?_⟩
  · conv => whnf
    refine h0 fun N q' z => absurd g3 (Int32.not_lt.mpr ?_)
    rw [z.2.2.2.2.1]; exact nI_pos' (by have := z.2.2.2.2.2; omega)
  conv => whnf
  refine ⟨fun g4 => ?_, fun g4 => ?_⟩
  · conv => whnf
    refine h0 fun N q' z => absurd g4 (Int32.not_lt.mpr ?_)
    rw [z.2.2.2.2.1]; exact nI_le (b := 3) z.2.2.2.2.2 (by decide)
  obtain ⟨q', hq, eq⟩ := isIn_nat (b := 3) (by decide) (Int32.not_lt.mp g3) (Int32.not_lt.mp g4)
  subst eq
  conv => whnf
  rw [c7]
  refine ⟨fun g5 => ?_, fun g5 => ?_⟩
  rotate_left
  · conv => whnf
    have g5' : ¬ nI (f + N) ≤ nI 9999 := by rw [← nI_add]; exact g5
    refine h0 fun M q2 z => g5' ?_
    have : N = M := nI_inj9 (by omega) (by have := z.2.2.1; omega) z.1
    subst this
    exact nI_le (b := 9999) z.2.2.2.1 (by decide)
  have g5' : nI (f + N) ≤ nI 9999 := by rw [← nI_add]; exact g5
  have hle : f + N ≤ 9999 := by
    apply Nat.le_of_not_lt; intro z
    exact nI_ge (a := 9999) (b := f + N) z (by omega) g5'
  have hwq : wq f (nI N) (nI q') N q' := ⟨rfl, hN1, hN, hle, rfl, hq⟩
  conv => whnf
  refine hC _ _ _ _ _ _ _ _ _ _ (fun _ _ _ _ _ _ q => q) (cy_world_50_1 (fun I2 F2 a1 a2 a3 a4 => ?_))
  conv => whnf
  refine hK _ _ _ _ _ _ _ _ _ _ (en_spare_50 (s := s) (I0 := I) (F0 := F) (f := f) (ln := ln) (n := n) (k := k) ⟨fun q j hq => ?_, fun j hj => a3 j hj⟩ (hR_I h ⟨fun q j hq => ?_, fun j hj => by rw [a4 8 (by decide)]⟩ (fun j hj => by rw [a2 14 (by omega), a2 16 (by omega), a2 27 (by omega)]; exact ⟨rfl, rfl, rfl⟩)) h6 h2 hle hN hq hn hln (fun I3 F3 b0 b1 b2 b3 b4 => ?_))
  · rw [a1 q j hq, Nat.zero_add]
  · have : q < 50 := by unfold cel at hq; omega
    rw [a2 q (by omega)]
  · refine h1 N q' I3 F3 hwq b0 b1 (fun c hc => ?_) (fun j hj => ?_) (fun c x y => ?_)
    · rw [b2 c (by omega), a2 c (by omega)]
    · rw [← a2 14 (by omega), ← a2 16 (by omega), ← a2 27 (by omega)]; exact b3 j hj
    · rw [b4 c x, a4 c y]
theorem cb_wouldN_50 {ln f : Nat} {v q : Int32} (h : hR I F s.2.1 n k ln) (h6 : v01 (s.1 6)) (h2 : s.2.1 2 = nI f) (hf : f ≤ 9999) (hn : n + k + 300000 < 2 ^ 29) (hln : ln + 2000 < 2 ^ 30)
    (h1 : ∀ N q' I' J' F', wq f v q N q' → v01 ((m_fms N (m_zero s)).1 6) → sameW I' I F' F → (∀ c, c < 1 ∨ (31 < c ∧ c < 50) → I' c = I c) → (∀ j, j < 2 → I' 14 j = I 14 j ∧ I' 16 j = I 16 j ∧ I' 27 j = I 27 j) → (∀ c, c ≠ 8 → c < 50 → F' c = F c) → Q (some (.int (q_would (m_fms N (m_zero s)) q'))) I' (z_R0 kp (.ref 50) wd) J' F' 78)
    (h0 : (∀ N q', ¬ wq f v q N q') → Q (some (.int (-1))) I (z_R0 kp .null wd) J F 50) : z_M (z_X0 L xs) z_P0 (d + 8) m_Bus_would [.ref 0, .int v, .int q] I (z_R0 kp .null wd) J F 50 Q := by
  have c7 : I 1 7 = nI f := h.2.1.2.2.1.trans h2
  refine z_WP_gos [66] 1000 fun K C hK hC => ?_
  conv => whnf
  refine ⟨fun g => ?_, fun g => ?_⟩
  · conv => whnf
    refine h0 fun N q' z => absurd g (Int32.not_lt.mpr ?_)
    rw [z.1]; exact nI_le (a := 1) z.2.1 (by have := z.2.2.1; omega)
  conv => whnf
  refine ⟨fun g2 => ?_, fun g2 => ?_⟩
  · conv => whnf
    refine h0 fun N q' z => absurd g2 (Int32.not_lt.mpr ?_)
    rw [z.1]; exact nI_le (b := 20) z.2.2.1 (by decide)
  have a : nI 1 ≤ v := Int32.not_lt.mp g
  obtain ⟨N, hN, eN⟩ := isIn_nat (b := 20) (by decide) (Int32.le_trans (by decide) a) (Int32.not_lt.mp g2)
  subst eN
  have hN1 : 1 ≤ N := by
    apply Nat.le_of_not_lt; intro z
    exact nI_ge (a := N) (b := 1) z (by decide) a
  conv => whnf
  refine ⟨fun g3 => ?_, fun g3 => ?_⟩
  · conv => whnf
    refine h0 fun N q' z => absurd g3 (Int32.not_lt.mpr ?_)
    rw [z.2.2.2.2.1]; exact nI_pos' (by have := z.2.2.2.2.2; omega)
  conv => whnf
  refine ⟨fun g4 => ?_, fun g4 => ?_⟩
  · conv => whnf
    refine h0 fun N q' z => absurd g4 (Int32.not_lt.mpr ?_)
    rw [z.2.2.2.2.1]; exact nI_le (b := 3) z.2.2.2.2.2 (by decide)
  obtain ⟨q', hq, eq⟩ := isIn_nat (b := 3) (by decide) (Int32.not_lt.mp g3) (Int32.not_lt.mp g4)
  subst eq
  conv => whnf
  rw [c7]
  refine ⟨fun g5 => ?_, fun g5 => ?_⟩
  rotate_left
  · conv => whnf
    have g5' : ¬ nI (f + N) ≤ nI 9999 := by rw [← nI_add]; exact g5
    refine h0 fun M q2 z => g5' ?_
    have : N = M := nI_inj9 (by omega) (by have := z.2.2.1; omega) z.1
    subst this
    exact nI_le (b := 9999) z.2.2.2.1 (by decide)
  have g5' : nI (f + N) ≤ nI 9999 := by rw [← nI_add]; exact g5
  have hle : f + N ≤ 9999 := by
    apply Nat.le_of_not_lt; intro z
    exact nI_ge (a := 9999) (b := f + N) z (by omega) g5'
  have hwq : wq f (nI N) (nI q') N q' := ⟨rfl, hN1, hN, hle, rfl, hq⟩
  conv => whnf
  refine And.intro (by simp only [X_sh, X_bd]; decide) ?_
  conv => whnf
  refine And.intro (by simp only [X_sh, X_bd]; decide) ?_
  refine hC _ _ _ _ _ _ _ _ _ _ (fun _ _ _ _ _ _ q => q) (ci_at_50 (fun I1 J1 F1 i1' i2 => ?_))
  conv => whnf
  have i1 : ∀ c, c < 50 → I1 c = I c := fun c hc => by rw [i1' c hc, z_row_n _ _ (by omega)]
  rw [z_R0_sp]
  refine hC _ _ _ _ _ _ _ _ _ _ (fun _ _ _ _ _ _ q => q) (cy_world_50_1 (fun I2 F2 a1 a2 a3 a4 => ?_))
  conv => whnf
  refine hK _ _ _ _ _ _ _ _ _ _ (en_spare_50 (s := s) (I0 := I) (F0 := F) (f := f) (ln := ln) (n := n) (k := k) ⟨fun q j hq => ?_, fun j hj => ?_⟩ (hR_I h ⟨fun q j hq => ?_, fun j hj => by rw [a4 8 (by decide), i2 8 (by decide)]⟩ (fun j hj => by rw [a2 14 (by omega), a2 16 (by omega), a2 27 (by omega), i1 14 (by omega), i1 16 (by omega), i1 27 (by omega)]; exact ⟨rfl, rfl, rfl⟩)) h6 h2 hle hN hq hn hln (fun I3 F3 b0 b1 b2 b3 b4 => ?_))
  · have : q < 50 := by unfold cel at hq; omega
    rw [a1 q j hq, Nat.zero_add, i1 q this]
  · rw [a3 j hj, i2 8 (by decide)]
  · have : q < 50 := by unfold cel at hq; omega
    rw [a2 q (by omega), i1 q (by omega)]
  · refine h1 N q' I3 J1 F3 hwq b0 b1 (fun c hc => ?_) (fun j hj => ?_) (fun c x y => ?_)
    · rw [b2 c (by omega), a2 c (by omega), i1 c (by omega)]
    · rw [← i1 14 (by omega), ← i1 16 (by omega), ← i1 27 (by omega), ← a2 14 (by omega), ← a2 16 (by omega), ← a2 27 (by omega)]; exact b3 j hj
    · rw [b4 c x, a4 c (by omega), i2 c y]
theorem cb_wouldO_78 {ln f : Nat} {v q : Int32} (h : hR I F s.2.1 n k ln) (h6 : v01 (s.1 6)) (h2 : s.2.1 2 = nI f) (hf : f ≤ 9999) (hn : n + k + 300000 < 2 ^ 29) (hln : ln + 2000 < 2 ^ 30)
    (h1 : ∀ N q' I' F', wq f v q N q' → v01 ((m_fms N (m_zero s)).1 6) → sameW I' I F' F → (∀ c, c < 1 ∨ (31 < c ∧ (c < 78 ∨ 105 < c)) → I' c = I c) → (∀ j, j < 2 → I' 14 j = I 14 j ∧ I' 16 j = I 16 j ∧ I' 27 j = I 27 j) → (∀ c, c ≠ 8 → c ≠ 85 → F' c = F c) → Q (some (.int (q_would (m_fms N (m_zero s)) q'))) I' (z_R0 kp (.ref 78) wd) J F' cn)
    (h0 : (∀ N q', ¬ wq f v q N q') → Q (some (.int (-1))) I (z_R0 kp (.ref 78) wd) J F cn) : z_M (z_X0 L xs) z_P0 (d + 8) m_Bus_would [.ref 0, .int v, .int q] I (z_R0 kp (.ref 78) wd) J F cn Q := by
  have c7 : I 1 7 = nI f := h.2.1.2.2.1.trans h2
  refine z_WP_gos [66] 1000 fun K C hK hC => ?_
  conv => whnf
  refine ⟨fun g => ?_, fun g => ?_⟩
  · conv => whnf
    refine h0 fun N q' z => absurd g (Int32.not_lt.mpr ?_)
    rw [z.1]; exact nI_le (a := 1) z.2.1 (by have := z.2.2.1; omega)
  conv => whnf
  refine ⟨fun g2 => ?_, fun g2 => ?_⟩
  · conv => whnf
    refine h0 fun N q' z => absurd g2 (Int32.not_lt.mpr ?_)
    rw [z.1]; exact nI_le (b := 20) z.2.2.1 (by decide)
  have a : nI 1 ≤ v := Int32.not_lt.mp g
  obtain ⟨N, hN, eN⟩ := isIn_nat (b := 20) (by decide) (Int32.le_trans (by decide) a) (Int32.not_lt.mp g2)
  subst eN
  have hN1 : 1 ≤ N := by
    apply Nat.le_of_not_lt; intro z
    exact nI_ge (a := N) (b := 1) z (by decide) a
  conv => whnf
  refine ⟨fun g3 => ?_, fun g3 => ?_⟩
  · conv => whnf
    refine h0 fun N q' z => absurd g3 (Int32.not_lt.mpr ?_)
    rw [z.2.2.2.2.1]; exact nI_pos' (by have := z.2.2.2.2.2; omega)
  conv => whnf
  refine ⟨fun g4 => ?_, fun g4 => ?_⟩
  · conv => whnf
    refine h0 fun N q' z => absurd g4 (Int32.not_lt.mpr ?_)
    rw [z.2.2.2.2.1]; exact nI_le (b := 3) z.2.2.2.2.2 (by decide)
  obtain ⟨q', hq, eq⟩ := isIn_nat (b := 3) (by decide) (Int32.not_lt.mp g3) (Int32.not_lt.mp g4)
  subst eq
  conv => whnf
  rw [c7]
  refine ⟨fun g5 => ?_, fun g5 => ?_⟩
  rotate_left
  · conv => whnf
    have g5' : ¬ nI (f + N) ≤ nI 9999 := by rw [← nI_add]; exact g5
    refine h0 fun M q2 z => g5' ?_
    have : N = M := nI_inj9 (by omega) (by have := z.2.2.1; omega) z.1
    subst this
    exact nI_le (b := 9999) z.2.2.2.1 (by decide)
  have g5' : nI (f + N) ≤ nI 9999 := by rw [← nI_add]; exact g5
  have hle : f + N ≤ 9999 := by
    apply Nat.le_of_not_lt; intro z
    exact nI_ge (a := 9999) (b := f + N) z (by omega) g5'
  have hwq : wq f (nI N) (nI q') N q' := ⟨rfl, hN1, hN, hle, rfl, hq⟩
  conv => whnf
  refine hC _ _ _ _ _ _ _ _ _ _ (fun _ _ _ _ _ _ q => q) (cy_world_78_1 (fun I2 F2 a1 a2 a3 a4 => ?_))
  conv => whnf
  refine hK _ _ _ _ _ _ _ _ _ _ (en_spare_78 (s := s) (I0 := I) (F0 := F) (f := f) (ln := ln) (n := n) (k := k) ⟨fun q j hq => ?_, fun j hj => a3 j hj⟩ (hR_I h ⟨fun q j hq => ?_, fun j hj => by rw [a4 8 (by decide)]⟩ (fun j hj => by rw [a2 14 (by omega), a2 16 (by omega), a2 27 (by omega)]; exact ⟨rfl, rfl, rfl⟩)) h6 h2 hle hN hq hn hln (fun I3 F3 b0 b1 b2 b3 b4 => ?_))
  · rw [a1 q j hq, Nat.zero_add]
  · have : q < 50 := by unfold cel at hq; omega
    rw [a2 q (by omega)]
  · refine h1 N q' I3 F3 hwq b0 b1 (fun c hc => ?_) (fun j hj => ?_) (fun c x y => ?_)
    · rw [b2 c (by omega), a2 c (by omega)]
    · rw [← a2 14 (by omega), ← a2 16 (by omega), ← a2 27 (by omega)]; exact b3 j hj
    · rw [b4 c x, a4 c y]
theorem cb_wouldN_78 {ln f : Nat} {v q : Int32} (h : hR I F s.2.1 n k ln) (h6 : v01 (s.1 6)) (h2 : s.2.1 2 = nI f) (hf : f ≤ 9999) (hn : n + k + 300000 < 2 ^ 29) (hln : ln + 2000 < 2 ^ 30)
    (h1 : ∀ N q' I' J' F', wq f v q N q' → v01 ((m_fms N (m_zero s)).1 6) → sameW I' I F' F → (∀ c, c < 1 ∨ (31 < c ∧ c < 78) → I' c = I c) → (∀ j, j < 2 → I' 14 j = I 14 j ∧ I' 16 j = I 16 j ∧ I' 27 j = I 27 j) → (∀ c, c ≠ 8 → c < 78 → F' c = F c) → Q (some (.int (q_would (m_fms N (m_zero s)) q'))) I' (z_R0 kp (.ref 78) wd) J' F' 106)
    (h0 : (∀ N q', ¬ wq f v q N q') → Q (some (.int (-1))) I (z_R0 kp .null wd) J F 78) : z_M (z_X0 L xs) z_P0 (d + 8) m_Bus_would [.ref 0, .int v, .int q] I (z_R0 kp .null wd) J F 78 Q := by
  have c7 : I 1 7 = nI f := h.2.1.2.2.1.trans h2
  refine z_WP_gos [66] 1000 fun K C hK hC => ?_
  conv => whnf
  refine ⟨fun g => ?_, fun g => ?_⟩
  · conv => whnf
    refine h0 fun N q' z => absurd g (Int32.not_lt.mpr ?_)
    rw [z.1]; exact nI_le (a := 1) z.2.1 (by have := z.2.2.1; omega)
  conv => whnf
  refine ⟨fun g2 => ?_, fun g2 => ?_⟩
  · conv => whnf
    refine h0 fun N q' z => absurd g2 (Int32.not_lt.mpr ?_)
    rw [z.1]; exact nI_le (b := 20) z.2.2.1 (by decide)
  have a : nI 1 ≤ v := Int32.not_lt.mp g
  obtain ⟨N, hN, eN⟩ := isIn_nat (b := 20) (by decide) (Int32.le_trans (by decide) a) (Int32.not_lt.mp g2)
  subst eN
  have hN1 : 1 ≤ N := by
    apply Nat.le_of_not_lt; intro z
    exact nI_ge (a := N) (b := 1) z (by decide) a
  conv => whnf
  refine ⟨fun g3 => ?_, fun g3 => ?_⟩
  · conv => whnf
    refine h0 fun N q' z => absurd g3 (Int32.not_lt.mpr ?_)
    rw [z.2.2.2.2.1]; exact nI_pos' (by have := z.2.2.2.2.2; omega)
  conv => whnf
  refine ⟨fun g4 => ?_, fun g4 => ?_⟩
  · conv => whnf
    refine h0 fun N q' z => absurd g4 (Int32.not_lt.mpr ?_)
    rw [z.2.2.2.2.1]; exact nI_le (b := 3) z.2.2.2.2.2 (by decide)
  obtain ⟨q', hq, eq⟩ := isIn_nat (b := 3) (by decide) (Int32.not_lt.mp g3) (Int32.not_lt.mp g4)
  subst eq
  conv => whnf
  rw [c7]
  refine ⟨fun g5 => ?_, fun g5 => ?_⟩
  rotate_left
  · conv => whnf
    have g5' : ¬ nI (f + N) ≤ nI 9999 := by rw [← nI_add]; exact g5
    refine h0 fun M q2 z => g5' ?_
    have : N = M := nI_inj9 (by omega) (by have := z.2.2.1; omega) z.1
    subst this
    exact nI_le (b := 9999) z.2.2.2.1 (by decide)
  have g5' : nI (f + N) ≤ nI 9999 := by rw [← nI_add]; exact g5
  have hle : f + N ≤ 9999 := by
    apply Nat.le_of_not_lt; intro z
    exact nI_ge (a := 9999) (b := f + N) z (by omega) g5'
  have hwq : wq f (nI N) (nI q') N q' := ⟨rfl, hN1, hN, hle, rfl, hq⟩
  conv => whnf
  refine And.intro (by simp only [X_sh, X_bd]; decide) ?_
  conv => whnf
  refine And.intro (by simp only [X_sh, X_bd]; decide) ?_
  refine hC _ _ _ _ _ _ _ _ _ _ (fun _ _ _ _ _ _ q => q) (ci_at_78 (fun I1 J1 F1 i1' i2 => ?_))
  conv => whnf
  have i1 : ∀ c, c < 78 → I1 c = I c := fun c hc => by rw [i1' c hc, z_row_n _ _ (by omega)]
  rw [z_R0_sp]
  refine hC _ _ _ _ _ _ _ _ _ _ (fun _ _ _ _ _ _ q => q) (cy_world_78_1 (fun I2 F2 a1 a2 a3 a4 => ?_))
  conv => whnf
  refine hK _ _ _ _ _ _ _ _ _ _ (en_spare_78 (s := s) (I0 := I) (F0 := F) (f := f) (ln := ln) (n := n) (k := k) ⟨fun q j hq => ?_, fun j hj => ?_⟩ (hR_I h ⟨fun q j hq => ?_, fun j hj => by rw [a4 8 (by decide), i2 8 (by decide)]⟩ (fun j hj => by rw [a2 14 (by omega), a2 16 (by omega), a2 27 (by omega), i1 14 (by omega), i1 16 (by omega), i1 27 (by omega)]; exact ⟨rfl, rfl, rfl⟩)) h6 h2 hle hN hq hn hln (fun I3 F3 b0 b1 b2 b3 b4 => ?_))
  · have : q < 78 := by unfold cel at hq; omega
    rw [a1 q j hq, Nat.zero_add, i1 q this]
  · rw [a3 j hj, i2 8 (by decide)]
  · have : q < 50 := by unfold cel at hq; omega
    rw [a2 q (by omega), i1 q (by omega)]
  · refine h1 N q' I3 J1 F3 hwq b0 b1 (fun c hc => ?_) (fun j hj => ?_) (fun c x y => ?_)
    · rw [b2 c (by omega), a2 c (by omega), i1 c (by omega)]
    · rw [← i1 14 (by omega), ← i1 16 (by omega), ← i1 27 (by omega), ← a2 14 (by omega), ← a2 16 (by omega), ← a2 27 (by omega)]; exact b3 j hj
    · rw [b4 c x, a4 c (by omega), i2 c y]
end
