/-! what is smoothed stays a number -/
def f_ok (v : Int32) : Prop := ∃ s c q, fv v.toUInt32 = .fin s c q ∧ f_u c q ≤ 2 ^ 173 ∧ ((c = 0 ∧ s = false) ∨ 8388608 ≤ c)
theorem f_expn (b : Int32) : s_exp b = nI (b.toUInt32.toNat / 8388608 % 256) := by
  have h : ((nI 23).toUInt32 &&& Int32.toUInt32 (nI 31)) = 23 := by decide
  unfold s_exp
  rw [h]
  apply Int32.toBitVec_inj.mp
  apply BitVec.eq_of_toNat_eq
  rw [Int32.toBitVec_and, BitVec.toNat_and]
  have e1 : (nI 255).toBitVec.toNat = 2 ^ 8 - 1 := by decide
  have e2 : (b.toUInt32 >>> 23).toInt32.toBitVec.toNat = b.toUInt32.toNat >>> 23 := by
    show (b.toUInt32 >>> 23).toNat = _
    rw [UInt32.toNat_shiftRight]; rfl
  rw [e1, e2, Nat.and_two_pow_sub_one_eq_mod, Nat.shiftRight_eq_div_pow]
  have hlt : b.toUInt32.toNat / 8388608 % 256 < 256 := Nat.mod_lt _ (by decide)
  have e3 : (nI (b.toUInt32.toNat / 8388608 % 256)).toBitVec.toNat = b.toUInt32.toNat / 8388608 % 256 := by
    show (BitVec.ofNat 32 _).toNat = _
    rw [BitVec.toNat_ofNat]
    omega
  rw [e3]
theorem f_tame {b : Int32} (h : s_tame b = true) : ∃ s c q, fv b.toUInt32 = .fin s c q ∧ f_u c q ≤ 2 ^ 172 := by
  unfold s_tame at h
  rw [f_expn] at h
  have hlt : b.toUInt32.toNat / 8388608 % 256 < 256 := Nat.mod_lt _ (by decide)
  simp only [Bool.or_eq_true, Bool.and_eq_true, decide_eq_true_eq] at h
  rcases h with h | ⟨h1, h2⟩
  · subst h
    exact ⟨false, 0, -149, by decide +kernel, by unfold f_u; rw [Nat.zero_mul]; exact Nat.zero_le _⟩
  · have a : 64 ≤ b.toUInt32.toNat / 8388608 % 256 := by
      apply Nat.le_of_not_lt; intro z
      exact nI_ge (a := b.toUInt32.toNat / 8388608 % 256) (b := 64) z (by omega) h1
    have c : b.toUInt32.toNat / 8388608 % 256 ≤ 149 := by
      apply Nat.le_of_not_lt; intro z
      exact nI_ge (a := 149) (b := b.toUInt32.toNat / 8388608 % 256) z (by omega) h2
    refine ⟨_, _, _, by unfold fv; rw [f_dec, if_neg (by omega), if_neg (by omega)], ?_⟩
    have hT : b.toUInt32.toNat % 8388608 < 8388608 := Nat.mod_lt _ (by decide)
    unfold f_u
    have e1 : 8388608 + b.toUInt32.toNat % 8388608 ≤ 2 ^ 24 := by have : (2 : Nat) ^ 24 = 16777216 := rfl; omega
    refine Nat.le_trans (Nat.mul_le_mul e1 (Nat.pow_le_pow_right (by decide) (show _ ≤ 148 by omega))) ?_
    decide
theorem f_sgn_le {s : Bool} {n k : Nat} (h : n ≤ k) : (FP.Core.signed s n).natAbs ≤ k ∧ -(k : Int) ≤ FP.Core.signed s n ∧ FP.Core.signed s n ≤ k := by
  unfold FP.Core.signed
  cases s
  · simp only [Bool.false_eq_true, if_false]; omega
  · simp only [if_true]; omega
theorem f_qm {c : Nat} {q : Int} (h : f_u c q ≤ 2 ^ 174) (hf : f_fit c q) {s : Bool} {x : UInt32} (hx : fv x = .fin s c q) :
    ∃ c' q', fv (FP.fmul x (UInt32.ofNat 1048576000)) = .fin s c' q' ∧ f_u c' q' ≤ 2 ^ 172 ∧ f_fit c' q' := by
  have hc : fv (UInt32.ofNat 1048576000) = .fin false 8388608 (-25) := by decide +kernel
  have hs : (s != false) = s := by cases s <;> rfl
  obtain ⟨g1, g2, g3, g4⟩ := hf
  by_cases hz : c = 0
  · subst hz
    refine ⟨0, -149, f_mul_v _ _ hx hc ?_ ⟨by decide, by decide, by decide, Or.inl rfl⟩, by unfold f_u; rw [Nat.zero_mul]; exact Nat.zero_le _, ⟨by decide, by decide, by decide, Or.inl rfl⟩⟩
    rw [hs, Nat.zero_mul]
    unfold FP.Core.roundRatio; rw [if_pos rfl]; rfl
  · have hcp : 0 < c := Nat.pos_of_ne_zero hz
    unfold f_u at h
    obtain ⟨h1, h2⟩ := f_le_of hcp h
    have hA : 0 < c * 8388608 := by omega
    have h3 : c * 8388608 ≤ 2 ^ ((23 : Int) - (q + (-25))).toNat := by
      have := Nat.mul_le_mul_right (2 ^ 23) h2
      rw [f_p2] at this
      have e : (8388608 : Nat) = 2 ^ 23 := rfl
      rw [e]
      refine Nat.le_trans this (Nat.pow_le_pow_right (by decide) (by omega))
    obtain ⟨c', q', r1, r2, r3, r4, r5⟩ := f_rnd (s := s) (A := c * 8388608) (e := q + (-25)) (m := 23) hA (by omega) h3 (by omega) (by omega)
    refine ⟨c', q', f_mul_v _ _ hx hc (by rw [hs]; exact r1) r2, ?_, r2⟩
    unfold f_u
    have := Nat.mul_le_mul_right (2 ^ (q' + 149).toNat) r4
    rw [f_p2] at this
    obtain ⟨k1, k2, k3, k4⟩ := r2
    rw [show ((23 : Int) - q').toNat + (q' + 149).toNat = 172 by omega] at this
    exact this
theorem f_cut_or (v : UInt32) : (s_cut v = v ∧ (cmpValue (FP.fcmp v (UInt32.ofNat 3129152111)) .l ≤ nI 0 ∨ nI 0 ≤ cmpValue (FP.fcmp v (UInt32.ofNat 981668463)) .g)) ∨ s_cut v = FP.fconst0 := by
  unfold s_cut
  split
  · rename_i h; exact Or.inl ⟨rfl, h⟩
  · exact Or.inr rfl
theorem f_small {x : UInt32} {s : Bool} {c : Nat} (h : fv x = .fin s c (-149)) (hc : c < 8388608) : FP.fcmp x (UInt32.ofNat 981668463) = some .lt ∧ FP.fcmp x (UInt32.ofNat 3129152111) = some .gt := by
  have k1 : fv (UInt32.ofNat 981668463) = .fin false 8589935 (-33) := by decide +kernel
  have k2 : fv (UInt32.ofNat 3129152111) = .fin true 8589935 (-33) := by decide +kernel
  have m0 : min (-149 : Int) (-33) = -149 := by decide
  have u1 : FP.Core.inUnits c (-149) (-149) = c := by unfold FP.Core.inUnits; rw [show ((-149 : Int) - -149).toNat = 0 by decide]; omega
  have u2 : 8388608 ≤ FP.Core.inUnits 8589935 (-33) (-149) := by decide +kernel
  generalize FP.Core.inUnits 8589935 (-33) (-149) = big at u2
  refine ⟨?_, ?_⟩
  · have e : FP.fcmp x (UInt32.ofNat 981668463) = FP.Core.order (fv x) (fv (UInt32.ofNat 981668463)) := rfl
    rw [e, h, k1]
    show some (compare (FP.Core.signed s (FP.Core.inUnits c (-149) (min (-149) (-33)))) (FP.Core.signed false (FP.Core.inUnits 8589935 (-33) (min (-149) (-33))))) = _
    rw [m0, u1]
    congr 1
    rw [Int.compare_eq_lt]
    have : (8388608 : Int) ≤ FP.Core.signed false (FP.Core.inUnits 8589935 (-33) (-149)) := by decide +kernel
    unfold FP.Core.signed at this ⊢
    cases s
    · simp only [Bool.false_eq_true, if_false] at this ⊢; omega
    · simp only [Bool.false_eq_true, if_false, if_true] at this ⊢; omega
  · have e : FP.fcmp x (UInt32.ofNat 3129152111) = FP.Core.order (fv x) (fv (UInt32.ofNat 3129152111)) := rfl
    rw [e, h, k2]
    show some (compare (FP.Core.signed s (FP.Core.inUnits c (-149) (min (-149) (-33)))) (FP.Core.signed true (FP.Core.inUnits 8589935 (-33) (min (-149) (-33))))) = _
    rw [m0, u1]
    congr 1
    rw [Int.compare_eq_gt]
    have : FP.Core.signed true (FP.Core.inUnits 8589935 (-33) (-149)) ≤ (-8388608 : Int) := by decide +kernel
    unfold FP.Core.signed at this ⊢
    cases s
    · simp only [Bool.false_eq_true, if_false, if_true] at this ⊢; omega
    · simp only [if_true] at this ⊢; omega
theorem f_cmp0 {x : UInt32} {s : Bool} {c : Nat} {q : Int} (h : fv x = .fin s c q) : cmpValue (FP.fcmp x x) .l = nI 0 := by
  rw [f_cmp_self h]; rfl
theorem f_step {b v : Int32} (hb : s_tame b = true) (hv : f_ok v) : s_safe b v ∧ f_ok (s_cut (s_sum b.toUInt32 v.toUInt32)).toInt32 := by
  obtain ⟨s1, c1, q1, e1, u1⟩ := f_tame hb
  obtain ⟨s2, c2, q2, e2, u2, -⟩ := hv
  have ft1 := f_fits e1
  have ft2 := f_fits e2
  have p173 : (2 : Nat) ^ 173 = 2 * 2 ^ 172 := by decide
  have p174 : (2 : Nat) ^ 174 = 4 * 2 ^ 172 := by decide
  generalize hP : (2 : Nat) ^ 172 = P at p173 p174 u1
  -- the difference
  have l1 := f_sgn_le (s := s1) u1
  have l2 := f_sgn_le (s := !s2) (Nat.le_trans u2 (Nat.le_of_eq p173))
  have hneg : FP.Core.signed (!s2) (f_u c2 q2) = - FP.Core.signed s2 (f_u c2 q2) := by
    unfold FP.Core.signed
    cases s2
    · simp
    · simp
  obtain ⟨s3, c3, q3, r1, r2, r3, r4, r5, r6, r7⟩ := f_sumd (s := s1) (t := !s2) (c := c1) (d := c2) (q := q1) (r := q2) (k := 174) ft1.2.1 ft2.2.1 (by rw [p174]; omega) (by omega)
  have e3 : fv (FP.fsub b.toUInt32 v.toUInt32) = .fin s3 c3 q3 := f_sub_v _ _ (by rw [e1, e2]; exact r1) r2
  obtain ⟨c4, q4, e4, u4, ft4⟩ := f_qm r3 r2 e3
  rw [hP] at u4
  -- the sum
  have hZ : (FP.Core.signed s2 (f_u c2 q2) + FP.Core.signed s3 (f_u c4 q4)).natAbs ≤ 2 ^ 173 := by
    rw [p173]
    rw [hneg] at r4 r5
    have k1 := f_sgn_le (s := s1) u1
    have k2 := Nat.le_trans u2 (Nat.le_of_eq p173)
    cases s3 with
    | true =>
      have := r4 rfl
      have e : FP.Core.signed true (f_u c4 q4) = -(f_u c4 q4 : Int) := rfl
      rw [e]
      have k3 := f_sgn_le (s := s2) k2
      omega
    | false =>
      have := r5 rfl
      have e : FP.Core.signed false (f_u c4 q4) = (f_u c4 q4 : Int) := rfl
      rw [e]
      have k3 := f_sgn_le (s := s2) k2
      omega
  obtain ⟨s5, c5, q5, t1, t2, t3, t4, t5, t6, t7⟩ := f_sumd (s := s2) (t := s3) (c := c2) (d := c4) (q := q2) (r := q4) (k := 173) ft2.2.1 ft4.2.1 hZ (by omega)
  have e5 : fv (s_sum b.toUInt32 v.toUInt32) = .fin s5 c5 q5 := f_add_v _ _ (by rw [e2, e4]; exact t1) t2
  refine ⟨⟨f_sni e1, f_sni e2, f_nn e3, f_nn e4, f_nn e5, f_cmp0 e5⟩, ?_⟩
  rcases f_cut_or (s_sum b.toUInt32 v.toUInt32) with ⟨h, h'⟩ | h
  · rw [h]
    refine ⟨s5, c5, q5, e5, t3, Or.inr ?_⟩
    rcases Nat.lt_or_ge c5 8388608 with z | z
    · exfalso
      obtain ⟨-, -, -, y⟩ := f_fits e5
      have y' : q5 = -149 := by omega
      subst y'
      obtain ⟨b1, b2⟩ := f_small e5 z
      rw [b1, b2] at h'
      revert h'
      decide
    · exact z
  · rw [h]; exact ⟨false, 0, -149, by decide +kernel, by unfold f_u; rw [Nat.zero_mul]; exact Nat.zero_le _, Or.inl ⟨rfl, rfl⟩⟩
def m_fok (s : z_sg) : Prop := ∀ c, c < 48 → f_ok (s.2.1 (1536 + c))
theorem m_fok_fine {s : z_sg} (h : m_fok s) : m_fine s := fun c hc b hb => (f_step hb (h c hc)).1
theorem m_fok_of {s s' : z_sg} (h : m_fok s) (he : ∀ c, c < 48 → s'.2.1 (1536 + c) = s.2.1 (1536 + c)) : m_fok s' := fun c hc => by rw [he c hc]; exact h c hc
theorem m_keep_fok {s : z_sg} {c n : Nat} (hc : c < 48) (hn : n ≤ 8) (h : m_fok s) : m_fok (m_keep s c n) := by
  have e : m_fok (m_copy s (192 + 8 * c) (960 + 8 * c) n) := m_fok_of h fun k hk => m_copy_o (by omega)
  unfold m_keep
  simp only
  generalize m_copy s (192 + 8 * c) (960 + 8 * c) n = s1 at e ⊢
  split
  · unfold m_smooths
    cases ht : s_tame (s_bits s1.2.1 (960 + 8 * c))
    · exact e
    · intro k hk
      by_cases hkc : k = c
      · subst hkc
        show f_ok (upd s1.2.1 (1536 + k) _ (1536 + k))
        rw [pk_us]
        exact (f_step ht (e k hk)).2
      · show f_ok (upd s1.2.1 (1536 + c) _ (1536 + k))
        rw [pk_un (by omega)]
        exact e k hk
  · exact e
theorem m_gets_fok {s : z_sg} {bus t u n : Nat} (hb : bus < 2) (ht : t < 8) (hu : u < 6) (hn : n ≤ 8) (h : m_fok s) : m_fok (m_gets s bus t u n).1 := by
  have e : m_fok (m_lays (s.1, s.2.1, upd s.2.2 0 (s_cmd (nI t) (nI 1) (nI (u + 1)) (nI n))) bus (s.2.1 3) 1).1 := m_fok_of h fun k hk => m_lays_lo hb (by omega)
  unfold m_gets
  simp only
  generalize m_lays _ bus _ _ = r at e ⊢
  cases (s_hear _ t bus && _)
  · exact e
  · simp only [cond_true]
    have e3 : m_fok (m_tw (m_begins r.1 t (s_cmd (nI t) (nI 1) (nI (u + 1)) (nI n))) bus t u n).1 := m_fok_of e fun k hk => (m_tw_o2 hb ht (by omega)).trans (m_begins_o (by omega) (by omega) (by omega) (by omega))
    generalize m_tw _ bus t u n = q at e3 ⊢
    split
    · exact m_keep_fok (by omega) hn e3
    · exact e3
