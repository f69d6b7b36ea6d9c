/-! the class's bits of a fraction -/
theorem f_cmpz {x : UInt32} {s : Bool} {c : Nat} {q : Int} (h : fv x = .fin s c q) (hc : 0 < c) : FP.fcmp x FP.fconst0 = some (if s then .lt else .gt) := by
  have h0 : fv FP.fconst0 = .fin false 0 (-149) := by decide +kernel
  rw [f_cmp h h0]
  have hp : 0 < FP.Core.inUnits c q (min q (-149)) := Nat.mul_pos hc (Nat.two_pow_pos _)
  have hz : FP.Core.inUnits 0 (-149) (min q (-149)) = 0 := Nat.zero_mul _
  rw [hz]
  generalize FP.Core.inUnits c q (min q (-149)) = m at hp
  cases s
  · show some (compare (m : Int) (0 : Int)) = some .gt
    rw [Int.compare_eq_gt.mpr (by omega)]
  · show some (compare (-(m : Int)) (0 : Int)) = some .lt
    rw [Int.compare_eq_lt.mpr (by omega)]
theorem f_big {v : UInt32} {c : Nat} (h : fv v = .fin false c (-23)) (hc : 8388608 ≤ c) : fv (FP.fmul v (UInt32.ofNat 1258291200)) = .fin false c 0 := by
  have hf := f_fits h
  have hk : fv (UInt32.ofNat 1258291200) = .fin false 8388608 0 := by decide +kernel
  obtain ⟨h1, h2, h3, h4⟩ := hf
  refine f_mul_v _ _ h hk ?_ ⟨h1, by omega, by omega, Or.inr hc⟩
  refine f_exact ⟨hc, h1⟩ ⟨by omega, by omega⟩ ?_
  rw [show (-23 + 0 - 0 : Int).toNat = 0 by decide, show (0 - (-23 + 0) : Int).toNat = 23 by decide]
  omega
theorem f_toi {v : UInt32} {c : Nat} (h : fv v = .fin false c 0) (hc : c < 16777216) : FP.f2i v = nI c := by
  have e : FP.f2i v = Int32.ofInt (FP.Core.toInt (-2 ^ 31) (2 ^ 31 - 1) (fv v)) := rfl
  rw [e, h]
  have : FP.Core.toInt (-2 ^ 31) (2 ^ 31 - 1) (.fin false c 0) = (c : Int) := by
    show max (-2 ^ 31 : Int) (min (2 ^ 31 - 1) (FP.Core.truncate false c 0)) = c
    have : FP.Core.truncate false c 0 = (c : Int) := by
      show FP.Core.signed false (c * 2 ^ (0 : Int).toNat / 2 ^ (-(0 : Int)).toNat) = (c : Int)
      simp [FP.Core.signed]
    rw [this]
    omega
  rw [this]
  rfl
theorem bits_eq {x : UInt32} {s : Bool} {c E : Nat} {q : Int} (h : fv x = .fin s c q) (hc : 8388608 ≤ c) (hE : (E : Int) = q + 150) : (nI E <<< (nI 23 &&& nI 31) ||| nI c &&& nI 8388607) = nI (E * 8388608 + (c - 8388608)) ∧ E ≤ 254 ∧ 1 ≤ E ∧ x.toNat = s.toNat * 2147483648 + (E * 8388608 + (c - 8388608)) := by
  have hf := f_fits h
  obtain ⟨h1, h2, h3, h4⟩ := hf
  have hE1 : E ≤ 254 := by omega
  have hE2 : 1 ≤ E := by omega
  refine ⟨?_, hE1, hE2, ?_⟩
  · have a : nI E <<< (nI 23 &&& nI 31) = nI (E * 2 ^ 23) := pk_shlN _ 23 (by decide) (by omega)
    have b : nI c &&& nI 8388607 = nI (c % 2 ^ 23) := pk_andN (by omega) 23 (by decide)
    have e : c % 2 ^ 23 = c - 8388608 := by omega
    rw [a, b, e]
    apply Int32.toBitVec_inj.mp
    rw [Int32.toBitVec_or]
    apply BitVec.eq_of_toNat_eq
    rw [BitVec.toNat_or, pk_tn (by omega), pk_tn (by omega), pk_tn (by omega)]
    have := Nat.two_pow_add_eq_or_of_lt (i := 23) (b := c - 8388608) (by omega) E
    rw [Nat.mul_comm] at this
    rw [← this]
  · rw [f_inj h]
    unfold f_enc
    rw [if_neg (by omega)]
    have : (q + 149).toNat + 1 = E := by omega
    rw [this]
    omega
section
variable {L : Nat} {xs : Nat → Int32} {d : Nat} {I : z_I} {R : z_R} {J : z_J} {F : z_F} {cn : Nat} {Q : z_Q}
theorem lp_bits2 {x : UInt32} {c : Nat} {q : Int} (hc : 8388608 ≤ c) (hq : -149 ≤ q) (hQ : ∀ (v : UInt32) (E k : Nat), fv v = .fin false c (-23) → (E : Int) = q + 150 → z_WP (z_X0 L xs) z_P0 d m_Fraction_bitsOf 80 [some (.float x), some (.float v), some (.int (nI E)), some (.int (nI k))] [] I R J F cn 0 0 Q) :
    ∀ (j : Nat) (v : UInt32) (E k : Nat) (q1 : Int), k + j = 126 → fv v = .fin false c q1 → q1 ≤ -23 → (E : Int) + q1 = q + 127 → q1 + j ≥ -23 → z_WP (z_X0 L xs) z_P0 d m_Fraction_bitsOf 55 [some (.float x), some (.float v), some (.int (nI E)), some (.int (nI k))] [] I R J F cn 0 0 Q := by
  have h1 : fv FP.fconst1 = .fin false 8388608 (-23) := by decide +kernel
  intro j
  induction j with
  | zero =>
    intro v E k q1 hk hv hq1 hE hj
    obtain rfl : k = 126 := by omega
    have : q1 = -23 := by omega
    subst this
    refine z_WP_gos [55, 80] 1000 fun K C hK hC => ?_
    conv => whnf
    refine ⟨fun _ => ?_, fun h => absurd (by decide) h⟩
    conv => whnf
    refine hK _ _ _ _ _ _ _ _ _ _ (hQ v E 126 hv (by omega))
  | succ j ih =>
    intro v E k q1 hk hv hq1 hE hj
    have cc := f_cmp2 hv h1 hc .g
    refine z_WP_gos [55, 80] 1000 fun K C hK hC => ?_
    conv => whnf
    refine ⟨fun h => absurd h (nI_ge (a := k) (b := 126) (by omega) (by decide)), fun _ => ?_⟩
    conv => whnf
    refine ⟨fun g => ?_, fun g => ?_⟩
    · have : q1 = -23 := by have := cc.2.mp g; omega
      subst this
      conv => whnf
      refine hK _ _ _ _ _ _ _ _ _ _ (hQ v E k hv (by omega))
    · have hlt : q1 < -23 := by
        exact Classical.byContradiction fun z => g (cc.2.mpr (by omega))
      have h2 := f_two hv hc (by omega)
      conv => whnf
      refine ⟨f_nn h2, ?_⟩
      conv => whnf
      obtain ⟨E', rfl⟩ : ∃ E', E = E' + 1 := ⟨E - 1, by omega⟩
      rw [show nI k + 1 = nI (k + 1) from nI_1 k, show nI (E' + 1) + -1 = nI E' from pk_m1 E']
      refine hK _ _ _ _ _ _ _ _ _ _ (ih _ E' (k + 1) (q1 + 1) (by omega) h2 (by omega) (by omega) (by omega))
theorem lp_bits1 {x : UInt32} {c : Nat} {q : Int} (hc : 8388608 ≤ c) (hq : -149 ≤ q) (hQ : ∀ (v : UInt32) (E k : Nat) (q1 : Int), fv v = .fin false c q1 → q1 ≤ -23 → -149 ≤ q1 → (E : Int) + q1 = q + 127 → z_WP (z_X0 L xs) z_P0 d m_Fraction_bitsOf 53 [some (.float x), some (.float v), some (.int (nI E)), some (.int (nI k))] [] I R J F cn 0 0 Q) :
    ∀ (j : Nat) (v : UInt32) (E k : Nat) (q1 : Int), k + j = 128 → fv v = .fin false c q1 → -149 ≤ q1 → q1 - j ≤ -23 → (E : Int) + q1 = q + 127 → z_WP (z_X0 L xs) z_P0 d m_Fraction_bitsOf 26 [some (.float x), some (.float v), some (.int (nI E)), some (.int (nI k))] [] I R J F cn 0 0 Q := by
  have h1 : fv FP.fconst2 = .fin false 8388608 (-22) := by decide +kernel
  intro j
  induction j with
  | zero =>
    intro v E k q1 hk hv hq1 hj hE
    obtain rfl : k = 128 := by omega
    refine z_WP_gos [26, 53] 1000 fun K C hK hC => ?_
    conv => whnf
    refine ⟨fun _ => ?_, fun h => absurd (by decide) h⟩
    conv => whnf
    refine hK _ _ _ _ _ _ _ _ _ _ (hQ v E 128 q1 hv (by omega) hq1 hE)
  | succ j ih =>
    intro v E k q1 hk hv hq1 hj hE
    have cc := f_cmp2 hv h1 hc .l
    refine z_WP_gos [26, 53] 1000 fun K C hK hC => ?_
    conv => whnf
    refine ⟨fun h => absurd h (nI_ge (a := k) (b := 128) (by omega) (by decide)), fun _ => ?_⟩
    conv => whnf
    refine ⟨fun g => ?_, fun g => ?_⟩
    · have hlt : q1 ≤ -23 := by have := cc.1.mp g; omega
      conv => whnf
      refine hK _ _ _ _ _ _ _ _ _ _ (hQ v E k q1 hv hlt hq1 hE)
    · have hge : -22 ≤ q1 := by
        exact Classical.byContradiction fun z => g (cc.1.mpr (by omega))
      have h2 := f_half hv hc (by omega)
      conv => whnf
      refine ⟨f_nn h2, ?_⟩
      conv => whnf
      rw [show nI k + 1 = nI (k + 1) from nI_1 k, show nI E + 1 = nI (E + 1) from nI_1 E]
      refine hK _ _ _ _ _ _ _ _ _ _ (ih _ (E + 1) (k + 1) (q1 - 1) (by omega) h2 (by omega) (by omega) (by omega))
/-- a fraction whose bits can be had by arithmetic -/
def f_nm (x : UInt32) : Prop := ∃ s c q, fv x = .fin s c q ∧ ((c = 0 ∧ s = false) ∨ 8388608 ≤ c)
theorem cf_bitsOf {x : UInt32} (h : f_nm x) (hQ : Q (some (.int x.toInt32)) I R J F cn) : z_M (z_X0 L xs) z_P0 d m_Fraction_bitsOf [.float x] I R J F cn Q := by
  obtain ⟨s, c, q, hx, hz⟩ := h
  have hf := f_fits hx
  rcases hz with ⟨hz, hs⟩ | hc
  · subst hz hs
    have e0 : x = FP.fconst0 := by
      apply UInt32.toNat_inj.mp
      rw [f_inj hx]
      unfold f_enc
      rw [if_pos (by decide)]
      rfl
    subst e0
    refine z_WP_gos [] 1000 fun K C hK hC => ?_
    conv => whnf
    refine ⟨fun h => absurd (by decide +kernel) h, fun _ => ?_⟩
    conv => whnf
    exact hQ
  · have cz := f_cmpz hx (by omega)
    have hne : ∀ op, ¬ cmpValue (FP.fcmp x FP.fconst0) op = 0 := fun op => by rw [cz]; cases s <;> cases op <;> decide
    have fin : ∀ (v : UInt32) (E k : Nat), fv v = .fin false c (-23) → (E : Int) = q + 150 → z_WP (z_X0 L xs) z_P0 d m_Fraction_bitsOf 80 [some (.float x), some (.float v), some (.int (nI E)), some (.int (nI k))] [] I R J F cn 0 0 Q := by
      intro v E k hv hE
      obtain ⟨b1, b2, b3, b4⟩ := bits_eq hx hc hE
      have hb := f_big hv hc
      have hlt : c < 16777216 := hf.1
      have ht := f_toi hb hf.1
      refine z_WP_gos [] 1000 fun K C hK hC => ?_
      conv => whnf
      refine ⟨f_nn hb, ?_⟩
      conv => whnf
      simp only [z_lit]
      rw [ht, b1]
      refine ⟨fun g => ?_, fun g => ?_⟩
      · have hs : s = false := by
          cases s
          · rfl
          · rw [cz] at g; exact absurd g (by decide)
        subst hs
        conv => whnf
        refine z_Qi hQ ?_ rfl
        apply Int32.toBitVec_inj.mp
        apply BitVec.eq_of_toNat_eq
        rw [pk_tn (by omega)]
        show _ = x.toNat
        rw [b4]; simp
      · have hs : s = true := by
          cases s
          · rw [cz] at g; exact absurd (by decide) g
          · rfl
        subst hs
        conv => whnf
        refine z_Qi hQ ?_ rfl
        simp only [z_lit]
        apply Int32.toBitVec_inj.mp
        rw [Int32.toBitVec_or]
        apply BitVec.eq_of_toNat_eq
        rw [BitVec.toNat_or, pk_tn (by omega)]
        show _ = x.toNat
        rw [b4]
        have h31 : ∀ m : Nat, m < 2 ^ 31 → m ||| 2147483648 = 2147483648 + m := fun m hm => by
          have := Nat.two_pow_add_eq_or_of_lt (i := 31) (b := m) hm 1
          rw [Nat.or_comm] at this
          exact this.symm.trans rfl
        have := h31 (E * 8388608 + (c - 8388608)) (by omega)
        exact this.trans (by simp)
    have lp : ∀ v, fv v = .fin false c q → z_WP (z_X0 L xs) z_P0 d m_Fraction_bitsOf 26 [some (.float x), some (.float v), some (.int (nI 127)), some (.int (nI 0))] [] I R J F cn 0 0 Q := by
      intro v hv
      refine lp_bits1 hc hf.2.1 (fun v' E k q1 a b c' e => ?_) 128 v 127 0 q rfl hv hf.2.1 (by have := hf.2.2.1; omega) (by omega)
      refine z_WP_gos [55] 1000 fun K C hK hC => ?_
      conv => whnf
      refine hK _ _ _ _ _ _ _ _ _ _ (lp_bits2 hc hf.2.1 fin 126 v' E 0 q1 rfl a b e (by omega))
    refine z_WP_gos [26] 1000 fun K C hK hC => ?_
    conv => whnf
    refine ⟨fun _ => ?_, fun h => absurd h (hne _)⟩
    conv => whnf
    refine ⟨fun g => ?_, fun g => ?_⟩
    · have hs : s = false := by
        cases s
        · rfl
        · rw [cz] at g; exact absurd g (by decide)
      subst hs
      conv => whnf
      refine hK _ _ _ _ _ _ _ _ _ _ (lp x hx)
    · have hs : s = true := by
        cases s
        · rw [cz] at g; exact absurd (by decide) g
        · rfl
      subst hs
      conv => whnf
      refine hK _ _ _ _ _ _ _ _ _ _ (lp _ (f_neg hx))
end
